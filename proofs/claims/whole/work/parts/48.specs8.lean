/-! numberOf, composition of the reference -/
def jnoF (n c i : Nat) : Nat → Nat → Nat → Nat → Option Nat
  | 0, _, _, _ => none
  | u + 1, k, g, a => if k < n ∧ c / 2 ^ (k - 1) % 2 = 0 then jnoF n c i u (k + 1) g a else if a = i then some (k - g) else jnoF n c i u (k + 1) k (a + 1)
def jno (n c i : Nat) : Option Nat := jnoF n c i n 1 0 0
def jnoI (o : Option Nat) : Int32 := match o with
  | none => -2
  | some v => nI v
theorem c_X12_numberOf {n c : Nat} (hn : n ≤ 6) (hc : c < 2 ^ 31) {i : Nat} (hi : i < 2 ^ 31) {xn xc xi : Int32} (en : xn = nI n) (ec : xc = nI c) (ei : xi = nI i) (h : List jC) : jCt jy_X12_numberOf [.int xn, .int xc, .int xi] h (fun r h' => r = some (.int (jnoI (jno n c i))) ∧ h' = h) := by
  generalize hΦ : (fun (r : Option Value) (h' : List jC) => r = some (.int (jnoI (jno n c i))) ∧ h' = h) = Φ
  refine jrun2 (js_X12_numberOf _) rfl rfl rfl (fun G hG hW hB => ?_)
  have loop : ∀ u k g a, n + 1 = k + u → 1 ≤ k → g < k → a < k → jno n c i = jnoF n c i u k g a → G 8 [some (.int xn), some (.int xc), some (.int xi), some (.int (nI g)), some (.int (nI a)), some (.int (nI k))] [] h 0 0 := by
    intro u
    induction u with
    | zero =>
      intro k g a hk hk1 hg ha hj
      refine hG [8] 300 _ _ _ _ _ _ ?_
      conv => whnf
      rw [en]
      refine ⟨fun qb => ?_, fun qb => ?_⟩ <;> rw [nI_ltI (by omega) (by omega)] at qb
      · conv => whnf
        rw [← hΦ, hj]
        exact ⟨rfl, rfl⟩
      · omega
    | succ u ih =>
      intro k g a hk hk1 hg ha hj
      rw [jnoF] at hj
      have tailc : ¬ (k < n ∧ c / 2 ^ (k - 1) % 2 = 0) → G 34 [some (.int xn), some (.int xc), some (.int xi), some (.int (nI g)), some (.int (nI a)), some (.int (nI k))] [] h 0 0 := by
        intro hq
        rw [if_neg hq] at hj
        refine hG [8] 300 _ _ _ _ _ _ ?_
        conv => whnf
        rw [ei]
        refine ⟨fun qb => ?_, fun qb => ?_⟩ <;> rw [nI_eq (by omega) (by omega)] at qb
        · rw [if_neg qb] at hj
          conv => whnf
          rw [← ei, nI_add, nI_add]
          exact ih (k + 1) k (a + 1) (by omega) (by omega) (by omega) (by omega) hj
        · rw [if_pos qb] at hj
          conv => whnf
          rw [← hΦ, hj, pk_sub (by omega)]
          exact ⟨rfl, rfl⟩
      refine hG [8, 34] 300 _ _ _ _ _ _ ?_
      conv => whnf
      rw [en]
      refine ⟨fun qb => ?_, fun qb => ?_⟩ <;> rw [nI_ltI (by omega) (by omega)] at qb
      · omega
      conv => whnf
      refine ⟨fun qb => ?_, fun qb => ?_⟩ <;> rw [nI_leI (by omega) (by omega)] at qb
      · rw [← en]
        exact tailc (fun q => by omega)
      · conv => whnf
        rw [ec, jI_m1 hk1, jI_bit hc (by omega)]
        refine ⟨fun p => ?_, fun p => ?_⟩ <;> rw [show nI 0 = nI 0 from rfl, nI_eq (by omega) (by omega)] at p
        · rw [← ec, ← en]
          exact tailc (fun q => p q.2)
        · rw [if_pos ⟨by omega, p⟩] at hj
          conv => whnf
          rw [nI_add, ← ec, ← en]
          exact ih (k + 1) g a (by omega) (by omega) (by omega) (by omega) hj
  refine hG [8] 300 _ _ _ _ _ _ ?_
  conv => whnf
  exact loop n 1 0 0 (by omega) (by omega) (by omega) (by omega) rfl
theorem j9 : (nI 9).toInt = 9 := by decide
theorem j4 : (nI 4).toInt = 4 := by decide
theorem jcmpl : ∀ n, n < 7 → ∀ c, c < 32 → c < jmany n → (nI (jmany n) - nI 1) &&& (nI c ^^^ (-1)) = nI (jmany n - 1 - c) := by decide +kernel
theorem jfinr : ∀ n, n < 7 → ∀ c, c < 32 → c < jmany n → ¬ n = 0 → nI 1 <<< ((nI n - nI 1 - nI (jpop c)) &&& 31) = nI (2 ^ (n - 1 - jpop c)) := by decide +kernel
abbrev isCmp (x y w : Int32) : Prop := (0 ≤ x.toInt ∧ x.toInt ≤ 6) ∧ (0 ≤ y.toInt ∧ y.toInt < jmany (tn x)) ∧ 0 ≤ w.toInt ∧ ¬ (4 ≤ w.toInt ∧ w.toInt ≤ 9)
def zcomp (x y w : Int32) : Value := if isCmp x y w then
    (if w = nI 0 then .int (nI (jlen (tn x) (tn y))) else if w = nI 1 then .int (nI (jtu (tn x) (tn y))) else if w = nI 2 then .int (nI (jmany (tn x) - 1 - tn y)) else if w = nI 3 then .int (if tn x = 0 then nI 1 else nI (2 ^ (tn x - 1 - jpop (tn y)))) else .int (jnoI (jno (tn x) (tn y) (tn w - 10))))
  else .int (-1)
theorem r_composition {h : List jC} (hh : 53 ≤ h.length) {s : Nat → Int32} {I : jIs} {L : jLss} {F : jFs} {z : zS} (hE : EncR s I L F z) (x y w : Int32) : jCt jy_X12_composition [.ref 20, .int x, .int y, .int w] (jR h s I L F) (zPost h (zcomp x y w) z) := by
  have hbad : ¬ isCmp x y w → zPost h (zcomp x y w) z (some (.int (-1))) (jR h s I L F) := by
    intro hn
    rw [zcomp, if_neg hn]
    exact ⟨rfl, s, I, L, F, rfl, hE⟩
  have hgood : ∀ v, isCmp x y w → zcomp x y w = v → zPost h (zcomp x y w) z (some v) (jR h s I L F) := by
    intro v _ hv
    rw [hv]
    exact ⟨rfl, s, I, L, F, rfl, hE⟩
  generalize hΦ : zPost h (zcomp x y w) z = Φ at *
  refine jrun2 (js_X12_composition _) rfl rfl rfl (fun G hG hW hB => ?_)
  refine hG [] 300 _ _ _ _ _ _ ?_
  conv => whnf
  refine jcall (c_X12_in x _ _ _) ?_
  rintro r h' ⟨rfl, rfl⟩
  conv => whnf
  refine ⟨fun c1 => ?_, fun c1 => ?_⟩ <;> rw [jbi_0, j0, j6] at c1
  · conv => whnf
    exact hbad (fun q => c1 q.1)
  have c1 := Decidable.not_not.mp c1
  have hx := tn_eq c1.1
  have hx6 : tn x ≤ 6 := by have := tn_lt (n := 7) c1.1 (by omega); omega
  have hm := jmany_le hx6
  have em := c_X12_many (tn x) hx6
  rw [← hx] at em
  conv => whnf
  refine jcall (em _) ?_
  rintro r h' ⟨rfl, rfl⟩
  conv => whnf
  refine jcall (c_X12_in y _ _ _) ?_
  rintro r h' ⟨rfl, rfl⟩
  conv => whnf
  refine ⟨fun c2 => ?_, fun c2 => ?_⟩ <;> rw [jbi_0, j0, jle1 (by omega)] at c2
  · conv => whnf
    exact hbad (fun q => c2 q.2.1)
  have c2 := Decidable.not_not.mp c2
  have hy := tn_eq c2.1
  have hyl : tn y < jmany (tn x) := tn_lt c2.1 c2.2
  conv => whnf
  refine ⟨fun c3 => ?_, fun c3 => ?_⟩ <;> rw [jlt, j0] at c3
  · conv => whnf
    exact hbad (fun q => by have := q.2.2.1; omega)
  conv => whnf
  refine jcall (c_X12_in w _ _ _) ?_
  rintro r h' ⟨rfl, rfl⟩
  conv => whnf
  refine ⟨fun c4 => ?_, fun c4 => ?_⟩ <;> rw [jbi_0, j4, j9] at c4
  case refine_2 =>
    conv => whnf
    exact hbad (fun q => c4 q.2.2.2)
  have cc : isCmp x y w := ⟨c1, c2, by omega, c4⟩
  have hz : zcomp x y w = _ := if_pos cc
  have hw := tn_eq (show 0 ≤ w.toInt by omega)
  have el := c_X12_length (tn x) (tn y) hx6 (by omega)
  have et := c_X12_turned (tn x) (tn y) hx6 (by omega)
  have eb := c_X12_bits (tn y) (by omega)
  rw [← hx, ← hy] at el et
  rw [← hy] at eb
  conv => whnf
  refine ⟨fun d => ?_, fun d => ?_, fun d => ?_, fun d => ?_, fun d => ?_⟩
  · conv => whnf
    refine jcall (el _) ?_
    rintro r h' ⟨rfl, rfl⟩
    conv => whnf
    exact hgood _ cc (by rw [hz, if_pos d])
  · conv => whnf
    refine jcall (et _) ?_
    rintro r h' ⟨rfl, rfl⟩
    conv => whnf
    refine hgood _ cc (by rw [hz, d]; rfl)
  · conv => whnf
    refine jcall (em _) ?_
    rintro r h' ⟨rfl, rfl⟩
    conv => whnf
    refine hgood _ cc ?_
    rw [hz, d, if_neg (by decide), if_neg (by decide), if_pos rfl]
    have := jcmpl (tn x) (by omega) (tn y) (by omega) hyl
    rw [← hy] at this
    rw [this]
  · conv => whnf
    refine ⟨fun d2 => ?_, fun d2 => ?_⟩
    · conv => whnf
      refine jcall (eb _) ?_
      rintro r h' ⟨rfl, rfl⟩
      conv => whnf
      refine hgood _ cc ?_
      have hx0 : ¬ tn x = 0 := fun q => d2 (by rw [hx, q])
      rw [hz, d, if_neg (by decide), if_neg (by decide), if_neg (by decide), if_pos rfl, if_neg hx0]
      have := jfinr (tn x) (by omega) (tn y) (by omega) hyl hx0
      rw [← hx] at this
      rw [this]
    · conv => whnf
      refine hgood _ cc ?_
      have hx0 : tn x = 0 := by rw [d2]; decide
      rw [hz, d, if_neg (by decide), if_neg (by decide), if_neg (by decide), if_pos rfl, if_pos hx0]
  · conv => whnf
    have hwb : w.toInt < 2147483648 := Int32.toInt_lt w
    have hw10 : 10 ≤ tn w := by
      have h4 : ((4 : Nat) : Int) ≤ w.toInt := by
        rcases d with d | d
        · omega
        · exact d
      unfold tn
      omega
    have en := c_X12_numberOf (n := tn x) (c := tn y) hx6 (by omega) (i := tn w - 10) (by unfold tn; omega) (xi := w - nI 10) hx hy (by rw [hw, pk_sub hw10, tn_nI (by unfold tn; omega)])
    refine jcall (en _) ?_
    rintro r h' ⟨rfl, rfl⟩
    conv => whnf
    refine hgood (.int (jnoI (jno (tn x) (tn y) (tn w - 10)))) cc ?_
    have hne : ∀ k, k < 10 → ¬ w = nI k := by
      intro k hk q
      rw [q, tn_nI (by omega)] at hw10
      omega
    rw [hz, if_neg (hne 0 (by decide)), if_neg (hne 1 (by decide)), if_neg (hne 2 (by decide)), if_neg (hne 3 (by decide))]
