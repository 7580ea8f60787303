/-! finds() of the reference: rows of an order, one after the other -/
abbrev okI (o : zOrd) (told i : Nat) : Prop := ¬ told / 2 ^ i % 2 = 1 ∧ nI (2 * o.2 i) &&& (nI told ^^^ (-1)) = nI 0
def rwsL (g : Nat → List (List Nat)) : Nat → List (List Nat)
  | 0 => []
  | i + 1 => rwsL g i ++ g (i + 1)
def rws (o : zOrd) : Nat → Nat → List (List Nat)
  | 0, _ => [[]]
  | f + 1, told => rwsL (fun i => if okI o told i then (rws o f (told ||| 2 ^ i)).map (fun l => i :: l) else []) o.1
theorem rwsL_pre (g : Nat → List (List Nat)) (i : Nat) : ∀ t j, j < (rwsL g i).length → (rwsL g (i + t))[j]? = (rwsL g i)[j]?
  | 0, _, _ => rfl
  | t + 1, j, hj => by
    have ih := rwsL_pre g i t j hj
    have hl : j < (rwsL g (i + t)).length := by
      rw [List.getElem?_eq_getElem hj] at ih
      exact (List.getElem?_eq_some_iff.mp ih).1
    rw [show i + (t + 1) = (i + t) + 1 from rfl, rwsL, List.getElem?_append_left hl, ih]
theorem rwsL_len (g : Nat → List (List Nat)) (m : Nat) (hg : ∀ i, (g i).length ≤ m) : ∀ i, (rwsL g i).length ≤ i * m
  | 0 => by simp [rwsL]
  | i + 1 => by have := rwsL_len g m hg i; have := hg (i + 1); rw [rwsL, List.length_append, Nat.add_mul]; omega
theorem rws_len (o : zOrd) (ho : o.1 ≤ 6) : ∀ f told, (rws o f told).length ≤ 6 ^ f
  | 0, _ => by simp [rws]
  | f + 1, told => by
    rw [rws]
    refine Nat.le_trans (rwsL_len _ (6 ^ f) (fun i => ?_) o.1) ?_
    · split
      · rw [List.length_map]; exact rws_len o ho f _
      · simp
    · rw [Nat.pow_succ, Nat.mul_comm (6 ^ f)]
      exact Nat.mul_le_mul_right _ ho
theorem jor128 {a i : Nat} (ha : a < 128) (hi : i < 7) : a ||| 2 ^ i < 128 := Nat.or_lt_two_pow (n := 7) ha (Nat.pow_lt_pow_right (by decide) hi)
/-- what finds() leaves: rows seen, the row that is laid down, whether it is the one -/
def fPost (h : List jC) (s : Nat → Int32) (I : jIs) (L : jLss) (F : jFs) (t seen : Nat) (k : Int32) (rs : List (List Nat)) : jPost := fun r h' => ∃ (w : Nat → Int32) (sn : Nat), h' = jR h (upd s 4 (nI sn)) (va_up I 11 w) L F ∧ (∀ j, j < t → w j = I 11 j) ∧
  ((∃ (x : Nat) (l : List Nat), rs[x]? = some l ∧ k = nI (seen + x) ∧ sn = seen + x + 1 ∧ r = some (.int (nI 1)) ∧ ∀ m v, l[m]? = some v → w (t + m) = nI v) ∨ ((∀ x, x < rs.length → ¬ k = nI (seen + x)) ∧ sn = seen + rs.length ∧ r = some (.int (nI 0))))
theorem c_X12_finds {h : List jC} (hh : 53 ≤ h.length) (L : jLss) (F : jFs) {o : zOrd} (hok : zordOk o) (k : Int32) : ∀ (D f t told seen : Nat) (s : Nat → Int32) (I : jIs) (xa xt : Int32), f ≤ D → eOrd (s 3) (I 10) o → s 4 = nI seen → xa = nI t → xt = nI told → t + f = o.1 → told < 128 → seen + 6 ^ f < 100000 → jCt (jy_X12_finds (D + 1)) [.ref 20, .int xa, .int xt, .int k] (jR h s I L F) (fPost h s I L F t seen k (rws o f told)) := by
  have ho6 := hok.1
  have hv : ∀ k, k < 7 → o.2 k < 64 := by
    intro k hk
    have h2 : 2 ^ o.1 ≤ 2 ^ 6 := Nat.pow_le_pow_right (by decide) ho6
    have := (hok.2 k hk).1
    omega
  have base : ∀ (D t told seen : Nat) (s : Nat → Int32) (I : jIs) (xa xt : Int32), eOrd (s 3) (I 10) o → s 4 = nI seen → xa = nI t → xt = nI told → t = o.1 → seen < 100000 → jCt (jy_X12_finds (D + 1)) [.ref 20, .int xa, .int xt, .int k] (jR h s I L F) (fPost h s I L F t seen k (rws o 0 told)) := by
    intro D t told seen s I xa xt ho hs ea et hn hsn
    refine jrun2 (js_X12_finds _ _) rfl rfl rfl (fun G hG hWW hBB => ?_)
    refine hG [] 300 _ _ _ _ _ _ ?_
    conv => whnf
    refine ⟨_, m_0 hh, ?_⟩
    conv => whnf
    rw [ho.1, ea]
    refine ⟨fun qb => ?_, fun qb => ?_⟩ <;> rw [nI_eq (by omega) (by omega)] at qb
    · omega
    conv => whnf
    refine ⟨_, m_0 hh, ?_⟩
    conv => whnf
    refine ⟨trivial, _, m_0 hh, ?_⟩
    conv => whnf
    erw [ms_0 (upd s 4 (s 4 + nI 1))]
    refine ⟨_, m_0 hh, ?_⟩
    conv => whnf
    rw [show upd s 4 (s 4 + nI 1) 4 = nI (seen + 1) by unfold upd; rw [if_pos rfl, hs, nI_add]]
    rw [pk_sub (by omega), show seen + 1 - 1 = seen by omega]
    have e4 : s 4 + nI 1 = nI (seen + 1) := by rw [hs, nI_add]
    refine ⟨fun c => ?_, fun c => ?_⟩
    · conv => whnf
      refine ⟨Or.inl rfl, I 11, seen + 1, by rw [e4, va_up_same], fun _ _ => rfl, Or.inr ⟨fun x hx => ?_, rfl, rfl⟩⟩
      have : x = 0 := by simp [rws] at hx; omega
      subst this
      exact fun q => c q.symm
    · conv => whnf
      refine ⟨Or.inr rfl, I 11, seen + 1, by rw [e4, va_up_same], fun _ _ => rfl, Or.inl ⟨0, [], rfl, c.symm, rfl, rfl, fun m v hm => by simp at hm⟩⟩
  intro D
  induction D with
  | zero =>
    intro f t told seen s I xa xt hf ho hs ea et hn htd hsn
    have hf0 : f = 0 := by omega
    subst hf0
    exact base 0 t told seen s I xa xt ho hs ea et hn (by omega)
  | succ D ih =>
    intro f t told seen s I xa xt hf ho hs ea et hn htd hsn
    match f, hf, hn, hsn with
    | 0, hf, hn, hsn => exact base (D + 1) t told seen s I xa xt ho hs ea et hn (by omega)
    | f + 1, hf, hn, hsn =>
    rw [rws]
    obtain ⟨g, hg⟩ : ∃ g : Nat → List (List Nat), g = fun i => if okI o told i then (rws o f (told ||| 2 ^ i)).map (fun l => i :: l) else [] := ⟨_, rfl⟩
    rw [← hg]
    have hgl : ∀ i, (g i).length ≤ 6 ^ f := by
      intro i
      rw [hg]
      dsimp only
      split
      · rw [List.length_map]; exact rws_len o ho6 f _
      · simp
    have h6 : 6 ^ (f + 1) = 6 * 6 ^ f := by rw [Nat.pow_succ, Nat.mul_comm]
    refine jrun2 (js_X12_finds _ _) rfl rfl rfl (fun G hG hWW hBB => ?_)
    have loop : ∀ u i, o.1 + 1 = i + u → 0 < i → ∀ w : Nat → Int32, (∀ j, j < t → w j = I 11 j) → (∀ x, x < (rwsL g (i - 1)).length → ¬ k = nI (seen + x)) → G 37 [some (.ref 20), some (.int xa), some (.int xt), some (.int k), some (.int (nI i))] [] (jR h (upd s 4 (nI (seen + (rwsL g (i - 1)).length))) (va_up I 11 w) L F) 0 0 := by
      intro u
      induction u with
      | zero =>
        intro i hi hi0 w hw hx
        refine hG [37] 300 _ _ _ _ _ _ ?_
        conv => whnf
        refine ⟨_, m_0 hh, ?_⟩
        conv => whnf
        rw [show upd s 4 (nI (seen + (rwsL g (i - 1)).length)) 3 = nI o.1 from ho.1]
        refine ⟨fun qb => ?_, fun qb => ?_⟩ <;> rw [nI_ltI (by omega) (by omega)] at qb
        case refine_2 => omega
        conv => whnf
        rw [show i - 1 = o.1 by omega] at hx ⊢
        exact ⟨Or.inl rfl, w, _, rfl, hw, Or.inr ⟨hx, rfl, rfl⟩⟩
      | succ u ihu =>
        intro i hi hi0 w hw hx
        have hpl := rwsL_len g (6 ^ f) hgl (i - 1)
        have hpm : (i - 1) * 6 ^ f ≤ 5 * 6 ^ f := Nat.mul_le_mul_right _ (by omega)
        have hsu : rwsL g i = rwsL g (i - 1) ++ g i := by
          have : i = (i - 1) + 1 := by omega
          rw [this, rwsL, Nat.add_sub_cancel]
        have skip : g i = [] → G 100 [some (.ref 20), some (.int xa), some (.int xt), some (.int k), some (.int (nI i))] [] (jR h (upd s 4 (nI (seen + (rwsL g (i - 1)).length))) (va_up I 11 w) L F) 0 0 := by
          intro hgi
          have hsame : rwsL g (i + 1 - 1) = rwsL g (i - 1) := by rw [Nat.add_sub_cancel, hsu, hgi, List.append_nil]
          have i1 := ihu (i + 1) (by omega) (by omega) w hw
          rw [hsame] at i1
          refine hG [37] 300 _ _ _ _ _ _ ?_
          conv => whnf
          rw [nI_add]
          exact i1 hx
        refine hG [37, 100] 300 _ _ _ _ _ _ ?_
        conv => whnf
        refine ⟨_, m_0 hh, ?_⟩
        conv => whnf
        rw [show upd s 4 (nI (seen + (rwsL g (i - 1)).length)) 3 = nI o.1 from ho.1]
        refine ⟨fun qb => ?_, fun qb => ?_⟩ <;> rw [nI_ltI (by omega) (by omega)] at qb
        · omega
        conv => whnf
        rw [et, jI_bit (by omega) (by omega)]
        refine ⟨fun c => ?_, fun c => ?_⟩ <;> rw [nI_eq (by omega) (by omega)] at c
        · rw [← et]
          exact skip (by rw [hg]; exact if_neg (fun q => q.1 c))
        conv => whnf
        refine ⟨_, m_0 hh, ?_⟩
        conv => whnf
        refine ⟨_, _, _, m_10 hh, rfl, (show i < 7 by omega), ?_⟩
        conv => whnf
        rw [show va_up I 11 w 10 i = nI (2 * o.2 i) from ho.2 i (by omega)]
        refine ⟨fun c2 => ?_, fun c2 => ?_⟩
        case refine_2 =>
          rw [← et]
          exact skip (by rw [hg]; exact if_neg (fun q => c2 q.2))
        have hgi : g i = (rws o f (told ||| 2 ^ i)).map (fun l => i :: l) := by rw [hg]; exact if_pos ⟨c, c2⟩
        have hor : nI told ||| nI 1 <<< (nI i &&& 31) = nI (told ||| 2 ^ i) := by rw [jI_one (by omega), jI_or]
        conv => whnf
        refine ⟨_, m_0 hh, ?_⟩
        conv => whnf
        refine ⟨_, _, _, m_11 hh, ea, (show t < 6 by omega), ?_⟩
        conv => whnf
        erw [ms_11 (upd w t (nI i))]
        rw [va_up_up]
        have hc := ih f (t + 1) (told ||| 2 ^ i) (seen + (rwsL g (i - 1)).length) (upd s 4 (nI (seen + (rwsL g (i - 1)).length))) (va_up I 11 (upd w t (nI i))) (xa + nI 1) (nI told ||| nI 1 <<< (nI i &&& 31)) (by omega) ho (by unfold upd; rw [if_pos rfl]) (by rw [ea, nI_add]) hor (by omega) (jor128 htd (by omega)) (by omega)
        refine ⟨⟨_, m_0 hh⟩, jcall hc ?_⟩
        rintro r h' ⟨w2, sn, rfl, hw2, hq⟩
        rw [jupd2, va_up_up]
        rcases hq with ⟨x, l, q1, q2, q3, rfl, q5⟩ | ⟨q1, q2, rfl⟩
        · conv => whnf
          refine ⟨fun q => absurd q (by decide), fun _ => ?_⟩
          conv => whnf
          refine ⟨Or.inr rfl, w2, sn, rfl, fun j hj => ?_, Or.inl ⟨(rwsL g (i - 1)).length + x, i :: l, ?_, by rw [q2, Nat.add_assoc], by rw [q3]; omega, rfl, fun m v hm => ?_⟩⟩
          · rw [hw2 j (by omega)]
            show upd w t (nI i) j = I 11 j
            unfold upd
            rw [if_neg (by omega)]
            exact hw j hj
          · have hxl := (List.getElem?_eq_some_iff.mp q1).1
            have hlt : (rwsL g (i - 1)).length + x < (rwsL g i).length := by rw [hsu, List.length_append, hgi, List.length_map]; omega
            have hpre := rwsL_pre g i (o.1 - i) _ hlt
            rw [show i + (o.1 - i) = o.1 by omega] at hpre
            rw [hpre, hsu, List.getElem?_append_right (by omega), Nat.add_sub_cancel_left, hgi, List.getElem?_map, q1]
            rfl
          · match m, hm with
            | 0, hm =>
              have : v = i := by simpa using hm.symm
              subst this
              rw [Nat.add_zero, hw2 t (by omega)]
              show upd w t (nI v) t = nI v
              unfold upd
              rw [if_pos rfl]
            | m + 1, hm =>
              rw [show t + (m + 1) = t + 1 + m by omega]
              exact q5 m v (by simpa using hm)
        · conv => whnf
          refine ⟨fun _ => ?_, fun q => absurd rfl q⟩
          have i1 := ihu (i + 1) (by omega) (by omega) w2 (fun j hj => by
            rw [hw2 j (by omega)]
            show upd w t (nI i) j = I 11 j
            unfold upd
            rw [if_neg (by omega)]
            exact hw j hj)
          rw [Nat.add_sub_cancel, hsu, hgi, List.length_append, List.length_map, ← Nat.add_assoc, ← q2] at i1
          rw [← et]
          refine hG [37] 300 _ _ _ _ _ _ ?_
          conv => whnf
          rw [nI_add]
          refine i1 (fun x hx2 => ?_)
          by_cases hxp : x < (rwsL g (i - 1)).length
          · exact hx x hxp
          · have := q1 (x - (rwsL g (i - 1)).length) (by omega)
            rwa [show seen + (rwsL g (i - 1)).length + (x - (rwsL g (i - 1)).length) = seen + x by omega] at this
    refine hG [37] 300 _ _ _ _ _ _ ?_
    conv => whnf
    refine ⟨_, m_0 hh, ?_⟩
    conv => whnf
    rw [ho.1]
    refine ⟨fun qb => ?_, fun qb => ?_⟩ <;> rw [ea, nI_eq (by omega) (by omega)] at qb
    case refine_2 => omega
    conv => whnf
    have l0 := loop o.1 1 (by omega) (by decide) (I 11) (fun _ _ => rfl) (fun x hx => absurd hx (Nat.not_lt_zero _))
    rw [va_up_same, show seen + (rwsL g (1 - 1)).length = seen from rfl, ← hs, upd_same] at l0
    exact l0
