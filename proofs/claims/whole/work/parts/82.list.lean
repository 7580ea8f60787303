/-! the JDK's list, where it has room -/
abbrev aB (m : Nat) (f : Nat → Option Nat) : jC := aO "java/lang/Object" m f
abbrev oA (mc : Int32) (β n : Nat) : jC := .inr (0, [.int mc, .ref β, .int (nI n)])
theorem jset3 {h : List jC} {a b : Nat} (hn : a ≠ b) (x y z : jC) : ((h.set a x).set b y).set a z = (h.set b y).set a z := by
  rw [List.set_comm _ _ hn, List.set_set]
theorem c_AL_add3 {h : List jC} {l β m n e ci : Nat} {vs : List Value} {mc : Int32} {f : Nat → Option Nat} (hl : h[l]? = some (oA mc β n)) (hb : h[β]? = some (aB m f)) (hn : n < m) (hm : m ≤ 1000) (he : h[e]? = some (.inr (ci, vs))) (hc : jcst ci "java/lang/Object" = true) : jCt jy_Jx4a65c_add_72be8 [.ref l, .ref e, .ref β, .int (nI n)] h (fun r h' => r = none ∧ h' = (h.set β (aB m (va_up f n (some e)))).set l (oA mc β (n + 1))) := by
  have hlb : l ≠ β := jne hl hb (fun z => by cases z)
  refine jrun2 (js_Jx4a65c_add_72be8 _) rfl rfl rfl (fun G hG hW hB => ?_)
  refine hG [] 300 _ _ _ _ _ _ ?_
  conv => whnf
  refine ⟨_, _, _, hb, ?_⟩
  conv => whnf
  refine ⟨fun c => ?_, fun c => ?_⟩ <;> rw [nI_eq (by omega) (by omega)] at c
  case refine_2 => omega
  conv => whnf
  refine ⟨_, _, _, _, _, _, hb, rfl, hn, he, hc, ?_⟩
  conv => whnf
  rw [nI_add]
  refine ⟨trivial, _, jget_ne (Ne.symm hlb) hl, ?_⟩
  conv => whnf
  exact ⟨rfl, rfl⟩
theorem c_AL_add {h : List jC} {l β m n e ci : Nat} {vs : List Value} {mc : Int32} {f : Nat → Option Nat} (hl : h[l]? = some (oA mc β n)) (hb : h[β]? = some (aB m f)) (hn : n < m) (hm : m ≤ 1000) (he : h[e]? = some (.inr (ci, vs))) (hc : jcst ci "java/lang/Object" = true) (hel : e ≠ l) : jCt jy_Jx4a65c_add_9ea2d [.ref l, .ref e] h (fun r h' => r = some (.int (nI 1)) ∧ h' = (h.set β (aB m (va_up f n (some e)))).set l (oA (mc + nI 1) β (n + 1))) := by
  have hlb : l ≠ β := jne hl hb (fun z => by cases z)
  refine jrun2 (js_Jx4a65c_add_9ea2d _) rfl rfl rfl (fun G hG hW hB => ?_)
  refine hG [] 300 _ _ _ _ _ _ ?_
  conv => whnf
  refine ⟨_, hl, ?_⟩
  conv => whnf
  refine ⟨trivial, _, hl, ?_⟩
  conv => whnf
  refine ⟨_, jget_set hl, ?_⟩
  conv => whnf
  refine ⟨_, jget_set hl, ?_⟩
  conv => whnf
  refine ⟨⟨_, jget_set hl⟩, jcall (c_AL_add3 (jget_set hl) (jget_ne hlb hb) hn hm (jget_ne (Ne.symm hel) he) hc) ?_⟩
  rintro r h' ⟨rfl, rfl⟩
  conv => whnf
  refine ⟨Or.inr rfl, rfl, ?_⟩
  rw [jset3 hlb]
/-- the first one of all: the row is made -/
theorem c_AL_grow0 {h : List jC} {l : Nat} {mc : Int32} {n : Nat} (hl : h[l]? = some (oA mc 0 n)) (h0 : h[0]? = some jD) : jCt jy_Jx4a65c_grow_92f84 [.ref l, .int (nI 1)] h (fun r h' => r = some (.ref h.length) ∧ h' = h.set l (oA mc h.length n) ++ [aB 10 (fun _ => none)]) := by
  refine jrun2 (js_Jx4a65c_grow_92f84 _) rfl rfl rfl (fun G hG hW hB => ?_)
  refine hG [] 300 _ _ _ _ _ _ ?_
  conv => whnf
  refine ⟨_, hl, ?_⟩
  conv => whnf
  refine ⟨_, _, _, h0, ?_⟩
  conv => whnf
  refine ⟨fun c => absurd c (by decide), fun _ => ?_⟩
  conv => whnf
  refine ⟨_, hl, ?_⟩
  conv => whnf
  refine ⟨by decide, by decide, fun _ => ?_, fun c => absurd rfl c⟩
  conv => whnf
  refine jcall (c_J9_max _ _ _) ?_
  rintro r h' ⟨rfl, rfl⟩
  rw [show (if nI 10 < nI 1 then nI 1 else nI 10) = nI 10 from if_neg (by decide)]
  conv => whnf
  refine ⟨10, rfl, by decide, by decide, ?_⟩
  conv => whnf
  refine ⟨trivial, _, jget_app hl, ?_⟩
  conv => whnf
  refine ⟨rfl, ?_⟩
  rw [jset_app hl]
  rfl
theorem c_AL_growE {h : List jC} {l : Nat} {mc : Int32} (hl : h[l]? = some (oA mc 0 0)) (h0 : h[0]? = some jD) : jCt jy_Jx4a65c_grow_d5877 [.ref l] h (fun r h' => r = some (.ref h.length) ∧ h' = h.set l (oA mc h.length 0) ++ [aB 10 (fun _ => none)]) := by
  refine jrun2 (js_Jx4a65c_grow_d5877 _) rfl rfl rfl (fun G hG hW hB => ?_)
  refine hG [] 300 _ _ _ _ _ _ ?_
  conv => whnf
  refine ⟨_, hl, ?_⟩
  conv => whnf
  rw [nI_add]
  refine ⟨⟨_, hl⟩, jcall (c_AL_grow0 hl h0) ?_⟩
  rintro r h' ⟨rfl, rfl⟩
  conv => whnf
  exact ⟨rfl, rfl⟩
theorem c_AL_add03 {h : List jC} {l e ci : Nat} {vs : List Value} {mc : Int32} (hl : h[l]? = some (oA mc 0 0)) (h0 : h[0]? = some jD) (he : h[e]? = some (.inr (ci, vs))) (hc : jcst ci "java/lang/Object" = true) (hel : e ≠ l) : jCt jy_Jx4a65c_add_72be8 [.ref l, .ref e, .ref 0, .int (nI 0)] h (fun r h' => r = none ∧ h' = h.set l (oA mc h.length 1) ++ [aB 10 (va_up (fun _ => none) 0 (some e))]) := by
  refine jrun2 (js_Jx4a65c_add_72be8 _) rfl rfl rfl (fun G hG hW hB => ?_)
  refine hG [] 300 _ _ _ _ _ _ ?_
  conv => whnf
  refine ⟨_, _, _, h0, ?_⟩
  conv => whnf
  refine ⟨fun c => absurd rfl c, fun _ => ?_⟩
  conv => whnf
  refine ⟨⟨_, hl⟩, jcall (c_AL_growE hl h0) ?_⟩
  rintro r h' ⟨rfl, rfl⟩
  have hlen : (h.set l (oA mc h.length 0)).length = h.length := List.length_set
  have hnew : (h.set l (oA mc h.length 0) ++ [aB 10 (fun _ => none)])[h.length]? = some (aB 10 (fun _ => none)) := by
    have := jget_new (h.set l (oA mc h.length 0)) (aB 10 (fun _ => none))
    rw [hlen] at this
    exact this
  conv => whnf
  refine ⟨_, _, _, _, _, _, hnew, rfl, (show 0 < 10 by decide), jget_app (jget_ne (Ne.symm hel) he), hc, ?_⟩
  conv => whnf
  rw [nI_add]
  have hs : (h.set l (oA mc h.length 0) ++ [aB 10 (fun _ => none)]).set h.length (aB 10 (va_up (fun _ => none) 0 (some e))) = h.set l (oA mc h.length 0) ++ [aB 10 (va_up (fun _ => none) 0 (some e))] := by
    rw [List.set_append_right _ _ (by omega), hlen, Nat.sub_self]
    rfl
  erw [hs]
  refine ⟨trivial, _, jget_app (jget_set hl), ?_⟩
  conv => whnf
  refine ⟨rfl, ?_⟩
  rw [jset_app (jget_set hl), List.set_set]
  rfl
theorem c_AL_add0 {h : List jC} {l e ci : Nat} {vs : List Value} {mc : Int32} (hl : h[l]? = some (oA mc 0 0)) (h0 : h[0]? = some jD) (hl0 : l ≠ 0) (he : h[e]? = some (.inr (ci, vs))) (hc : jcst ci "java/lang/Object" = true) (hel : e ≠ l) : jCt jy_Jx4a65c_add_9ea2d [.ref l, .ref e] h (fun r h' => r = some (.int (nI 1)) ∧ h' = h.set l (oA (mc + nI 1) h.length 1) ++ [aB 10 (va_up (fun _ => none) 0 (some e))]) := by
  refine jrun2 (js_Jx4a65c_add_9ea2d _) rfl rfl rfl (fun G hG hW hB => ?_)
  refine hG [] 300 _ _ _ _ _ _ ?_
  conv => whnf
  refine ⟨_, hl, ?_⟩
  conv => whnf
  refine ⟨trivial, _, hl, ?_⟩
  conv => whnf
  refine ⟨_, jget_set hl, ?_⟩
  conv => whnf
  refine ⟨_, jget_set hl, ?_⟩
  conv => whnf
  refine ⟨⟨_, jget_set hl⟩, jcall (c_AL_add03 (jget_set hl) (jget_ne hl0 h0) (jget_ne (Ne.symm hel) he) hc hel) ?_⟩
  rintro r h' ⟨rfl, rfl⟩
  conv => whnf
  refine ⟨Or.inr rfl, rfl, ?_⟩
  rw [List.set_set, List.length_set]
theorem c_AL_size {h : List jC} {l β n : Nat} {mc : Int32} (hl : h[l]? = some (oA mc β n)) : jCt jy_Jx4a65c_size_8abf5 [.ref l] h (fun r h' => r = some (.int (nI n)) ∧ h' = h) := by
  refine jrun2 (js_Jx4a65c_size_8abf5 _) rfl rfl rfl (fun G hG hW hB => ?_)
  refine hG [] 300 _ _ _ _ _ _ ?_
  conv => whnf
  refine ⟨_, hl, ?_⟩
  conv => whnf
  exact ⟨rfl, rfl⟩
theorem c_AL_isEmpty {h : List jC} {l β n : Nat} {mc : Int32} (hl : h[l]? = some (oA mc β n)) (hn : n < 1000) : jCt jy_Jx4a65c_isEmpty_aae02 [.ref l] h (fun r h' => r = some (.int (jbi (n = 0))) ∧ h' = h) := by
  refine jrun2 (js_Jx4a65c_isEmpty_aae02 _) rfl rfl rfl (fun G hG hW hB => ?_)
  refine hG [] 300 _ _ _ _ _ _ ?_
  conv => whnf
  refine ⟨_, hl, ?_⟩
  conv => whnf
  refine ⟨fun c => ?_, fun c => ?_⟩ <;> rw [nI_eq (by omega) (by omega)] at c
  · conv => whnf
    refine ⟨Or.inl rfl, ?_, rfl⟩
    rw [jbi_f c]
  · conv => whnf
    refine ⟨Or.inr rfl, ?_, rfl⟩
    rw [jbi_t c]
theorem c_check {h : List jC} {i n : Nat} (hi : i < n) (hn : n < 1000) : jCt jy_J15_checkIndex_7cf53 [.int (nI i), .int (nI n)] h (fun r h' => r = some (.int (nI i)) ∧ h' = h) := by
  have c3 : jCt jy_J3_checkIndex_8e157 [.int (nI i), .int (nI n), .null] h (fun r h' => r = some (.int (nI i)) ∧ h' = h) := by
    refine jrun2 (js_J3_checkIndex_8e157 _) (by decide +kernel) rfl rfl (fun G hG hW hB => ?_)
    refine hG [] 300 _ _ _ _ _ _ ?_
    conv => whnf
    refine ⟨fun c => absurd c (nI_nlt (by omega) (by omega)), fun _ => ?_⟩
    conv => whnf
    refine ⟨fun _ => ?_, fun c => absurd (nI_lt hi (by omega)) c⟩
    conv => whnf
    exact ⟨rfl, rfl⟩
  refine jrun2 (js_J15_checkIndex_7cf53 _) (by decide +kernel) rfl rfl (fun G hG hW hB => ?_)
  refine hG [] 300 _ _ _ _ _ _ ?_
  conv => whnf
  refine jcall (c3) ?_
  rintro r h' ⟨rfl, rfl⟩
  conv => whnf
  exact ⟨rfl, rfl⟩
theorem c_AL_get {h : List jC} {l β m n i : Nat} {mc : Int32} {f : Nat → Option Nat} (hl : h[l]? = some (oA mc β n)) (hb : h[β]? = some (aB m f)) (hi : i < n) (hn : n ≤ m) (hm : m < 1000) {s : Nat} (hs : f i = some s) : jCt jy_Jx4a65c_get_915e3 [.ref l, .int (nI i)] h (fun r h' => r = some (.ref s) ∧ h' = h) := by
  have ce : jCt jy_Jx4a65c_elementData_915e3 [.ref l, .int (nI i)] h (fun r h' => r = some (.ref s) ∧ h' = h) := by
    refine jrun2 (js_Jx4a65c_elementData_915e3 _) rfl rfl rfl (fun G hG hW hB => ?_)
    refine hG [] 300 _ _ _ _ _ _ ?_
    conv => whnf
    refine ⟨_, hl, ?_⟩
    conv => whnf
    refine ⟨_, _, _, _, _, hb, rfl, (show i < m by omega), hs, ?_⟩
    conv => whnf
    exact ⟨rfl, rfl⟩
  refine jrun2 (js_Jx4a65c_get_915e3 _) rfl rfl rfl (fun G hG hW hB => ?_)
  refine hG [] 300 _ _ _ _ _ _ ?_
  conv => whnf
  refine ⟨_, hl, ?_⟩
  conv => whnf
  refine jcall (c_check hi (by omega)) ?_
  rintro r h' ⟨rfl, rfl⟩
  conv => whnf
  refine ⟨⟨_, hl⟩, jcall ce ?_⟩
  rintro r h' ⟨rfl, rfl⟩
  conv => whnf
  exact ⟨rfl, rfl⟩
/-- the last one is taken away -/
theorem c_AL_pop {h : List jC} {l β m n : Nat} {mc : Int32} {f : Nat → Option Nat} (hl : h[l]? = some (oA mc β (n + 1))) (hb : h[β]? = some (aB m f)) (hn : n < m) (hm : m < 1000) {s : Nat} (hs : f n = some s) : jCt jy_Jx4a65c_remove_915e3 [.ref l, .int (nI n)] h (fun r h' => r = some (.ref s) ∧ h' = (h.set β (aB m (va_up f n none))).set l (oA (mc + nI 1) β n)) := by
  have hlb : l ≠ β := jne hl hb (fun z => by cases z)
  have cf : jCt jy_Jx4a65c_fastRemove_b59b0 [.ref l, .ref β, .int (nI n)] h (fun r h' => r = none ∧ h' = (h.set β (aB m (va_up f n none))).set l (oA (mc + nI 1) β n)) := by
    refine jrun2 (js_Jx4a65c_fastRemove_b59b0 _) rfl rfl rfl (fun G hG hW hB => ?_)
    refine hG [] 300 _ _ _ _ _ _ ?_
    conv => whnf
    refine ⟨_, hl, ?_⟩
    conv => whnf
    refine ⟨trivial, _, hl, ?_⟩
    conv => whnf
    refine ⟨_, jget_set hl, ?_⟩
    conv => whnf
    rw [jI_m1 (by omega), Nat.add_sub_cancel]
    refine ⟨fun _ => ?_, fun c => absurd (Int32.le_refl _) c⟩
    conv => whnf
    refine ⟨trivial, _, jget_set hl, ?_⟩
    conv => whnf
    refine ⟨_, _, _, _, jget_ne hlb (jget_ne hlb hb), rfl, hn, ?_⟩
    conv => whnf
    refine ⟨rfl, ?_⟩
    rw [List.set_set, List.set_comm _ _ hlb]
    rfl
  refine jrun2 (js_Jx4a65c_remove_915e3 _) rfl rfl rfl (fun G hG hW hB => ?_)
  refine hG [] 300 _ _ _ _ _ _ ?_
  conv => whnf
  refine ⟨_, hl, ?_⟩
  conv => whnf
  refine jcall (c_check (Nat.lt_succ_self n) (by omega)) ?_
  rintro r h' ⟨rfl, rfl⟩
  conv => whnf
  refine ⟨_, hl, ?_⟩
  conv => whnf
  refine ⟨_, _, _, _, _, hb, rfl, hn, hs, ?_⟩
  conv => whnf
  refine ⟨⟨_, hl⟩, jcall cf ?_⟩
  rintro r h' ⟨rfl, rfl⟩
  conv => whnf
  exact ⟨rfl, rfl⟩
/-- the first of nine is taken away -/
theorem c_AL_shift {h : List jC} {l β : Nat} {mc : Int32} {f : Nat → Option Nat} (hl : h[l]? = some (oA mc β 9)) (hb : h[β]? = some (aB 10 f)) (hf : ∀ i, i < 9 → ∃ y ci vs, f i = some y ∧ y ≠ l ∧ h[y]? = some (.inr (ci, vs)) ∧ jcst ci "java/lang/Object" = true) : jCt jy_Jx4a65c_remove_915e3 [.ref l, .int (nI 0)] h (fun r h' => (∃ s, r = some (.ref s)) ∧ h' = (h.set β (aB 10 (va_up (va_cpy f f 1 0 8) 8 none))).set l (oA (mc + nI 1) β 8)) := by
  have hlb : l ≠ β := jne hl hb (fun z => by cases z)
  have cf : jCt jy_Jx4a65c_fastRemove_b59b0 [.ref l, .ref β, .int (nI 0)] h (fun r h' => r = none ∧ h' = (h.set β (aB 10 (va_up (va_cpy f f 1 0 8) 8 none))).set l (oA (mc + nI 1) β 8)) := by
    refine jrun2 (js_Jx4a65c_fastRemove_b59b0 _) rfl rfl rfl (fun G hG hW hB => ?_)
    refine hG [] 300 _ _ _ _ _ _ ?_
    conv => whnf
    refine ⟨_, hl, ?_⟩
    conv => whnf
    refine ⟨trivial, _, hl, ?_⟩
    conv => whnf
    refine ⟨_, jget_set hl, ?_⟩
    conv => whnf
    refine ⟨fun c => absurd c (by decide), fun c => ?_⟩
    conv => whnf
    refine ⟨10, f, 10, f, 1, 0, 8, jget_ne hlb hb, jget_ne hlb hb, by decide, by decide, rfl, rfl, rfl, by decide, by decide, fun i hi y hy => ?_, (show 0 ≤ 4 by decide), ?_⟩
    · obtain ⟨y2, ci, vs, h1, h2, h3, h4⟩ := hf (1 + i) (by omega)
      rw [h1] at hy
      cases hy
      exact ⟨ci, vs, jget_ne (Ne.symm h2) h3, h4⟩
    conv => whnf
    refine ⟨trivial, _, jget_ne (Ne.symm hlb) (jget_set hl), ?_⟩
    conv => whnf
    refine ⟨_, _, _, 8, jget_ne hlb (jget_set (jget_ne hlb hb)), rfl, by decide, ?_⟩
    conv => whnf
    refine ⟨rfl, ?_⟩
    apply List.ext_getElem?
    intro j
    by_cases j1 : l = j
    · subst j1
      have hL := (List.getElem?_eq_some_iff.mp hl).1
      rw [List.getElem?_set_ne (Ne.symm hlb), List.getElem?_set_self (by simp; exact hL), List.getElem?_set_self (by simp; exact hL)]
      rfl
    · by_cases j2 : β = j
      · subst j2
        have hL := (List.getElem?_eq_some_iff.mp hb).1
        rw [List.getElem?_set_self (by simp; exact hL), List.getElem?_set_ne hlb, List.getElem?_set_self hL]
      · simp only [List.getElem?_set_ne j1, List.getElem?_set_ne j2]
  obtain ⟨s, ci, vs, s1, s2, s3, s4⟩ := hf 0 (by decide)
  refine jrun2 (js_Jx4a65c_remove_915e3 _) rfl rfl rfl (fun G hG hW hB => ?_)
  refine hG [] 300 _ _ _ _ _ _ ?_
  conv => whnf
  refine ⟨_, hl, ?_⟩
  conv => whnf
  refine jcall (c_check (i := 0) (n := 9) (by decide) (by decide)) ?_
  rintro r h' ⟨rfl, rfl⟩
  conv => whnf
  refine ⟨_, hl, ?_⟩
  conv => whnf
  refine ⟨_, _, _, _, _, hb, rfl, (show 0 < 10 by decide), s1, ?_⟩
  conv => whnf
  refine ⟨⟨_, hl⟩, jcall cf ?_⟩
  rintro r h' ⟨rfl, rfl⟩
  conv => whnf
  exact ⟨⟨s, rfl⟩, rfl⟩
theorem c_AL_clear {h : List jC} {l β n : Nat} {mc : Int32} (hl : h[l]? = some (oA mc β n)) (hb : n = 0 ∨ ∃ f, h[β]? = some (aB 10 f) ∧ n ≤ 10) : jCt jy_Jx4a65c_clear_da8c8 [.ref l] h (fun r h' => r = none ∧ ((n = 0 ∧ h' = h.set l (oA (mc + nI 1) β 0)) ∨ ∃ f, h[β]? = some (aB 10 f) ∧ h' = (h.set l (oA (mc + nI 1) β 0)).set β (aB 10 (fun j => if j < n then none else f j)))) := by
  have hn : n ≤ 10 := by
    rcases hb with rfl | ⟨f, -, h1⟩
    · decide
    · exact h1
  refine jrun2 (js_Jx4a65c_clear_da8c8 _) rfl rfl rfl (fun G hG hW hB => ?_)
  have l0 : n = 0 → G 27 [some (.ref l), some (.ref β), some (.int (nI n)), some (.int (nI 0))] [] (h.set l (oA (mc + nI 1) β 0)) 0 0 := by
    intro h0
    refine hG [27] 300 _ _ _ _ _ _ ?_
    conv => whnf
    refine ⟨fun qb => ?_, fun qb => ?_⟩ <;> rw [nI_leI (by omega) (by omega)] at qb
    · conv => whnf
      exact ⟨rfl, Or.inl ⟨h0, rfl⟩⟩
    · omega
  have loop : ∀ f, h[β]? = some (aB 10 f) → ∀ k e, n = e + k → G 27 [some (.ref l), some (.ref β), some (.int (nI n)), some (.int (nI e))] [] ((h.set l (oA (mc + nI 1) β 0)).set β (aB 10 (fun j => if j < e then none else f j))) 0 0 := by
    intro f hf k
    have hlb : l ≠ β := jne hl hf (fun z => by cases z)
    induction k with
    | zero =>
      intro e he
      refine hG [27] 300 _ _ _ _ _ _ ?_
      conv => whnf
      refine ⟨fun qb => ?_, fun qb => ?_⟩ <;> rw [nI_leI (by omega) (by omega)] at qb
      · conv => whnf
        refine ⟨rfl, Or.inr ⟨f, hf, ?_⟩⟩
        rw [he, Nat.add_zero]
      · omega
    | succ k ih =>
      intro e he
      have i1 := ih (e + 1) (by omega)
      refine hG [27] 300 _ _ _ _ _ _ ?_
      conv => whnf
      refine ⟨fun qb => ?_, fun qb => ?_⟩ <;> rw [nI_leI (by omega) (by omega)] at qb
      · omega
      conv => whnf
      refine ⟨_, _, _, _, jget_set (jget_ne hlb hf), rfl, (show e < 10 by omega), ?_⟩
      conv => whnf
      rw [nI_add, List.set_set]
      have e1 : va_up (fun j => if j < e then none else f j) e none = fun j => if j < e + 1 then none else f j := by
        funext j
        unfold va_up
        by_cases hj : j = e
        · rw [if_pos hj, if_pos (by omega)]
        · rw [if_neg hj]
          dsimp only
          by_cases h1 : j < e
          · rw [if_pos h1, if_pos (by omega)]
          · rw [if_neg h1, if_neg (by omega)]
      erw [e1]
      exact i1
  refine hG [27] 300 _ _ _ _ _ _ ?_
  conv => whnf
  refine ⟨_, hl, ?_⟩
  conv => whnf
  refine ⟨trivial, _, hl, ?_⟩
  conv => whnf
  refine ⟨_, jget_set hl, ?_⟩
  conv => whnf
  refine ⟨_, jget_set hl, ?_⟩
  conv => whnf
  refine ⟨trivial, _, jget_set hl, ?_⟩
  conv => whnf
  rw [List.set_set]
  rcases hb with h0 | ⟨f, hf, -⟩
  · exact l0 h0
  · have l1 := loop f hf n 0 (by omega)
    have hlb : l ≠ β := jne hl hf (fun z => by cases z)
    rw [show (fun j => if j < 0 then none else f j) = f from funext fun j => if_neg (Nat.not_lt_zero j), jset_same (jget_ne hlb hf)] at l1
    exact l1
theorem c_AL_init {h : List jC} {l : Nat} (hl : h[l]? = some (.inr (0, [.int (nI 0), .null, .int (nI 0)]))) : jCt jy_Jx4a65c_init_da8c8 [.ref l] h (fun r h' => r = none ∧ h' = h.set l (oA (nI 0) 0 0)) := by
  have c0 : jCt jy_Jxa1e45_init_da8c8 [.ref l] h (fun r h' => r = none ∧ h' = h) := by
    refine jrun2 (js_Jxa1e45_init_da8c8 _) rfl rfl rfl (fun G hG hW hB => ?_)
    refine hG [] 300 _ _ _ _ _ _ ?_
    conv => whnf
    exact ⟨rfl, rfl⟩
  have c1 : jCt jy_Jxc12de_init_da8c8 [.ref l] h (fun r h' => r = none ∧ h' = h) := by
    refine jrun2 (js_Jxc12de_init_da8c8 _) rfl rfl rfl (fun G hG hW hB => ?_)
    refine hG [] 300 _ _ _ _ _ _ ?_
    conv => whnf
    refine jcall (c0) ?_
    rintro r h' ⟨rfl, rfl⟩
    conv => whnf
    refine ⟨trivial, _, hl, ?_⟩
    conv => whnf
    refine ⟨rfl, ?_⟩
    exact jset_same hl
  refine jrun2 (js_Jx4a65c_init_da8c8 _) rfl rfl rfl (fun G hG hW hB => ?_)
  refine hG [] 300 _ _ _ _ _ _ ?_
  conv => whnf
  refine jcall (c1) ?_
  rintro r h' ⟨rfl, rfl⟩
  conv => whnf
  refine ⟨trivial, _, hl, ?_⟩
  conv => whnf
  exact ⟨rfl, rfl⟩
