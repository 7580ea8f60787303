/-! THE REFERENCE'S CELLS: one object and 32 rows at the places 20 .. 52, as plain functions: s its numbers (0 isOver, 1 troubleMany, 2 steps, 3 things, 4 rowsSeen, 5 taped, 6 at, 7 isWrong, 8 terms, 9 keptThings), I its rows of ints and truths, L of longs, F of floats (printed by wip/whole/genref.py) -/
abbrev aZ (n : Nat) (f : Nat → Int32) : jC := .inl (.boolean, n, .inl f)
abbrev aF (n : Nat) (f : Nat → UInt32) : jC := .inl (.float, n, .inr (.inr (.inl f)))
abbrev jIs : Type := Nat → Nat → Int32
abbrev jLss : Type := Nat → Nat → Int64
abbrev jFs : Type := Nat → Nat → UInt32
abbrev mo (s : Nat → Int32) : jC := .inr (11, [.int (s 0), .ref 21, .ref 22, .int (s 1), .ref 23, .ref 24, .ref 25, .ref 26, .ref 27, .ref 28, .int (s 2), .ref 29, .int (s 3), .ref 30, .ref 31, .int (s 4), .ref 32, .ref 33, .ref 34, .ref 35, .ref 36, .ref 37, .ref 38, .ref 39, .ref 40, .ref 41, .int (s 5), .int (s 6), .int (s 7), .int (s 8), .ref 42, .ref 43, .ref 44, .ref 45, .ref 46, .ref 47, .int (s 9), .ref 48, .ref 49, .ref 50, .ref 51, .ref 52])
def mc (s : Nat → Int32) (I : jIs) (L : jLss) (F : jFs) : Nat → jC
  | 0 => mo s
  | 1 => aI 3 (I 1)
  | 2 => aI 3 (I 2)
  | 3 => aI 4 (I 3)
  | 4 => aL 128 (L 4)
  | 5 => aL 32 (L 5)
  | 6 => aI 8 (I 6)
  | 7 => aI 8 (I 7)
  | 8 => aL 256 (L 8)
  | 9 => aI 32 (I 9)
  | 10 => aI 7 (I 10)
  | 11 => aI 6 (I 11)
  | 12 => aI 7 (I 12)
  | 13 => aF 6 (F 13)
  | 14 => aZ 3 (I 14)
  | 15 => aI 3 (I 15)
  | 16 => aI 120 (I 16)
  | 17 => aI 40 (I 17)
  | 18 => aI 12 (I 18)
  | 19 => aI 12 (I 19)
  | 20 => aL 480 (L 20)
  | 21 => aI 80 (I 21)
  | 22 => aI 80 (I 22)
  | 23 => aZ 80 (I 23)
  | 24 => aI 80 (I 24)
  | 25 => aL 80 (L 25)
  | 26 => aI 4 (I 26)
  | 27 => aL 128 (L 27)
  | 28 => aI 7 (I 28)
  | 29 => aF 6 (F 29)
  | 30 => aI 12 (I 30)
  | 31 => aI 12 (I 31)
  | 32 => aL 480 (L 32)
  | _ => mo s
def jput (h : List jC) (M : Nat → jC) : List jC := h.mapIdx (fun j c => if 20 ≤ j ∧ j < 53 then M (j - 20) else c)
theorem jpat_ (h : List jC) (M : Nat → jC) (j : Nat) : (jput h M)[j]? = (h[j]?).map (fun c => if 20 ≤ j ∧ j < 53 then M (j - 20) else c) := by
  unfold jput; rw [List.getElem?_mapIdx]
theorem jput_get {h : List jC} (hh : 53 ≤ h.length) (M : Nat → jC) {i : Nat} (hi : i < 33) : (jput h M)[20 + i]? = some (M i) := by
  rw [jpat_, List.getElem?_eq_getElem (by omega), Option.map_some, if_pos (by omega), Nat.add_sub_cancel_left]
theorem jput_out {h : List jC} {M : Nat → jC} {j : Nat} (hj : ¬ (20 ≤ j ∧ j < 53)) : (jput h M)[j]? = h[j]? := by
  rw [jpat_]; cases h[j]? <;> simp [hj]
theorem jput_len (h : List jC) (M : Nat → jC) : (jput h M).length = h.length := by simp [jput]
theorem jput_set (h : List jC) (M : Nat → jC) {i : Nat} (hi : i < 33) (c : jC) : (jput h M).set (20 + i) c = jput h (va_up M i c) := by
  apply List.ext_getElem?
  intro j
  rw [jpat_]
  by_cases hj : 20 + i = j
  · subst hj
    by_cases hl : 20 + i < h.length
    · rw [List.getElem?_set_self (by rw [jput_len]; exact hl), List.getElem?_eq_getElem hl, Option.map_some, if_pos (by omega), Nat.add_sub_cancel_left]; unfold va_up; rw [if_pos rfl]
    · rw [List.getElem?_eq_none (by rw [List.length_set, jput_len]; omega), List.getElem?_eq_none (by omega)]; rfl
  · rw [List.getElem?_set_ne hj, jpat_]
    cases h[j]? with
    | none => rfl
    | some c0 =>
      simp only [Option.map_some]
      by_cases hr : 20 ≤ j ∧ j < 53
      · rw [if_pos hr, if_pos hr]; unfold va_up; rw [if_neg (by omega)]
      · rw [if_neg hr, if_neg hr]
theorem jput_put (h : List jC) (M N : Nat → jC) : jput (jput h M) N = jput h N := by
  apply List.ext_getElem?
  intro j
  rw [jpat_, jpat_, jpat_]
  cases h[j]? with
  | none => rfl
  | some c0 => simp only [Option.map_some]; by_cases hr : 20 ≤ j ∧ j < 53 <;> simp [hr]
theorem jput_self {h : List jC} {M : Nat → jC} (hm : ∀ i, i < 33 → h[20 + i]? = some (M i)) : jput h M = h := by
  apply List.ext_getElem?
  intro j
  rw [jpat_]
  by_cases hr : 20 ≤ j ∧ j < 53
  · have := hm (j - 20) (by omega)
    rw [show 20 + (j - 20) = j by omega] at this
    rw [this]; simp [hr]
  · cases h[j]? <;> simp [hr]
/-- the cells with the reference's as told -/
def jR (h : List jC) (s : Nat → Int32) (I : jIs) (L : jLss) (F : jFs) : List jC := jput h (mc s I L F)
section jref
variable {h : List jC} {s : Nat → Int32} {I : jIs} {L : jLss} {F : jFs}
theorem m_0 (hh : 53 ≤ h.length) : (jR h s I L F)[20]? = some (mo s) := jput_get hh (mc s I L F) (i := 0) (by decide)
theorem mp_ext {M N : Nat → jC} (hm : ∀ i, i < 33 → M i = N i) (h : List jC) : jput h M = jput h N := by
  apply List.ext_getElem?
  intro j
  rw [jpat_, jpat_]
  by_cases hr : 20 ≤ j ∧ j < 53
  · rw [hm (j - 20) (by omega)]
  · cases h[j]? <;> simp [hr]
theorem mi_33 {P : Nat → Prop} (h : P 0 ∧ P 1 ∧ P 2 ∧ P 3 ∧ P 4 ∧ P 5 ∧ P 6 ∧ P 7 ∧ P 8 ∧ P 9 ∧ P 10 ∧ P 11 ∧ P 12 ∧ P 13 ∧ P 14 ∧ P 15 ∧ P 16 ∧ P 17 ∧ P 18 ∧ P 19 ∧ P 20 ∧ P 21 ∧ P 22 ∧ P 23 ∧ P 24 ∧ P 25 ∧ P 26 ∧ P 27 ∧ P 28 ∧ P 29 ∧ P 30 ∧ P 31 ∧ P 32) : ∀ i, i < 33 → P i := by
  obtain ⟨h0, h1, h2, h3, h4, h5, h6, h7, h8, h9, h10, h11, h12, h13, h14, h15, h16, h17, h18, h19, h20, h21, h22, h23, h24, h25, h26, h27, h28, h29, h30, h31, h32⟩ := h
  intro i hi
  match i, hi with
  | 0, _ => exact h0
  | 1, _ => exact h1
  | 2, _ => exact h2
  | 3, _ => exact h3
  | 4, _ => exact h4
  | 5, _ => exact h5
  | 6, _ => exact h6
  | 7, _ => exact h7
  | 8, _ => exact h8
  | 9, _ => exact h9
  | 10, _ => exact h10
  | 11, _ => exact h11
  | 12, _ => exact h12
  | 13, _ => exact h13
  | 14, _ => exact h14
  | 15, _ => exact h15
  | 16, _ => exact h16
  | 17, _ => exact h17
  | 18, _ => exact h18
  | 19, _ => exact h19
  | 20, _ => exact h20
  | 21, _ => exact h21
  | 22, _ => exact h22
  | 23, _ => exact h23
  | 24, _ => exact h24
  | 25, _ => exact h25
  | 26, _ => exact h26
  | 27, _ => exact h27
  | 28, _ => exact h28
  | 29, _ => exact h29
  | 30, _ => exact h30
  | 31, _ => exact h31
  | 32, _ => exact h32
  | i + 33, hi => omega
theorem ms_0 (s2 : Nat → Int32) : (jR h s I L F).set 20 (mo s2) = jR h s2 I L F := (jput_set h (mc s I L F) (i := 0) (by decide) (mo s2)).trans (mp_ext (M := va_up (mc s I L F) 0 (mo s2)) (N := mc s2 I L F) (mi_33 (P := fun i => va_up (mc s I L F) 0 (mo s2) i = mc s2 I L F i) ⟨rfl, rfl, rfl, rfl, rfl, rfl, rfl, rfl, rfl, rfl, rfl, rfl, rfl, rfl, rfl, rfl, rfl, rfl, rfl, rfl, rfl, rfl, rfl, rfl, rfl, rfl, rfl, rfl, rfl, rfl, rfl, rfl, rfl⟩) h)
theorem m_1 (hh : 53 ≤ h.length) : (jR h s I L F)[21]? = some (aI 3 (I 1)) := jput_get hh (mc s I L F) (i := 1) (by decide)
theorem ms_1 (g : Nat → Int32) : (jR h s I L F).set 21 (aI 3 g) = jR h s (va_up I 1 g) L F := (jput_set h (mc s I L F) (i := 1) (by decide) (aI 3 g)).trans (mp_ext (M := va_up (mc s I L F) 1 (aI 3 g)) (N := mc s (va_up I 1 g) L F) (mi_33 (P := fun i => va_up (mc s I L F) 1 (aI 3 g) i = mc s (va_up I 1 g) L F i) ⟨rfl, rfl, rfl, rfl, rfl, rfl, rfl, rfl, rfl, rfl, rfl, rfl, rfl, rfl, rfl, rfl, rfl, rfl, rfl, rfl, rfl, rfl, rfl, rfl, rfl, rfl, rfl, rfl, rfl, rfl, rfl, rfl, rfl⟩) h)
theorem m_2 (hh : 53 ≤ h.length) : (jR h s I L F)[22]? = some (aI 3 (I 2)) := jput_get hh (mc s I L F) (i := 2) (by decide)
theorem ms_2 (g : Nat → Int32) : (jR h s I L F).set 22 (aI 3 g) = jR h s (va_up I 2 g) L F := (jput_set h (mc s I L F) (i := 2) (by decide) (aI 3 g)).trans (mp_ext (M := va_up (mc s I L F) 2 (aI 3 g)) (N := mc s (va_up I 2 g) L F) (mi_33 (P := fun i => va_up (mc s I L F) 2 (aI 3 g) i = mc s (va_up I 2 g) L F i) ⟨rfl, rfl, rfl, rfl, rfl, rfl, rfl, rfl, rfl, rfl, rfl, rfl, rfl, rfl, rfl, rfl, rfl, rfl, rfl, rfl, rfl, rfl, rfl, rfl, rfl, rfl, rfl, rfl, rfl, rfl, rfl, rfl, rfl⟩) h)
theorem m_3 (hh : 53 ≤ h.length) : (jR h s I L F)[23]? = some (aI 4 (I 3)) := jput_get hh (mc s I L F) (i := 3) (by decide)
theorem ms_3 (g : Nat → Int32) : (jR h s I L F).set 23 (aI 4 g) = jR h s (va_up I 3 g) L F := (jput_set h (mc s I L F) (i := 3) (by decide) (aI 4 g)).trans (mp_ext (M := va_up (mc s I L F) 3 (aI 4 g)) (N := mc s (va_up I 3 g) L F) (mi_33 (P := fun i => va_up (mc s I L F) 3 (aI 4 g) i = mc s (va_up I 3 g) L F i) ⟨rfl, rfl, rfl, rfl, rfl, rfl, rfl, rfl, rfl, rfl, rfl, rfl, rfl, rfl, rfl, rfl, rfl, rfl, rfl, rfl, rfl, rfl, rfl, rfl, rfl, rfl, rfl, rfl, rfl, rfl, rfl, rfl, rfl⟩) h)
theorem m_4 (hh : 53 ≤ h.length) : (jR h s I L F)[24]? = some (aL 128 (L 4)) := jput_get hh (mc s I L F) (i := 4) (by decide)
theorem ms_4 (g : Nat → Int64) : (jR h s I L F).set 24 (aL 128 g) = jR h s I (va_up L 4 g) F := (jput_set h (mc s I L F) (i := 4) (by decide) (aL 128 g)).trans (mp_ext (M := va_up (mc s I L F) 4 (aL 128 g)) (N := mc s I (va_up L 4 g) F) (mi_33 (P := fun i => va_up (mc s I L F) 4 (aL 128 g) i = mc s I (va_up L 4 g) F i) ⟨rfl, rfl, rfl, rfl, rfl, rfl, rfl, rfl, rfl, rfl, rfl, rfl, rfl, rfl, rfl, rfl, rfl, rfl, rfl, rfl, rfl, rfl, rfl, rfl, rfl, rfl, rfl, rfl, rfl, rfl, rfl, rfl, rfl⟩) h)
theorem m_5 (hh : 53 ≤ h.length) : (jR h s I L F)[25]? = some (aL 32 (L 5)) := jput_get hh (mc s I L F) (i := 5) (by decide)
theorem ms_5 (g : Nat → Int64) : (jR h s I L F).set 25 (aL 32 g) = jR h s I (va_up L 5 g) F := (jput_set h (mc s I L F) (i := 5) (by decide) (aL 32 g)).trans (mp_ext (M := va_up (mc s I L F) 5 (aL 32 g)) (N := mc s I (va_up L 5 g) F) (mi_33 (P := fun i => va_up (mc s I L F) 5 (aL 32 g) i = mc s I (va_up L 5 g) F i) ⟨rfl, rfl, rfl, rfl, rfl, rfl, rfl, rfl, rfl, rfl, rfl, rfl, rfl, rfl, rfl, rfl, rfl, rfl, rfl, rfl, rfl, rfl, rfl, rfl, rfl, rfl, rfl, rfl, rfl, rfl, rfl, rfl, rfl⟩) h)
theorem m_6 (hh : 53 ≤ h.length) : (jR h s I L F)[26]? = some (aI 8 (I 6)) := jput_get hh (mc s I L F) (i := 6) (by decide)
theorem ms_6 (g : Nat → Int32) : (jR h s I L F).set 26 (aI 8 g) = jR h s (va_up I 6 g) L F := (jput_set h (mc s I L F) (i := 6) (by decide) (aI 8 g)).trans (mp_ext (M := va_up (mc s I L F) 6 (aI 8 g)) (N := mc s (va_up I 6 g) L F) (mi_33 (P := fun i => va_up (mc s I L F) 6 (aI 8 g) i = mc s (va_up I 6 g) L F i) ⟨rfl, rfl, rfl, rfl, rfl, rfl, rfl, rfl, rfl, rfl, rfl, rfl, rfl, rfl, rfl, rfl, rfl, rfl, rfl, rfl, rfl, rfl, rfl, rfl, rfl, rfl, rfl, rfl, rfl, rfl, rfl, rfl, rfl⟩) h)
theorem m_7 (hh : 53 ≤ h.length) : (jR h s I L F)[27]? = some (aI 8 (I 7)) := jput_get hh (mc s I L F) (i := 7) (by decide)
theorem ms_7 (g : Nat → Int32) : (jR h s I L F).set 27 (aI 8 g) = jR h s (va_up I 7 g) L F := (jput_set h (mc s I L F) (i := 7) (by decide) (aI 8 g)).trans (mp_ext (M := va_up (mc s I L F) 7 (aI 8 g)) (N := mc s (va_up I 7 g) L F) (mi_33 (P := fun i => va_up (mc s I L F) 7 (aI 8 g) i = mc s (va_up I 7 g) L F i) ⟨rfl, rfl, rfl, rfl, rfl, rfl, rfl, rfl, rfl, rfl, rfl, rfl, rfl, rfl, rfl, rfl, rfl, rfl, rfl, rfl, rfl, rfl, rfl, rfl, rfl, rfl, rfl, rfl, rfl, rfl, rfl, rfl, rfl⟩) h)
theorem m_8 (hh : 53 ≤ h.length) : (jR h s I L F)[28]? = some (aL 256 (L 8)) := jput_get hh (mc s I L F) (i := 8) (by decide)
theorem ms_8 (g : Nat → Int64) : (jR h s I L F).set 28 (aL 256 g) = jR h s I (va_up L 8 g) F := (jput_set h (mc s I L F) (i := 8) (by decide) (aL 256 g)).trans (mp_ext (M := va_up (mc s I L F) 8 (aL 256 g)) (N := mc s I (va_up L 8 g) F) (mi_33 (P := fun i => va_up (mc s I L F) 8 (aL 256 g) i = mc s I (va_up L 8 g) F i) ⟨rfl, rfl, rfl, rfl, rfl, rfl, rfl, rfl, rfl, rfl, rfl, rfl, rfl, rfl, rfl, rfl, rfl, rfl, rfl, rfl, rfl, rfl, rfl, rfl, rfl, rfl, rfl, rfl, rfl, rfl, rfl, rfl, rfl⟩) h)
theorem m_9 (hh : 53 ≤ h.length) : (jR h s I L F)[29]? = some (aI 32 (I 9)) := jput_get hh (mc s I L F) (i := 9) (by decide)
theorem ms_9 (g : Nat → Int32) : (jR h s I L F).set 29 (aI 32 g) = jR h s (va_up I 9 g) L F := (jput_set h (mc s I L F) (i := 9) (by decide) (aI 32 g)).trans (mp_ext (M := va_up (mc s I L F) 9 (aI 32 g)) (N := mc s (va_up I 9 g) L F) (mi_33 (P := fun i => va_up (mc s I L F) 9 (aI 32 g) i = mc s (va_up I 9 g) L F i) ⟨rfl, rfl, rfl, rfl, rfl, rfl, rfl, rfl, rfl, rfl, rfl, rfl, rfl, rfl, rfl, rfl, rfl, rfl, rfl, rfl, rfl, rfl, rfl, rfl, rfl, rfl, rfl, rfl, rfl, rfl, rfl, rfl, rfl⟩) h)
theorem m_10 (hh : 53 ≤ h.length) : (jR h s I L F)[30]? = some (aI 7 (I 10)) := jput_get hh (mc s I L F) (i := 10) (by decide)
theorem ms_10 (g : Nat → Int32) : (jR h s I L F).set 30 (aI 7 g) = jR h s (va_up I 10 g) L F := (jput_set h (mc s I L F) (i := 10) (by decide) (aI 7 g)).trans (mp_ext (M := va_up (mc s I L F) 10 (aI 7 g)) (N := mc s (va_up I 10 g) L F) (mi_33 (P := fun i => va_up (mc s I L F) 10 (aI 7 g) i = mc s (va_up I 10 g) L F i) ⟨rfl, rfl, rfl, rfl, rfl, rfl, rfl, rfl, rfl, rfl, rfl, rfl, rfl, rfl, rfl, rfl, rfl, rfl, rfl, rfl, rfl, rfl, rfl, rfl, rfl, rfl, rfl, rfl, rfl, rfl, rfl, rfl, rfl⟩) h)
theorem m_11 (hh : 53 ≤ h.length) : (jR h s I L F)[31]? = some (aI 6 (I 11)) := jput_get hh (mc s I L F) (i := 11) (by decide)
theorem ms_11 (g : Nat → Int32) : (jR h s I L F).set 31 (aI 6 g) = jR h s (va_up I 11 g) L F := (jput_set h (mc s I L F) (i := 11) (by decide) (aI 6 g)).trans (mp_ext (M := va_up (mc s I L F) 11 (aI 6 g)) (N := mc s (va_up I 11 g) L F) (mi_33 (P := fun i => va_up (mc s I L F) 11 (aI 6 g) i = mc s (va_up I 11 g) L F i) ⟨rfl, rfl, rfl, rfl, rfl, rfl, rfl, rfl, rfl, rfl, rfl, rfl, rfl, rfl, rfl, rfl, rfl, rfl, rfl, rfl, rfl, rfl, rfl, rfl, rfl, rfl, rfl, rfl, rfl, rfl, rfl, rfl, rfl⟩) h)
theorem m_12 (hh : 53 ≤ h.length) : (jR h s I L F)[32]? = some (aI 7 (I 12)) := jput_get hh (mc s I L F) (i := 12) (by decide)
theorem ms_12 (g : Nat → Int32) : (jR h s I L F).set 32 (aI 7 g) = jR h s (va_up I 12 g) L F := (jput_set h (mc s I L F) (i := 12) (by decide) (aI 7 g)).trans (mp_ext (M := va_up (mc s I L F) 12 (aI 7 g)) (N := mc s (va_up I 12 g) L F) (mi_33 (P := fun i => va_up (mc s I L F) 12 (aI 7 g) i = mc s (va_up I 12 g) L F i) ⟨rfl, rfl, rfl, rfl, rfl, rfl, rfl, rfl, rfl, rfl, rfl, rfl, rfl, rfl, rfl, rfl, rfl, rfl, rfl, rfl, rfl, rfl, rfl, rfl, rfl, rfl, rfl, rfl, rfl, rfl, rfl, rfl, rfl⟩) h)
theorem m_13 (hh : 53 ≤ h.length) : (jR h s I L F)[33]? = some (aF 6 (F 13)) := jput_get hh (mc s I L F) (i := 13) (by decide)
theorem ms_13 (g : Nat → UInt32) : (jR h s I L F).set 33 (aF 6 g) = jR h s I L (va_up F 13 g) := (jput_set h (mc s I L F) (i := 13) (by decide) (aF 6 g)).trans (mp_ext (M := va_up (mc s I L F) 13 (aF 6 g)) (N := mc s I L (va_up F 13 g)) (mi_33 (P := fun i => va_up (mc s I L F) 13 (aF 6 g) i = mc s I L (va_up F 13 g) i) ⟨rfl, rfl, rfl, rfl, rfl, rfl, rfl, rfl, rfl, rfl, rfl, rfl, rfl, rfl, rfl, rfl, rfl, rfl, rfl, rfl, rfl, rfl, rfl, rfl, rfl, rfl, rfl, rfl, rfl, rfl, rfl, rfl, rfl⟩) h)
theorem m_14 (hh : 53 ≤ h.length) : (jR h s I L F)[34]? = some (aZ 3 (I 14)) := jput_get hh (mc s I L F) (i := 14) (by decide)
theorem ms_14 (g : Nat → Int32) : (jR h s I L F).set 34 (aZ 3 g) = jR h s (va_up I 14 g) L F := (jput_set h (mc s I L F) (i := 14) (by decide) (aZ 3 g)).trans (mp_ext (M := va_up (mc s I L F) 14 (aZ 3 g)) (N := mc s (va_up I 14 g) L F) (mi_33 (P := fun i => va_up (mc s I L F) 14 (aZ 3 g) i = mc s (va_up I 14 g) L F i) ⟨rfl, rfl, rfl, rfl, rfl, rfl, rfl, rfl, rfl, rfl, rfl, rfl, rfl, rfl, rfl, rfl, rfl, rfl, rfl, rfl, rfl, rfl, rfl, rfl, rfl, rfl, rfl, rfl, rfl, rfl, rfl, rfl, rfl⟩) h)
theorem m_15 (hh : 53 ≤ h.length) : (jR h s I L F)[35]? = some (aI 3 (I 15)) := jput_get hh (mc s I L F) (i := 15) (by decide)
theorem ms_15 (g : Nat → Int32) : (jR h s I L F).set 35 (aI 3 g) = jR h s (va_up I 15 g) L F := (jput_set h (mc s I L F) (i := 15) (by decide) (aI 3 g)).trans (mp_ext (M := va_up (mc s I L F) 15 (aI 3 g)) (N := mc s (va_up I 15 g) L F) (mi_33 (P := fun i => va_up (mc s I L F) 15 (aI 3 g) i = mc s (va_up I 15 g) L F i) ⟨rfl, rfl, rfl, rfl, rfl, rfl, rfl, rfl, rfl, rfl, rfl, rfl, rfl, rfl, rfl, rfl, rfl, rfl, rfl, rfl, rfl, rfl, rfl, rfl, rfl, rfl, rfl, rfl, rfl, rfl, rfl, rfl, rfl⟩) h)
theorem m_16 (hh : 53 ≤ h.length) : (jR h s I L F)[36]? = some (aI 120 (I 16)) := jput_get hh (mc s I L F) (i := 16) (by decide)
theorem ms_16 (g : Nat → Int32) : (jR h s I L F).set 36 (aI 120 g) = jR h s (va_up I 16 g) L F := (jput_set h (mc s I L F) (i := 16) (by decide) (aI 120 g)).trans (mp_ext (M := va_up (mc s I L F) 16 (aI 120 g)) (N := mc s (va_up I 16 g) L F) (mi_33 (P := fun i => va_up (mc s I L F) 16 (aI 120 g) i = mc s (va_up I 16 g) L F i) ⟨rfl, rfl, rfl, rfl, rfl, rfl, rfl, rfl, rfl, rfl, rfl, rfl, rfl, rfl, rfl, rfl, rfl, rfl, rfl, rfl, rfl, rfl, rfl, rfl, rfl, rfl, rfl, rfl, rfl, rfl, rfl, rfl, rfl⟩) h)
theorem m_17 (hh : 53 ≤ h.length) : (jR h s I L F)[37]? = some (aI 40 (I 17)) := jput_get hh (mc s I L F) (i := 17) (by decide)
theorem ms_17 (g : Nat → Int32) : (jR h s I L F).set 37 (aI 40 g) = jR h s (va_up I 17 g) L F := (jput_set h (mc s I L F) (i := 17) (by decide) (aI 40 g)).trans (mp_ext (M := va_up (mc s I L F) 17 (aI 40 g)) (N := mc s (va_up I 17 g) L F) (mi_33 (P := fun i => va_up (mc s I L F) 17 (aI 40 g) i = mc s (va_up I 17 g) L F i) ⟨rfl, rfl, rfl, rfl, rfl, rfl, rfl, rfl, rfl, rfl, rfl, rfl, rfl, rfl, rfl, rfl, rfl, rfl, rfl, rfl, rfl, rfl, rfl, rfl, rfl, rfl, rfl, rfl, rfl, rfl, rfl, rfl, rfl⟩) h)
theorem m_18 (hh : 53 ≤ h.length) : (jR h s I L F)[38]? = some (aI 12 (I 18)) := jput_get hh (mc s I L F) (i := 18) (by decide)
theorem ms_18 (g : Nat → Int32) : (jR h s I L F).set 38 (aI 12 g) = jR h s (va_up I 18 g) L F := (jput_set h (mc s I L F) (i := 18) (by decide) (aI 12 g)).trans (mp_ext (M := va_up (mc s I L F) 18 (aI 12 g)) (N := mc s (va_up I 18 g) L F) (mi_33 (P := fun i => va_up (mc s I L F) 18 (aI 12 g) i = mc s (va_up I 18 g) L F i) ⟨rfl, rfl, rfl, rfl, rfl, rfl, rfl, rfl, rfl, rfl, rfl, rfl, rfl, rfl, rfl, rfl, rfl, rfl, rfl, rfl, rfl, rfl, rfl, rfl, rfl, rfl, rfl, rfl, rfl, rfl, rfl, rfl, rfl⟩) h)
theorem m_19 (hh : 53 ≤ h.length) : (jR h s I L F)[39]? = some (aI 12 (I 19)) := jput_get hh (mc s I L F) (i := 19) (by decide)
theorem ms_19 (g : Nat → Int32) : (jR h s I L F).set 39 (aI 12 g) = jR h s (va_up I 19 g) L F := (jput_set h (mc s I L F) (i := 19) (by decide) (aI 12 g)).trans (mp_ext (M := va_up (mc s I L F) 19 (aI 12 g)) (N := mc s (va_up I 19 g) L F) (mi_33 (P := fun i => va_up (mc s I L F) 19 (aI 12 g) i = mc s (va_up I 19 g) L F i) ⟨rfl, rfl, rfl, rfl, rfl, rfl, rfl, rfl, rfl, rfl, rfl, rfl, rfl, rfl, rfl, rfl, rfl, rfl, rfl, rfl, rfl, rfl, rfl, rfl, rfl, rfl, rfl, rfl, rfl, rfl, rfl, rfl, rfl⟩) h)
theorem m_20 (hh : 53 ≤ h.length) : (jR h s I L F)[40]? = some (aL 480 (L 20)) := jput_get hh (mc s I L F) (i := 20) (by decide)
theorem ms_20 (g : Nat → Int64) : (jR h s I L F).set 40 (aL 480 g) = jR h s I (va_up L 20 g) F := (jput_set h (mc s I L F) (i := 20) (by decide) (aL 480 g)).trans (mp_ext (M := va_up (mc s I L F) 20 (aL 480 g)) (N := mc s I (va_up L 20 g) F) (mi_33 (P := fun i => va_up (mc s I L F) 20 (aL 480 g) i = mc s I (va_up L 20 g) F i) ⟨rfl, rfl, rfl, rfl, rfl, rfl, rfl, rfl, rfl, rfl, rfl, rfl, rfl, rfl, rfl, rfl, rfl, rfl, rfl, rfl, rfl, rfl, rfl, rfl, rfl, rfl, rfl, rfl, rfl, rfl, rfl, rfl, rfl⟩) h)
theorem m_21 (hh : 53 ≤ h.length) : (jR h s I L F)[41]? = some (aI 80 (I 21)) := jput_get hh (mc s I L F) (i := 21) (by decide)
theorem ms_21 (g : Nat → Int32) : (jR h s I L F).set 41 (aI 80 g) = jR h s (va_up I 21 g) L F := (jput_set h (mc s I L F) (i := 21) (by decide) (aI 80 g)).trans (mp_ext (M := va_up (mc s I L F) 21 (aI 80 g)) (N := mc s (va_up I 21 g) L F) (mi_33 (P := fun i => va_up (mc s I L F) 21 (aI 80 g) i = mc s (va_up I 21 g) L F i) ⟨rfl, rfl, rfl, rfl, rfl, rfl, rfl, rfl, rfl, rfl, rfl, rfl, rfl, rfl, rfl, rfl, rfl, rfl, rfl, rfl, rfl, rfl, rfl, rfl, rfl, rfl, rfl, rfl, rfl, rfl, rfl, rfl, rfl⟩) h)
theorem m_22 (hh : 53 ≤ h.length) : (jR h s I L F)[42]? = some (aI 80 (I 22)) := jput_get hh (mc s I L F) (i := 22) (by decide)
theorem ms_22 (g : Nat → Int32) : (jR h s I L F).set 42 (aI 80 g) = jR h s (va_up I 22 g) L F := (jput_set h (mc s I L F) (i := 22) (by decide) (aI 80 g)).trans (mp_ext (M := va_up (mc s I L F) 22 (aI 80 g)) (N := mc s (va_up I 22 g) L F) (mi_33 (P := fun i => va_up (mc s I L F) 22 (aI 80 g) i = mc s (va_up I 22 g) L F i) ⟨rfl, rfl, rfl, rfl, rfl, rfl, rfl, rfl, rfl, rfl, rfl, rfl, rfl, rfl, rfl, rfl, rfl, rfl, rfl, rfl, rfl, rfl, rfl, rfl, rfl, rfl, rfl, rfl, rfl, rfl, rfl, rfl, rfl⟩) h)
theorem m_23 (hh : 53 ≤ h.length) : (jR h s I L F)[43]? = some (aZ 80 (I 23)) := jput_get hh (mc s I L F) (i := 23) (by decide)
theorem ms_23 (g : Nat → Int32) : (jR h s I L F).set 43 (aZ 80 g) = jR h s (va_up I 23 g) L F := (jput_set h (mc s I L F) (i := 23) (by decide) (aZ 80 g)).trans (mp_ext (M := va_up (mc s I L F) 23 (aZ 80 g)) (N := mc s (va_up I 23 g) L F) (mi_33 (P := fun i => va_up (mc s I L F) 23 (aZ 80 g) i = mc s (va_up I 23 g) L F i) ⟨rfl, rfl, rfl, rfl, rfl, rfl, rfl, rfl, rfl, rfl, rfl, rfl, rfl, rfl, rfl, rfl, rfl, rfl, rfl, rfl, rfl, rfl, rfl, rfl, rfl, rfl, rfl, rfl, rfl, rfl, rfl, rfl, rfl⟩) h)
theorem m_24 (hh : 53 ≤ h.length) : (jR h s I L F)[44]? = some (aI 80 (I 24)) := jput_get hh (mc s I L F) (i := 24) (by decide)
theorem ms_24 (g : Nat → Int32) : (jR h s I L F).set 44 (aI 80 g) = jR h s (va_up I 24 g) L F := (jput_set h (mc s I L F) (i := 24) (by decide) (aI 80 g)).trans (mp_ext (M := va_up (mc s I L F) 24 (aI 80 g)) (N := mc s (va_up I 24 g) L F) (mi_33 (P := fun i => va_up (mc s I L F) 24 (aI 80 g) i = mc s (va_up I 24 g) L F i) ⟨rfl, rfl, rfl, rfl, rfl, rfl, rfl, rfl, rfl, rfl, rfl, rfl, rfl, rfl, rfl, rfl, rfl, rfl, rfl, rfl, rfl, rfl, rfl, rfl, rfl, rfl, rfl, rfl, rfl, rfl, rfl, rfl, rfl⟩) h)
theorem m_25 (hh : 53 ≤ h.length) : (jR h s I L F)[45]? = some (aL 80 (L 25)) := jput_get hh (mc s I L F) (i := 25) (by decide)
theorem ms_25 (g : Nat → Int64) : (jR h s I L F).set 45 (aL 80 g) = jR h s I (va_up L 25 g) F := (jput_set h (mc s I L F) (i := 25) (by decide) (aL 80 g)).trans (mp_ext (M := va_up (mc s I L F) 25 (aL 80 g)) (N := mc s I (va_up L 25 g) F) (mi_33 (P := fun i => va_up (mc s I L F) 25 (aL 80 g) i = mc s I (va_up L 25 g) F i) ⟨rfl, rfl, rfl, rfl, rfl, rfl, rfl, rfl, rfl, rfl, rfl, rfl, rfl, rfl, rfl, rfl, rfl, rfl, rfl, rfl, rfl, rfl, rfl, rfl, rfl, rfl, rfl, rfl, rfl, rfl, rfl, rfl, rfl⟩) h)
theorem m_26 (hh : 53 ≤ h.length) : (jR h s I L F)[46]? = some (aI 4 (I 26)) := jput_get hh (mc s I L F) (i := 26) (by decide)
theorem ms_26 (g : Nat → Int32) : (jR h s I L F).set 46 (aI 4 g) = jR h s (va_up I 26 g) L F := (jput_set h (mc s I L F) (i := 26) (by decide) (aI 4 g)).trans (mp_ext (M := va_up (mc s I L F) 26 (aI 4 g)) (N := mc s (va_up I 26 g) L F) (mi_33 (P := fun i => va_up (mc s I L F) 26 (aI 4 g) i = mc s (va_up I 26 g) L F i) ⟨rfl, rfl, rfl, rfl, rfl, rfl, rfl, rfl, rfl, rfl, rfl, rfl, rfl, rfl, rfl, rfl, rfl, rfl, rfl, rfl, rfl, rfl, rfl, rfl, rfl, rfl, rfl, rfl, rfl, rfl, rfl, rfl, rfl⟩) h)
theorem m_27 (hh : 53 ≤ h.length) : (jR h s I L F)[47]? = some (aL 128 (L 27)) := jput_get hh (mc s I L F) (i := 27) (by decide)
theorem ms_27 (g : Nat → Int64) : (jR h s I L F).set 47 (aL 128 g) = jR h s I (va_up L 27 g) F := (jput_set h (mc s I L F) (i := 27) (by decide) (aL 128 g)).trans (mp_ext (M := va_up (mc s I L F) 27 (aL 128 g)) (N := mc s I (va_up L 27 g) F) (mi_33 (P := fun i => va_up (mc s I L F) 27 (aL 128 g) i = mc s I (va_up L 27 g) F i) ⟨rfl, rfl, rfl, rfl, rfl, rfl, rfl, rfl, rfl, rfl, rfl, rfl, rfl, rfl, rfl, rfl, rfl, rfl, rfl, rfl, rfl, rfl, rfl, rfl, rfl, rfl, rfl, rfl, rfl, rfl, rfl, rfl, rfl⟩) h)
theorem m_28 (hh : 53 ≤ h.length) : (jR h s I L F)[48]? = some (aI 7 (I 28)) := jput_get hh (mc s I L F) (i := 28) (by decide)
theorem ms_28 (g : Nat → Int32) : (jR h s I L F).set 48 (aI 7 g) = jR h s (va_up I 28 g) L F := (jput_set h (mc s I L F) (i := 28) (by decide) (aI 7 g)).trans (mp_ext (M := va_up (mc s I L F) 28 (aI 7 g)) (N := mc s (va_up I 28 g) L F) (mi_33 (P := fun i => va_up (mc s I L F) 28 (aI 7 g) i = mc s (va_up I 28 g) L F i) ⟨rfl, rfl, rfl, rfl, rfl, rfl, rfl, rfl, rfl, rfl, rfl, rfl, rfl, rfl, rfl, rfl, rfl, rfl, rfl, rfl, rfl, rfl, rfl, rfl, rfl, rfl, rfl, rfl, rfl, rfl, rfl, rfl, rfl⟩) h)
theorem m_29 (hh : 53 ≤ h.length) : (jR h s I L F)[49]? = some (aF 6 (F 29)) := jput_get hh (mc s I L F) (i := 29) (by decide)
theorem ms_29 (g : Nat → UInt32) : (jR h s I L F).set 49 (aF 6 g) = jR h s I L (va_up F 29 g) := (jput_set h (mc s I L F) (i := 29) (by decide) (aF 6 g)).trans (mp_ext (M := va_up (mc s I L F) 29 (aF 6 g)) (N := mc s I L (va_up F 29 g)) (mi_33 (P := fun i => va_up (mc s I L F) 29 (aF 6 g) i = mc s I L (va_up F 29 g) i) ⟨rfl, rfl, rfl, rfl, rfl, rfl, rfl, rfl, rfl, rfl, rfl, rfl, rfl, rfl, rfl, rfl, rfl, rfl, rfl, rfl, rfl, rfl, rfl, rfl, rfl, rfl, rfl, rfl, rfl, rfl, rfl, rfl, rfl⟩) h)
theorem m_30 (hh : 53 ≤ h.length) : (jR h s I L F)[50]? = some (aI 12 (I 30)) := jput_get hh (mc s I L F) (i := 30) (by decide)
theorem ms_30 (g : Nat → Int32) : (jR h s I L F).set 50 (aI 12 g) = jR h s (va_up I 30 g) L F := (jput_set h (mc s I L F) (i := 30) (by decide) (aI 12 g)).trans (mp_ext (M := va_up (mc s I L F) 30 (aI 12 g)) (N := mc s (va_up I 30 g) L F) (mi_33 (P := fun i => va_up (mc s I L F) 30 (aI 12 g) i = mc s (va_up I 30 g) L F i) ⟨rfl, rfl, rfl, rfl, rfl, rfl, rfl, rfl, rfl, rfl, rfl, rfl, rfl, rfl, rfl, rfl, rfl, rfl, rfl, rfl, rfl, rfl, rfl, rfl, rfl, rfl, rfl, rfl, rfl, rfl, rfl, rfl, rfl⟩) h)
theorem m_31 (hh : 53 ≤ h.length) : (jR h s I L F)[51]? = some (aI 12 (I 31)) := jput_get hh (mc s I L F) (i := 31) (by decide)
theorem ms_31 (g : Nat → Int32) : (jR h s I L F).set 51 (aI 12 g) = jR h s (va_up I 31 g) L F := (jput_set h (mc s I L F) (i := 31) (by decide) (aI 12 g)).trans (mp_ext (M := va_up (mc s I L F) 31 (aI 12 g)) (N := mc s (va_up I 31 g) L F) (mi_33 (P := fun i => va_up (mc s I L F) 31 (aI 12 g) i = mc s (va_up I 31 g) L F i) ⟨rfl, rfl, rfl, rfl, rfl, rfl, rfl, rfl, rfl, rfl, rfl, rfl, rfl, rfl, rfl, rfl, rfl, rfl, rfl, rfl, rfl, rfl, rfl, rfl, rfl, rfl, rfl, rfl, rfl, rfl, rfl, rfl, rfl⟩) h)
theorem m_32 (hh : 53 ≤ h.length) : (jR h s I L F)[52]? = some (aL 480 (L 32)) := jput_get hh (mc s I L F) (i := 32) (by decide)
theorem ms_32 (g : Nat → Int64) : (jR h s I L F).set 52 (aL 480 g) = jR h s I (va_up L 32 g) F := (jput_set h (mc s I L F) (i := 32) (by decide) (aL 480 g)).trans (mp_ext (M := va_up (mc s I L F) 32 (aL 480 g)) (N := mc s I (va_up L 32 g) F) (mi_33 (P := fun i => va_up (mc s I L F) 32 (aL 480 g) i = mc s I (va_up L 32 g) F i) ⟨rfl, rfl, rfl, rfl, rfl, rfl, rfl, rfl, rfl, rfl, rfl, rfl, rfl, rfl, rfl, rfl, rfl, rfl, rfl, rfl, rfl, rfl, rfl, rfl, rfl, rfl, rfl, rfl, rfl, rfl, rfl, rfl, rfl⟩) h)
end jref
