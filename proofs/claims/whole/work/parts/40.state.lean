/-! THE STATE, in plain values: registers, steps, order, cells, racks, rows, tape, reasons, image; and how the reference's rows hold it -/
abbrev zReg : Type := Nat × (Nat → Int64)
abbrev zRow : Type := Nat × (Nat → Int32)
abbrev zOrd : Type := Nat × (Nat → Nat)
abbrev zItm : Type := zReg ⊕ zRow
abbrev zImg : Type := (Nat → zReg) × zOrd × (Nat → UInt32) × (Nat → Option zItm)
abbrev zS : Type := (Nat → zReg) × List (Nat × zReg) × zOrd × (Nat → UInt32) × (Nat → Option zItm) × (Nat → Option zRow) × (Nat × (Nat → Nat)) × List (Int32 × Int32) × Option zImg
abbrev zR (z : zS) : Nat → zReg := z.1
abbrev zT (z : zS) : List (Nat × zReg) := z.2.1
abbrev zO (z : zS) : zOrd := z.2.2.1
abbrev zC (z : zS) : Nat → UInt32 := z.2.2.2.1
abbrev zK (z : zS) : Nat → Option zItm := z.2.2.2.2.1
abbrev zW (z : zS) : Nat → Option zRow := z.2.2.2.2.2.1
abbrev zP (z : zS) : Nat × (Nat → Nat) := z.2.2.2.2.2.2.1
abbrev zX (z : zS) : List (Int32 × Int32) := z.2.2.2.2.2.2.2.1
abbrev zI (z : zS) : Option zImg := z.2.2.2.2.2.2.2.2
/-- sums of one weight have the same numbers -/
def zsame (x y : zReg) : Prop := x.1 = y.1 ∧ ∀ c, c < 32 → x.2 c = y.2 c
def zsameb (x y : zReg) : Bool := decide (x.1 = y.1) && (List.range 32).all (fun c => decide (x.2 c = y.2 c))
theorem zsameb_iff {x y : zReg} : zsameb x y = true ↔ zsame x y := by
  simp [zsameb, zsame]
def zdrop (T : List (Nat × zReg)) : List (Nat × zReg) := if T.length = 8 then T.drop 1 else T
/-- a register becomes x: a step, if that makes it otherwise -/
def zbec (R : Nat → zReg) (T : List (Nat × zReg)) (r : Nat) (x : zReg) : (Nat → zReg) × List (Nat × zReg) :=
  if zsameb (R r) x = true then (R, T) else (va_up R r x, zdrop T ++ [(r, R r)])
def zbecS (z : zS) (r : Nat) (x : zReg) : zS := ((zbec (zR z) (zT z) r x).1, (zbec (zR z) (zT z) r x).2, z.2.2)
/-- what every state keeps to -/
def zcan (x : zReg) : Prop := x.1 ≤ 6 ∧ ∀ c, c < 32 → jmany x.1 ≤ c → x.2 c = 0
/-! how the reference holds it -/
def eReg (a : Nat → Int32) (b : Nat → Int64) (R : Nat → zReg) : Prop := ∀ r, r < 4 → a r = nI (R r).1 ∧ ∀ c, c < 32 → b (32 * r + c) = (R r).2 c
def eStp (n : Int32) (a6 a7 : Nat → Int32) (b : Nat → Int64) (T : List (Nat × zReg)) : Prop := n = nI T.length ∧ ∀ i q, T[i]? = some q → a6 i = nI q.1 ∧ a7 i = nI q.2.1 ∧ ∀ c, c < 32 → b (32 * i + c) = q.2.2 c
def eOrd (p : Int32) (a : Nat → Int32) (o : zOrd) : Prop := p = nI o.1 ∧ ∀ j, j < 7 → a j = nI (2 * o.2 j)
def eCel (a x : Nat → UInt32) : Prop := ∀ k, k < 6 → a k = x k
def eItm (k n : Int32) (b : Nat → Int64) (x : Option zItm) : Prop := match x with
  | none => k = nI 0
  | some (.inl q) => k = nI 1 ∧ n = nI q.1 ∧ ∀ c, c < 32 → b c = q.2 c
  | some (.inr q) => k = nI 2 ∧ n = nI q.1 ∧ ∀ c, c < q.1 → b c = (q.2 c).toInt64
def eRck (a n : Nat → Int32) (b : Nat → Int64) (K : Nat → Option zItm) : Prop := ∀ p, p < 12 → eItm (a p) (n p) (fun c => b (40 * p + c)) (K p)
def eRow (t n a : Nat → Int32) (W : Nat → Option zRow) : Prop := ∀ r, r < 3 → match W r with
  | none => t r = nI 0
  | some q => t r = nI 1 ∧ n r = nI q.1 ∧ ∀ j, j < q.1 → a (40 * r + j) = q.2 j
def eTap (n : Int32) (a : Nat → Int32) (t : Nat × (Nat → Nat)) : Prop := n = nI t.1 ∧ ∀ j, j < t.1 → a j = nI (t.2 j)
def eTrb (n : Int32) (a b : Nat → Int32) (x : List (Int32 × Int32)) : Prop := n = nI x.length ∧ ∀ i q, x[i]? = some q → a i = q.1 ∧ b i = q.2
def eKep (p : Int32) (w u k n : Nat → Int32) (b hb : Nat → Int64) (f : Nat → UInt32) (x : Option zImg) : Prop := match x with
  | none => p = -2
  | some q => eReg w b q.1 ∧ eOrd p u q.2.1 ∧ eCel f q.2.2.1 ∧ eRck k n hb q.2.2.2
def eMis (s : Nat → Int32) : Prop := (s 0 = nI 0 ∨ s 0 = nI 1) ∧ (s 7 = nI 0 ∨ s 7 = nI 1)
def EncR (s : Nat → Int32) (I : jIs) (L : jLss) (F : jFs) (z : zS) : Prop :=
  eMis s ∧ eReg (I 3) (L 4) (zR z) ∧ eStp (s 2) (I 6) (I 7) (L 8) (zT z) ∧ eOrd (s 3) (I 10) (zO z) ∧ eCel (F 13) (zC z) ∧ eRck (I 18) (I 19) (L 20) (zK z) ∧ eRow (I 14) (I 15) (I 16) (zW z) ∧ eTap (s 5) (I 21) (zP z) ∧ eTrb (s 1) (I 1) (I 2) (zX z) ∧ eKep (s 9) (I 26) (I 28) (I 30) (I 31) (L 27) (L 32) (F 29) (zI z)
/-- an order: bits within its things, none below itself, what is below one below is below -/
def zordOk (o : zOrd) : Prop := o.1 ≤ 6 ∧ ∀ j, j < 7 → o.2 j < 2 ^ o.1 ∧ (j = 0 ∨ o.1 < j → o.2 j = 0) ∧ (0 < j → (o.2 j).testBit (j - 1) = false) ∧ ∀ i, 0 < i → (o.2 j).testBit (i - 1) = true → ∀ k, (o.2 i).testBit k = true → (o.2 j).testBit k = true
def zitmOk (x : Option zItm) : Prop := match x with
  | none => True
  | some (.inl q) => zcan q
  | some (.inr q) => q.1 ≤ 40
def zWF (z : zS) : Prop := (∀ r, r < 4 → zcan (zR z r)) ∧ ((zT z).length ≤ 8 ∧ ∀ q ∈ zT z, q.1 < 4 ∧ zcan q.2) ∧ zordOk (zO z) ∧ (∀ p, p < 12 → zitmOk (zK z p)) ∧ (∀ r, r < 3 → ∀ q, zW z r = some q → q.1 ≤ 40) ∧ ((zP z).1 ≤ 80 ∧ ∀ j, (zP z).2 j < 128) ∧ (zX z).length ≤ 2 ∧ ∀ q, zI z = some q → (∀ r, r < 4 → zcan (q.1 r)) ∧ zordOk q.2.1 ∧ ∀ p, p < 12 → zitmOk (q.2.2.2 p)
/-- what comes of an order of the reference: its answer, and its cells hold the state then -/
def zPost (h : List jC) (res : Value) (z : zS) : jPost := fun r h' => r = some res ∧ ∃ s I L F, h' = jR h s I L F ∧ EncR s I L F z
/-! what was made comes to a register -/
theorem e_becomes {s : Nat → Int32} {I : jIs} {L : jLss} {R : Nat → zReg} {T : List (Nat × zReg)} (hR : eReg (I 3) (L 4) R) (hT : eStp (s 2) (I 6) (I 7) (L 8) T) (hl : T.length ≤ 8) {r : Nat} (hr : r < 4) {x : zReg} (hx : ∀ c, c < 32 → L 5 c = x.2 c) (hno : ¬ zsame (R r) x) :
    eReg (bcI I r x.1 T.length 3) (bcL L r T.length 4) (zbec R T r x).1 ∧ eStp (nI (rk T.length + 1)) (bcI I r x.1 T.length 6) (bcI I r x.1 T.length 7) (bcL L r T.length 8) (zbec R T r x).2 := by
  have hb : ¬ zsameb (R r) x = true := fun q => hno (zsameb_iff.mp q)
  unfold zbec
  rw [if_neg hb]
  refine ⟨fun r2 hr2 => ?_, ?_, fun i q hi => ?_⟩
  · by_cases e : r2 = r
    · subst e
      refine ⟨by simp [bcI, va_up, upd], fun c hc => ?_⟩
      show jpst (L 4) (32 * r2) (L 5) 32 (32 * r2 + c) = (va_up R r2 x r2).2 c
      unfold jpst va_up
      rw [if_pos (by omega), if_pos rfl, show 32 * r2 + c - 32 * r2 = c by omega]
      exact hx c hc
    · obtain ⟨h1, h2⟩ := hR r2 hr2
      refine ⟨by simp [bcI, va_up, upd, e]; exact h1, fun c hc => ?_⟩
      show jpst (L 4) (32 * r) (L 5) 32 (32 * r2 + c) = (va_up R r x r2).2 c
      unfold jpst va_up
      rw [if_neg (by omega), if_neg e]
      exact h2 c hc
  · congr 1
    unfold zdrop rk
    split <;> simp <;> omega
  · have hrk : rk T.length = (zdrop T).length := by unfold zdrop rk; split <;> simp <;> omega
    by_cases hl2 : i < (zdrop T).length
    · rw [List.getElem?_append_left hl2] at hi
      have e6 : bcI I r x.1 T.length 6 i = rShI T.length (I 6) i := by
        show upd (rShI T.length (I 6)) (rk T.length) (nI r) i = _
        unfold upd; rw [if_neg (by omega)]
      have e7 : bcI I r x.1 T.length 7 i = rShI T.length (I 7) i := by
        show upd (rShI T.length (I 7)) (rk T.length) (I 3 r) i = _
        unfold upd; rw [if_neg (by omega)]
      have e8 : ∀ c, c < 32 → bcL L r T.length 8 (32 * i + c) = rShN T.length (L 8) (32 * i + c) := by
        intro c hc
        show jpst (rShN T.length (L 8)) (32 * rk T.length) (fun c => L 4 (32 * r + c)) 32 (32 * i + c) = _
        unfold jpst; rw [if_neg (by omega)]
      rw [e6, e7]
      by_cases h8 : T.length = 8
      · have hz : zdrop T = T.drop 1 := if_pos h8
        rw [hz, List.getElem?_drop] at hi
        obtain ⟨g1, g2, g3⟩ := hT.2 (1 + i) q hi
        rw [hz] at hl2
        simp only [List.length_drop] at hl2
        refine ⟨?_, ?_, fun c hc => ?_⟩
        · rw [rShI, if_pos h8, shI, if_pos (by omega), Nat.add_comm]; exact g1
        · rw [rShI, if_pos h8, shI, if_pos (by omega), Nat.add_comm]; exact g2
        · rw [e8 c hc, rShN, if_pos h8, shN, if_pos (by omega), show 32 * i + c + 32 = 32 * (1 + i) + c by omega]; exact g3 c hc
      · have hz : zdrop T = T := if_neg h8
        rw [hz] at hi
        obtain ⟨g1, g2, g3⟩ := hT.2 i q hi
        refine ⟨?_, ?_, fun c hc => ?_⟩
        · rw [rShI, if_neg h8]; exact g1
        · rw [rShI, if_neg h8]; exact g2
        · rw [e8 c hc, rShN, if_neg h8]; exact g3 c hc
    · rw [List.getElem?_append_right (by omega)] at hi
      have hz0 : i - (zdrop T).length < 1 := (List.getElem?_eq_some_iff.mp hi).1
      have hie : i = rk T.length := by omega
      rw [show i - (zdrop T).length = 0 by omega] at hi
      cases hi
      rw [hie]
      refine ⟨by simp [bcI, va_up, upd], ?_, fun c hc => ?_⟩
      · rw [show bcI I r x.1 T.length 7 (rk T.length) = I 3 r by simp [bcI, va_up, upd]]
        exact (hR r hr).1
      · show jpst (rShN T.length (L 8)) (32 * rk T.length) (fun c => L 4 (32 * r + c)) 32 (32 * rk T.length + c) = _
        unfold jpst
        rw [if_pos (by omega), show 32 * rk T.length + c - 32 * rk T.length = c by omega]
        exact (hR r hr).2 c hc
