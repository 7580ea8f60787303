/-! contracts of the smallest methods -/
theorem c_X11_within (x y : Int32) (h : List jC) : jCt jy_X11_within [.int x, .int y] h (fun r h' => r = some (.int (jbi (0 ≤ x.toInt ∧ x.toInt < y.toInt))) ∧ h' = h) := by
  refine jrun2 (js_X11_within _) rfl rfl rfl (fun G hG hW hB => ?_)
  refine hG [] 50 _ _ _ _ _ _ ?_
  repeat' ((conv => whnf); with_reducible apply jAI; all_goals intro c)
  all_goals refine ⟨by decide, ?_, rfl⟩
  all_goals (simp only [jlt, jleI, j0] at *)
  · rw [jbi_f (by omega)]
  · rw [jbi_f (by omega)]
  · rw [jbi_t (by omega)]
theorem c_X0_howMany (n : Nat) (hn : n ≤ 6) (h : List jC) : jCt jy_X0_howMany [.int (nI n)] h (fun r h' => r = some (.int (nI (if n = 0 then 1 else 2 ^ (n - 1)))) ∧ h' = h) := by
  refine jrun2 (js_X0_howMany _) rfl rfl rfl (fun G hG hW hB => ?_)
  refine hG [] 50 _ _ _ _ _ _ ?_
  repeat' ((conv => whnf); with_reducible apply jAI; all_goals intro c)
  all_goals refine ⟨?_, rfl⟩
  all_goals rw [nI_leI (by omega) (by omega)] at c
  · rw [if_neg (by omega), jI_m1 (by omega), jI_one (by omega)]
  · rw [if_pos (by omega)]
/-! compositions as bits, in numbers -/
def jmany (n : Nat) : Nat := if n = 0 then 1 else 2 ^ (n - 1)
def jpop (c : Nat) : Nat := c % 2 + c / 2 % 2 + c / 4 % 2 + c / 8 % 2 + c / 16 % 2 + c / 32 % 2
def jlen (n c : Nat) : Nat := if n = 0 then 0 else 1 + jpop c
def jfstF (n c : Nat) : Nat → Nat → Nat
  | 0, _ => n
  | k + 1, i => if i < n then (if c / 2 ^ (i - 1) % 2 = 1 then i else jfstF n c k (i + 1)) else n
def jfst (n c : Nat) : Nat := jfstF n c 6 1
def jnumF : Nat → Nat → Nat → Nat
  | n, c, 0 => jfst n c
  | n, c, i + 1 => jnumF (n - jfst n c) (c / 2 ^ jfst n c) i
def jturnF (n c : Nat) : Nat → Nat → Nat → Nat
  | 0, _, acc => acc
  | k + 1, i, acc => if i < n then jturnF n c k (i + 1) (if c / 2 ^ (i - 1) % 2 = 1 then acc ||| 2 ^ (n - i - 1) else acc) else acc
def jturn (n c : Nat) : Nat := jturnF n c 6 1 0
def jjoin (a c b d : Nat) : Nat := if a = 0 then d else if b = 0 then c else c ||| 2 ^ (a - 1) ||| d * 2 ^ a
theorem jfstF_le (n c : Nat) : ∀ k i, 1 ≤ i → (1 ≤ n → 1 ≤ jfstF n c k i) ∧ jfstF n c k i ≤ n
  | 0, i, _ => ⟨fun h => h, Nat.le_refl _⟩
  | k + 1, i, hi => by
    unfold jfstF
    split
    · split
      · exact ⟨fun _ => hi, by omega⟩
      · exact jfstF_le n c k (i + 1) (by omega)
    · exact ⟨fun h => h, Nat.le_refl _⟩
theorem jbitc : ∀ c, c < 64 → (let a := nI c; let b := a - ((a.toUInt32 >>> ((nI 1).toUInt32 &&& Int32.toUInt32 31)).toInt32 &&& nI 1431655765); let d := (b &&& nI 858993459) + ((b.toUInt32 >>> ((nI 2).toUInt32 &&& Int32.toUInt32 31)).toInt32 &&& nI 858993459); let e := (d + (d.toUInt32 >>> ((nI 4).toUInt32 &&& Int32.toUInt32 31)).toInt32) &&& nI 252645135; let f := e + (e.toUInt32 >>> ((nI 8).toUInt32 &&& Int32.toUInt32 31)).toInt32; let g := f + (f.toUInt32 >>> ((nI 16).toUInt32 &&& Int32.toUInt32 31)).toInt32; g &&& nI 63) = nI (jpop c) := by decide +kernel
set_option maxRecDepth 100000 in
theorem c_J6_bitCount (c : Nat) (hc : c < 64) (h : List jC) : jCt jy_J6_bitCount_0f7a4 [.int (nI c)] h (fun r h' => r = some (.int (nI (jpop c))) ∧ h' = h) := by
  refine jrun2 (js_J6_bitCount_0f7a4 _) rfl rfl rfl (fun G hG hW hB => ?_)
  refine hG [] 60 _ _ _ _ _ _ ?_
  conv => whnf
  refine ⟨?_, rfl⟩
  rw [← jbitc c hc]
theorem c_X0_lengthOf (n c : Nat) (hn : n ≤ 6) (hc : c < 64) (h : List jC) : jCt jy_X0_lengthOf [.int (nI n), .int (nI c)] h (fun r h' => r = some (.int (nI (jlen n c))) ∧ h' = h) := by
  refine jrun2 (js_X0_lengthOf _) rfl rfl rfl (fun G hG hW hB => ?_)
  refine hG [] 50 _ _ _ _ _ _ ?_
  conv => whnf
  refine ⟨fun q => ?_, fun q => ?_⟩ <;> rw [nI_leI (by omega) (by omega)] at q
  · conv => whnf
    refine jcall (c_J6_bitCount c hc h) ?_
    rintro r h' ⟨rfl, rfl⟩
    conv => whnf
    refine ⟨?_, rfl⟩
    rw [nI_add, jlen, if_neg (by omega)]
  · conv => whnf
    refine ⟨?_, rfl⟩
    rw [jlen, if_pos (by omega)]
theorem c_X0_firstNumber (n c : Nat) (hn : n ≤ 6) (hc : c < 64) (h : List jC) : jCt jy_X0_firstNumber [.int (nI n), .int (nI c)] h (fun r h' => r = some (.int (nI (jfst n c))) ∧ h' = h) := by
  refine jrun2 (js_X0_firstNumber _) rfl rfl rfl (fun G hG hW hB => ?_)
  have loop : ∀ k i, 1 ≤ i → i ≤ 7 → n ≤ i + k → jfst n c = jfstF n c k i → G 2 [some (.int (nI n)), some (.int (nI c)), some (.int (nI i))] [] h 0 0 := by
    intro k
    induction k with
    | zero =>
      intro i h1 h7 hk he
      refine hG [2] 50 _ _ _ _ _ _ ?_
      conv => whnf
      refine ⟨fun q => ?_, fun q => ?_⟩ <;> rw [nI_leI (by omega) (by omega)] at q
      · conv => whnf
        refine ⟨?_, rfl⟩
        rw [he]; rfl
      · omega
    | succ k ih =>
      intro i h1 h7 hk he
      rw [jfstF] at he
      refine hG [2] 50 _ _ _ _ _ _ ?_
      conv => whnf
      refine ⟨fun q => ?_, fun q => ?_⟩ <;> rw [nI_leI (by omega) (by omega)] at q
      · conv => whnf
        refine ⟨?_, rfl⟩
        rw [he, if_neg (by omega)]
      · rw [if_pos (by omega)] at he
        conv => whnf
        rw [jI_m1 h1, jI_bit (by omega) (by omega)]
        refine ⟨fun q2 => ?_, fun q2 => ?_⟩ <;> rw [nI_eq (by omega) (by omega)] at q2
        · rw [if_neg q2] at he
          conv => whnf
          rw [nI_add]
          exact ih (i + 1) (by omega) (by omega) (by omega) he
        · rw [if_pos q2] at he
          conv => whnf
          refine ⟨?_, rfl⟩
          rw [he]
  refine hG [2] 50 _ _ _ _ _ _ ?_
  conv => whnf
  exact loop 6 1 (by omega) (by omega) (by omega) rfl
