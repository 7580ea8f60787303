/-! the class: products -/
/-- the cells with longs set, a new sum and a row of ways behind -/
def jM (h : List jC) (l W : Nat) (p : (Nat → Int64) × jLs) (w : Nat → Int32) : List jC := h.set l (oL p.2) ++ [oS W (h.length + 1), aL (jmany W) p.1, aI (jmany W) w]
theorem jth_0 (h : List jC) (x y z : jC) : (h ++ [x, y, z])[h.length]? = some x := by rw [List.getElem?_append_right (Nat.le_refl _), Nat.sub_self]; rfl
theorem jth_1 (h : List jC) (x y z : jC) : (h ++ [x, y, z])[h.length + 1]? = some y := by rw [List.getElem?_append_right (by omega), Nat.add_sub_cancel_left]; rfl
theorem jth_2 (h : List jC) (x y z : jC) : (h ++ [x, y, z])[h.length + 2]? = some z := by rw [List.getElem?_append_right (by omega), Nat.add_sub_cancel_left]; rfl
theorem jth_s1 (h : List jC) (x y z w : jC) : (h ++ [x, y, z]).set (h.length + 1) w = h ++ [x, w, z] := by
  rw [List.set_append_right _ _ (by omega), Nat.add_sub_cancel_left]
  rfl
theorem jth_s2 (h : List jC) (x y z w : jC) : (h ++ [x, y, z]).set (h.length + 2) w = h ++ [x, y, w] := by
  rw [List.set_append_right _ _ (by omega), Nat.add_sub_cancel_left]
  rfl
section
variable {h : List jC} {l W : Nat} {p : (Nat → Int64) × jLs} {w : Nat → Int32} {q0 : jLs}
theorem jM_l (hl : h[l]? = some (oL q0)) : (jM h l W p w)[l]? = some (oL p.2) := jget_apl (jget_set hl)
theorem jM_s : (jM h l W p w)[h.length]? = some (oS W (h.length + 1)) := by
  have := jth_0 (h.set l (oL p.2)) (oS W (h.length + 1)) (aL (jmany W) p.1) (aI (jmany W) w)
  rw [List.length_set] at this
  exact this
theorem jM_a : (jM h l W p w)[h.length + 1]? = some (aL (jmany W) p.1) := by
  have := jth_1 (h.set l (oL p.2)) (oS W (h.length + 1)) (aL (jmany W) p.1) (aI (jmany W) w)
  rw [List.length_set] at this
  exact this
theorem jM_w : (jM h l W p w)[h.length + 2]? = some (aI (jmany W) w) := by
  have := jth_2 (h.set l (oL p.2)) (oS W (h.length + 1)) (aL (jmany W) p.1) (aI (jmany W) w)
  rw [List.length_set] at this
  exact this
theorem jM_o {j : Nat} {x : jC} (hn : l ≠ j) (hj : h[j]? = some x) : (jM h l W p w)[j]? = some x := jget_apl (jget_ne hn hj)
theorem jM_setl (hl : h[l]? = some (oL q0)) (q : jLs) : (jM h l W p w).set l (oL q) = jM h l W (p.1, q) w := by
  have hl2 : (h.set l (oL p.2))[l]? = some (oL p.2) := jget_set hl
  unfold jM
  rw [List.set_append_left _ _ (List.getElem?_eq_some_iff.mp hl2).1, List.set_set]
theorem jM_setw (v : Nat → Int32) : (jM h l W p w).set (h.length + 2) (aI (jmany W) v) = jM h l W p v := by
  unfold jM
  have := jth_s2 (h.set l (oL p.2)) (oS W (h.length + 1)) (aL (jmany W) p.1) (aI (jmany W) w) (aI (jmany W) v)
  rw [List.length_set] at this
  exact this
theorem jM_LA (hl : h[l]? = some (oL q0)) (p' : (Nat → Int64) × jLs) : jLA (jM h l W p w) l (h.length + 1) (jmany W) p' = jM h l W p' w := by
  unfold jLA
  rw [jM_setl hl]
  unfold jM
  have := jth_s1 (h.set l (oL p'.2)) (oS W (h.length + 1)) (aL (jmany W) p.1) (aI (jmany W) w) (aL (jmany W) p'.1)
  rw [List.length_set] at this
  exact this
end
/-- the class's loops: nothing is skipped -/
def jkE (a : Int64) (w : Nat → Int32) (q : (Nat → Int64) × jLs) : Nat → (Nat → Int64) × jLs
  | 0 => q
  | e + 1 => jcm ((jkE a w q e).1, jbad1 (jkE a w q e).2 (jotm a (w e).toInt64) (nI e)) e (a * (w e).toInt64)
def jkD (n m : Nat) (a : Int64) (c : Nat) (g : Nat → Int64) (q : (Nat → Int64) × jLs) : Nat → (Nat → Int64) × jLs
  | 0 => q
  | d + 1 => jkE (a * g d) (jgsh 13 (jparts n c) (jparts m d) 0 0 (fun _ => nI 0)) ((jkD n m a c g q d).1, jbad1 (jkD n m a c g q d).2 (jotm a (g d)) (nI (100 + c))) (jmany (n + m))
def jkC (n m : Nat) (f g : Nat → Int64) (f0 : Nat → Int64) : Nat → (Nat → Int64) × jLs
  | 0 => (f0, (false, nI 0))
  | c + 1 => jkD n m (f c) c g (jkC n m f g f0 c) (jmany m)
theorem jgsh_nn : ∀ (D : Nat) (A B : List Nat) (e t : Nat) (w : Nat → Int32) (K : Nat), (∀ j, ∃ k, k ≤ K ∧ w j = nI k) → ∀ j, ∃ k, k ≤ K + 3 ^ D ∧ jgsh D A B e t w j = nI k := by
  have up : ∀ (e K : Nat) (w : Nat → Int32), (∀ j, ∃ k, k ≤ K ∧ w j = nI k) → ∀ j, ∃ k, k ≤ K + 1 ∧ upd w e (w e + nI 1) j = nI k := by
    intro e K w hw j
    unfold upd
    by_cases hj : j = e
    · rw [if_pos hj]
      obtain ⟨k, h1, h2⟩ := hw e
      exact ⟨k + 1, by omega, by rw [h2, nI_add]⟩
    · rw [if_neg hj]
      obtain ⟨k, h1, h2⟩ := hw j
      exact ⟨k, by omega, h2⟩
  intro D
  induction D with
  | zero =>
    intro A B e t w K hw j
    rw [jgsh]
    exact up e K w hw j
  | succ D ih =>
    intro A B e t w K hw j
    have hp : 1 ≤ 3 ^ D := Nat.pow_pos (by decide)
    have hs : 3 ^ (D + 1) = 3 ^ D + 3 ^ D + 3 ^ D := by rw [Nat.pow_succ]; omega
    match A, B with
    | [], [] =>
      rw [jgsh]
      obtain ⟨k, h1, h2⟩ := up e K w hw j
      exact ⟨k, by omega, h2⟩
    | a :: A, [] =>
      rw [jgsh]
      obtain ⟨k, h1, h2⟩ := ih A [] (jend e t) (t + a) w K hw j
      exact ⟨k, by omega, h2⟩
    | [], b :: B =>
      rw [jgsh]
      obtain ⟨k, h1, h2⟩ := ih [] B (jend e t) (t + b) w K hw j
      exact ⟨k, by omega, h2⟩
    | a :: A, b :: B =>
      rw [jgsh]
      obtain ⟨k, h1, h2⟩ := ih A B (jend e t) (t + a + b) _ _ (ih (a :: A) B (jend e t) (t + b) _ _ (ih A (b :: B) (jend e t) (t + a) w K hw)) j
      exact ⟨k, by omega, h2⟩
theorem jgsh_le (A B : List Nat) (j : Nat) (h : jgsh 13 A B 0 0 (fun _ => nI 0) j ≤ nI 0) : jgsh 13 A B 0 0 (fun _ => nI 0) j = nI 0 := by
  obtain ⟨k, h1, h2⟩ := jgsh_nn 13 A B 0 0 (fun _ => nI 0) 0 (fun _ => ⟨0, Nat.le_refl _, rfl⟩) j
  have hk : k < 2 ^ 31 := Nat.lt_of_le_of_lt h1 (by decide)
  rw [h2] at h ⊢
  rw [nI_leI hk (by decide)] at h
  rw [show k = 0 by omega]
theorem jotm_z0 (a : Int64) : jotm a 0 = false := by
  unfold jotm
  split
  · decide
  · rw [decide_eq_false_iff_not]
    rintro ⟨-, h⟩
    rw [Int64.mul_zero] at h
    exact h (by rw [Int64.zero_div])
theorem jov_0 (x : Int64) : jov x 0 = false := by
  unfold jov
  rw [decide_eq_false_iff_not, Int64.add_zero, Int64.xor_self, Int64.zero_and]
  decide
theorem jbad1_f (q : jLs) (i : Int32) : jbad1 q false i = q := by
  unfold jbad1
  split <;> simp
theorem jcm_0 (q : (Nat → Int64) × jLs) (e : Nat) : jcm q e 0 = q := by
  unfold jcm
  rw [jov_0, jbad1_f, Int64.add_zero, vpL_same]
theorem jkE_eq (a : Int64) {w : Nat → Int32} (hw : ∀ j, w j ≤ nI 0 → w j = nI 0) (q : (Nat → Int64) × jLs) : ∀ e, jkE a w q e = jmulE a w q e
  | 0 => rfl
  | e + 1 => by
    rw [jkE, jmulE, jkE_eq a hw q e]
    split
    · rename_i h
      rw [hw e h, show (nI 0).toInt64 = 0 from rfl, jotm_z0, jbad1_f, Int64.mul_zero]
      exact jcm_0 _ _
    · rfl
theorem jbad1_t {q : jLs} (h : q.1 = true) (p : Bool) (i : Int32) : jbad1 q p i = q := if_pos h
theorem jkE_over (a : Int64) (w : Nat → Int32) (q : (Nat → Int64) × jLs) (h : q.2.1 = true) : ∀ e, (jkE a w q e).2 = q.2
  | 0 => rfl
  | e + 1 => by
    have ih := jkE_over a w q h e
    rw [jkE]
    unfold jcm
    dsimp only
    rw [ih, jbad1_t h, jbad1_t h]
/-- alike: told the same, and the same numbers unless over -/
def zal (q p : (Nat → Int64) × jLs) : Prop := q.2 = p.2 ∧ (p.2.1 = true ∨ ∀ c, c < 32 → q.1 c = p.1 c)
theorem zal_D {n m : Nat} (hnm : n + m ≤ 6) {q p : (Nat → Int64) × jLs} (h : zal q p) (a : Int64) (c : Nat) (g : Nat → Int64) : ∀ d, zal (jkD n m a c g q d) (jmulD n m a c g p d)
  | 0 => h
  | d + 1 => by
    obtain ⟨h1, h2⟩ := zal_D hnm h a c g d
    rw [jkD, jmulD]
    by_cases ho : (jmulD n m a c g p d).2.1 = true
    · rw [if_pos ho]
      have ho2 : (jkD n m a c g q d).2.1 = true := by rw [h1]; exact ho
      refine ⟨?_, Or.inl ho⟩
      rw [jkE_over _ _ _ (by dsimp only; rw [jbad1_t ho2]; exact ho2)]
      dsimp only
      rw [jbad1_t ho2, h1]
    · rw [if_neg ho]
      have ho2 : ¬ (jkD n m a c g q d).2.1 = true := by rw [h1]; exact ho
      rcases h2 with h2 | h2
      · exact absurd h2 ho
      by_cases ht : jotm a (g d) = true
      · rw [if_pos ht, ht]
        have hb : jbad1 (jkD n m a c g q d).2 true (nI (100 + c)) = (true, nI (100 + c)) := by
          unfold jbad1
          rw [if_neg ho2, if_pos rfl]
        refine ⟨?_, Or.inl rfl⟩
        rw [jkE_over _ _ _ (by dsimp only; rw [hb])]
        exact hb
      · rw [if_neg ht, Bool.not_eq_true _ |>.mp ht, jbad1_f]
        rw [jkE_eq _ (jgsh_le _ _)]
        have hz : zeq (jkD n m a c g q d) (jmulD n m a c g p d) := ⟨h1, h2⟩
        have := zeq_mulE hz (a * g d) (w := jgsh 13 (jparts n c) (jparts m d) 0 0 (fun _ => nI 0)) (v := jgsh 13 (jparts n c) (jparts m d) 0 0 (fun _ => 0)) (fun c _ => rfl) (jmany (n + m)) (jmany_le hnm).2
        exact ⟨this.1, Or.inr this.2⟩
theorem zal_C {n m : Nat} (hnm : n + m ≤ 6) (f g f0 : Nat → Int64) : ∀ c, zal (jkC n m f g f0 c) (jmulC n m f g f0 c)
  | 0 => ⟨rfl, Or.inr (fun _ _ => rfl)⟩
  | c + 1 => by
    rw [jkC, jmulC]
    exact zal_D hnm (zal_C hnm f g f0 c) (f c) c g (jmany m)
theorem jgsh_p : ∀ (D : Nat) (A B : List Nat) (e t : Nat) {w v : Nat → Int32} (j : Nat), w j = v j → jgsh D A B e t w j = jgsh D A B e t v j := by
  have up : ∀ (e : Nat) {w v : Nat → Int32} (j : Nat), w j = v j → upd w e (w e + nI 1) j = upd v e (v e + nI 1) j := by
    intro e w v j h
    unfold upd
    by_cases hj : j = e
    · subst hj; rw [if_pos rfl, if_pos rfl, h]
    · rw [if_neg hj, if_neg hj]; exact h
  intro D
  induction D with
  | zero => intro A B e t w v j h; rw [jgsh, jgsh]; exact up e j h
  | succ D ih =>
    intro A B e t w v j h
    match A, B with
    | [], [] => rw [jgsh, jgsh]; exact up e j h
    | a :: A, [] => rw [jgsh, jgsh]; exact ih _ _ _ _ j h
    | [], b :: B => rw [jgsh, jgsh]; exact ih _ _ _ _ j h
    | a :: A, b :: B => rw [jgsh, jgsh]; exact ih _ _ _ _ j (ih _ _ _ _ j (ih _ _ _ _ j h))
theorem c_X8_times {h : List jC} {s n a l s2 m a2 : Nat} {f g : Nat → Int64} (hs : h[s]? = some (oS n a)) (ha : h[a]? = some (aL (jmany n) f)) (hs2 : h[s2]? = some (oS m a2)) (ha2 : h[a2]? = some (aL (jmany m) g)) (hl : h[l]? = some (oL (false, nI 0))) (hnm : n + m ≤ 6) : jCt jy_X8_times [.ref s, .ref s2, .ref l] h (fun r h' => r = some (.ref h.length) ∧ ∃ w, h' = jM h l (n + m) (jkC n m f g (fun _ => 0) (jmany n)) w) := by
  have hmn := jmany_le (w := n) (by omega)
  have hmm := jmany_le (w := m) (by omega)
  have hmW := jmany_le hnm
  have n1 : l ≠ s := jne hl hs (fun z => by cases z)
  have n2 : l ≠ a := jne hl ha (fun z => by cases z)
  have n3 : l ≠ s2 := jne hl hs2 (fun z => by cases z)
  have n4 : l ≠ a2 := jne hl ha2 (fun z => by cases z)
  obtain ⟨L, hL⟩ : ∃ L, L = h.length := ⟨_, rfl⟩
  generalize hΦ : (fun (r : Option Value) (h' : List jC) => r = some (.ref h.length) ∧ ∃ w, h' = jM h l (n + m) (jkC n m f g (fun _ => 0) (jmany n)) w) = Φ
  refine jrun2 (js_X8_times _) rfl rfl rfl (fun G hG hWW hBB => ?_)
  -- the innermost
  have eloop : ∀ c, c < jmany n → ∀ d, d < jmany m → ∀ (v : Int64) (w : Nat → Int32) (q : (Nat → Int64) × jLs), (∀ x9, G 140 [some (.ref s), some (.ref s2), some (.ref l), some (.ref h.length), some (.ref (h.length + 2)), some (.int (nI c)), some (.int (nI d)), some (.long v), none, x9] [] (jM h l (n + m) (jkE v w q (jmany (n + m))) w) 3 66) → ∀ k e, jmany (n + m) = e + k → G 105 [some (.ref s), some (.ref s2), some (.ref l), some (.ref h.length), some (.ref (h.length + 2)), some (.int (nI c)), some (.int (nI d)), some (.long v), none, some (.int (nI e))] [] (jM h l (n + m) (jkE v w q e) w) 3 66 := by
    intro c hc d hd v w q hend k
    induction k with
    | zero =>
      intro e he
      refine hG [105, 140] 300 _ _ _ _ _ _ ?_
      conv => whnf
      refine ⟨_, _, _, jM_w, ?_⟩
      conv => whnf
      refine ⟨fun qb => ?_, fun qb => ?_⟩ <;> rw [nI_leI (by omega) (by omega)] at qb
      · rw [Nat.add_zero] at he
        rw [← he]
        exact hend _
      · omega
    | succ k ih =>
      intro e he
      have i1 := ih (e + 1) (by omega)
      rw [jkE] at i1
      refine hG [105, 140] 300 _ _ _ _ _ _ ?_
      conv => whnf
      refine ⟨_, _, _, jM_w, ?_⟩
      conv => whnf
      refine ⟨fun qb => ?_, fun qb => ?_⟩ <;> rw [nI_leI (by omega) (by omega)] at qb
      · omega
      conv => whnf
      refine ⟨_, _, _, jM_w, rfl, (show e < jmany (n + m) by omega), ?_⟩
      conv => whnf
      refine ⟨⟨_, jM_l hl⟩, jcall (c_X3_times (jM_l hl) v (w e).toInt64 (nI e)) ?_⟩
      rintro r h' ⟨rfl, rfl⟩
      rw [jM_setl hl]
      conv => whnf
      refine ⟨⟨_, jM_s⟩, jcall (c_X8_comes (q := ((jkE v w q e).1, jbad1 (jkE v w q e).2 (jotm v (w e).toInt64) (nI e))) jM_s jM_a (jM_l hl) (c := e) (by omega) hmW.2 (v * (w e).toInt64)) ?_⟩
      rintro r h' ⟨rfl, rfl⟩
      rw [jM_LA hl]
      conv => whnf
      rw [nI_add]
      exact i1
  have dloop : ∀ c, c < jmany n → ∀ (q : (Nat → Int64) × jLs), (∀ w x6 x7 x9, G 146 [some (.ref s), some (.ref s2), some (.ref l), some (.ref h.length), some (.ref (h.length + 2)), some (.int (nI c)), x6, x7, none, x9] [] (jM h l (n + m) (jkD n m (f c) c g q (jmany m)) w) 3 66) → ∀ k d, jmany m = d + k → ∀ w x7 x9, G 42 [some (.ref s), some (.ref s2), some (.ref l), some (.ref h.length), some (.ref (h.length + 2)), some (.int (nI c)), some (.int (nI d)), x7, none, x9] [] (jM h l (n + m) (jkD n m (f c) c g q d) w) 3 66 := by
    intro c hc q hend k
    induction k with
    | zero =>
      intro d he w x7 x9
      refine hG [42, 146] 300 _ _ _ _ _ _ ?_
      conv => whnf
      refine ⟨_, jM_o n3 hs2, ?_⟩
      conv => whnf
      refine ⟨_, _, _, jM_o n4 ha2, ?_⟩
      conv => whnf
      refine ⟨fun qb => ?_, fun qb => ?_⟩ <;> rw [nI_leI (by omega) (by omega)] at qb
      · rw [Nat.add_zero] at he
        rw [← he]
        exact hend _ _ _ _
      · omega
    | succ k ih =>
      intro d he w x7 x9
      have i1 := ih (d + 1) (by omega)
      rw [jkD] at i1
      refine hG [42, 146, 105] 300 _ _ _ _ _ _ ?_
      conv => whnf
      refine ⟨_, jM_o n3 hs2, ?_⟩
      conv => whnf
      refine ⟨_, _, _, jM_o n4 ha2, ?_⟩
      conv => whnf
      refine ⟨fun qb => ?_, fun qb => ?_⟩ <;> rw [nI_leI (by omega) (by omega)] at qb
      · omega
      conv => whnf
      refine ⟨_, jM_o n1 hs, ?_⟩
      conv => whnf
      refine ⟨_, _, _, jM_o n2 ha, rfl, (show c < jmany n by omega), ?_⟩
      conv => whnf
      refine ⟨_, jM_o n3 hs2, ?_⟩
      conv => whnf
      refine ⟨_, _, _, jM_o n4 ha2, rfl, (show d < jmany m by omega), ?_⟩
      conv => whnf
      rw [nI_add]
      refine ⟨⟨_, jM_l hl⟩, jcall (c_X3_times (jM_l hl) (f c) (g d) (nI (100 + c))) ?_⟩
      rintro r h' ⟨rfl, rfl⟩
      rw [jM_setl hl]
      conv => whnf
      refine jcall (c_J7_fill jM_w (by omega) (nI 0)) ?_
      rintro r h' ⟨rfl, rfl⟩
      rw [jM_setw]
      conv => whnf
      refine ⟨_, jM_o n1 hs, ?_⟩
      conv => whnf
      refine ⟨_, jM_o n3 hs2, ?_⟩
      conv => whnf
      refine jcall (c_X8_shuffle (jmany (n + m)) hmW.2 (h.length + 2) 13 n c m d 0 0 _ _ _ _ _ _ _ _ rfl rfl rfl rfl rfl rfl jM_w (by omega) (by rw [Nat.zero_add]) hc (by omega) (by decide) (by omega)) ?_
      rintro r h' ⟨rfl, rfl⟩
      rw [jM_setw]
      have hwe : ∀ (q2 : (Nat → Int64) × jLs) (v : Int64), jkE v (jgsh 13 (jparts n c) (jparts m d) 0 0 (fun j => if j < jmany (n + m) then nI 0 else w j)) q2 (jmany (n + m)) = jkE v (jgsh 13 (jparts n c) (jparts m d) 0 0 (fun _ => nI 0)) q2 (jmany (n + m)) := by
        intro q2 v
        have hw2 : ∀ e, e < jmany (n + m) → jgsh 13 (jparts n c) (jparts m d) 0 0 (fun j => if j < jmany (n + m) then nI 0 else w j) e = jgsh 13 (jparts n c) (jparts m d) 0 0 (fun _ => nI 0) e := fun e he => jgsh_p 13 _ _ 0 0 e (if_pos he)
        have : ∀ e, e ≤ jmany (n + m) → jkE v (jgsh 13 (jparts n c) (jparts m d) 0 0 (fun j => if j < jmany (n + m) then nI 0 else w j)) q2 e = jkE v (jgsh 13 (jparts n c) (jparts m d) 0 0 (fun _ => nI 0)) q2 e := by
          intro e
          induction e with
          | zero => intro _; rfl
          | succ e ih2 => intro h2; rw [jkE, jkE, ih2 (by omega), hw2 e (by omega)]
        exact this _ (Nat.le_refl _)
      conv => whnf
      refine eloop c hc d (by omega) (f c * g d) _ ((jkD n m (f c) c g q d).1, jbad1 (jkD n m (f c) c g q d).2 (jotm (f c) (g d)) (nI (100 + c))) (fun x9 => ?_) (jmany (n + m)) 0 (by omega)
      rw [hwe]
      refine hG [42] 300 _ _ _ _ _ _ ?_
      conv => whnf
      rw [nI_add]
      exact i1 _ _ _
  have cloop : ∀ k c, jmany n = c + k → ∀ w x6 x7 x9, G 29 [some (.ref s), some (.ref s2), some (.ref l), some (.ref h.length), some (.ref (h.length + 2)), some (.int (nI c)), x6, x7, none, x9] [] (jM h l (n + m) (jkC n m f g (fun _ => 0) c) w) 3 66 := by
    intro k
    induction k with
    | zero =>
      intro c he w x6 x7 x9
      refine hG [29] 300 _ _ _ _ _ _ ?_
      conv => whnf
      refine ⟨_, jM_o n1 hs, ?_⟩
      conv => whnf
      refine ⟨_, _, _, jM_o n2 ha, ?_⟩
      conv => whnf
      refine ⟨fun qb => ?_, fun qb => ?_⟩ <;> rw [nI_leI (by omega) (by omega)] at qb
      · conv => whnf
        rw [← hΦ, he, Nat.add_zero]
        exact ⟨rfl, w, rfl⟩
      · omega
    | succ k ih =>
      intro c he w x6 x7 x9
      have i1 := ih (c + 1) (by omega)
      rw [jkC] at i1
      refine hG [29, 42] 300 _ _ _ _ _ _ ?_
      conv => whnf
      refine ⟨_, jM_o n1 hs, ?_⟩
      conv => whnf
      refine ⟨_, _, _, jM_o n2 ha, ?_⟩
      conv => whnf
      refine ⟨fun qb => ?_, fun qb => ?_⟩ <;> rw [nI_leI (by omega) (by omega)] at qb
      · omega
      conv => whnf
      refine dloop c (by omega) _ (fun w x6 x7 x9 => ?_) (jmany m) 0 (by omega) w x7 x9
      refine hG [29] 300 _ _ _ _ _ _ ?_
      conv => whnf
      rw [nI_add]
      exact i1 _ _ _ _
  refine hG [29] 300 _ _ _ _ _ _ ?_
  conv => whnf
  refine ⟨_, jget_app hs, ?_⟩
  conv => whnf
  refine ⟨_, jget_app hs2, ?_⟩
  conv => whnf
  rw [nI_add]
  refine jcall (c_X8_init hnm (jget_new _ _)) ?_
  rintro r h' ⟨rfl, rfl⟩
  rw [List.length_append, List.length_singleton, jnew2]
  conv => whnf
  refine ⟨_, jtwo_s h _ _, ?_⟩
  conv => whnf
  refine ⟨_, _, _, jtwo_a h _ _, ?_⟩
  conv => whnf
  refine ⟨jmany (n + m), rfl, by omega, (show 34 + jmany (n + m) ≤ 66 from by omega), ?_⟩
  have hth : (h ++ [oS (n + m) (h.length + 1), aL (jmany (n + m)) (fun _ => 0)]) ++ [aI (jmany (n + m)) (fun _ => nI 0)] = jM h l (n + m) ((fun _ => 0), (false, nI 0)) (fun _ => nI 0) := by
    unfold jM
    rw [jset_same hl, List.append_assoc]
    rfl
  have hle2 : (h ++ [oS (n + m) (h.length + 1), aL (jmany (n + m)) (fun _ => 0)]).length = h.length + 2 := by rw [List.length_append]; rfl
  erw [hth]
  rw [hle2]
  conv => whnf
  refine hBB 3 66 (Nat.le_refl 3) (show 34 + jmany (n + m) ≤ 66 from by omega) ?_
  exact cloop (jmany n) 0 (by omega) _ none none none
