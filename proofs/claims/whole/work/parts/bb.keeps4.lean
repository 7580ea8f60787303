theorem jrd_le {n : Nat} : ∀ (xs : List zTm) (i : Nat) (f : Nat → Int64), 0 < xs.length → (jrd n xs i f).1 = none → n ≤ 6
  | [], _, _, h, _ => absurd h (Nat.lt_irrefl 0)
  | x :: xs, i, f, _, h => by
    rw [jrd] at h
    split at h
    · cases h
    · rename_i c
      omega
theorem jstp_hi {n : Nat} (x : zTm) (f : Nat → Int64) (hb : jbq x < jmany n) {k : Nat} (hk : jmany n ≤ k) : (jstp n x f).1 k = f k := by
  unfold jstp
  split
  · rw [jfin_hi _ _ _ _ _ hk]
  · show vp_updL f (jbq x) _ k = f k
    unfold vp_updL
    rw [if_neg (by omega)]
theorem jrd_hi {n : Nat} : ∀ (xs : List zTm) (i : Nat) (f : Nat → Int64), (∀ x ∈ xs, jtok x.2) → ∀ k, jmany n ≤ k → (jrd n xs i f).2 k = f k
  | [], _, _, _, _, _ => rfl
  | x :: xs, i, f, hx, k, hk => by
    rw [jrd]
    split
    · rfl
    · rename_i c
      split
      · rfl
      · have hb := (jbq_ok (hx x List.mem_cons_self) (by omega)).2
        have en : x.2.1 = n := by omega
        rw [en] at hb
        rw [jrd_hi xs (i + 1) _ (fun y hy => hx y (List.mem_cons_of_mem _ hy)) k hk]
        exact jstp_hi x f hb hk
theorem jrd_x {n : Nat} : ∀ (xs : List zTm) (i : Nat) (f : Nat → Int64) r, (jrd n xs i f).1 = some r → r.2.length ≤ 2
  | [], _, _, _, h => by cases h
  | x :: xs, i, f, r, h => by
    rw [jrd] at h
    split at h
    · cases h
      exact Nat.le_refl 2
    · split at h
      · cases h
        exact Nat.le_refl 2
      · exact jrd_x xs _ _ r h
theorem k_read {z : zS} (h : zG z) (x : Int32) : zG (zread z x).2 := by
  have ht80 := h.1.2.2.2.2.2.1.1
  obtain ⟨ok1, ok2, ok3⟩ := jtx_ok ht80 82 0 (nI 1) (Nat.zero_le _)
  have ok4 := jtx_pos (zP z) 81 0 (nI 1)
  have h1 : zG (zstP z (0, (zP z).2)) := zG_P h (Nat.zero_le _) h.1.2.2.2.2.2.1.2
  unfold zread
  split
  · rename_i c
    dsimp only
    split
    · exact zG_set h1 (Nat.le_refl 2)
    · split
      · rename_i r hr
        exact zG_set h1 (jrd_x _ _ _ _ hr)
      · rename_i hr
        refine zG_bec h1 (isReg_nI c).2 (zcan_mk (jrd_le _ _ _ ok4 hr) (fun c hc hm => ?_))
        rw [jrd_hi _ _ _ (fun y hy => (ok3 y hy).2) _ hm]
  · exact h
