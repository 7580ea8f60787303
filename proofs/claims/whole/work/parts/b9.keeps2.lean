theorem k_lay {z : zS} (h : zG z) (x y v : Int32) : zG (zlay z x y v).2 := by
  unfold zlay
  split
  · rename_i c
    split
    · exact h
    · rename_i q hq
      split
      · refine zG_sW h (fun p hp => ?_)
        cases hp
        exact h.1.2.2.2.2.1 _ (tn_lt (n := 3) c.1 (by have := c.2; omega)) q hq
      · exact h
  · exact h
theorem k_row {z : zS} (h : zG z) (x y : Int32) : zG (zrow z x y).2 := by
  unfold zrow
  split
  · rename_i c
    split
    · exact h
    · refine zG_sW h (fun p hp => ?_)
      split at hp
      · cases hp
        show tn y ≤ 40
        unfold tn
        omega
      · cases hp
  · exact h
theorem k_store {z : zS} (h : zG z) (x y kd k : Int32) : zG (zstore z x y kd k).2 := by
  unfold zstore
  split
  · rename_i c
    split
    · exact h
    · split
      · split
        · exact h
        · refine zG_sK h ?_
          split
          · rename_i e
            rcases c.2 with q | q
            · exact h.1.1 _ (isReg_nI q.2).2
            · exact absurd (e.symm.trans q.1) (by decide)
          · rename_i e
            cases hW : zW z (tn k) with
            | none => trivial
            | some p =>
              rcases c.2 with q | q
              · exact absurd q.1 e
              · exact h.1.2.2.2.2.1 _ (tn_lt (n := 3) q.2.1 (by have := q.2.2; omega)) p hW
      · exact h
  · exact h
theorem k_fetch {z : zS} (h : zG z) (x y k : Int32) : zG (zfetch z x y k).2 := by
  unfold zfetch
  split
  · rename_i c
    split
    · rename_i c2
      have p12 : 4 * tn x + tn y < 12 := by
        have := tn_lt (n := 3) c.1 (by have := c.2; omega)
        have := tn_lt (n := 4) c2.1 (by have := c2.2; omega)
        omega
      have ok := h.1.2.2.2.1 _ p12
      split
      · exact h
      · rename_i q hq
        rw [hq] at ok
        split
        · rename_i c3
          exact zG_bec h (isReg_nI c3).2 ok
        · exact h
      · rename_i q hq
        rw [hq] at ok
        split
        · refine zG_sW h (fun p hp => ?_)
          cases hp
          exact ok
        · exact h
    · exact h
  · exact h
theorem k_copy {z : zS} (h : zG z) (x i o j n : Int32) : zG (zcopy z x i o j n).2 := by
  unfold zcopy
  split
  · rename_i c
    split
    · rename_i p q hp hq
      split
      · refine zG_sW h (fun w hw => ?_)
        cases hw
        exact h.1.2.2.2.2.1 _ (tn_lt (n := 3) c.2.1 (by have := c.2.2; omega)) q hq
      · exact h
    · exact h
  · exact h
theorem k_film {z : zS} (h : zG z) (x y : Int32) : zG (zfilm z x y).2 := by
  unfold zfilm
  split
  · split
    · exact h
    · refine zG_sW h (fun w hw => ?_)
      cases hw
      have := h.1.2.2.1.1
      show (zO z).1 ≤ 40
      omega
  · exact h
theorem k_image {z : zS} (h : zG z) : zG (zimage z).2 := by
  obtain ⟨⟨w1, w2, w3, w4, w5, w6, w7, w8⟩, f1, f2⟩ := h
  refine ⟨⟨w1, w2, w3, w4, w5, w6, w7, fun q hq => ?_⟩, f1, fun q hq => ?_⟩
  · cases hq
    exact ⟨w1, w3, w4⟩
  · cases hq
    exact f1
theorem k_restore {z : zS} (h : zG z) : zG (zrestore z).2 := by
  unfold zrestore
  split
  · exact h
  · rename_i q hq
    obtain ⟨⟨w1, w2, w3, w4, w5, w6, w7, w8⟩, f1, f2⟩ := h
    obtain ⟨v1, v2, v3⟩ := w8 q hq
    exact ⟨⟨v1, ⟨Nat.zero_le _, fun _ h => by cases h⟩, v2, v3, w5, w6, w7, w8⟩, f2 q hq, f2⟩
theorem k_order {z : zS} (h : zG z) (x : Int32) : zG (zorder z x).2 := by
  unfold zorder
  split
  · refine zG_O h ⟨by show tn x ≤ 6; unfold tn; omega, fun j hj => ⟨Nat.two_pow_pos _, fun _ => rfl, fun _ => Nat.zero_testBit _, fun i _ hi => ?_⟩⟩
    exact absurd hi (by rw [show ((tn x, fun _ => 0) : zOrd).2 j = 0 from rfl, Nat.zero_testBit]; exact Bool.false_ne_true)
  · exact h
theorem k_warm {z : zS} (h : zG z) (k x y : Int32) : zG (zwarm z k x y).2 := by
  unfold zwarm
  split
  · rename_i c
    have hr := (isReg_nI c.2.1).2
    have hm := jmany_le (h.1.1 _ hr).1
    have hyl : tn y < jmany (zR z (tn x)).1 := tn_lt c.2.2.1 c.2.2.2
    have sh := shr_ok (zR z (tn x)).2 (n := jmany (zR z (tn x)).1) (by omega) hyl
    have wk := wm_ok (h.2.1 (tn k) (tn_lt (n := 6) c.1.1 (by have := c.1.2; omega))) sh.1
    refine ⟨h.1, fun j hj => ?_, h.2.2⟩
    show fok 194 (va_up (zC z) (tn k) _ j)
    unfold va_up
    split
    · exact wk.1
    · exact h.2.1 j hj
  · exact h
