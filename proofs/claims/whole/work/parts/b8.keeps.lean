/-! WHAT EVERY STATE KEEPS, behind each order -/
def zG (z : zS) : Prop := zWF z ∧ zFF z
theorem zdrop_len {T : List (Nat × zReg)} (h : T.length ≤ 8) : (zdrop T).length ≤ 7 := by
  unfold zdrop
  split
  · rw [List.length_drop]; omega
  · omega
theorem zdrop_mem {T : List (Nat × zReg)} {q : Nat × zReg} (h : q ∈ zdrop T) : q ∈ T := by
  unfold zdrop at h
  split at h
  · exact List.mem_of_mem_drop h
  · exact h
theorem zG_bec {z : zS} (h : zG z) {r : Nat} (hr : r < 4) {x : zReg} (hx : zcan x) : zG (zbecS z r x) := by
  obtain ⟨⟨w1, w2, w3⟩, f⟩ := h
  refine ⟨⟨?_, ?_, w3⟩, f⟩
  · intro k hk
    show zcan ((zbec (zR z) (zT z) r x).1 k)
    unfold zbec
    split
    · exact w1 k hk
    · show zcan (va_up (zR z) r x k)
      unfold va_up
      split
      · exact hx
      · exact w1 k hk
  · show (zbec (zR z) (zT z) r x).2.length ≤ 8 ∧ ∀ q ∈ (zbec (zR z) (zT z) r x).2, q.1 < 4 ∧ zcan q.2
    unfold zbec
    split
    · exact w2
    · have := zdrop_len w2.1
      refine ⟨by show (zdrop (zT z) ++ [(r, zR z r)]).length ≤ 8; rw [List.length_append, List.length_singleton]; omega, fun q hq => ?_⟩
      rcases List.mem_append.mp hq with q1 | q1
      · exact w2.2 q (zdrop_mem q1)
      · have := List.mem_singleton.mp q1
        subst this
        exact ⟨hr, w1 r hr⟩
theorem zG_set {z : zS} (h : zG z) {x : List (Int32 × Int32)} (hx : x.length ≤ 2) : zG (zset z x) := by
  obtain ⟨⟨w1, w2, w3, w4, w5, w6, w7, w8⟩, f⟩ := h
  exact ⟨⟨w1, w2, w3, w4, w5, w6, hx, w8⟩, f⟩
theorem zG_sW {z : zS} (h : zG z) {r : Nat} {v : Option zRow} (hv : ∀ q, v = some q → q.1 ≤ 40) : zG (zsW z r v) := by
  obtain ⟨⟨w1, w2, w3, w4, w5, w6, w7, w8⟩, f⟩ := h
  refine ⟨⟨w1, w2, w3, w4, fun k hk q hq => ?_, w6, w7, w8⟩, f⟩
  have hq : va_up (zW z) r v k = some q := hq
  unfold va_up at hq
  split at hq
  · exact hv q hq
  · exact w5 k hk q hq
theorem zG_sK {z : zS} (h : zG z) {r : Nat} {v : Option zItm} (hv : zitmOk v) : zG (zsK z r v) := by
  obtain ⟨⟨w1, w2, w3, w4, w5, w6, w7, w8⟩, f⟩ := h
  refine ⟨⟨w1, w2, w3, fun k hk => ?_, w5, w6, w7, w8⟩, f⟩
  show zitmOk (va_up (zK z) r v k)
  unfold va_up
  split
  · exact hv
  · exact w4 k hk
theorem zG_O {z : zS} (h : zG z) {o : zOrd} (ho : zordOk o) : zG (zR z, zT z, o, zC z, zK z, zW z, zP z, zX z, zI z) := by
  obtain ⟨⟨w1, w2, w3⟩, f⟩ := h
  exact ⟨⟨w1, w2, ho, w3.2⟩, f⟩
theorem zG_P {z : zS} (h : zG z) {t : zTap} (h1 : t.1 ≤ 80) (h2 : ∀ j, t.2 j < 128) : zG (zR z, zT z, zO z, zC z, zK z, zW z, t, zX z, zI z) := by
  obtain ⟨⟨w1, w2, w3, w4, w5, w6, w7, w8⟩, f⟩ := h
  exact ⟨⟨w1, w2, w3, w4, w5, ⟨h1, h2⟩, w7, w8⟩, f⟩
theorem k_zero {z : zS} (h : zG z) (x y : Int32) : zG (zzero z x y).2 := by
  unfold zzero
  split
  · rename_i c
    exact zG_bec h (isReg_nI c.1).2 ⟨by show tn y ≤ 6; unfold tn; omega, fun _ _ _ => rfl⟩
  · exact h
theorem k_put {z : zS} (h : zG z) (x y : Int32) (v : Int64) : zG (zput z x y v).2 := by
  unfold zput
  split
  · rename_i c
    have hr := (isReg_nI c.1).2
    exact zG_bec h hr (zcan_upd (h.1.1 _ hr) (tn_lt c.2.1 c.2.2) v)
  · exact h
theorem k_fund {z : zS} (h : zG z) (x y : Int32) (v : Int64) : zG (zfund z x y v).2 := by
  unfold zfund
  split
  · rename_i c
    have hr := (isReg_nI c.1).2
    dsimp only
    split
    · exact zG_set h (Nat.le_of_ble_eq_true rfl)
    · refine zG_bec h hr (zcan_mk (h.1.1 _ hr).1 (fun c hc hm => ?_))
      rw [jfin_hi _ _ _ _ _ hm]
      exact (h.1.1 _ hr).2 c hc hm
  · exact h
theorem k_inF {z : zS} (h : zG z) (x y : Int32) : zG (zinF z x y).2 := by
  unfold zinF
  split
  · dsimp only
    split
    · exact zG_set h (Nat.le_of_ble_eq_true rfl)
    · exact h
  · exact h
theorem k_counts {z : zS} (h : zG z) (x y : Int32) : zG (zcounts z x y).2 := by
  unfold zcounts
  split
  · dsimp only
    split
    · exact zG_set h (Nat.le_of_ble_eq_true rfl)
    · exact h
  · exact h
theorem zG_stl {z : zS} (h : zG z) {r : Nat} (hr : r < 4) {x : zReg} (hx : zcan x) (q : jLs) (a : Int32) : zG (zstl z r x q a).2 := by
  unfold zstl
  split
  · exact zG_set h (Nat.le_of_ble_eq_true rfl)
  · exact zG_bec h hr hx
theorem k_sum {z : zS} (h : zG z) (x y w : Int32) : zG (zsum z x y w).2 := by
  unfold zsum
  split
  · rename_i c
    split
    · dsimp only
      refine zG_stl h (isReg_nI c.1).2 (zcan_mk (h.1.1 _ (isReg_nI c.2.1).2).1 (fun c hc hm => ?_)) _ _
      rw [jsm_hi _ _ _ _ _ hm]
    · exact h
  · exact h
theorem k_anti {z : zS} (h : zG z) (x y : Int32) : zG (zanti z x y).2 := by
  unfold zanti
  split
  · rename_i c
    dsimp only
    refine zG_stl h (isReg_nI c.1).2 (zcan_mk (h.1.1 _ (isReg_nI c.2).2).1 (fun c hc hm => ?_)) _ _
    rw [jan_hi _ _ _ _ _ _ hm]
  · exact h
theorem k_mul {z : zS} (h : zG z) (x y w : Int32) : zG (zmul z x y w).2 := by
  unfold zmul
  split
  · rename_i c
    split
    · rename_i c2
      dsimp only
      refine zG_stl h (isReg_nI c.1).2 (zcan_mk c2 (fun c hc hm => ?_)) _ _
      rw [jmulC_hi _ _ _ _ _ _ hm]
    · exact h
  · exact h
theorem k_make {z : zS} (h : zG z) (x : Int32) : zG (zmake z x).2 := by
  unfold zmake
  split
  · rename_i c
    exact zG_bec h (isReg_nI c).2 (zcan_mk h.1.2.2.1.1 (fun c hc hm => jmk_hi _ _ _ hm))
  · exact h
theorem k_feed {z : zS} (h : zG z) (x : Int32) : zG (zfeed z x).2 := by
  unfold zfeed
  obtain ⟨p1, p2⟩ := h.1.2.2.2.2.2.1
  split
  · rename_i c
    split
    · exact h
    · refine zG_P h (by show _ + 1 ≤ 80; omega) (fun j => ?_)
      show (if j = (zP z).1 then tn x else (zP z).2 j) < 128
      split
      · unfold tn; omega
      · exact p2 j
  · exact h
theorem k_wipe {z : zS} (h : zG z) : zG (zwipe z).2 := zG_P h (by show 0 ≤ 80; omega) h.1.2.2.2.2.2.1.2
theorem k_back {z : zS} (h : zG z) : zG (zback z).2 := by
  unfold zback
  split
  · exact h
  · rename_i q hq
    obtain ⟨⟨w1, w2, w3⟩, f⟩ := h
    have hm := List.mem_of_getLast? hq
    refine ⟨⟨fun r hr => ?_, ⟨?_, fun q hq => w2.2 q ((List.dropLast_sublist (zT z)).subset hq)⟩, w3⟩, f⟩
    · show zcan (va_up (zR z) q.1 q.2 r)
      unfold va_up
      split
      · exact (w2.2 _ hm).2
      · exact w1 r hr
    · show (zT z).dropLast.length ≤ 8
      rw [List.length_dropLast]
      have := w2.1
      omega
