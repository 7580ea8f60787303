/-! image, restore of the reference against the state -/
def jcpI (f g : Nat → Int32) (e : Nat) : Nat → Int32 := fun j => if j < e then g j else f j
theorem jcpI_0 (f g : Nat → Int32) : jcpI f g 0 = f := by funext j; unfold jcpI; rw [if_neg (by omega)]
theorem jcpI_s (f g : Nat → Int32) (e : Nat) : upd (jcpI f g e) e (g e) = jcpI f g (e + 1) := by
  funext j
  unfold upd jcpI
  by_cases h1 : j = e
  · rw [if_pos h1, if_pos (by omega), h1]
  · rw [if_neg h1]
    by_cases h2 : j < e
    · rw [if_pos h2, if_pos (by omega)]
    · rw [if_neg h2, if_neg (by omega)]
theorem jcpI_at {f g : Nat → Int32} {e j : Nat} (h : j < e) : jcpI f g e j = g j := if_pos h
def jcpF (f g : Nat → UInt32) (e : Nat) : Nat → UInt32 := fun j => if j < e then g j else f j
theorem jcpF_0 (f g : Nat → UInt32) : jcpF f g 0 = f := by funext j; unfold jcpF; rw [if_neg (by omega)]
theorem jcpF_s (f g : Nat → UInt32) (e : Nat) : va_up (jcpF f g e) e (g e) = jcpF f g (e + 1) := by
  funext j
  unfold va_up jcpF
  by_cases h1 : j = e
  · rw [if_pos h1, if_pos (by omega), h1]
  · rw [if_neg h1]
    by_cases h2 : j < e
    · rw [if_pos h2, if_pos (by omega)]
    · rw [if_neg h2, if_neg (by omega)]
theorem jcpF_at {f g : Nat → UInt32} {e j : Nat} (h : j < e) : jcpF f g e j = g j := if_pos h
theorem jcpL_0 (f g : Nat → Int64) : jcpL f g 0 = f := rfl
theorem jcpL_lt {f g : Nat → Int64} {e j : Nat} (h : j < e) : jcpL f g e j = g j := by rw [jcpL_at, if_pos h]
theorem va_up_comm {α : Type} (f : Nat → α) {k j : Nat} (hkj : k ≠ j) (x y : α) : va_up (va_up f k x) j y = va_up (va_up f j y) k x := by
  funext i
  unfold va_up
  by_cases h1 : i = j
  · rw [if_pos h1, if_neg (by omega), if_pos h1]
  · rw [if_neg h1, if_neg h1]
theorem eReg_c {a a2 : Nat → Int32} {b b2 : Nat → Int64} {R : Nat → zReg} (h : eReg a b R) (h1 : ∀ r, r < 4 → a2 r = a r) (h2 : ∀ j, j < 128 → b2 j = b j) : eReg a2 b2 R := fun r hr => ⟨(h1 r hr).trans (h r hr).1, fun c hc => (h2 _ (by omega)).trans ((h r hr).2 c hc)⟩
theorem eOrd_c {p p2 : Int32} {a a2 : Nat → Int32} {o : zOrd} (h : eOrd p a o) (h1 : p2 = p) (h2 : ∀ j, j < 7 → a2 j = a j) : eOrd p2 a2 o := ⟨h1.trans h.1, fun j hj => (h2 j hj).trans (h.2 j hj)⟩
theorem eCel_c {a a2 x : Nat → UInt32} (h : eCel a x) (h1 : ∀ j, j < 6 → a2 j = a j) : eCel a2 x := fun j hj => (h1 j hj).trans (h j hj)
theorem eRck_c {a n a2 n2 : Nat → Int32} {b b2 : Nat → Int64} {K : Nat → Option zItm} (h : eRck a n b K) (hz : ∀ p, p < 12 → zitmOk (K p)) (h1 : ∀ j, j < 12 → a2 j = a j) (h2 : ∀ j, j < 12 → n2 j = n j) (h3 : ∀ j, j < 480 → b2 j = b j) : eRck a2 n2 b2 K := fun p hp => eItm_c (eRck_at h hp) (h1 p hp) (h2 p hp) (hz p hp) (fun c hc => h3 _ (by omega))
def zall (R : Nat → zReg) : Nat := (R 0).1 + (R 1).1 + (R 2).1 + (R 3).1
def jsmW (R : Nat → zReg) : Nat → Nat → Nat
  | 0, _ => 0
  | k + 1, e => (R e).1 + jsmW R k (e + 1)
theorem c_X12_all {h : List jC} (hh : 53 ≤ h.length) (s : Nat → Int32) (I : jIs) (L : jLss) (F : jFs) {R : Nat → zReg} (hR : ∀ r, r < 4 → I 3 r = nI (R r).1) : jCt jy_X12_all [.ref 20] (jR h s I L F) (fun r h' => r = some (.int (nI (zall R))) ∧ h' = jR h s I L F) := by
  refine jrun2 (js_X12_all _) rfl rfl rfl (fun G hG hW hB => ?_)
  have loop : ∀ k e v, 4 = e + k → v + jsmW R k e = zall R → G 4 [some (.ref 20), some (.int (nI v)), some (.int (nI e))] [] (jR h s I L F) 0 0 := by
    intro k
    induction k with
    | zero =>
      intro e v he hv
      refine hG [4] 300 _ _ _ _ _ _ ?_
      conv => whnf
      refine ⟨fun qb => ?_, fun qb => ?_⟩ <;> rw [nI_leI (by omega) (by omega)] at qb
      case refine_2 => omega
      conv => whnf
      rw [← hv, jsmW, Nat.add_zero]
      exact ⟨rfl, rfl⟩
    | succ k ih =>
      intro e v he hv
      refine hG [4] 300 _ _ _ _ _ _ ?_
      conv => whnf
      refine ⟨fun qb => ?_, fun qb => ?_⟩ <;> rw [nI_leI (by omega) (by omega)] at qb
      · omega
      conv => whnf
      refine ⟨_, m_0 hh, ?_⟩
      conv => whnf
      refine ⟨_, _, _, m_3 hh, rfl, (show e < 4 by omega), ?_⟩
      conv => whnf
      rw [hR e (by omega), nI_add, nI_add]
      refine ih (e + 1) _ (by omega) ?_
      rw [← hv, jsmW, Nat.add_assoc]
  refine hG [4] 300 _ _ _ _ _ _ ?_
  conv => whnf
  refine loop 4 0 0 (by omega) ?_
  simp [jsmW, zall]
  omega

def zimage (z : zS) : Value × zS := (.int (nI (zall (zR z))), (zR z, zT z, zO z, zC z, zK z, zW z, zP z, zX z, some (zR z, zO z, zC z, zK z)))
theorem r_image {h : List jC} (hh : 53 ≤ h.length) {s : Nat → Int32} {I : jIs} {L : jLss} {F : jFs} {z : zS} (hE : EncR s I L F z) (hz : zWF z) : jCt jy_X12_image [.ref 20] (jR h s I L F) (zPost h (zimage z).1 (zimage z).2) := by
  obtain ⟨e1, e2, e3, e4, e5, e6, e7, e8, e9, e10⟩ := id hE
  generalize hΦ : zPost h (zimage z).1 (zimage z).2 = Φ
  refine jrun2 (js_X12_image _) rfl rfl rfl (fun G hG hW hB => ?_)
  have l0 : ∀ (s1 : Nat → Int32) (I1 : jIs) (L1 : jLss) (F1 : jFs), G 25 [some (.ref 20), some (.int (nI 4))] [] (jR h s1 (va_up I1 26 (jcpI (I1 26) (I1 3) 4)) L1 F1) 0 0 → ∀ k e, 4 = e + k → G 2 [some (.ref 20), some (.int (nI e))] [] (jR h s1 (va_up I1 26 (jcpI (I1 26) (I1 3) e)) L1 F1) 0 0 := by
    intro s1 I1 L1 F1 hend k
    induction k with
    | zero =>
      intro e he
      refine hG [2, 25] 300 _ _ _ _ _ _ ?_
      conv => whnf
      refine ⟨fun qb => ?_, fun qb => ?_⟩ <;> rw [nI_leI (by omega) (by omega)] at qb
      case refine_2 => omega
      rw [Nat.add_zero] at he
      rw [← he]
      exact hend
    | succ k ih =>
      intro e he
      refine hG [2, 25] 300 _ _ _ _ _ _ ?_
      conv => whnf
      refine ⟨fun qb => ?_, fun qb => ?_⟩ <;> rw [nI_leI (by omega) (by omega)] at qb
      · omega
      conv => whnf
      refine ⟨_, m_0 hh, ?_⟩
      conv => whnf
      refine ⟨_, m_0 hh, ?_⟩
      conv => whnf
      refine ⟨_, _, _, m_3 hh, rfl, (show e < 4 by omega), ?_⟩
      conv => whnf
      refine ⟨_, _, _, m_26 hh, rfl, (show e < 4 by omega), ?_⟩
      conv => whnf
      rw [nI_add]
      erw [ms_26 (upd (jcpI (I1 26) (I1 3) e) e (I1 3 e))]
      rw [va_up_up, jcpI_s]
      exact ih (e + 1) (by omega)
  have l1 : ∀ (s1 : Nat → Int32) (I1 : jIs) (L1 : jLss) (F1 : jFs), G 52 [some (.ref 20), some (.int (nI 128))] [] (jR h s1 I1 (va_up L1 27 (jcpL (L1 27) (L1 4) 128)) F1) 0 0 → ∀ k e, 128 = e + k → G 27 [some (.ref 20), some (.int (nI e))] [] (jR h s1 I1 (va_up L1 27 (jcpL (L1 27) (L1 4) e)) F1) 0 0 := by
    intro s1 I1 L1 F1 hend k
    induction k with
    | zero =>
      intro e he
      refine hG [27, 52] 300 _ _ _ _ _ _ ?_
      conv => whnf
      refine ⟨fun qb => ?_, fun qb => ?_⟩ <;> rw [nI_leI (by omega) (by omega)] at qb
      case refine_2 => omega
      rw [Nat.add_zero] at he
      rw [← he]
      exact hend
    | succ k ih =>
      intro e he
      refine hG [27, 52] 300 _ _ _ _ _ _ ?_
      conv => whnf
      refine ⟨fun qb => ?_, fun qb => ?_⟩ <;> rw [nI_leI (by omega) (by omega)] at qb
      · omega
      conv => whnf
      refine ⟨_, m_0 hh, ?_⟩
      conv => whnf
      refine ⟨_, m_0 hh, ?_⟩
      conv => whnf
      refine ⟨_, _, _, m_4 hh, rfl, (show e < 128 by omega), ?_⟩
      conv => whnf
      refine ⟨_, _, _, m_27 hh, rfl, (show e < 128 by omega), ?_⟩
      conv => whnf
      rw [nI_add]
      erw [ms_27 (vp_updL (jcpL (L1 27) (L1 4) e) e (L1 4 e))]
      rw [va_up_up]
      exact ih (e + 1) (by omega)
  have l2 : ∀ (s1 : Nat → Int32) (I1 : jIs) (L1 : jLss) (F1 : jFs), G 86 [some (.ref 20), some (.int (nI 7))] [] (jR h s1 (va_up I1 28 (jcpI (I1 28) (I1 10) 7)) L1 F1) 0 0 → ∀ k e, 7 = e + k → G 62 [some (.ref 20), some (.int (nI e))] [] (jR h s1 (va_up I1 28 (jcpI (I1 28) (I1 10) e)) L1 F1) 0 0 := by
    intro s1 I1 L1 F1 hend k
    induction k with
    | zero =>
      intro e he
      refine hG [62, 86] 300 _ _ _ _ _ _ ?_
      conv => whnf
      refine ⟨fun qb => ?_, fun qb => ?_⟩ <;> rw [nI_ltI (by omega) (by omega)] at qb
      case refine_2 => omega
      rw [Nat.add_zero] at he
      rw [← he]
      exact hend
    | succ k ih =>
      intro e he
      refine hG [62, 86] 300 _ _ _ _ _ _ ?_
      conv => whnf
      refine ⟨fun qb => ?_, fun qb => ?_⟩ <;> rw [nI_ltI (by omega) (by omega)] at qb
      · omega
      conv => whnf
      refine ⟨_, m_0 hh, ?_⟩
      conv => whnf
      refine ⟨_, m_0 hh, ?_⟩
      conv => whnf
      refine ⟨_, _, _, m_10 hh, rfl, (show e < 7 by omega), ?_⟩
      conv => whnf
      refine ⟨_, _, _, m_28 hh, rfl, (show e < 7 by omega), ?_⟩
      conv => whnf
      rw [nI_add]
      erw [ms_28 (upd (jcpI (I1 28) (I1 10) e) e (I1 10 e))]
      rw [va_up_up, jcpI_s]
      exact ih (e + 1) (by omega)
  have l3 : ∀ (s1 : Nat → Int32) (I1 : jIs) (L1 : jLss) (F1 : jFs), G 112 [some (.ref 20), some (.int (nI 6))] [] (jR h s1 I1 L1 (va_up F1 29 (jcpF (F1 29) (F1 13) 6))) 0 0 → ∀ k e, 6 = e + k → G 88 [some (.ref 20), some (.int (nI e))] [] (jR h s1 I1 L1 (va_up F1 29 (jcpF (F1 29) (F1 13) e))) 0 0 := by
    intro s1 I1 L1 F1 hend k
    induction k with
    | zero =>
      intro e he
      refine hG [88, 112] 300 _ _ _ _ _ _ ?_
      conv => whnf
      refine ⟨fun qb => ?_, fun qb => ?_⟩ <;> rw [nI_leI (by omega) (by omega)] at qb
      case refine_2 => omega
      rw [Nat.add_zero] at he
      rw [← he]
      exact hend
    | succ k ih =>
      intro e he
      refine hG [88, 112] 300 _ _ _ _ _ _ ?_
      conv => whnf
      refine ⟨fun qb => ?_, fun qb => ?_⟩ <;> rw [nI_leI (by omega) (by omega)] at qb
      · omega
      conv => whnf
      refine ⟨_, m_0 hh, ?_⟩
      conv => whnf
      refine ⟨_, m_0 hh, ?_⟩
      conv => whnf
      refine ⟨_, _, _, m_13 hh, rfl, (show e < 6 by omega), ?_⟩
      conv => whnf
      refine ⟨_, _, _, m_29 hh, rfl, (show e < 6 by omega), ?_⟩
      conv => whnf
      rw [nI_add]
      erw [ms_29 (va_up (jcpF (F1 29) (F1 13) e) e (F1 13 e))]
      rw [va_up_up, jcpF_s]
      exact ih (e + 1) (by omega)
  have l4 : ∀ (s1 : Nat → Int32) (I1 : jIs) (L1 : jLss) (F1 : jFs), G 150 [some (.ref 20), some (.int (nI 12))] [] (jR h s1 (va_up (va_up I1 30 (jcpI (I1 30) (I1 18) 12)) 31 (jcpI (I1 31) (I1 19) 12)) L1 F1) 0 0 → ∀ k e, 12 = e + k → G 114 [some (.ref 20), some (.int (nI e))] [] (jR h s1 (va_up (va_up I1 30 (jcpI (I1 30) (I1 18) e)) 31 (jcpI (I1 31) (I1 19) e)) L1 F1) 0 0 := by
    intro s1 I1 L1 F1 hend k
    induction k with
    | zero =>
      intro e he
      refine hG [114, 150] 300 _ _ _ _ _ _ ?_
      conv => whnf
      refine ⟨fun qb => ?_, fun qb => ?_⟩ <;> rw [nI_leI (by omega) (by omega)] at qb
      case refine_2 => omega
      rw [Nat.add_zero] at he
      rw [← he]
      exact hend
    | succ k ih =>
      intro e he
      refine hG [114, 150] 300 _ _ _ _ _ _ ?_
      conv => whnf
      refine ⟨fun qb => ?_, fun qb => ?_⟩ <;> rw [nI_leI (by omega) (by omega)] at qb
      · omega
      conv => whnf
      refine ⟨_, m_0 hh, ?_⟩
      conv => whnf
      refine ⟨_, m_0 hh, ?_⟩
      conv => whnf
      refine ⟨_, _, _, m_18 hh, rfl, (show e < 12 by omega), ?_⟩
      conv => whnf
      refine ⟨_, _, _, m_30 hh, rfl, (show e < 12 by omega), ?_⟩
      conv => whnf
      erw [ms_30 (upd (jcpI (I1 30) (I1 18) e) e (I1 18 e))]
      rw [va_up_comm _ (show 31 ≠ 30 by decide), va_up_up, jcpI_s]
      refine ⟨_, m_0 hh, ?_⟩
      conv => whnf
      refine ⟨_, m_0 hh, ?_⟩
      conv => whnf
      refine ⟨_, _, _, m_19 hh, rfl, (show e < 12 by omega), ?_⟩
      conv => whnf
      refine ⟨_, _, _, m_31 hh, rfl, (show e < 12 by omega), ?_⟩
      conv => whnf
      rw [nI_add]
      erw [ms_31 (upd (jcpI (I1 31) (I1 19) e) e (I1 19 e))]
      rw [va_up_up, jcpI_s]
      exact ih (e + 1) (by omega)
  have l5 : ∀ (s1 : Nat → Int32) (I1 : jIs) (L1 : jLss) (F1 : jFs), G 177 [some (.ref 20), some (.int (nI 480))] [] (jR h s1 I1 (va_up L1 32 (jcpL (L1 32) (L1 20) 480)) F1) 0 0 → ∀ k e, 480 = e + k → G 152 [some (.ref 20), some (.int (nI e))] [] (jR h s1 I1 (va_up L1 32 (jcpL (L1 32) (L1 20) e)) F1) 0 0 := by
    intro s1 I1 L1 F1 hend k
    induction k with
    | zero =>
      intro e he
      refine hG [152, 177] 300 _ _ _ _ _ _ ?_
      conv => whnf
      refine ⟨fun qb => ?_, fun qb => ?_⟩ <;> rw [nI_leI (by omega) (by omega)] at qb
      case refine_2 => omega
      rw [Nat.add_zero] at he
      rw [← he]
      exact hend
    | succ k ih =>
      intro e he
      refine hG [152, 177] 300 _ _ _ _ _ _ ?_
      conv => whnf
      refine ⟨fun qb => ?_, fun qb => ?_⟩ <;> rw [nI_leI (by omega) (by omega)] at qb
      · omega
      conv => whnf
      refine ⟨_, m_0 hh, ?_⟩
      conv => whnf
      refine ⟨_, m_0 hh, ?_⟩
      conv => whnf
      refine ⟨_, _, _, m_20 hh, rfl, (show e < 480 by omega), ?_⟩
      conv => whnf
      refine ⟨_, _, _, m_32 hh, rfl, (show e < 480 by omega), ?_⟩
      conv => whnf
      rw [nI_add]
      erw [ms_32 (vp_updL (jcpL (L1 32) (L1 20) e) e (L1 20 e))]
      rw [va_up_up]
      exact ih (e + 1) (by omega)
  have g0 : ∀ (s1 : Nat → Int32) (I1 : jIs) (L1 : jLss) (F1 : jFs), G 25 [some (.ref 20), some (.int (nI 4))] [] (jR h s1 (va_up I1 26 (jcpI (I1 26) (I1 3) 4)) L1 F1) 0 0 → G 2 [some (.ref 20), some (.int (nI 0))] [] (jR h s1 I1 L1 F1) 0 0 := by
    intro s1 I1 L1 F1 hend
    have a := l0 s1 I1 L1 F1 hend 4 0 (by omega)
    rw [jcpI_0, va_up_same] at a
    exact a
  have g1 : ∀ (s1 : Nat → Int32) (I1 : jIs) (L1 : jLss) (F1 : jFs), G 52 [some (.ref 20), some (.int (nI 128))] [] (jR h s1 I1 (va_up L1 27 (jcpL (L1 27) (L1 4) 128)) F1) 0 0 → G 27 [some (.ref 20), some (.int (nI 0))] [] (jR h s1 I1 L1 F1) 0 0 := by
    intro s1 I1 L1 F1 hend
    have a := l1 s1 I1 L1 F1 hend 128 0 (by omega)
    rw [jcpL_0, va_up_same] at a
    exact a
  have g2 : ∀ (s1 : Nat → Int32) (I1 : jIs) (L1 : jLss) (F1 : jFs), G 86 [some (.ref 20), some (.int (nI 7))] [] (jR h s1 (va_up I1 28 (jcpI (I1 28) (I1 10) 7)) L1 F1) 0 0 → G 62 [some (.ref 20), some (.int (nI 0))] [] (jR h s1 I1 L1 F1) 0 0 := by
    intro s1 I1 L1 F1 hend
    have a := l2 s1 I1 L1 F1 hend 7 0 (by omega)
    rw [jcpI_0, va_up_same] at a
    exact a
  have g3 : ∀ (s1 : Nat → Int32) (I1 : jIs) (L1 : jLss) (F1 : jFs), G 112 [some (.ref 20), some (.int (nI 6))] [] (jR h s1 I1 L1 (va_up F1 29 (jcpF (F1 29) (F1 13) 6))) 0 0 → G 88 [some (.ref 20), some (.int (nI 0))] [] (jR h s1 I1 L1 F1) 0 0 := by
    intro s1 I1 L1 F1 hend
    have a := l3 s1 I1 L1 F1 hend 6 0 (by omega)
    rw [jcpF_0, va_up_same] at a
    exact a
  have g4 : ∀ (s1 : Nat → Int32) (I1 : jIs) (L1 : jLss) (F1 : jFs), G 150 [some (.ref 20), some (.int (nI 12))] [] (jR h s1 (va_up (va_up I1 30 (jcpI (I1 30) (I1 18) 12)) 31 (jcpI (I1 31) (I1 19) 12)) L1 F1) 0 0 → G 114 [some (.ref 20), some (.int (nI 0))] [] (jR h s1 I1 L1 F1) 0 0 := by
    intro s1 I1 L1 F1 hend
    have a := l4 s1 I1 L1 F1 hend 12 0 (by omega)
    rw [jcpI_0, jcpI_0, va_up_same I1 30, va_up_same I1 31] at a
    exact a
  have g5 : ∀ (s1 : Nat → Int32) (I1 : jIs) (L1 : jLss) (F1 : jFs), G 177 [some (.ref 20), some (.int (nI 480))] [] (jR h s1 I1 (va_up L1 32 (jcpL (L1 32) (L1 20) 480)) F1) 0 0 → G 152 [some (.ref 20), some (.int (nI 0))] [] (jR h s1 I1 L1 F1) 0 0 := by
    intro s1 I1 L1 F1 hend
    have a := l5 s1 I1 L1 F1 hend 480 0 (by omega)
    rw [jcpL_0, va_up_same] at a
    exact a
  refine hG [2] 300 _ _ _ _ _ _ ?_
  conv => whnf
  refine g0 _ _ _ _ ?_
  refine hG [27] 300 _ _ _ _ _ _ ?_
  conv => whnf
  refine g1 _ _ _ _ ?_
  refine hG [62] 300 _ _ _ _ _ _ ?_
  conv => whnf
  refine ⟨_, m_0 hh, ?_⟩
  conv => whnf
  refine ⟨trivial, _, m_0 hh, ?_⟩
  conv => whnf
  erw [ms_0 (upd s 9 (s 3))]
  refine g2 _ _ _ _ ?_
  refine hG [88] 300 _ _ _ _ _ _ ?_
  conv => whnf
  refine g3 _ _ _ _ ?_
  refine hG [114] 300 _ _ _ _ _ _ ?_
  conv => whnf
  refine g4 _ _ _ _ ?_
  refine hG [152] 300 _ _ _ _ _ _ ?_
  conv => whnf
  refine g5 _ _ _ _ ?_
  refine hG [] 300 _ _ _ _ _ _ ?_
  conv => whnf
  have hR : ∀ r, r < 4 → I 3 r = nI (zR z r).1 := fun r hr => (e2 r hr).1
  refine ⟨⟨_, m_0 hh⟩, jcall (c_X12_all hh _ _ _ _ hR) ?_⟩
  rintro r h' ⟨rfl, rfl⟩
  conv => whnf
  rw [← hΦ]
  refine ⟨rfl, _, _, _, _, rfl, ⟨e1, e2, e3, e4, e5, e6, e7, e8, e9, ?_⟩⟩
  exact ⟨eReg_c e2 (fun r hr => jcpI_at hr) (fun j hj => jcpL_lt hj), eOrd_c e4 rfl (fun j hj => jcpI_at hj), eCel_c e5 (fun j hj => jcpF_at hj), eRck_c e6 hz.2.2.2.1 (fun j hj => jcpI_at hj) (fun j hj => jcpI_at hj) (fun j hj => jcpL_lt hj)⟩
def zrestore (z : zS) : Value × zS := match zI z with
  | none => (.int (-5), z)
  | some q => (.int (nI (zall q.1)), (q.1, [], q.2.1, q.2.2.1, q.2.2.2, zW z, zP z, zX z, zI z))
theorem jn_m2 : ∀ n, n < 7 → ¬ nI n = -2 := by decide +kernel
theorem r_restore {h : List jC} (hh : 53 ≤ h.length) {s : Nat → Int32} {I : jIs} {L : jLss} {F : jFs} {z : zS} (hE : EncR s I L F z) (hz : zWF z) : jCt jy_X12_restore [.ref 20] (jR h s I L F) (zPost h (zrestore z).1 (zrestore z).2) := by
  obtain ⟨e1, e2, e3, e4, e5, e6, e7, e8, e9, e10⟩ := id hE
  have hzi := hz.2.2.2.2.2.2.2
  match hI : zI z, e10, hzi with
  | none, e10, hzi =>
    rw [show zrestore z = (.int (-5), z) by unfold zrestore; rw [hI]]
    refine jrun2 (js_X12_restore _) rfl rfl rfl (fun G hG hW hB => ?_)
    refine hG [] 300 _ _ _ _ _ _ ?_
    conv => whnf
    refine ⟨_, m_0 hh, ?_⟩
    conv => whnf
    refine ⟨fun q => absurd e10 q, fun _ => ?_⟩
    conv => whnf
    exact ⟨rfl, s, I, L, F, rfl, hE⟩
  | some q, e10, hzi =>
  rw [show zrestore z = (.int (nI (zall q.1)), (q.1, [], q.2.1, q.2.2.1, q.2.2.2, zW z, zP z, zX z, zI z)) by unfold zrestore; rw [hI]]
  obtain ⟨d1, d2, d3⟩ := hzi q rfl
  have e10' : eKep (s 9) (I 26) (I 28) (I 30) (I 31) (L 27) (L 32) (F 29) (some q) := e10
  obtain ⟨k1, k2, k3, k4⟩ := e10
  generalize hΦ : zPost h _ _ = Φ
  refine jrun2 (js_X12_restore _) rfl rfl rfl (fun G hG hW hB => ?_)
  have l0 : ∀ (s1 : Nat → Int32) (I1 : jIs) (L1 : jLss) (F1 : jFs), G 37 [some (.ref 20), some (.int (nI 4))] [] (jR h s1 (va_up I1 3 (jcpI (I1 3) (I1 26) 4)) L1 F1) 0 0 → ∀ k e, 4 = e + k → G 14 [some (.ref 20), some (.int (nI e))] [] (jR h s1 (va_up I1 3 (jcpI (I1 3) (I1 26) e)) L1 F1) 0 0 := by
    intro s1 I1 L1 F1 hend k
    induction k with
    | zero =>
      intro e he
      refine hG [14, 37] 300 _ _ _ _ _ _ ?_
      conv => whnf
      refine ⟨fun qb => ?_, fun qb => ?_⟩ <;> rw [nI_leI (by omega) (by omega)] at qb
      case refine_2 => omega
      rw [Nat.add_zero] at he
      rw [← he]
      exact hend
    | succ k ih =>
      intro e he
      refine hG [14, 37] 300 _ _ _ _ _ _ ?_
      conv => whnf
      refine ⟨fun qb => ?_, fun qb => ?_⟩ <;> rw [nI_leI (by omega) (by omega)] at qb
      · omega
      conv => whnf
      refine ⟨_, m_0 hh, ?_⟩
      conv => whnf
      refine ⟨_, m_0 hh, ?_⟩
      conv => whnf
      refine ⟨_, _, _, m_26 hh, rfl, (show e < 4 by omega), ?_⟩
      conv => whnf
      refine ⟨_, _, _, m_3 hh, rfl, (show e < 4 by omega), ?_⟩
      conv => whnf
      rw [nI_add]
      erw [ms_3 (upd (jcpI (I1 3) (I1 26) e) e (I1 26 e))]
      rw [va_up_up, jcpI_s]
      exact ih (e + 1) (by omega)
  have l1 : ∀ (s1 : Nat → Int32) (I1 : jIs) (L1 : jLss) (F1 : jFs), G 64 [some (.ref 20), some (.int (nI 128))] [] (jR h s1 I1 (va_up L1 4 (jcpL (L1 4) (L1 27) 128)) F1) 0 0 → ∀ k e, 128 = e + k → G 39 [some (.ref 20), some (.int (nI e))] [] (jR h s1 I1 (va_up L1 4 (jcpL (L1 4) (L1 27) e)) F1) 0 0 := by
    intro s1 I1 L1 F1 hend k
    induction k with
    | zero =>
      intro e he
      refine hG [39, 64] 300 _ _ _ _ _ _ ?_
      conv => whnf
      refine ⟨fun qb => ?_, fun qb => ?_⟩ <;> rw [nI_leI (by omega) (by omega)] at qb
      case refine_2 => omega
      rw [Nat.add_zero] at he
      rw [← he]
      exact hend
    | succ k ih =>
      intro e he
      refine hG [39, 64] 300 _ _ _ _ _ _ ?_
      conv => whnf
      refine ⟨fun qb => ?_, fun qb => ?_⟩ <;> rw [nI_leI (by omega) (by omega)] at qb
      · omega
      conv => whnf
      refine ⟨_, m_0 hh, ?_⟩
      conv => whnf
      refine ⟨_, m_0 hh, ?_⟩
      conv => whnf
      refine ⟨_, _, _, m_27 hh, rfl, (show e < 128 by omega), ?_⟩
      conv => whnf
      refine ⟨_, _, _, m_4 hh, rfl, (show e < 128 by omega), ?_⟩
      conv => whnf
      rw [nI_add]
      erw [ms_4 (vp_updL (jcpL (L1 4) (L1 27) e) e (L1 27 e))]
      rw [va_up_up]
      exact ih (e + 1) (by omega)
  have l2 : ∀ (s1 : Nat → Int32) (I1 : jIs) (L1 : jLss) (F1 : jFs), G 98 [some (.ref 20), some (.int (nI 7))] [] (jR h s1 (va_up I1 10 (jcpI (I1 10) (I1 28) 7)) L1 F1) 0 0 → ∀ k e, 7 = e + k → G 74 [some (.ref 20), some (.int (nI e))] [] (jR h s1 (va_up I1 10 (jcpI (I1 10) (I1 28) e)) L1 F1) 0 0 := by
    intro s1 I1 L1 F1 hend k
    induction k with
    | zero =>
      intro e he
      refine hG [74, 98] 300 _ _ _ _ _ _ ?_
      conv => whnf
      refine ⟨fun qb => ?_, fun qb => ?_⟩ <;> rw [nI_ltI (by omega) (by omega)] at qb
      case refine_2 => omega
      rw [Nat.add_zero] at he
      rw [← he]
      exact hend
    | succ k ih =>
      intro e he
      refine hG [74, 98] 300 _ _ _ _ _ _ ?_
      conv => whnf
      refine ⟨fun qb => ?_, fun qb => ?_⟩ <;> rw [nI_ltI (by omega) (by omega)] at qb
      · omega
      conv => whnf
      refine ⟨_, m_0 hh, ?_⟩
      conv => whnf
      refine ⟨_, m_0 hh, ?_⟩
      conv => whnf
      refine ⟨_, _, _, m_28 hh, rfl, (show e < 7 by omega), ?_⟩
      conv => whnf
      refine ⟨_, _, _, m_10 hh, rfl, (show e < 7 by omega), ?_⟩
      conv => whnf
      rw [nI_add]
      erw [ms_10 (upd (jcpI (I1 10) (I1 28) e) e (I1 28 e))]
      rw [va_up_up, jcpI_s]
      exact ih (e + 1) (by omega)
  have l3 : ∀ (s1 : Nat → Int32) (I1 : jIs) (L1 : jLss) (F1 : jFs), G 124 [some (.ref 20), some (.int (nI 6))] [] (jR h s1 I1 L1 (va_up F1 13 (jcpF (F1 13) (F1 29) 6))) 0 0 → ∀ k e, 6 = e + k → G 100 [some (.ref 20), some (.int (nI e))] [] (jR h s1 I1 L1 (va_up F1 13 (jcpF (F1 13) (F1 29) e))) 0 0 := by
    intro s1 I1 L1 F1 hend k
    induction k with
    | zero =>
      intro e he
      refine hG [100, 124] 300 _ _ _ _ _ _ ?_
      conv => whnf
      refine ⟨fun qb => ?_, fun qb => ?_⟩ <;> rw [nI_leI (by omega) (by omega)] at qb
      case refine_2 => omega
      rw [Nat.add_zero] at he
      rw [← he]
      exact hend
    | succ k ih =>
      intro e he
      refine hG [100, 124] 300 _ _ _ _ _ _ ?_
      conv => whnf
      refine ⟨fun qb => ?_, fun qb => ?_⟩ <;> rw [nI_leI (by omega) (by omega)] at qb
      · omega
      conv => whnf
      refine ⟨_, m_0 hh, ?_⟩
      conv => whnf
      refine ⟨_, m_0 hh, ?_⟩
      conv => whnf
      refine ⟨_, _, _, m_29 hh, rfl, (show e < 6 by omega), ?_⟩
      conv => whnf
      refine ⟨_, _, _, m_13 hh, rfl, (show e < 6 by omega), ?_⟩
      conv => whnf
      rw [nI_add]
      erw [ms_13 (va_up (jcpF (F1 13) (F1 29) e) e (F1 29 e))]
      rw [va_up_up, jcpF_s]
      exact ih (e + 1) (by omega)
  have l4 : ∀ (s1 : Nat → Int32) (I1 : jIs) (L1 : jLss) (F1 : jFs), G 162 [some (.ref 20), some (.int (nI 12))] [] (jR h s1 (va_up (va_up I1 18 (jcpI (I1 18) (I1 30) 12)) 19 (jcpI (I1 19) (I1 31) 12)) L1 F1) 0 0 → ∀ k e, 12 = e + k → G 126 [some (.ref 20), some (.int (nI e))] [] (jR h s1 (va_up (va_up I1 18 (jcpI (I1 18) (I1 30) e)) 19 (jcpI (I1 19) (I1 31) e)) L1 F1) 0 0 := by
    intro s1 I1 L1 F1 hend k
    induction k with
    | zero =>
      intro e he
      refine hG [126, 162] 300 _ _ _ _ _ _ ?_
      conv => whnf
      refine ⟨fun qb => ?_, fun qb => ?_⟩ <;> rw [nI_leI (by omega) (by omega)] at qb
      case refine_2 => omega
      rw [Nat.add_zero] at he
      rw [← he]
      exact hend
    | succ k ih =>
      intro e he
      refine hG [126, 162] 300 _ _ _ _ _ _ ?_
      conv => whnf
      refine ⟨fun qb => ?_, fun qb => ?_⟩ <;> rw [nI_leI (by omega) (by omega)] at qb
      · omega
      conv => whnf
      refine ⟨_, m_0 hh, ?_⟩
      conv => whnf
      refine ⟨_, m_0 hh, ?_⟩
      conv => whnf
      refine ⟨_, _, _, m_30 hh, rfl, (show e < 12 by omega), ?_⟩
      conv => whnf
      refine ⟨_, _, _, m_18 hh, rfl, (show e < 12 by omega), ?_⟩
      conv => whnf
      erw [ms_18 (upd (jcpI (I1 18) (I1 30) e) e (I1 30 e))]
      rw [va_up_comm _ (show 19 ≠ 18 by decide), va_up_up, jcpI_s]
      refine ⟨_, m_0 hh, ?_⟩
      conv => whnf
      refine ⟨_, m_0 hh, ?_⟩
      conv => whnf
      refine ⟨_, _, _, m_31 hh, rfl, (show e < 12 by omega), ?_⟩
      conv => whnf
      refine ⟨_, _, _, m_19 hh, rfl, (show e < 12 by omega), ?_⟩
      conv => whnf
      rw [nI_add]
      erw [ms_19 (upd (jcpI (I1 19) (I1 31) e) e (I1 31 e))]
      rw [va_up_up, jcpI_s]
      exact ih (e + 1) (by omega)
  have l5 : ∀ (s1 : Nat → Int32) (I1 : jIs) (L1 : jLss) (F1 : jFs), G 189 [some (.ref 20), some (.int (nI 480))] [] (jR h s1 I1 (va_up L1 20 (jcpL (L1 20) (L1 32) 480)) F1) 0 0 → ∀ k e, 480 = e + k → G 164 [some (.ref 20), some (.int (nI e))] [] (jR h s1 I1 (va_up L1 20 (jcpL (L1 20) (L1 32) e)) F1) 0 0 := by
    intro s1 I1 L1 F1 hend k
    induction k with
    | zero =>
      intro e he
      refine hG [164, 189] 300 _ _ _ _ _ _ ?_
      conv => whnf
      refine ⟨fun qb => ?_, fun qb => ?_⟩ <;> rw [nI_leI (by omega) (by omega)] at qb
      case refine_2 => omega
      rw [Nat.add_zero] at he
      rw [← he]
      exact hend
    | succ k ih =>
      intro e he
      refine hG [164, 189] 300 _ _ _ _ _ _ ?_
      conv => whnf
      refine ⟨fun qb => ?_, fun qb => ?_⟩ <;> rw [nI_leI (by omega) (by omega)] at qb
      · omega
      conv => whnf
      refine ⟨_, m_0 hh, ?_⟩
      conv => whnf
      refine ⟨_, m_0 hh, ?_⟩
      conv => whnf
      refine ⟨_, _, _, m_32 hh, rfl, (show e < 480 by omega), ?_⟩
      conv => whnf
      refine ⟨_, _, _, m_20 hh, rfl, (show e < 480 by omega), ?_⟩
      conv => whnf
      rw [nI_add]
      erw [ms_20 (vp_updL (jcpL (L1 20) (L1 32) e) e (L1 32 e))]
      rw [va_up_up]
      exact ih (e + 1) (by omega)
  have g0 : ∀ (s1 : Nat → Int32) (I1 : jIs) (L1 : jLss) (F1 : jFs), G 37 [some (.ref 20), some (.int (nI 4))] [] (jR h s1 (va_up I1 3 (jcpI (I1 3) (I1 26) 4)) L1 F1) 0 0 → G 14 [some (.ref 20), some (.int (nI 0))] [] (jR h s1 I1 L1 F1) 0 0 := by
    intro s1 I1 L1 F1 hend
    have a := l0 s1 I1 L1 F1 hend 4 0 (by omega)
    rw [jcpI_0, va_up_same] at a
    exact a
  have g1 : ∀ (s1 : Nat → Int32) (I1 : jIs) (L1 : jLss) (F1 : jFs), G 64 [some (.ref 20), some (.int (nI 128))] [] (jR h s1 I1 (va_up L1 4 (jcpL (L1 4) (L1 27) 128)) F1) 0 0 → G 39 [some (.ref 20), some (.int (nI 0))] [] (jR h s1 I1 L1 F1) 0 0 := by
    intro s1 I1 L1 F1 hend
    have a := l1 s1 I1 L1 F1 hend 128 0 (by omega)
    rw [jcpL_0, va_up_same] at a
    exact a
  have g2 : ∀ (s1 : Nat → Int32) (I1 : jIs) (L1 : jLss) (F1 : jFs), G 98 [some (.ref 20), some (.int (nI 7))] [] (jR h s1 (va_up I1 10 (jcpI (I1 10) (I1 28) 7)) L1 F1) 0 0 → G 74 [some (.ref 20), some (.int (nI 0))] [] (jR h s1 I1 L1 F1) 0 0 := by
    intro s1 I1 L1 F1 hend
    have a := l2 s1 I1 L1 F1 hend 7 0 (by omega)
    rw [jcpI_0, va_up_same] at a
    exact a
  have g3 : ∀ (s1 : Nat → Int32) (I1 : jIs) (L1 : jLss) (F1 : jFs), G 124 [some (.ref 20), some (.int (nI 6))] [] (jR h s1 I1 L1 (va_up F1 13 (jcpF (F1 13) (F1 29) 6))) 0 0 → G 100 [some (.ref 20), some (.int (nI 0))] [] (jR h s1 I1 L1 F1) 0 0 := by
    intro s1 I1 L1 F1 hend
    have a := l3 s1 I1 L1 F1 hend 6 0 (by omega)
    rw [jcpF_0, va_up_same] at a
    exact a
  have g4 : ∀ (s1 : Nat → Int32) (I1 : jIs) (L1 : jLss) (F1 : jFs), G 162 [some (.ref 20), some (.int (nI 12))] [] (jR h s1 (va_up (va_up I1 18 (jcpI (I1 18) (I1 30) 12)) 19 (jcpI (I1 19) (I1 31) 12)) L1 F1) 0 0 → G 126 [some (.ref 20), some (.int (nI 0))] [] (jR h s1 I1 L1 F1) 0 0 := by
    intro s1 I1 L1 F1 hend
    have a := l4 s1 I1 L1 F1 hend 12 0 (by omega)
    rw [jcpI_0, jcpI_0, va_up_same I1 18, va_up_same I1 19] at a
    exact a
  have g5 : ∀ (s1 : Nat → Int32) (I1 : jIs) (L1 : jLss) (F1 : jFs), G 189 [some (.ref 20), some (.int (nI 480))] [] (jR h s1 I1 (va_up L1 20 (jcpL (L1 20) (L1 32) 480)) F1) 0 0 → G 164 [some (.ref 20), some (.int (nI 0))] [] (jR h s1 I1 L1 F1) 0 0 := by
    intro s1 I1 L1 F1 hend
    have a := l5 s1 I1 L1 F1 hend 480 0 (by omega)
    rw [jcpL_0, va_up_same] at a
    exact a
  refine hG [14] 300 _ _ _ _ _ _ ?_
  conv => whnf
  refine ⟨_, m_0 hh, ?_⟩
  conv => whnf
  refine ⟨fun _ => ?_, fun q2 => absurd q2 (by rw [k2.1]; exact jn_m2 _ (by have := d2.1; omega))⟩
  conv => whnf
  refine g0 _ _ _ _ ?_
  refine hG [39] 300 _ _ _ _ _ _ ?_
  conv => whnf
  refine g1 _ _ _ _ ?_
  refine hG [74] 300 _ _ _ _ _ _ ?_
  conv => whnf
  refine ⟨_, m_0 hh, ?_⟩
  conv => whnf
  refine ⟨trivial, _, m_0 hh, ?_⟩
  conv => whnf
  erw [ms_0 (upd s 3 (s 9))]
  refine g2 _ _ _ _ ?_
  refine hG [100] 300 _ _ _ _ _ _ ?_
  conv => whnf
  refine g3 _ _ _ _ ?_
  refine hG [126] 300 _ _ _ _ _ _ ?_
  conv => whnf
  refine g4 _ _ _ _ ?_
  refine hG [164] 300 _ _ _ _ _ _ ?_
  conv => whnf
  refine g5 _ _ _ _ ?_
  refine hG [] 300 _ _ _ _ _ _ ?_
  conv => whnf
  refine ⟨trivial, _, m_0 hh, ?_⟩
  conv => whnf
  erw [ms_0 (upd (upd s 3 (s 9)) 2 (nI 0))]
  have hR : ∀ r, r < 4 → jcpI (I 3) (I 26) 4 r = nI (q.1 r).1 := fun r hr => (jcpI_at hr).trans (k1 r hr).1
  refine ⟨⟨_, m_0 hh⟩, jcall (c_X12_all hh _ _ _ _ hR) ?_⟩
  rintro r h' ⟨rfl, rfl⟩
  conv => whnf
  rw [← hΦ]
  refine ⟨rfl, _, _, _, _, rfl, ⟨e1, eReg_c k1 (fun r hr => jcpI_at hr) (fun j hj => jcpL_lt hj), ⟨rfl, fun i p hi => by cases hi⟩, eOrd_c k2 rfl (fun j hj => jcpI_at hj), eCel_c k3 (fun j hj => jcpF_at hj), eRck_c k4 d3 (fun j hj => jcpI_at hj) (fun j hj => jcpI_at hj) (fun j hj => jcpL_lt hj), e7, e8, e9, ?_⟩⟩
  show eKep (s 9) (I 26) (I 28) (I 30) (I 31) (L 27) (L 32) (F 29) (zI z)
  rw [hI]
  exact e10'
