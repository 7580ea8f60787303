/-! Arrays.copyOf: the list's row made longer -/
/-- where the row's class object is handed over -/
def cpPc (g : jg) (h : List jC) (r N : Nat) : Array Value → State → Prop := fun a U => (∃ mi : Nat, va_Mi "[Ljava/lang/Object;" mi U ∧ a = ([.ref (jad g r), .int (nI N), .ref mi] : List Value).toArray) ∧ jP g h U.heap ∧ jK g U
theorem cp_blind (g : jg) (h : List jC) (r N : Nat) : FrameBlind (cpPc g h r N) := by
  intro a U fr mk hp
  obtain ⟨⟨mi, hmi, e⟩, hP, hK⟩ := hp
  exact ⟨⟨mi, hmi.moved (U := U.calling fr mk a) (State.WarmedH.refl U).alike, e⟩, hP, hK.warm (U := U.calling fr mk a) (State.WarmedH.refl U) (Nat.le_refl _) (fun _ _ _ => rfl)⟩
/-- every one in the first n places is an object that may lie there -/
def cpOk (h : List jC) (f : Nat → Option Nat) (n : Nat) : Prop := ∀ i, i < n → ∀ y, f i = some y → ∃ ci vs, h[y]? = some (.inr (ci, vs)) ∧ jcst ci "java/lang/Object" = true
abbrev cpT (f : Nat → Option Nat) (n N : Nat) : jC := aB N (va_cpy f (fun _ => none) 0 0 n)
theorem w_copyOf3 {h : List jC} {r n N : Nat} {f : Nat → Option Nat} (hr : h[r]? = some (aB n f)) (hn : 0 < n) (hnN : n ≤ N) (hN : N ≤ 40) (hf : cpOk h f n) {Φ : jPost} (hΦ : Φ (some (.ref h.length)) (h ++ [cpT f n N])) : jG jy_J7_copyOf_6403c Φ 6 [some (.ref r), some (.int (nI N)), none, none] [] h 0 0 := by
  have hG := jw_sound (js_J7_copyOf_6403c Φ)
  refine hG [10] 300 _ _ _ _ _ _ ?_
  conv => whnf
  refine ⟨N, rfl, by omega, by omega, ?_⟩
  conv => whnf
  refine jG_wd (a' := 1) (b' := 40) (Nat.le_refl 1) (show 0 + N ≤ 40 by omega) ?_
  refine hG [] 300 _ _ _ _ _ _ ?_
  conv => whnf
  refine ⟨_, _, _, jget_app hr, ?_⟩
  conv => whnf
  refine jcall (c_J9_min _ _ _) ?_
  rintro r h' ⟨rfl, rfl⟩
  rw [show (if nI N < nI n then nI N else nI n) = nI n from if_neg (nI_nlt (by omega) (by omega))]
  conv => whnf
  refine ⟨n, f, N, fun _ => none, 0, 0, n, jget_app hr, jget_new h _, hn, by omega, rfl, rfl, rfl, by omega, by omega, fun i hi y hy => ?_, (show 0 ≤ 4 by decide), ?_⟩
  · rw [Nat.zero_add] at hy
    obtain ⟨ci, vs, h1, h2⟩ := hf i hi y hy
    exact ⟨ci, vs, jget_app h1, h2⟩
  conv => whnf
  have e : (h ++ [aB N (fun _ => none)]).set h.length (cpT f n N) = h ++ [cpT f n N] := by
    rw [List.set_append_right _ _ (Nat.le_refl _), Nat.sub_self]
    rfl
  rw [← e] at hΦ
  exact hΦ
theorem c_copyOf3 {h : List jC} {r n N : Nat} {f : Nat → Option Nat} (hr : h[r]? = some (aB n f)) (hn : 0 < n) (hnN : n ≤ N) (hN : N ≤ 40) (hf : cpOk h f n) {Φ : jPost} (hΦ : Φ (some (.ref h.length)) (h ++ [cpT f n N])) (l : Launch) (g : jg) : Met l jy_J7_copyOf_6403c.1 (jww jy_J7_copyOf_6403c) (jrm jy_J7_copyOf_6403c) (cpPc g h r N) (jQ g Φ) jy_J7_copyOf_6403c.2.2.2.2.2.1 jy_J7_copyOf_6403c.2.2.2.2.2.2 (jA g) := by
  refine va_MetF (cc := jy_J7_copyOf_6403c.2.1) (maxL := jy_J7_copyOf_6403c.2.2.1) (ret := jy_J7_copyOf_6403c.2.2.2.1) (by decide +kernel) rfl ?_
  intro p e s m args below meth c s₁ B hml hv
  obtain ⟨⟨mi, hmi, rfl⟩, hP, hK⟩ := hv
  have hl := lv_entry [.ref (jad g r), .int (nI N), .ref mi] (n := jy_J7_copyOf_6403c.2.2.1) (Nat.le_of_ble_eq_true rfl)
  rw [lg_entry_eq]
  have hc : jctx jy_J7_copyOf_6403c g p s m meth c := ⟨B.exec, B.bytes, hml, findClass_of_methodNamed B.named, B.notSynchronized, B.returns, (name_of_methodNamed B.named B.method).1, hK⟩
  generalize (lg_sl [Value.ref (jad g r), .int (nI N), .ref mi] ++ List.replicate (jy_J7_copyOf_6403c.2.2.1 - (lg_sl [Value.ref (jad g r), .int (nI N), .ref mi]).length) Slot.unset).toArray = ls at hl
  have l0 : ls[0]? = some (.val (.ref (jad g r))) := hl.2.2 (0, .ref (jad g r)) List.mem_cons_self
  have l1 : ls[1]? = some (.val (.int (nI N))) := hl.2.2 (1, .int (nI N)) (List.mem_cons_of_mem _ List.mem_cons_self)
  have l2 : ls[2]? = some (.val (.ref mi)) := hl.2.2 (2, .ref mi) (List.mem_cons_of_mem _ (List.mem_cons_of_mem _ List.mem_cons_self))
  show W p l e _ s m _ below meth c s.heap [] 0 0 _ (F0 m 0 ls [])
  refine lv_aload_n hc.1 hc.2.1 (k := 2) (i := 2) (by decide +kernel) rfl l2 ?_
  refine va_ldcM (index := 110) hc.1 hc.2.1 (own := "java/util/Arrays") hc.2.2.2.1 (hK.word (jmem 298 (by decide +kernel)) rfl rfl) hmi (by decide +kernel) ?_
  refine lv_acmp_ne hc.1 hc.2.1 (rx := some mi) (ry := some mi) (off := 10) (tgt := 13) (by decide +kernel) (by decide) (fun w => absurd rfl w) (fun _ => ?_)
  refine w_copyOf3 hr hn hnN hN hf hΦ p l e s m _ below meth c g hc s.heap [] ls hP va_S.rf ⟨hl.1, hl.2.1, fun i v hv => ?_⟩
  match i, hv with
  | 0, hv => cases hv; exact l0
  | 1, hv => cases hv; exact l1
  | 2, hv => cases hv
  | 3, hv => cases hv
theorem c_copyOf {h : List jC} {r n N : Nat} {f : Nat → Option Nat} (hr : h[r]? = some (aB n f)) (hn : 0 < n) (hnN : n ≤ N) (hN : N ≤ 40) (hf : cpOk h f n) : jCt jy_J7_copyOf_1904c [.ref r, .int (nI N)] h (fun r' h' => r' = some (.ref h.length) ∧ h' = h ++ [cpT f n N]) := by
  refine jCt_of2 (by decide +kernel) (Nat.le_of_ble_eq_true rfl) ?_
  intro p l e s m args below meth c g hc H locs ls hP hS hL
  have hK := hc.2.2.2.2.2.2.2
  obtain ⟨mi, hmi⟩ := hK.2.2.2.2.2.2.2.2.2.2
  obtain ⟨q, rfl, hq, hty, hN0⟩ := hP.arr hn (fun z => by cases z) hr
  have l0 : ls[0]? = some (.val (.ref (jad g (q + 2)))) := hL.2.2 0 (.ref (q + 2)) rfl
  have l1 : ls[1]? = some (.val (.int (nI N))) := hL.2.2 1 (.int (nI N)) rfl
  show W p l e _ s m _ below meth c H locs 0 0 _ (F0 m 0 ls [])
  refine lv_aload_n hc.1 hc.2.1 (k := 0) (i := 0) (by decide +kernel) rfl l0 ?_
  refine lv_iload_n hc.1 hc.2.1 (k := 1) (i := 1) (by decide +kernel) rfl l1 ?_
  refine lv_aload_n hc.1 hc.2.1 (k := 0) (i := 0) (by decide +kernel) rfl l0 ?_
  have hat : H[g.1.1 + q]? = some (arrV (g.2.2.2 (.object "java/lang/Object")) n (fun j => va_rf ((f j).map (jad g)))) := hP.2.2.2.1 q _ (jws_at hq)
  refine va_getC (a := g.1.1 + q) hc.1 hc.2.1 (hc.2.2.1.trans hL.1.symm) (own := "java/util/Arrays") (index := 86) (C := "[Ljava/lang/Object;") hc.2.2.2.1 (hK.word (jmem 279 (by decide +kernel)) rfl rfl) (hK.word (jmem 1378 (by decide +kernel)) rfl rfl) (hK.word (jmem 1377 (by decide +kernel)) rfl rfl) (hK.word (jmem 280 (by decide +kernel)) rfl rfl) (hK.word (jmem 294 (by decide +kernel)) rfl rfl) hmi ⟨_, hat, rfl, va_nmO (hK.arrOf hty).2 (by decide +kernel)⟩ (by decide) (Nat.le_of_ble_eq_true rfl) (by decide +kernel) ?_
  refine jback (Y := jy_J7_copyOf_1904c) (Z := jy_J7_copyOf_6403c) (rest := []) (lv := [some (.ref (q + 2)), some (.int (nI N))]) (nx := 9)
    (va_runS (Ts := []) (n := 3) (As := [.ref (jad g (q + 2)), .int (nI N), .ref mi]) ⟨hc.1, hc.2.1, hc.2.2.1, hc.2.2.2.1, fun _ h => by cases h⟩
      (c_copyOf3 hr hn hnN hN hf (Φ := fun r' h' => r' = some (.ref h.length) ∧ h' = h ++ [cpT f n N]) ⟨rfl, rfl⟩ l g)
      ⟨jcallB (index := 300) (own := "java/util/Arrays") jok_J7_copyOf_6403c hK (hK.word (jmem 295 (by decide +kernel)) rfl rfl) (by decide) (by decide), hK.word (jmem 296 (by decide +kernel)) rfl rfl⟩
      ⟨cp_blind g h (q + 2) N, fun U hU hW => ⟨⟨mi, hmi.moved hW.alike, rfl⟩, by rw [hU]; exact hP, hK.warm hW (by rw [hU]; exact hS.1) (fun x h1 h2 => by rw [hU]; exact hS.2.1 x h1 h2)⟩⟩
      rfl rfl hL.1 rfl (Nat.le_of_ble_eq_true rfl) (show decode jy_J7_copyOf_1904c.2.1 6 = .ok (.invokestatic 300, 3) by decide +kernel) (by decide))
    hc hS rfl hL (fun r' h' hψ => ?_)
  obtain ⟨rfl, rfl⟩ := hψ
  refine jw_sound (js_J7_copyOf_1904c _) [] 5 _ _ _ _ _ _ ?_
  conv => whnf
  exact ⟨rfl, rfl⟩
/-! the list's add where its row is full -/
theorem c_newLen {h : List jC} {n m : Nat} (hm : m < 1000) (hn : n < 1000) (h1 : 1 ≤ m) : jCt jy_J8_newLength_cabcc [.int (nI n), .int (nI 1), .int (nI m)] h (fun r h' => r = some (.int (nI (n + m))) ∧ h' = h) := by
  refine jrun2 (js_J8_newLength_cabcc _) rfl rfl rfl (fun G hG hW hB => ?_)
  refine hG [] 300 _ _ _ _ _ _ ?_
  conv => whnf
  refine jcall (c_J9_max _ _ _) ?_
  rintro r h' ⟨rfl, rfl⟩
  have hx : (if nI 1 < nI m then nI m else nI 1) = nI m := by
    by_cases hm1 : m = 1
    · subst hm1
      rfl
    · exact if_pos (nI_lt (by omega) (by omega))
  rw [hx]
  conv => whnf
  rw [nI_add]
  refine ⟨fun c => ?_, fun _ => ?_⟩
  · rw [nI_leI (by omega) (by omega)] at c
    omega
  conv => whnf
  refine ⟨fun c => absurd (show nI 2147483639 < nI (n + m) from c) (nI_nlt (by omega) (by omega)), fun _ => ?_⟩
  conv => whnf
  exact ⟨rfl, rfl⟩
theorem c_AL_growN1 {h : List jC} {l β n k : Nat} {mc : Int32} {f : Nat → Option Nat} (hl : h[l]? = some (oA mc β k)) (hb : h[β]? = some (aB n f)) (h1 : 2 ≤ n) (h2 : n ≤ 20) (hf : cpOk h f n) : jCt jy_Jx4a65c_grow_92f84 [.ref l, .int (nI (n + 1))] h (fun r h' => r = some (.ref h.length) ∧ h' = h.set l (oA mc h.length k) ++ [cpT f n (n + n / 2)]) := by
  refine jrun2 (js_Jx4a65c_grow_92f84 _) rfl rfl rfl (fun G hG hW hB => ?_)
  refine hG [] 300 _ _ _ _ _ _ ?_
  conv => whnf
  refine ⟨_, hl, ?_⟩
  conv => whnf
  refine ⟨_, _, _, hb, ?_⟩
  conv => whnf
  refine ⟨fun _ => ?_, fun c => absurd (nI_lt (show 0 < n by omega) (by omega)) c⟩
  conv => whnf
  rw [show nI (n + 1) - nI n = nI 1 by rw [pk_sub (by omega)]; congr 1; omega, show nI n >>> (nI 1 &&& 31) = nI (n / 2) by rw [jI_shr (by omega) (by decide)]]
  refine jcall (c_newLen (m := n / 2) (n := n) (by omega) (by omega) (by omega)) ?_
  rintro r h' ⟨rfl, rfl⟩
  conv => whnf
  refine ⟨_, hl, ?_⟩
  conv => whnf
  refine jcall (c_copyOf (N := n + n / 2) hb (by omega) (by omega) (by omega) hf) ?_
  rintro r h' ⟨rfl, rfl⟩
  conv => whnf
  refine ⟨trivial, _, jget_app hl, ?_⟩
  conv => whnf
  refine ⟨rfl, ?_⟩
  rw [jset_app hl]
  rfl
theorem c_AL_growN {h : List jC} {l β n : Nat} {mc : Int32} {f : Nat → Option Nat} (hl : h[l]? = some (oA mc β n)) (hb : h[β]? = some (aB n f)) (h1 : 2 ≤ n) (h2 : n ≤ 20) (hf : cpOk h f n) : jCt jy_Jx4a65c_grow_d5877 [.ref l] h (fun r h' => r = some (.ref h.length) ∧ h' = h.set l (oA mc h.length n) ++ [cpT f n (n + n / 2)]) := by
  refine jrun2 (js_Jx4a65c_grow_d5877 _) rfl rfl rfl (fun G hG hW hB => ?_)
  refine hG [] 300 _ _ _ _ _ _ ?_
  conv => whnf
  refine ⟨_, hl, ?_⟩
  conv => whnf
  rw [nI_add]
  refine ⟨⟨_, hl⟩, jcall (c_AL_growN1 hl hb h1 h2 hf) ?_⟩
  rintro r h' ⟨rfl, rfl⟩
  conv => whnf
  exact ⟨rfl, rfl⟩
theorem c_AL_addN3 {h : List jC} {l β n e ci : Nat} {vs : List Value} {mc : Int32} {f : Nat → Option Nat} (hl : h[l]? = some (oA mc β n)) (hb : h[β]? = some (aB n f)) (h1 : 2 ≤ n) (h2 : n ≤ 20) (hf : cpOk h f n) (he : h[e]? = some (.inr (ci, vs))) (hc : jcst ci "java/lang/Object" = true) (hel : e ≠ l) : jCt jy_Jx4a65c_add_72be8 [.ref l, .ref e, .ref β, .int (nI n)] h (fun r h' => r = none ∧ h' = h.set l (oA mc h.length (n + 1)) ++ [aB (n + n / 2) (va_up (va_cpy f (fun _ => none) 0 0 n) n (some e))]) := by
  refine jrun2 (js_Jx4a65c_add_72be8 _) rfl rfl rfl (fun G hG hW hB => ?_)
  refine hG [] 300 _ _ _ _ _ _ ?_
  conv => whnf
  refine ⟨_, _, _, hb, ?_⟩
  conv => whnf
  refine ⟨fun c => absurd rfl c, fun _ => ?_⟩
  conv => whnf
  refine ⟨⟨_, hl⟩, jcall (c_AL_growN hl hb h1 h2 hf) ?_⟩
  rintro r h' ⟨rfl, rfl⟩
  have hlen : (h.set l (oA mc h.length n)).length = h.length := List.length_set
  have hnew : (h.set l (oA mc h.length n) ++ [cpT f n (n + n / 2)])[h.length]? = some (cpT f n (n + n / 2)) := by
    have := jget_new (h.set l (oA mc h.length n)) (cpT f n (n + n / 2))
    rw [hlen] at this
    exact this
  conv => whnf
  refine ⟨_, _, _, _, _, _, hnew, rfl, (show n < n + n / 2 by omega), jget_app (jget_ne (Ne.symm hel) he), hc, ?_⟩
  conv => whnf
  rw [nI_add]
  have hs : (h.set l (oA mc h.length n) ++ [cpT f n (n + n / 2)]).set h.length (aB (n + n / 2) (va_up (va_cpy f (fun _ => none) 0 0 n) n (some e))) = h.set l (oA mc h.length n) ++ [aB (n + n / 2) (va_up (va_cpy f (fun _ => none) 0 0 n) n (some e))] := by
    rw [List.set_append_right _ _ (by omega), hlen, Nat.sub_self]
    rfl
  erw [hs]
  refine ⟨trivial, _, jget_app (jget_set hl), ?_⟩
  conv => whnf
  refine ⟨rfl, ?_⟩
  rw [jset_app (jget_set hl), List.set_set]
  rfl
theorem c_AL_addN {h : List jC} {l β n e ci : Nat} {vs : List Value} {mc : Int32} {f : Nat → Option Nat} (hl : h[l]? = some (oA mc β n)) (hb : h[β]? = some (aB n f)) (h1 : 2 ≤ n) (h2 : n ≤ 20) (hf : cpOk h f n) (hl2 : ∀ i, i < n → f i ≠ some l) (he : h[e]? = some (.inr (ci, vs))) (hc : jcst ci "java/lang/Object" = true) (hel : e ≠ l) : jCt jy_Jx4a65c_add_9ea2d [.ref l, .ref e] h (fun r h' => r = some (.int (nI 1)) ∧ h' = h.set l (oA (mc + nI 1) h.length (n + 1)) ++ [aB (n + n / 2) (va_up (va_cpy f (fun _ => none) 0 0 n) n (some e))]) := by
  have hlb : l ≠ β := jne hl hb (fun z => by cases z)
  have hf2 : cpOk (h.set l (oA (mc + nI 1) β n)) f n := by
    intro i hi y hy
    obtain ⟨cj, ws, g1, g2⟩ := hf i hi y hy
    exact ⟨cj, ws, jget_ne (fun w => hl2 i hi (by rw [hy, w])) g1, g2⟩
  refine jrun2 (js_Jx4a65c_add_9ea2d _) rfl rfl rfl (fun G hG hW hB => ?_)
  refine hG [] 300 _ _ _ _ _ _ ?_
  conv => whnf
  refine ⟨_, hl, ?_⟩
  conv => whnf
  refine ⟨trivial, _, hl, ?_⟩
  conv => whnf
  refine ⟨_, jget_set hl, ?_⟩
  conv => whnf
  refine ⟨_, jget_set hl, ?_⟩
  conv => whnf
  refine ⟨⟨_, jget_set hl⟩, jcall (c_AL_addN3 (jget_set hl) (jget_ne hlb hb) h1 h2 hf2 (jget_ne (Ne.symm hel) he) hc hel) ?_⟩
  rintro r h' ⟨rfl, rfl⟩
  conv => whnf
  refine ⟨Or.inr rfl, rfl, ?_⟩
  rw [List.set_set, List.length_set]
