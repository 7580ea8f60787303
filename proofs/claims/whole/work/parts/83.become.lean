/-! a register becomes a sum; what is over is told -/
section
variable {S S' : Nat → Bool} {τ τ' : jTg} {h h' : List jC}
theorem KT.refl : KT S τ h τ h := fun _ _ hk _ => ⟨hk, rfl⟩
theorem KT.mono (H : KT S τ h τ' h') (hs : ∀ t, S' t = true → S t = true) : KT S' τ h τ' h' := fun k c hk hz => H k c hk (hs _ hz)
theorem KT.set (H : KT S τ h τ' h') {a : Nat} (x : jC) (hn : h.length ≤ a ∨ S (τ a) = false) : KT S τ h τ' (h'.set a x) := by
  intro k c hk hz
  obtain ⟨h1, h2⟩ := H k c hk hz
  have hl := (List.getElem?_eq_some_iff.mp hk).1
  have hne : a ≠ k := by
    intro e
    subst e
    rcases hn with hn | hn
    · omega
    · rw [hn] at hz; cases hz
  exact ⟨by rw [List.getElem?_set_ne hne]; exact h1, h2⟩
theorem KT.app (H : KT S τ h τ' h') (ap : List jC) : KT S τ h τ' (h' ++ ap) := fun k c hk hz => ⟨jget_apl (H k c hk hz).1, (H k c hk hz).2⟩
theorem KT.tag (H : KT S τ h τ' h') {a t : Nat} (hn : h.length ≤ a) : KT S τ h (va_up τ' a t) h' := by
  intro k c hk hz
  have hl := (List.getElem?_eq_some_iff.mp hk).1
  refine ⟨(H k c hk hz).1, ?_⟩
  unfold va_up
  rw [if_neg (by omega)]
  exact (H k c hk hz).2
theorem KT.trans {τ2 : jTg} {h2 : List jC} (H : KT S τ h τ' h') (H2 : KT S τ' h' τ2 h2) : KT S τ h τ2 h2 := by
  intro k c hk hz
  obtain ⟨a, b⟩ := H k c hk hz
  obtain ⟨a2, b2⟩ := H2 k c a (by rw [b]; exact hz)
  exact ⟨a2, b2.trans b⟩
theorem xB.set (H : xB τ h) (a : Nat) (x : jC) : xB τ (h.set a x) := ⟨by rw [List.length_set]; exact H.1, H.2.1, H.2.2.1, fun k hk => H.2.2.2 k (by rw [List.length_set] at hk; exact hk)⟩
theorem xB.app (H : xB τ h) (ap : List jC) : xB τ (h ++ ap) := ⟨by rw [List.length_append]; have := H.1; omega, H.2.1, H.2.2.1, fun k hk => H.2.2.2 k (by rw [List.length_append] at hk; omega)⟩
theorem xB.tag (H : xB τ h) {a t : Nat} (ha : 53 ≤ a) (hl : a < h.length) : xB (va_up τ a t) h := by
  refine ⟨H.1, ?_, fun k h1 h2 => ?_, fun k hk => ?_⟩
  · unfold va_up; rw [if_neg (by omega)]; exact H.2.1
  · unfold va_up; rw [if_neg (by omega)]; exact H.2.2.1 k h1 h2
  · unfold va_up; rw [if_neg (by omega)]; exact H.2.2.2 k hk
end
/-- tags of the reference and of what never changes -/
abbrev t09 : Nat → Bool := fun t => t == 0 || t == 9
def yPost (τ : jTg) (h : List jC) (res : Option Value) (z : zS) : jPost := fun r h' => r = res ∧ ∃ τ', EncX τ' h' z ∧ KT t09 τ h τ' h'
theorem EncX.B {τ : jTg} {h : List jC} {z : zS} (H : EncX τ h z) : xB τ h := by
  obtain ⟨ρ, ω, κ, π, n, t, k, H⟩ := H
  exact H.2.2.2.2.2.2.2.2.2.2
theorem KT.nine {τ τ' : jTg} {h h' : List jC} (K : KT t09 τ h τ' h') (B : xB τ h) {k : Nat} (h1 : 20 ≤ k) (h2 : k < 53) : h'[k]? = h[k]? := by
  have hl : k < h.length := Nat.lt_of_lt_of_le h2 B.1
  have hk := List.getElem?_eq_getElem hl
  rw [hk]
  exact (K k _ hk (by rw [B.2.2.1 k h1 h2]; rfl)).1
theorem xPost.of {τ τ' : jTg} {h h' : List jC} {z : zS} {res : Value} (B : xB τ h) (E : EncX τ' h' z) (K : KT t09 τ h τ' h') : xPost h res z (some res) h' := ⟨rfl, ⟨τ', E⟩, fun _ h1 h2 => K.nine B h1 h2⟩
theorem c_X7_init {h : List jC} {s : Nat} {x y : Value} (hs : h[s]? = some (.inr (6, [x, y]))) (r : Int32) (b : Nat) : jCt jy_X7_init [.ref s, .int r, .ref b] h (fun r' h' => r' = none ∧ h' = h.set s (.inr (6, [.int r, .ref b]))) := by
  refine jrun2 (js_X7_init _) rfl rfl rfl (fun G hG hW hB => ?_)
  refine hG [] 300 _ _ _ _ _ _ ?_
  conv => whnf
  refine ⟨trivial, _, hs, ?_⟩
  conv => whnf
  refine ⟨trivial, _, jget_set hs, ?_⟩
  conv => whnf
  rw [List.set_set]
  exact ⟨rfl, rfl⟩
theorem zsame_can {x y : zReg} (hx : zcan x) (hy : zcan y) : zsame x y ↔ (x.1 = y.1 ∧ ∀ c, c < jmany x.1 → x.2 c = y.2 c) := by
  have hm := jmany_le hx.1
  constructor
  · intro q
    exact ⟨q.1, fun c hc => q.2 c (by omega)⟩
  · intro q
    refine ⟨q.1, fun c hc => ?_⟩
    by_cases h1 : c < jmany x.1
    · exact q.2 c h1
    · rw [hx.2 c hc (by omega), hy.2 c hc (by rw [← q.1]; omega)]
/-- the list behind: its row β has room -/
theorem c_X11_become {τ : jTg} {h : List jC} {z : zS} (E : EncX τ h z) (hz : zWF z) {r : Nat} (hr : r < 4) {b : Nat} {x : zReg} (hb : xS (fz0 τ) h b x) (hx : zcan x) : jCt jy_X11_become [.ref 2, .int (nI r), .ref b] h (yPost τ h none (zbecS z r x)) := by
  obtain ⟨ρ, ω, κ, π, n, t, k, e1, e2, e3, e4, e5, e6, e7, e8, e9, e10, e11⟩ := id E
  obtain ⟨eρ, fR, hρ, hfR⟩ := e2
  obtain ⟨kr, hkr, hSr⟩ := hfR r hr
  obtain ⟨t11, mc, β, h11, hL⟩ := e9
  have hlen := e11.1
  have hT8 := hz.2.1.1
  obtain ⟨yr, ar, gr, yar, hrs, hra, hrg⟩ := id hSr
  obtain ⟨yb, ab, gb, yab, hbs, hba, hbg⟩ := id hb
  have hcr := hz.1 r hr
  have hrho : h.length ≤ ρ ∨ (fun t => t != 2 && t != 7 && t != 8) (τ ρ) = false := Or.inr (by rw [eρ]; rfl)
  have h11n : h.length ≤ 11 ∨ (fun t => t != 2 && t != 7 && t != 8) (τ 11) = false := Or.inr (by rw [t11]; rfl)
  have hρl := (List.getElem?_eq_some_iff.mp hρ).1
  have h11l := (List.getElem?_eq_some_iff.mp h11).1
  have ρ11 : ρ ≠ 11 := fun e => by rw [e, t11] at eρ; cases eρ
  -- the end: all but registers and list is kept
  have fin : ∀ (τ' : jTg) (H : List jC), KT (fun t => t != 2 && t != 7 && t != 8) τ h τ' H → xB τ' H → τ' ρ = 2 → H[ρ]? = some (aO "QuasiSums$Sum" 4 (va_up fR r (some b))) → xT τ' H (zdrop (zT z) ++ [(r, zR z r)]) → EncX τ' H (va_up (zR z) r x, zdrop (zT z) ++ [(r, zR z r)], z.2.2) := by
    intro τ' H K B hτρ hH hT
    have K0 := K.kp rfl
    refine ⟨ρ, ω, κ, π, n, t, k, (K.at1 e11.2.1 rfl e1).1, ⟨hτρ, _, hH, fun r2 hr2 => ?_⟩, e3.kt K rfl rfl, e4.kt K rfl, e5.kt K rfl rfl, e6.kt K rfl rfl (fun r hr => ?_), e7.kt K rfl, e8.kp K0, hT, e10.kt K rfl rfl, B⟩
    · by_cases hrr : r2 = r
      · subst hrr
        refine ⟨b, by simp [va_up], ?_⟩
        show xS (fz0 τ') H b (va_up (zR z) r2 x r2)
        rw [show (va_up (zR z) r2 x) r2 = x by simp [va_up]]
        exact hb.kp K0
      · obtain ⟨k2, f1, f2⟩ := hfR r2 hr2
        refine ⟨k2, by simp [va_up, hrr]; exact f1, ?_⟩
        show xS (fz0 τ') H k2 (va_up (zR z) r x r2)
        rw [show (va_up (zR z) r x) r2 = zR z r2 by simp [va_up, hrr]]
        exact f2.kp K0
    · match r, hr with
      | 0, _ => rfl
      | 1, _ => rfl
      | 2, _ => rfl
  refine jrun2 (js_X11_become _) rfl rfl rfl (fun G hG hW hB => ?_)
  have hwr := jmany_le hcr.1
  -- the last row
  have g57 : ∀ (τ' : jTg) (H : List jC), KT (fun t => t != 2 && t != 7 && t != 8) τ h τ' H → xB τ' H → τ' ρ = 2 → H[2]? = h[2]? → H[ρ]? = h[ρ]? → H[b]? = h[b]? → xT τ' H (zdrop (zT z) ++ [(r, zR z r)]) → ¬ zsame (zR z r) x → G 57 [some (.ref 2), some (.int (nI r)), some (.ref b)] [] H 2 42 := by
    intro τ' H K B hτρ h2 hρ2 hb2 hT hno
    have hρH : H[ρ]? = some (aO "QuasiSums$Sum" 4 fR) := hρ2.trans hρ
    have ρ2 : ρ ≠ 2 := jne hρ e1 (fun z => by cases z)
    refine hG [] 300 _ _ _ _ _ _ ?_
    conv => whnf
    refine ⟨_, h2.trans e1, ?_⟩
    conv => whnf
    refine ⟨_, _, _, _, 7, _, hρH, rfl, hr, hb2.trans hbs, rfl, ?_⟩
    conv => whnf
    have hspec : zbecS z r x = (va_up (zR z) r x, zdrop (zT z) ++ [(r, zR z r)], z.2.2) := by
      unfold zbecS zbec
      rw [if_neg (fun q => hno (zsameb_iff.mp q))]
    refine ⟨rfl, τ', ?_, ?_⟩
    · rw [hspec]
      refine fin τ' _ (K.set _ hrho) (B.set _ _) hτρ (jget_set hρH) ?_
      obtain ⟨u1, mc2, β2, u2, u3⟩ := hT
      have KK : KT (fun t => t != 2) τ' H τ' (H.set ρ (aO "QuasiSums$Sum" 4 (va_up fR r (some b)))) := (KT.refl).set _ (Or.inr (by rw [hτρ]; rfl))
      exact ⟨u1, mc2, β2, jget_ne ρ11 u2, u3.kt KK rfl rfl⟩
    · exact (K.set (aO "QuasiSums$Sum" 4 (va_up fR r (some b))) hrho).mono (fun t ht => by
        have : t = 0 ∨ t = 9 := by simpa using ht
        rcases this with rfl | rfl <;> rfl)
  refine hG [57] 300 _ _ _ _ _ _ ?_
  conv => whnf
  refine ⟨_, e1, ?_⟩
  conv => whnf
  refine ⟨_, _, _, _, _, hρ, rfl, hr, hkr, ?_⟩
  conv => whnf
  refine ⟨⟨_, hrs⟩, jcall (c_X8_isLike hrs hra hcr.1 hbs hba hx.1) ?_⟩
  rintro r' h' ⟨rfl, he⟩
  obtain rfl := he.symm
  clear he
  have hiff : zsame (zR z r) x ↔ ((zR z r).1 = x.1 ∧ ∀ c, c < jmany (zR z r).1 → gr c = gb c) := by
    rw [zsame_can hcr hx]
    constructor
    · rintro ⟨q1, q2⟩
      exact ⟨q1, fun c hc => by rw [hrg c hc, hbg c (by rw [← q1]; exact hc)]; exact q2 c hc⟩
    · rintro ⟨q1, q2⟩
      exact ⟨q1, fun c hc => by rw [← hrg c hc, ← hbg c (by rw [← q1]; exact hc)]; exact q2 c hc⟩
  conv => whnf
  refine ⟨fun c => ?_, fun c => ?_⟩ <;> rw [jbi_0, ← hiff] at c
  case refine_2 =>
    have c := Classical.not_not.mp c
    conv => whnf
    refine ⟨rfl, τ, ?_, KT.refl⟩
    have : zbecS z r x = z := by
      unfold zbecS zbec
      rw [if_pos (zsameb_iff.mpr c)]
    rw [this]
    exact E
  conv => whnf
  refine ⟨_, e1, ?_⟩
  conv => whnf
  refine ⟨_, jget_app e1, ?_⟩
  conv => whnf
  refine ⟨_, _, _, _, _, jget_app hρ, rfl, hr, hkr, ?_⟩
  conv => whnf
  refine jcall (c_X7_init (jget_new h _) (nI r) kr) ?_
  rintro r h' ⟨rfl, rfl⟩
  have hst : (h ++ [(.inr (6, [.int (nI 0), .null]) : jC)]).set h.length (.inr (6, [.int (nI r), .ref kr])) = h ++ [.inr (6, [.int (nI r), .ref kr])] := by
    rw [List.set_append_right _ _ (Nat.le_refl _), Nat.sub_self]
    rfl
  rw [hst]
  obtain ⟨h1, hh1⟩ : ∃ h1, h1 = h ++ [(.inr (6, [.int (nI r), .ref kr]) : jC)] := ⟨_, rfl⟩
  rw [← hh1]
  have hl1 : h1.length = h.length + 1 := by rw [hh1, List.length_append]; rfl
  have hs1 : h1[h.length]? = some (.inr (6, [.int (nI r), .ref kr])) := by rw [hh1]; exact jget_new h _
  have h11' : h1[11]? = some (oA mc β (zT z).length) := by rw [hh1]; exact jget_app h11
  have K1 : KT (fun t => t != 2 && t != 7 && t != 8) τ h τ h1 := by rw [hh1]; exact (KT.refl).app _
  have B1 : xB τ h1 := by rw [hh1]; exact e11.app _
  have h21 : h1[2]? = h[2]? := by rw [hh1, jget_app e1, e1]
  have hρ1 : h1[ρ]? = h[ρ]? := by rw [hh1, jget_app hρ, hρ]
  have hb1 : h1[b]? = h[b]? := by rw [hh1, jget_app hbs, hbs]
  have n11 : h.length ≠ 11 := by omega
  conv => whnf
  -- what the record is, wherever the list is kept
  have rcd : ∀ (τ' : jTg) (H : List jC), KT (fun t => t != 2 && t != 7 && t != 8) τ h τ' H → τ' h.length = 0 → H[h.length]? = some (.inr (6, [.int (nI r), .ref kr])) → xt τ' H (some h.length) (r, zR z r) := by
    intro τ' H K ht hH
    exact ⟨h.length, kr, rfl, ht, hH, hSr.kp (K.kp rfl)⟩
  rcases hL with ⟨hβ, hτ0, h0, hT0⟩ | ⟨hτβ, f, hβ, hf⟩
  · -- the first
    subst hβ
    rw [hT0] at h11'
    refine ⟨⟨_, h11'⟩, jcall (c_AL_add0 h11' (by rw [hh1]; exact jget_app h0) (by decide) hs1 rfl n11) ?_⟩
    rintro r' h' ⟨rfl, rfl⟩
    have h11'' : (h1.set 11 (oA (mc + nI 1) h1.length 1) ++ [aB 10 (va_up (fun _ => none) 0 (some h.length))])[11]? = some (oA (mc + nI 1) h1.length 1) := jget_app (jget_set h11')
    conv => whnf
    refine ⟨_, jget_app (jget_ne (by decide) (h21.trans e1)), ?_⟩
    conv => whnf
    refine ⟨⟨_, h11''⟩, jcall (c_AL_size h11'') ?_⟩
    rintro r' h' ⟨rfl, rfl⟩
    conv => whnf
    refine ⟨fun _ => ?_, fun c => absurd (by decide) c⟩
    have K2 : KT (fun t => t != 2 && t != 7 && t != 8) τ h (va_up τ h1.length 8) (h1.set 11 (oA (mc + nI 1) h1.length 1) ++ [aB 10 (va_up (fun _ => none) 0 (some h.length))]) := ((K1.set _ h11n).app _).tag (by omega)
    have hlen2 : (h1.set 11 (oA (mc + nI 1) h1.length 1) ++ [aB 10 (va_up (fun _ => none) 0 (some h.length))]).length = h1.length + 1 := by rw [List.length_append, List.length_set]; rfl
    refine g57 _ _ K2 (((B1.set _ _).app _).tag (by omega) (by omega)) ?_ ?_ ?_ ?_ ?_ c
    · unfold va_up; rw [if_neg (by omega)]; exact eρ
    · rw [jget_app (jget_ne (by decide) (h21.trans e1)), e1]
    · rw [jget_app (jget_ne (Ne.symm ρ11) (hρ1.trans hρ)), hρ]
    · have : (11 : Nat) ≠ b := jne h11 hbs (fun z => by cases z)
      rw [jget_app (jget_ne this (hb1.trans hbs)), hbs]
    · rw [hT0]
      refine ⟨by unfold va_up; rw [if_neg (by omega)]; exact t11, _, _, h11'', Or.inr ⟨by simp [va_up], va_up (fun _ => none) 0 (some h.length), ?_, fun i q hi => ?_⟩⟩
      · have := jget_new (h1.set 11 (oA (mc + nI 1) h1.length 1)) (aB 10 (va_up (fun _ => none) 0 (some h.length)))
        rw [List.length_set] at this
        exact this
      · match i, hi with
        | 0, hi =>
          cases hi
          refine rcd _ _ K2 ?_ (jget_app (jget_ne (Ne.symm n11) hs1))
          unfold va_up
          rw [if_neg (by omega)]
          exact e11.2.2.2 _ (Nat.le_refl _)
        | i + 1, hi => simp [zdrop] at hi
  · have hβl := (List.getElem?_eq_some_iff.mp hβ).1
    have hβn : h.length ≠ β := by omega
    have β11 : (11 : Nat) ≠ β := jne h11 hβ (fun z => by cases z)
    have hβ1 : h1[β]? = some (aB 10 f) := by rw [hh1]; exact jget_app hβ
    have hβd : h.length ≤ β ∨ (fun t => t != 2 && t != 7 && t != 8) (τ β) = false := Or.inr (by rw [hτβ]; rfl)
    have τs : τ h.length = 0 := e11.2.2.2 _ (Nat.le_refl _)
    have β2 : β ≠ 2 := jne hβ e1 (fun z => by cases z)
    have βρ : β ≠ ρ := fun e => by rw [e, eρ] at hτβ; cases hτβ
    have βb : β ≠ b := jne hβ hbs (fun z => by cases z)
    have b11 : (11 : Nat) ≠ b := jne h11 hbs (fun z => by cases z)
    refine ⟨⟨_, h11'⟩, jcall (c_AL_add h11' hβ1 (show (zT z).length < 10 by omega) (by decide) hs1 rfl n11) ?_⟩
    rintro r' h' ⟨rfl, rfl⟩
    obtain ⟨f2, hf2⟩ : ∃ f2, f2 = va_up f (zT z).length (some h.length) := ⟨_, rfl⟩
    rw [← hf2]
    obtain ⟨h2, hh2⟩ : ∃ h2, h2 = (h1.set β (aB 10 f2)).set 11 (oA (mc + nI 1) β ((zT z).length + 1)) := ⟨_, rfl⟩
    rw [← hh2]
    have K2 : KT (fun t => t != 2 && t != 7 && t != 8) τ h τ h2 := by rw [hh2]; exact (K1.set _ hβd).set _ h11n
    have B2 : xB τ h2 := by rw [hh2]; exact (B1.set _ _).set _ _
    have x11 : h2[11]? = some (oA (mc + nI 1) β ((zT z).length + 1)) := by rw [hh2]; exact jget_set (jget_ne (Ne.symm β11) h11')
    have xβ : h2[β]? = some (aB 10 f2) := by rw [hh2]; exact jget_ne β11 (jget_set hβ1)
    have x2 : h2[2]? = some (mx ρ ω κ π n t k) := by rw [hh2]; exact jget_ne (by decide) (jget_ne β2 (h21.trans e1))
    have xρ : h2[ρ]? = some (aO "QuasiSums$Sum" 4 fR) := by rw [hh2]; exact jget_ne (Ne.symm ρ11) (jget_ne βρ (hρ1.trans hρ))
    have xb : h2[b]? = some (oS x.1 ab) := by rw [hh2]; exact jget_ne b11 (jget_ne βb (hb1.trans hbs))
    have xs : h2[h.length]? = some (.inr (6, [.int (nI r), .ref kr])) := by rw [hh2]; exact jget_ne (Ne.symm n11) (jget_ne (Ne.symm hβn) hs1)
    -- the steps in the row
    have st2 : ∀ i q, (zT z ++ [(r, zR z r)])[i]? = some q → xt τ h2 (f2 i) q := by
      intro i q hi
      by_cases hl : i < (zT z).length
      · rw [List.getElem?_append_left hl] at hi
        rw [show f2 i = f i by rw [hf2]; unfold va_up; rw [if_neg (by omega)]]
        exact (hf i q hi).kt K2 rfl
      · rw [List.getElem?_append_right (by omega)] at hi
        have hz0 : i - (zT z).length < 1 := (List.getElem?_eq_some_iff.mp hi).1
        rw [show i - (zT z).length = 0 by omega] at hi
        cases hi
        rw [show f2 i = some h.length by rw [hf2]; unfold va_up; rw [if_pos (by omega)]]
        exact rcd τ h2 K2 τs xs
    conv => whnf
    refine ⟨_, x2, ?_⟩
    conv => whnf
    refine ⟨⟨_, x11⟩, jcall (c_AL_size x11) ?_⟩
    rintro r' h' ⟨rfl, he⟩
    obtain rfl := he.symm
    clear he
    conv => whnf
    refine ⟨fun c8 => ?_, fun c8 => ?_⟩ <;> rw [nI_leI (by omega) (by omega)] at c8
    · refine g57 _ _ K2 B2 eρ (by rw [x2, e1]) (by rw [xρ, hρ]) (by rw [xb, hbs]) ?_ c
      have hzd : zdrop (zT z) = zT z := if_neg (by omega)
      rw [hzd]
      exact ⟨t11, _, _, by rw [List.length_append]; exact x11, Or.inr ⟨hτβ, f2, xβ, st2⟩⟩
    · have hT9 : (zT z).length = 8 := by omega
      have hzd : zdrop (zT z) = (zT z).drop 1 := if_pos hT9
      have x11' : h2[11]? = some (oA (mc + nI 1) β 9) := by rw [x11, hT9]
      conv => whnf
      refine ⟨_, x2, ?_⟩
      conv => whnf
      refine ⟨⟨_, x11'⟩, jcall (c_AL_shift x11' xβ (fun i hi => ?_)) ?_⟩
      · have hi9 : i < (zT z ++ [(r, zR z r)]).length := by rw [List.length_append, hT9]; exact hi
        obtain ⟨s, c2, s1, s2, s3, s4⟩ := st2 i _ (List.getElem?_eq_getElem hi9)
        exact ⟨s, 6, _, s1, jne s3 x11' (fun z => by cases z), s3, rfl⟩
      rintro r' h' ⟨⟨s0, rfl⟩, rfl⟩
      conv => whnf
      obtain ⟨f3, hf3⟩ : ∃ f3, f3 = va_up (va_cpy f2 f2 1 0 8) 8 none := ⟨_, rfl⟩
      rw [← hf3]
      have K3 : KT (fun t => t != 2 && t != 7 && t != 8) τ h τ ((h2.set β (aB 10 f3)).set 11 (oA (mc + nI 1 + nI 1) β 8)) := (K2.set _ hβd).set _ h11n
      have K23 : KT (fun t => t != 2 && t != 7 && t != 8) τ h2 τ ((h2.set β (aB 10 f3)).set 11 (oA (mc + nI 1 + nI 1) β 8)) := ((KT.refl).set _ (Or.inr (by rw [hτβ]; rfl))).set _ (Or.inr (by rw [t11]; rfl))
      refine g57 _ _ K3 ((B2.set _ _).set _ _) eρ ?_ ?_ ?_ ?_ c
      · rw [jget_ne (by decide) (jget_ne β2 x2), e1]
      · rw [jget_ne (Ne.symm ρ11) (jget_ne βρ xρ), hρ]
      · rw [jget_ne b11 (jget_ne βb xb), hbs]
      · rw [hzd]
        have hlen8 : ((zT z).drop 1 ++ [(r, zR z r)]).length = 8 := by rw [List.length_append, List.length_drop, hT9]; rfl
        refine ⟨t11, _, β, by rw [hlen8]; exact jget_set (jget_ne (Ne.symm β11) x11'), Or.inr ⟨hτβ, f3, jget_ne β11 (jget_set xβ), fun i q hi => ?_⟩⟩
        have hi8 : i < 8 := by rw [← hlen8]; exact (List.getElem?_eq_some_iff.mp hi).1
        have hi1 : (zT z ++ [(r, zR z r)])[1 + i]? = some q := by
          rw [← hi]
          by_cases hl : i < 7
          · rw [List.getElem?_append_left (by omega), List.getElem?_append_left (by rw [List.length_drop]; omega), List.getElem?_drop]
          · rw [List.getElem?_append_right (by omega), List.getElem?_append_right (by rw [List.length_drop]; omega), List.length_drop]
            congr 1
            omega
        have := (st2 (1 + i) q hi1).kt K23 rfl
        rw [show f3 i = f2 (1 + i) by rw [hf3]; unfold va_up va_cpy; rw [if_neg (by omega), if_pos (by omega), Nat.sub_zero]]
        exact this
