/-! the class's reader: a term, the whole text -/
/-- the list of terms (b0: what was there before lies below it) -/
def rEl (b0 : Nat) (h : List jC) (f : Nat → Option Nat) (ts : List zTm) : Prop := ∀ i x, ts[i]? = some x → ∃ e bt, f i = some e ∧ b0 ≤ e ∧ h[e]? = some (oTm x.1.1 x.1.2 x.2.1 bt) ∧ tmB x.2 bt
def rLs (b0 : Nat) (h : List jC) (l : Nat) (ts : List zTm) : Prop := ∃ mc β, h[l]? = some (oA mc β ts.length) ∧ ((β = 0 ∧ h[0]? = some jD ∧ ts = []) ∨ (b0 ≤ β ∧ ∃ m f, h[β]? = some (aB m f) ∧ ts.length ≤ m ∧ (m = 10 ∨ m = 15 ∨ m = 22) ∧ rEl b0 h f ts))
theorem rEl.keep {b0 : Nat} {h h' : List jC} {f : Nat → Option Nat} {ts : List zTm} (H : rEl b0 h f ts) (K : ∀ (k : Nat) (vs : List Value), h[k]? = some (.inr (8, vs)) → h'[k]? = some (.inr (8, vs))) : rEl b0 h' f ts := by
  intro i x hi
  obtain ⟨e, bt, h1, h2, h3, h4⟩ := H i x hi
  exact ⟨e, bt, h1, h2, K _ _ h3, h4⟩
theorem rLs.keep {b0 : Nat} {h h' : List jC} {l ρ : Nat} {vs : List Value} {ts : List zTm} (H : rLs b0 h l ts) (hR : h[ρ]? = some (.inr (4, vs))) (K : ∀ k c, k ≠ ρ → h[k]? = some c → h'[k]? = some c) : rLs b0 h' l ts := by
  obtain ⟨mc, β, h1, h2⟩ := H
  refine ⟨mc, β, K _ _ (jne h1 hR (fun z => by cases z)) h1, ?_⟩
  rcases h2 with ⟨a1, a2, a3⟩ | ⟨a1, m, f, a2, a3, a4, a5⟩
  · exact Or.inl ⟨a1, K _ _ (jne a2 hR (fun z => by cases z)) a2, a3⟩
  · refine Or.inr ⟨a1, m, f, K _ _ (jne a2 hR (fun z => by cases z)) a2, a3, a4, rEl.keep a5 (fun k ws hk => K _ _ (jne hk hR (fun z => by cases z)) hk)⟩
theorem rEl.push {b0 : Nat} {h : List jC} {f g : Nat → Option Nat} {ts : List zTm} {e : Nat} {x : zTm} {bt : Int32} (H : rEl b0 h f ts) (he : h[e]? = some (oTm x.1.1 x.1.2 x.2.1 bt)) (hbe : b0 ≤ e) (ht : tmB x.2 bt) (g1 : ∀ i, i < ts.length → g i = f i) (g2 : g ts.length = some e) : rEl b0 h g (ts ++ [x]) := by
  intro i y hi
  by_cases hl : i < ts.length
  · rw [List.getElem?_append_left hl] at hi
    rw [g1 i hl]
    exact H i y hi
  · rw [List.getElem?_append_right (by omega)] at hi
    have hz0 : i - ts.length < 1 := (List.getElem?_eq_some_iff.mp hi).1
    have hie : i = ts.length := by omega
    rw [hie, Nat.sub_self] at hi
    cases hi
    rw [hie]
    exact ⟨e, bt, g2, hbe, he, ht⟩
/-- what lay below stays -/
def rFr (b0 : Nat) (h h' : List jC) : Prop := h.length ≤ h'.length ∧ ∀ k, k < b0 → h'[k]? = h[k]?
theorem rFr.trans {b0 : Nat} {h h1 h2 : List jC} (A : rFr b0 h h1) (B : rFr b0 h1 h2) : rFr b0 h h2 := ⟨Nat.le_trans A.1 B.1, fun k hk => (B.2 k hk).trans (A.2 k hk)⟩
theorem rFr_set {b0 k : Nat} (h : List jC) (hk : b0 ≤ k) (x : jC) : rFr b0 h (h.set k x) := ⟨by rw [List.length_set]; exact Nat.le_refl _, fun j hj => List.getElem?_set_ne (by omega)⟩
theorem rFr_app {b0 : Nat} (h ap : List jC) (hb : b0 ≤ h.length) : rFr b0 h (h ++ ap) := ⟨by rw [List.length_append]; omega, fun j hj => List.getElem?_append_left (by omega)⟩
/-- one more term in the list -/
def rAdd (b0 : Nat) (h : List jC) (l : Nat) (ts : List zTm) : jPost := fun r h' => r = some (.int (nI 1)) ∧ rLs b0 h' l ts ∧ rFr b0 h h' ∧ ∀ (ρ : Nat) (vs : List Value), h[ρ]? = some (.inr (4, vs)) → h'[ρ]? = some (.inr (4, vs))
theorem c_rLs_add {b0 : Nat} {h : List jC} {l e : Nat} {ts : List zTm} {x : zTm} {bt : Int32} (H : rLs b0 h l ts) (h20 : ts.length ≤ 20) (hb : 53 ≤ b0) (hl : b0 ≤ l) (he : h[e]? = some (oTm x.1.1 x.1.2 x.2.1 bt)) (hbe : b0 ≤ e) (ht : tmB x.2 bt) : jCt jy_Jx4a65c_add_9ea2d [.ref l, .ref e] h (rAdd b0 h l (ts ++ [x])) := by
  obtain ⟨mc, β, h1, h2⟩ := H
  have hel : e ≠ l := jne he h1 (fun z => by cases z)
  have hlen : (ts ++ [x]).length = ts.length + 1 := by rw [List.length_append]; rfl
  have hll := (List.getElem?_eq_some_iff.mp h1).1
  rcases h2 with ⟨rfl, a2, rfl⟩ | ⟨a1, m, f, a2, a3, a4, a5⟩
  · refine jCt_mono (c_AL_add0 h1 a2 (by omega) he rfl hel) ?_
    rintro r h' ⟨rfl, rfl⟩
    have hS : (h.set l (oA (mc + nI 1) h.length 1)).length = h.length := List.length_set
    have hN : (h.set l (oA (mc + nI 1) h.length 1) ++ [aB 10 (va_up (fun _ => none) 0 (some e))])[h.length]? = some (aB 10 (va_up (fun _ => none) 0 (some e))) := by
      have := jget_new (h.set l (oA (mc + nI 1) h.length 1)) (aB 10 (va_up (fun _ => none) 0 (some e)))
      rw [hS] at this
      exact this
    refine ⟨rfl, ⟨mc + nI 1, h.length, jget_app (jget_set h1), Or.inr ⟨by omega, 10, va_up (fun _ => none) 0 (some e), hN, (show 1 ≤ 10 by decide), Or.inl rfl, ?_⟩⟩, (rFr_set h hl _).trans (rFr_app _ _ (by rw [List.length_set]; omega)), fun ρ vs hρ => ?_⟩
    · refine rEl.push (h := _) (f := fun _ => none) (ts := []) (fun i y hi => by cases hi) (jget_app (jget_ne (Ne.symm hel) he)) hbe ht (fun i hi => absurd hi (Nat.not_lt_zero i)) (va_up_self _ _ _)
    · exact jget_app (jget_ne (jne h1 hρ (fun z => by cases z)) hρ)
  have hlb : l ≠ β := jne h1 a2 (fun z => by cases z)
  have heb : e ≠ β := jne he a2 (fun z => by cases z)
  by_cases hlt : ts.length < m
  · refine jCt_mono (c_AL_add h1 a2 hlt (by omega) he rfl hel) ?_
    rintro r h' ⟨rfl, rfl⟩
    refine ⟨rfl, ⟨mc + nI 1, β, ?_, Or.inr ⟨a1, m, _, jget_ne hlb (jget_set a2), by omega, a4, ?_⟩⟩, (rFr_set h a1 _).trans (rFr_set _ hl _), fun ρ vs hρ => ?_⟩
    · rw [hlen]
      exact jget_set (jget_ne (Ne.symm hlb) h1)
    · refine rEl.push (f := f) (rEl.keep a5 (fun k ws hk => ?_)) (jget_ne (Ne.symm hel) (jget_ne (Ne.symm heb) he)) hbe ht (fun i hi => va_up_ne _ _ (by omega)) (va_up_self _ _ _)
      exact jget_ne (jne h1 hk (fun z => by cases z)) (jget_ne (jne a2 hk (fun z => by cases z)) hk)
    · exact jget_ne (jne h1 hρ (fun z => by cases z)) (jget_ne (jne a2 hρ (fun z => by cases z)) hρ)
  · have hm : m = ts.length := by omega
    have elem : ∀ i, i < ts.length → ∃ y vs, f i = some y ∧ h[y]? = some (.inr (8, vs)) := by
      intro i hi
      obtain ⟨y, b, c1, -, c3, -⟩ := a5 i _ (List.getElem?_eq_getElem hi)
      exact ⟨y, _, c1, c3⟩
    rw [hm] at a2 a4
    refine jCt_mono (c_AL_addN h1 a2 (by omega) h20 (fun i hi y hy => ?_) (fun i hi w => ?_) he rfl hel) ?_
    · obtain ⟨y2, vs, c1, c2⟩ := elem i hi
      rw [c1] at hy
      cases hy
      exact ⟨8, vs, c2, rfl⟩
    · obtain ⟨y2, vs, c1, c2⟩ := elem i hi
      rw [c1] at w
      cases w
      exact jne h1 c2 (fun z => by cases z) rfl
    rintro r h' ⟨rfl, rfl⟩
    have hS : (h.set l (oA (mc + nI 1) h.length (ts.length + 1))).length = h.length := List.length_set
    obtain ⟨nw, hnw⟩ : ∃ nw, nw = aB (ts.length + ts.length / 2) (va_up (va_cpy f (fun _ => none) 0 0 ts.length) ts.length (some e)) := ⟨_, rfl⟩
    have hN : (h.set l (oA (mc + nI 1) h.length (ts.length + 1)) ++ [nw])[h.length]? = some nw := by
      have := jget_new (h.set l (oA (mc + nI 1) h.length (ts.length + 1))) nw
      rw [hS] at this
      exact this
    rw [← hnw]
    refine ⟨rfl, ⟨mc + nI 1, h.length, by rw [hlen]; exact jget_app (jget_set h1), Or.inr ⟨by omega, ts.length + ts.length / 2, va_up (va_cpy f (fun _ => none) 0 0 ts.length) ts.length (some e), by rw [hN, hnw], by omega, by omega, ?_⟩⟩, (rFr_set h hl _).trans (rFr_app _ _ (by rw [List.length_set]; omega)), fun ρ vs hρ => ?_⟩
    · refine rEl.push (f := f) (rEl.keep a5 (fun k ws hk => ?_)) (jget_app (jget_ne (Ne.symm hel) he)) hbe ht (fun i hi => ?_) (va_up_self _ _ _)
      · exact jget_app (jget_ne (jne h1 hk (fun z => by cases z)) hk)
      · rw [va_up_ne _ _ (by omega)]
        unfold va_cpy
        rw [if_pos (by omega), Nat.sub_zero, Nat.zero_add]
    · exact jget_app (jget_ne (jne h1 hρ (fun z => by cases z)) hρ)
/-! a term -/
theorem c_X9_init {h : List jC} {s : Nat} {v0 v1 v2 v3 : Value} (hs : h[s]? = some (.inr (8, [v0, v1, v2, v3]))) (f : Bool) (y : Int32) : jCt jy_X9_init [.ref s, .int (jbi (f = true)), .int y] h (fun r h' => r = none ∧ h' = h.set s (oTm y f 0 (nI 0))) := by
  refine jrun2 (js_X9_init _) rfl rfl rfl (fun G hG hW hB => ?_)
  refine hG [] 300 _ _ _ _ _ _ ?_
  conv => whnf
  refine ⟨trivial, _, hs, ?_⟩
  conv => whnf
  refine ⟨trivial, _, jget_set hs, ?_⟩
  conv => whnf
  refine ⟨jbi_01 _, _, jget_set (jget_set hs), ?_⟩
  conv => whnf
  refine ⟨trivial, _, jget_set (jget_set (jget_set hs)), ?_⟩
  conv => whnf
  refine ⟨rfl, ?_⟩
  rw [List.set_set, List.set_set, List.set_set]
  rfl
def rSt (b0 : Nat) (h : List jC) (ρ : Nat) (t : zTap) (l a T : Nat) (ts : List zTm) : Prop := 53 ≤ b0 ∧ b0 ≤ ρ ∧ b0 ≤ l ∧ h[ρ]? = some (oRd t.1 l a T) ∧ rTp t h ∧ rLs b0 h l ts
theorem jsg_mul (m : Bool) (y : Nat) : (if m = true then (-1 : Int32) else nI 1) * nI y = if m = true then -(nI y) else nI y := by
  cases m
  · rw [if_neg Bool.false_ne_true, if_neg Bool.false_ne_true]
    exact Int32.one_mul _
  · rw [if_pos rfl, if_pos rfl, show (-1 : Int32) = -(1) from rfl, Int32.neg_mul, Int32.one_mul]
theorem jtrm_at (t : zTap) (a : Nat) {d : Nat × Nat} (hd : d = jdig t a 4) {b : Nat} (hb : b = a + d.2) : jtrm t a = (if ¬ jhere t b = nI 77 ∧ ¬ jhere t b = nI 70 then (((b, true), (0, 0)), (if d.2 = 0 then 1 else d.1, decide (jhere t b = nI 70)))
    else ((jmust t (nI 41) (if (jmust t (nI 40) (b + 1, false)).2 = false ∧ ¬ jhere t (jmust t (nI 40) (b + 1, false)).1 = nI 41 then jfgs t 81 (jfig t (jmust t (nI 40) (b + 1, false)) (0, 0)).1 (jfig t (jmust t (nI 40) (b + 1, false)) (0, 0)).2 else (jmust t (nI 40) (b + 1, false), (0, 0))).1, (if (jmust t (nI 40) (b + 1, false)).2 = false ∧ ¬ jhere t (jmust t (nI 40) (b + 1, false)).1 = nI 41 then jfgs t 81 (jfig t (jmust t (nI 40) (b + 1, false)) (0, 0)).1 (jfig t (jmust t (nI 40) (b + 1, false)) (0, 0)).2 else (jmust t (nI 40) (b + 1, false), (0, 0))).2), (if d.2 = 0 then 1 else d.1, decide (jhere t b = nI 70)))) := by
  rw [hb, hd]
  rfl
theorem c_X5_readTerm {b0 : Nat} {h : List jC} {ρ l a T : Nat} {t : zTap} {ts : List zTm} (H : rSt b0 h ρ t l a T ts) (ha : a ≤ t.1) (h20 : ts.length ≤ 20) (m : Bool) : jCt jy_X5_readTerm [.ref ρ, .int (jbi (m = true))] h (fun r h' => r = some (.int (jbi ((jtrm t a).1.1.2 = false))) ∧ rFr b0 h h' ∧ h'[ρ]? = some (oRd t.1 l (jtrm t a).1.1.1 T) ∧ ((jtrm t a).1.1.2 = false → rSt b0 h' ρ t l (jtrm t a).1.1.1 T (ts ++ [jtm t a (if m = true then -1 else nI 1)]))) := by
  obtain ⟨hb0, hbρ, hbl, hR, hP, hL⟩ := H
  have h10 := oRd_10 hR hP
  have hlt := hP.2.1
  have ht80 := hP.1
  have hρl := (List.getElem?_eq_some_iff.mp hR).1
  obtain ⟨d, hd⟩ : ∃ d, d = jdig t a 4 := ⟨_, rfl⟩
  obtain ⟨b, hb⟩ : ∃ b, b = a + d.2 := ⟨_, rfl⟩
  have hbt := jdig_in t ha 4
  have htr := jtrm_at t a hd hb
  have hrt := c_X5_readTimes hR hP (by omega)
  rw [← hd] at hbt hrt
  rw [← hb] at hbt hrt
  obtain ⟨y, hy⟩ : ∃ y, y = if d.2 = 0 then 1 else d.1 := ⟨_, rfl⟩
  rw [← hy] at htr hrt
  obtain ⟨j, hj⟩ : ∃ j, j = jtrm t a := ⟨_, rfl⟩
  have hjm : jtm t a (if m = true then -1 else nI 1) = ((if m = true then -(nI j.2.1) else nI j.2.1, j.2.2), j.1.2) := by
    rw [jtm, ← hj, jsg_mul]
  rw [hjm]
  rw [← hj] at htr ⊢
  generalize hΦ : (fun (r : Option Value) (h' : List jC) => r = some (.int (jbi (j.1.1.2 = false))) ∧ rFr b0 h h' ∧ h'[ρ]? = some (oRd t.1 l j.1.1.1 T) ∧ (j.1.1.2 = false → rSt b0 h' ρ t l j.1.1.1 T (ts ++ [((if m = true then -(nI j.2.1) else nI j.2.1, j.2.2), j.1.2)]))) = Φ
  have bad : ∀ p ap, j.1.1 = (p, true) → Φ (some (.int (nI 0))) (h.set ρ (oRd t.1 l p T) ++ ap) := by
    intro p ap e
    rw [← hΦ]
    refine ⟨?_, (rFr_set h hbρ _).trans (rFr_app _ _ (by rw [List.length_set]; omega)), ?_, fun w => ?_⟩
    · rw [e, jbi_f (fun w => by cases w)]
    · rw [e]
      exact jget_apl (jget_set hR)
    · rw [e] at w
      cases w
  have bad0 : ∀ p, j.1.1 = (p, true) → Φ (some (.int (nI 0))) (h.set ρ (oRd t.1 l p T)) := by
    intro p e
    have := bad p [] e
    rw [List.append_nil] at this
    exact this
  have hset : ∀ p q, (h.set ρ (oRd t.1 l p T)).set ρ (oRd t.1 l q T) = h.set ρ (oRd t.1 l q T) := fun p q => List.set_set ..
  have hgR : ∀ p, (h.set ρ (oRd t.1 l p T))[ρ]? = some (oRd t.1 l p T) := fun p => jget_set hR
  have hgP : ∀ p, rTp t (h.set ρ (oRd t.1 l p T)) := fun p => hP.set h10 _
  refine jrun2 (js_X5_readTerm _) rfl rfl rfl (fun G hG hW hB => ?_)
  by_cases c : ¬ jhere t b = nI 77 ∧ ¬ jhere t b = nI 70
  · rw [if_pos c] at htr
    refine hG [] 300 _ _ _ _ _ _ ?_
    conv => whnf
    refine ⟨⟨_, hR⟩, jcall (hrt) ?_⟩
    rintro r h' ⟨rfl, rfl⟩
    conv => whnf
    refine ⟨⟨_, hgR b⟩, jcall (c_X5_sees (hgR b) (hgP b) (by omega) 70 (by decide)) ?_⟩
    rintro r h' ⟨rfl, rfl⟩
    conv => whnf
    refine ⟨fun w => absurd (jbi_f c.2) w, fun _ => ?_⟩
    conv => whnf
    refine ⟨⟨_, hgR b⟩, jcall (c_X5_sees (hgR b) (hgP b) (by omega) 77 (by decide)) ?_⟩
    rintro r h' ⟨rfl, rfl⟩
    conv => whnf
    refine ⟨fun w => absurd (jbi_f c.1) w, fun _ => ?_⟩
    conv => whnf
    exact ⟨Or.inl rfl, bad0 b (by rw [htr])⟩
  rw [if_neg c] at htr
  have hbl2 : b < t.1 := by
    by_cases c7 : jhere t b = nI 77
    · exact jhere_in c7 (by decide)
    · exact jhere_in (Decidable.not_not.mp (fun w => c ⟨c7, w⟩)) (by decide)
  have g27 : G 27 [some (.ref ρ), some (.int (jbi (m = true))), some (.int (nI y)), some (.int (jbi (jhere t b = nI 70))), none] [] (h.set ρ (oRd t.1 l b T)) 0 0 := by
    by_cases c2 : jhere t (b + 1) = nI 40
    case neg =>
      have hq : jmust t (nI 40) (b + 1, false) = (b + 1, true) := by
        rw [jmust, if_neg Bool.false_ne_true, if_neg c2]
      rw [hq, if_neg (fun w => by cases w.1), jmust_ok _ _ _ rfl] at htr
      refine hG [] 300 _ _ _ _ _ _ ?_
      conv => whnf
      refine ⟨_, hgR b, ?_⟩
      conv => whnf
      rw [nI_add]
      refine ⟨trivial, _, hgR b, ?_⟩
      conv => whnf
      erw [hset b (b + 1)]
      refine ⟨⟨_, hgR (b + 1)⟩, jcall (c_X5_sees (hgR (b + 1)) (hgP (b + 1)) (by omega) 40 (by decide)) ?_⟩
      rintro r h' ⟨rfl, rfl⟩
      conv => whnf
      refine ⟨fun w => absurd (jbi_f c2) w, fun _ => ?_⟩
      conv => whnf
      exact ⟨Or.inl rfl, bad0 (b + 1) (by rw [htr])⟩
    have hq : jmust t (nI 40) (b + 1, false) = (b + 2, false) := by
      rw [jmust, if_neg Bool.false_ne_true, if_pos c2]
    have hb2 : b + 1 < t.1 := jhere_in c2 (by decide)
    rw [hq] at htr
    dsimp only at htr
    obtain ⟨fF, hfF⟩ : ∃ fF, fF = decide (jhere t b = nI 70) := ⟨_, rfl⟩
    have hjF : jbi (jhere t b = nI 70) = jbi (fF = true) := jbi_c (by rw [hfF]; simp)
    rw [← hfF] at htr
    obtain ⟨v, hv⟩ : ∃ v, v = if m = true then -(nI y) else nI y := ⟨_, rfl⟩
    have hSl : ∀ p, (h.set ρ (oRd t.1 l p T)).length = h.length := fun p => List.length_set
    have hgR2 : ∀ p c, (h.set ρ (oRd t.1 l p T) ++ [c])[ρ]? = some (oRd t.1 l p T) := fun p c => jget_app (hgR p)
    have hgP2 : ∀ p c, rTp t (h.set ρ (oRd t.1 l p T) ++ [c]) := fun p c => (hgP p).app _
    have hgN : ∀ p c, (h.set ρ (oRd t.1 l p T) ++ [c])[h.length]? = some c := fun p c => by
      have := jget_new (h.set ρ (oRd t.1 l p T)) c
      rw [hSl] at this
      exact this
    have hsetN : ∀ p c c2, (h.set ρ (oRd t.1 l p T) ++ [c]).set h.length c2 = h.set ρ (oRd t.1 l p T) ++ [c2] := fun p c c2 => by
      rw [List.set_append_right _ _ (by rw [hSl]; exact Nat.le_refl _), hSl, Nat.sub_self]
      rfl
    have hsetR : ∀ p q c, (h.set ρ (oRd t.1 l p T) ++ [c]).set ρ (oRd t.1 l q T) = h.set ρ (oRd t.1 l q T) ++ [c] := fun p q c => by
      rw [List.set_append_left _ _ (by rw [hSl]; exact hρl), hset]
    have g98 : ∀ p w bt, j = ((jmust t (nI 41) (p, false), (w, bt)), (y, fF)) → p ≤ t.1 → ∀ bc, tmB (w, bt) bc → G 98 [some (.ref ρ), some (.int (jbi (m = true))), some (.int (nI y)), some (.int (jbi (fF = true))), some (.ref h.length)] [] (h.set ρ (oRd t.1 l p T) ++ [oTm v fF w bc]) 1 4 := by
      intro p w bt hj2 hp bc htm
      refine hG [] 300 _ _ _ _ _ _ ?_
      conv => whnf
      refine ⟨⟨_, hgR2 p _⟩, jcall (c_X5_sees (hgR2 p _) (hgP2 p _) (by omega) 41 (by decide)) ?_⟩
      rintro r h' ⟨rfl, rfl⟩
      conv => whnf
      refine ⟨fun c3 => ?_, fun c3 => ?_⟩ <;> rw [jbi_0] at c3
      case refine_2 =>
        conv => whnf
        refine ⟨Or.inl rfl, bad p _ ?_⟩
        rw [hj2, jmust, if_neg Bool.false_ne_true, if_neg c3]
      have c3 := Decidable.not_not.mp c3
      have hj3 : j = (((p + 1, false), (w, bt)), (y, fF)) := by
        rw [hj2, jmust, if_neg Bool.false_ne_true, if_pos c3]
      have hpl : p < t.1 := jhere_in c3 (by decide)
      have hL2 : rLs b0 (h.set ρ (oRd t.1 l (p + 1) T) ++ [oTm v fF w bc]) l ts := hL.keep hR (fun k x hk hx => jget_app (jget_ne (Ne.symm hk) hx))
      have had := c_rLs_add (x := ((v, fF), (w, bt))) hL2 h20 hb0 hbl (hgN (p + 1) _) (by omega) htm
      obtain ⟨mc, β, hl1, -⟩ := id hL2
      conv => whnf
      refine ⟨_, hgR2 p _, ?_⟩
      conv => whnf
      rw [nI_add]
      refine ⟨trivial, _, hgR2 p _, ?_⟩
      conv => whnf
      erw [hsetR p (p + 1)]
      refine ⟨_, hgR2 (p + 1) _, ?_⟩
      conv => whnf
      refine ⟨⟨_, hl1⟩, jcall had ?_⟩
      rintro r h' ⟨rfl, k1, k2, k3⟩
      conv => whnf
      refine ⟨Or.inr rfl, ?_⟩
      rw [← hΦ, hj3]
      have hfr := (rFr_set h hbρ (oRd t.1 l (p + 1) T)).trans ((rFr_app _ [oTm v fF w bc] (by rw [List.length_set]; omega)).trans k2)
      refine ⟨by rw [jbi_t rfl], hfr, k3 _ _ (hgR2 (p + 1) _), fun _ => ⟨hb0, hbρ, hbl, k3 _ _ (hgR2 (p + 1) _), ?_, ?_⟩⟩
      · obtain ⟨q1, q2, f, q3, q4⟩ := hP
        exact ⟨q1, q2, f, by rw [hfr.2 10 (by omega)]; exact q3, q4⟩
      · rw [hv] at k1
        exact k1
    have g73 : ∀ v', v' = v → G 73 [some (.ref ρ), some (.int (jbi (m = true))), some (.int (nI y)), some (.int (jbi (fF = true))), none] [.int v', .int (jbi (fF = true)), .ref h.length, .ref h.length] (h.set ρ (oRd t.1 l (b + 2) T) ++ [.inr (8, [.int (nI 0), .int (nI 0), .int (nI 0), .int (nI 0)])]) 1 4 := by
      intro v' hv'
      rw [hv']
      have hin := c_X9_init (hgN (b + 2) (.inr (8, [.int (nI 0), .int (nI 0), .int (nI 0), .int (nI 0)]))) fF v
      have hse := c_X5_sees (hgR2 (b + 2) (oTm v fF 0 (nI 0))) (hgP2 (b + 2) (oTm v fF 0 (nI 0))) (by omega) 41 (by decide)
      have hnu := c_X5_readNumbers (hgR2 (b + 2) (oTm v fF 0 (nI 0))) (hgP2 (b + 2) (oTm v fF 0 (nI 0))) (hgN (b + 2) _) (by omega) (by omega)
      refine hG [98] 300 _ _ _ _ _ _ ?_
      conv => whnf
      refine jcall hin ?_
      rintro r h' ⟨rfl, rfl⟩
      erw [hsetN]
      conv => whnf
      refine ⟨⟨_, hgR2 (b + 2) _⟩, jcall (hse) ?_⟩
      rintro r h' ⟨rfl, rfl⟩
      conv => whnf
      refine ⟨fun c3 => ?_, fun c3 => ?_⟩ <;> rw [jbi_0] at c3
      · have c3 := Decidable.not_not.mp c3
        rw [if_neg (fun w => w.2 c3)] at htr
        exact g98 (b + 2) 0 0 htr (by omega) (nI 0) (fun _ => rfl)
      rw [if_pos ⟨rfl, c3⟩] at htr
      have htr2 : j = ((jmust t (nI 41) (jnum t 81 (b + 2) (0, 0)).1, (jnum t 81 (b + 2) (0, 0)).2), (y, fF)) := htr
      have hin2 : (jnum t 81 (b + 2) (0, 0)).1.1 ≤ t.1 := jfgs_in t 81 _ _ (jfig_in t _ _ (by dsimp only; omega))
      conv => whnf
      refine ⟨⟨_, hgR2 (b + 2) _⟩, jcall hnu ?_⟩
      rintro r h' ⟨rfl, w, bt, rfl, hwb⟩
      rw [hsetR, hsetN]
      generalize jnum t 81 (b + 2) (0, 0) = z at *
      obtain ⟨⟨p, e⟩, u⟩ := z
      dsimp only at *
      conv => whnf
      refine ⟨fun c4 => ?_, fun c4 => ?_⟩ <;> rw [jbi_0] at c4
      · have c4 := Decidable.not_not.mp c4
        rw [c4] at htr2
        obtain ⟨w1, w2⟩ := hwb c4
        rw [w1]
        exact g98 p u.1 u.2 htr2 hin2 bt w2
      · have c4 : e = true := by simpa using c4
        rw [c4, jmust_ok _ _ _ rfl] at htr2
        conv => whnf
        exact ⟨Or.inl rfl, bad p _ (by rw [htr2])⟩
    rw [hjF]
    refine hG [73] 300 _ _ _ _ _ _ ?_
    conv => whnf
    refine ⟨_, hgR b, ?_⟩
    conv => whnf
    rw [nI_add]
    refine ⟨trivial, _, hgR b, ?_⟩
    conv => whnf
    erw [hset b (b + 1)]
    refine ⟨⟨_, hgR (b + 1)⟩, jcall (c_X5_sees (hgR (b + 1)) (hgP (b + 1)) (by omega) 40 (by decide)) ?_⟩
    rintro r h' ⟨rfl, rfl⟩
    conv => whnf
    refine ⟨fun _ => ?_, fun w => absurd c2 (jbi_0.mp w)⟩
    conv => whnf
    refine ⟨_, hgR (b + 1), ?_⟩
    conv => whnf
    rw [nI_add]
    refine ⟨trivial, _, hgR (b + 1), ?_⟩
    conv => whnf
    erw [hset (b + 1) (b + 2)]
    rw [hSl]
    refine ⟨fun c3 => ?_, fun c3 => ?_⟩ <;> rw [jbi_0] at c3
    · exact g73 _ (by rw [hv, if_neg c3])
    · exact g73 _ (by rw [hv, if_pos (Decidable.not_not.mp c3)])
  refine hG [27] 300 _ _ _ _ _ _ ?_
  conv => whnf
  refine ⟨⟨_, hR⟩, jcall (hrt) ?_⟩
  rintro r h' ⟨rfl, rfl⟩
  conv => whnf
  refine ⟨⟨_, hgR b⟩, jcall (c_X5_sees (hgR b) (hgP b) (by omega) 70 (by decide)) ?_⟩
  rintro r h' ⟨rfl, rfl⟩
  conv => whnf
  refine ⟨fun w => ?_, fun w => ?_⟩
  · exact g27
  rw [jbi_0] at w
  have c7 : jhere t b = nI 77 := Decidable.not_not.mp (fun z => c ⟨z, w⟩)
  conv => whnf
  refine ⟨⟨_, hgR b⟩, jcall (c_X5_sees (hgR b) (hgP b) (by omega) 77 (by decide)) ?_⟩
  rintro r h' ⟨rfl, rfl⟩
  conv => whnf
  refine ⟨fun _ => ?_, fun w2 => absurd c7 (jbi_0.mp w2)⟩
  exact g27
