/-! THE CLASS'S CELLS: how they hold the state. Tags tell what lies where: 0 what never changes, 1 the object, 2 its registers, 3 cells, 4 racks, 5 rows, 6 the tape, 7 the list of steps, 8 the list's row, 9 the reference's, 10 + r the ints of row r, 13 an order -/
abbrev aO (C : String) (n : Nat) (f : Nat → Option Nat) : jC := .inl (.object C, n, .inr (.inr (.inr (.inr f))))
abbrev jTg : Type := Nat → Nat
def xS (fz : Nat → Prop) (h : List jC) (b : Nat) (x : zReg) : Prop := fz b ∧ ∃ (a : Nat) (g : Nat → Int64), fz a ∧ h[b]? = some (oS x.1 a) ∧ h[a]? = some (aL (jmany x.1) g) ∧ ∀ c, c < jmany x.1 → g c = x.2 c
def xQ (fz : Nat → Prop) (h : List jC) (b : Nat) (q : zRow) : Prop := fz b ∧ ∃ (a : Nat) (g : Nat → Int32), fz a ∧ h[b]? = some (.inr (5, [.ref a])) ∧ h[a]? = some (aI q.1 g) ∧ ∀ j, j < q.1 → g j = q.2 j
/-- how many rows go on behind a set of things -/
def zend (o : zOrd) (t : Nat) : Nat := (rws o (o.1 - jpop t) (2 * t)).length
def xit (fz : Nat → Prop) (h : List jC) (b : Option Nat) (x : Option zItm) : Prop := match x with
  | none => b = none
  | some (.inl q) => ∃ k, b = some k ∧ xS fz h k q
  | some (.inr q) => ∃ k, b = some k ∧ xQ fz h k q
def xX (fz : Nat → Prop) (h : List jC) : Value → List (Int32 × Int32) → Prop
  | v, [] => v = .null
  | v, p :: l => ∃ (b : Nat) (w : Value), v = .ref b ∧ fz b ∧ h[b]? = some (.inr (9, [.int p.1, .int p.2, w])) ∧ xX fz h w l
def xRr (fz : Nat → Prop) (h : List jC) (ρ : Nat) (R : Nat → zReg) : Prop := ∃ f, h[ρ]? = some (aO "QuasiSums$Sum" 4 f) ∧ ∀ r, r < 4 → ∃ k, f r = some k ∧ xS fz h k (R r)
def xCc (h : List jC) (κ : Nat) (C : Nat → UInt32) : Prop := ∃ f, h[κ]? = some (aF 6 f) ∧ ∀ k, k < 6 → f k = C k
def xKk (fz : Nat → Prop) (h : List jC) (π : Nat) (K : Nat → Option zItm) : Prop := ∃ f, h[π]? = some (aO "QuasiSums$Item" 12 f) ∧ ∀ p, p < 12 → xit fz h (f p) (K p)
def xw (τ : jTg) (h : List jC) (r : Nat) (b : Option Nat) (x : Option zRow) : Prop := match x with
  | none => b = none
  | some q => ∃ (k a : Nat) (g : Nat → Int32), b = some k ∧ τ k = 0 ∧ τ a = 10 + r ∧ h[k]? = some (.inr (5, [.ref a])) ∧ h[a]? = some (aI q.1 g) ∧ ∀ j, j < q.1 → g j = q.2 j
abbrev fz0 (τ : jTg) : Nat → Prop := fun k => τ k = 0
/-- what an order makes -/
abbrev zmk (o : zOrd) : zReg := (o.1, jmk o.1 (zrows o) (fun _ => 0) (zrows o).length)
/-- an order's last field: nothing, or what it makes -/
def xCa (fz : Nat → Prop) (h : List jC) (v : Value) (o : zOrd) : Prop := v = .null ∨ ∃ k, v = .ref k ∧ xS fz h k (zmk o)
def xO (τ : jTg) (h : List jC) (b : Nat) (o : zOrd) : Prop := τ b = 13 ∧ ∃ (lo en : Nat) (lf ef : Nat → Int32) (v : Value), τ lo = 0 ∧ τ en = 0 ∧ h[b]? = some (.inr (3, [.int (nI o.1), .ref lo, .ref en, v])) ∧ h[lo]? = some (aI 7 lf) ∧ h[en]? = some (aI (2 ^ o.1) ef) ∧ (∀ j, j < 7 → lf j = nI (o.2 j)) ∧ (∀ t, t < 2 ^ o.1 → ef t = nI (zend o t)) ∧ xCa (fz0 τ) h v o
def xR (τ : jTg) (h : List jC) (ρ : Nat) (R : Nat → zReg) : Prop := τ ρ = 2 ∧ xRr (fz0 τ) h ρ R
def xC (τ : jTg) (h : List jC) (κ : Nat) (C : Nat → UInt32) : Prop := τ κ = 3 ∧ xCc h κ C
def xK (τ : jTg) (h : List jC) (π : Nat) (K : Nat → Option zItm) : Prop := τ π = 4 ∧ xKk (fz0 τ) h π K
def xW (τ : jTg) (h : List jC) (W : Nat → Option zRow) : Prop := τ 9 = 5 ∧ ∃ f, h[9]? = some (aO "QuasiSums$Row" 3 f) ∧ ∀ r, r < 3 → xw τ h r (f r) (W r)
def xP (τ : jTg) (h : List jC) (n : Int32) (P : zTap) : Prop := τ 10 = 6 ∧ n = nI P.1 ∧ ∃ f, h[10]? = some (aI 80 f) ∧ ∀ j, j < P.1 → f j = nI (P.2 j)
def xt (τ : jTg) (h : List jC) (b : Option Nat) (q : Nat × zReg) : Prop := ∃ s c, b = some s ∧ τ s = 0 ∧ h[s]? = some (.inr (6, [.int (nI q.1), .ref c])) ∧ xS (fz0 τ) h c q.2
def xL (τ : jTg) (h : List jC) (β : Nat) (T : List (Nat × zReg)) : Prop := (β = 0 ∧ τ 0 = 0 ∧ h[0]? = some jD ∧ T = []) ∨ (τ β = 8 ∧ ∃ f, h[β]? = some (aO "java/lang/Object" 10 f) ∧ ∀ i q, T[i]? = some q → xt τ h (f i) q)
def xT (τ : jTg) (h : List jC) (T : List (Nat × zReg)) : Prop := τ 11 = 7 ∧ ∃ (mc : Int32) (β : Nat), h[11]? = some (.inr (0, [.int mc, .ref β, .int (nI T.length)])) ∧ xL τ h β T
def xI (τ : jTg) (h : List jC) (v : Value) (x : Option zImg) : Prop := match x with
  | none => v = .null
  | some q => ∃ i ρ ω κ π, v = .ref i ∧ fz0 τ i ∧ fz0 τ ρ ∧ fz0 τ κ ∧ fz0 τ π ∧ h[i]? = some (.inr (1, [.ref ρ, .ref ω, .ref κ, .ref π])) ∧ xRr (fz0 τ) h ρ q.1 ∧ xO τ h ω q.2.1 ∧ xCc h κ q.2.2.1 ∧ xKk (fz0 τ) h π q.2.2.2
abbrev mx (ρ ω κ π : Nat) (n : Int32) (t k : Value) : jC := .inr (10, [.ref ρ, .ref ω, .ref κ, .ref π, .ref 9, .ref 10, .int n, t, .ref 11, k])
def xB (τ : jTg) (h : List jC) : Prop := 53 ≤ h.length ∧ τ 2 = 1 ∧ (∀ k, 20 ≤ k → k < 53 → τ k = 9) ∧ ∀ k, h.length ≤ k → τ k = 0
/-- the class's cells, with the places of what may be laid anew -/
def EncA (τ : jTg) (h : List jC) (ρ ω κ π : Nat) (n : Int32) (t k : Value) (z : zS) : Prop := h[2]? = some (mx ρ ω κ π n t k) ∧ xR τ h ρ (zR z) ∧ xO τ h ω (zO z) ∧ xC τ h κ (zC z) ∧ xK τ h π (zK z) ∧ xW τ h (zW z) ∧ xP τ h n (zP z) ∧ xX (fz0 τ) h t (zX z) ∧ xT τ h (zT z) ∧ xI τ h k (zI z) ∧ xB τ h
def EncX (τ : jTg) (h : List jC) (z : zS) : Prop := ∃ ρ ω κ π n t k, EncA τ h ρ ω κ π n t k z
theorem jget_apl {h ap : List jC} {k : Nat} {x : jC} (hk : h[k]? = some x) : (h ++ ap)[k]? = some x := by rw [List.getElem?_append_left (List.getElem?_eq_some_iff.mp hk).1]; exact hk
/-! what stays -/
def KT (S : Nat → Bool) (τ : jTg) (h : List jC) (τ' : jTg) (h' : List jC) : Prop := ∀ k c, h[k]? = some c → S (τ k) = true → h'[k]? = some c ∧ τ' k = τ k
def kp (fz fz' : Nat → Prop) (h h' : List jC) : Prop := ∀ k c, h[k]? = some c → fz k → h'[k]? = some c ∧ fz' k
theorem KT.kp {S : Nat → Bool} {τ τ' : jTg} {h h' : List jC} (H : KT S τ h τ' h') (h0 : S 0 = true) : kp (fz0 τ) (fz0 τ') h h' := by
  intro k c hk hz
  have hz2 : τ k = 0 := hz
  obtain ⟨a, b⟩ := H k c hk (by rw [hz2]; exact h0)
  exact ⟨a, b.trans hz2⟩
section
variable {fz fz' : Nat → Prop} {h h' : List jC}
theorem xS.kp {b : Nat} {x : zReg} (K : kp fz fz' h h') (H : xS fz h b x) : xS fz' h' b x := by
  obtain ⟨h1, a, g, h2, h3, h4, h5⟩ := H
  exact ⟨(K _ _ h3 h1).2, a, g, (K _ _ h4 h2).2, (K _ _ h3 h1).1, (K _ _ h4 h2).1, h5⟩
theorem xQ.kp {b : Nat} {q : zRow} (K : kp fz fz' h h') (H : xQ fz h b q) : xQ fz' h' b q := by
  obtain ⟨h1, a, g, h2, h3, h4, h5⟩ := H
  exact ⟨(K _ _ h3 h1).2, a, g, (K _ _ h4 h2).2, (K _ _ h3 h1).1, (K _ _ h4 h2).1, h5⟩
theorem xit.kp {b : Option Nat} {x : Option zItm} (K : kp fz fz' h h') (H : xit fz h b x) : xit fz' h' b x := by
  match x, H with
  | none, H => exact H
  | some (.inl q), ⟨k, h1, h2⟩ => exact ⟨k, h1, h2.kp K⟩
  | some (.inr q), ⟨k, h1, h2⟩ => exact ⟨k, h1, h2.kp K⟩
theorem xX.kp (K : kp fz fz' h h') : ∀ {v : Value} {l : List (Int32 × Int32)}, xX fz h v l → xX fz' h' v l
  | _, [], H => H
  | _, _ :: _, ⟨b, w, h1, h2, h3, h4⟩ => ⟨b, w, h1, (K _ _ h3 h2).2, (K _ _ h3 h2).1, xX.kp K h4⟩
theorem xRr.kp {ρ : Nat} {R : Nat → zReg} (K : kp fz fz' h h') (H : xRr fz h ρ R) (hρ : ∀ c, h[ρ]? = some c → h'[ρ]? = some c) : xRr fz' h' ρ R := by
  obtain ⟨f, h1, h2⟩ := H
  refine ⟨f, hρ _ h1, fun r hr => ?_⟩
  obtain ⟨k, k1, k2⟩ := h2 r hr
  exact ⟨k, k1, k2.kp K⟩
theorem xCc.kp {κ : Nat} {C : Nat → UInt32} (H : xCc h κ C) (hρ : ∀ c, h[κ]? = some c → h'[κ]? = some c) : xCc h' κ C := by
  obtain ⟨f, h1, h2⟩ := H
  exact ⟨f, hρ _ h1, h2⟩
theorem xKk.kp {π : Nat} {R : Nat → Option zItm} (K : kp fz fz' h h') (H : xKk fz h π R) (hρ : ∀ c, h[π]? = some c → h'[π]? = some c) : xKk fz' h' π R := by
  obtain ⟨f, h1, h2⟩ := H
  exact ⟨f, hρ _ h1, fun r hr => (h2 r hr).kp K⟩
end
section
variable {S : Nat → Bool} {τ τ' : jTg} {h h' : List jC}
theorem KT.at1 (H : KT S τ h τ' h') {k t : Nat} (ht : τ k = t) (hs : S t = true) {c : jC} (hc : h[k]? = some c) : h'[k]? = some c ∧ τ' k = t := by
  obtain ⟨a, b⟩ := H k c hc (by rw [ht]; exact hs)
  exact ⟨a, b.trans ht⟩
theorem xCa.kp {fz fz' : Nat → Prop} {v : Value} {o : zOrd} (K : kp fz fz' h h') (H : xCa fz h v o) : xCa fz' h' v o := by
  rcases H with q | ⟨k, e, q⟩
  · exact Or.inl q
  · exact Or.inr ⟨k, e, q.kp K⟩
theorem xO.kt {b : Nat} {o : zOrd} (H : KT S τ h τ' h') (s0 : S 0 = true) (s13 : S 13 = true) (x : xO τ h b o) : xO τ' h' b o := by
  obtain ⟨h1, lo, en, lf, ef, v, h2, h3, h4, h5, h6, h7, h8, h9⟩ := x
  exact ⟨(H.at1 h1 s13 h4).2, lo, en, lf, ef, v, (H.at1 h2 s0 h5).2, (H.at1 h3 s0 h6).2, (H.at1 h1 s13 h4).1, (H.at1 h2 s0 h5).1, (H.at1 h3 s0 h6).1, h7, h8, h9.kp (H.kp s0)⟩
/-- the image, where its order stays -/
theorem xI.kq {v : Value} {x : Option zImg} (K : kp (fz0 τ) (fz0 τ') h h') (H : xI τ h v x) (hO : ∀ ω q, x = some q → xO τ h ω q.2.1 → xO τ' h' ω q.2.1) : xI τ' h' v x := by
  match x, H, hO with
  | none, H, _ => exact H
  | some q, ⟨i, ρ, ω, κ, π, h1, h2, h3, h4, h5, h6, h7, h8, h9, h10⟩, hO =>
    have a3 : fz0 τ' ρ ∧ ∀ c, h[ρ]? = some c → h'[ρ]? = some c := by
      obtain ⟨f, e1, e2⟩ := id h7
      exact ⟨(K _ _ e1 h3).2, fun c hc => (K _ _ hc h3).1⟩
    have a4 : fz0 τ' κ ∧ ∀ c, h[κ]? = some c → h'[κ]? = some c := by
      obtain ⟨f, e1, e2⟩ := id h9
      exact ⟨(K _ _ e1 h4).2, fun c hc => (K _ _ hc h4).1⟩
    have a5 : fz0 τ' π ∧ ∀ c, h[π]? = some c → h'[π]? = some c := by
      obtain ⟨f, e1, e2⟩ := id h10
      exact ⟨(K _ _ e1 h5).2, fun c hc => (K _ _ hc h5).1⟩
    exact ⟨i, ρ, ω, κ, π, h1, (K _ _ h6 h2).2, a3.1, a4.1, a5.1, (K _ _ h6 h2).1, h7.kp K a3.2, hO ω q rfl h8, h9.kp a4.2, h10.kp K a5.2⟩
theorem xI.kt {v : Value} {x : Option zImg} (H : KT S τ h τ' h') (s0 : S 0 = true) (s13 : S 13 = true) (y : xI τ h v x) : xI τ' h' v x := y.kq (H.kp s0) (fun _ _ _ o => o.kt H s0 s13)
theorem xR.kt {ρ : Nat} {R : Nat → zReg} (H : KT S τ h τ' h') (s0 : S 0 = true) (s2 : S 2 = true) (x : xR τ h ρ R) : xR τ' h' ρ R := by
  obtain ⟨h1, h2⟩ := x
  obtain ⟨f, e1, e2⟩ := id h2
  exact ⟨(H.at1 h1 s2 e1).2, h2.kp (H.kp s0) (fun c hc => (H.at1 h1 s2 hc).1)⟩
theorem xC.kt {κ : Nat} {C : Nat → UInt32} (H : KT S τ h τ' h') (s3 : S 3 = true) (x : xC τ h κ C) : xC τ' h' κ C := by
  obtain ⟨h1, h2⟩ := x
  obtain ⟨f, e1, e2⟩ := id h2
  exact ⟨(H.at1 h1 s3 e1).2, h2.kp (fun c hc => (H.at1 h1 s3 hc).1)⟩
theorem xK.kt {π : Nat} {K : Nat → Option zItm} (H : KT S τ h τ' h') (s0 : S 0 = true) (s4 : S 4 = true) (x : xK τ h π K) : xK τ' h' π K := by
  obtain ⟨h1, h2⟩ := x
  obtain ⟨f, e1, e2⟩ := id h2
  exact ⟨(H.at1 h1 s4 e1).2, h2.kp (H.kp s0) (fun c hc => (H.at1 h1 s4 hc).1)⟩
theorem xw.kt {r : Nat} {b : Option Nat} {x : Option zRow} (H : KT S τ h τ' h') (s0 : S 0 = true) (s10 : S (10 + r) = true) (y : xw τ h r b x) : xw τ' h' r b x := by
  match x, y with
  | none, y => exact y
  | some q, ⟨k, a, g, h1, h2, h3, h4, h5, h6⟩ => exact ⟨k, a, g, h1, (H.at1 h2 s0 h4).2, (H.at1 h3 s10 h5).2, (H.at1 h2 s0 h4).1, (H.at1 h3 s10 h5).1, h6⟩
theorem xW.kt {W : Nat → Option zRow} (H : KT S τ h τ' h') (s0 : S 0 = true) (s5 : S 5 = true) (s10 : ∀ r, r < 3 → S (10 + r) = true) (x : xW τ h W) : xW τ' h' W := by
  obtain ⟨h1, f, e1, e2⟩ := x
  exact ⟨(H.at1 h1 s5 e1).2, f, (H.at1 h1 s5 e1).1, fun r hr => (e2 r hr).kt H s0 (s10 r hr)⟩
theorem xP.kt {n : Int32} {P : zTap} (H : KT S τ h τ' h') (s6 : S 6 = true) (x : xP τ h n P) : xP τ' h' n P := by
  obtain ⟨h1, h2, f, e1, e2⟩ := x
  exact ⟨(H.at1 h1 s6 e1).2, h2, f, (H.at1 h1 s6 e1).1, e2⟩
theorem xt.kt {b : Option Nat} {q : Nat × zReg} (H : KT S τ h τ' h') (s0 : S 0 = true) (x : xt τ h b q) : xt τ' h' b q := by
  obtain ⟨s, c, h1, h2, h3, h4⟩ := x
  exact ⟨s, c, h1, (H.at1 h2 s0 h3).2, (H.at1 h2 s0 h3).1, h4.kp (H.kp s0)⟩
theorem xL.kt {β : Nat} {T : List (Nat × zReg)} (H : KT S τ h τ' h') (s0 : S 0 = true) (s8 : S 8 = true) (x : xL τ h β T) : xL τ' h' β T := by
  rcases x with ⟨h1, h2, h3, h4⟩ | ⟨h1, f, h2, h3⟩
  · exact Or.inl ⟨h1, (H.at1 h2 s0 h3).2, (H.at1 h2 s0 h3).1, h4⟩
  · exact Or.inr ⟨(H.at1 h1 s8 h2).2, f, (H.at1 h1 s8 h2).1, fun i q hi => (h3 i q hi).kt H s0⟩
theorem xT.kt {T : List (Nat × zReg)} (H : KT S τ h τ' h') (s0 : S 0 = true) (s7 : S 7 = true) (s8 : S 8 = true) (x : xT τ h T) : xT τ' h' T := by
  obtain ⟨h1, mc, β, h2, h3⟩ := x
  exact ⟨(H.at1 h1 s7 h2).2, mc, β, (H.at1 h1 s7 h2).1, h3.kt H s0 s8⟩
end
/-- more cells behind -/
theorem KT_app (τ : jTg) (h ap : List jC) : KT (fun _ => true) τ h τ (h ++ ap) := fun k c hk _ => ⟨by rw [List.getElem?_append_left (List.getElem?_eq_some_iff.mp hk).1]; exact hk, rfl⟩
theorem EncA.app {τ : jTg} {h : List jC} {ρ ω κ π : Nat} {n : Int32} {t k : Value} {z : zS} (H : EncA τ h ρ ω κ π n t k z) (ap : List jC) : EncA τ (h ++ ap) ρ ω κ π n t k z := by
  obtain ⟨e1, e2, e3, e4, e5, e6, e7, e8, e9, e10, e11⟩ := H
  have K := KT_app τ h ap
  have K0 := K.kp rfl
  exact ⟨jget_apl e1, e2.kt K rfl rfl, e3.kt K rfl rfl, e4.kt K rfl, e5.kt K rfl rfl, e6.kt K rfl rfl (fun _ _ => rfl), e7.kt K rfl, e8.kp K0, e9.kt K rfl rfl rfl, e10.kt K rfl rfl, by rw [List.length_append]; have := e11.1; omega, e11.2.1, e11.2.2.1, fun k hk => e11.2.2.2 k (by rw [List.length_append] at hk; omega)⟩
theorem EncX.app {τ : jTg} {h : List jC} {z : zS} (H : EncX τ h z) (ap : List jC) : EncX τ (h ++ ap) z := by
  obtain ⟨ρ, ω, κ, π, n, t, k, H⟩ := H
  exact ⟨ρ, ω, κ, π, n, t, k, H.app ap⟩
/-- what comes of an order of the class -/
def xPost (h : List jC) (res : Value) (z : zS) : jPost := fun r h' => r = some res ∧ (∃ τ, EncX τ h' z) ∧ ∀ k, 20 ≤ k → k < 53 → h'[k]? = h[k]?
theorem xsame {τ : jTg} {h : List jC} {z : zS} (H : EncX τ h z) (res : Value) : xPost h res z (some res) h := ⟨rfl, ⟨τ, H⟩, fun _ _ _ => rfl⟩
theorem xapp {τ : jTg} {h : List jC} {z : zS} (H : EncX τ h z) (res : Value) (ap : List jC) : xPost h res z (some res) (h ++ ap) := ⟨rfl, ⟨τ, H.app ap⟩, fun k h1 h2 => by
  obtain ⟨ρ, ω, κ, π, n, t, k2, H⟩ := H
  exact List.getElem?_append_left (Nat.lt_of_lt_of_le h2 H.2.2.2.2.2.2.2.2.2.2.1)⟩
