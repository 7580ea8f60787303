/-! layings: functions from things to values, pair by pair -/
def rg : Nat → Nat → List Nat
  | 0, _ => []
  | f + 1, lo => lo :: rg f (lo + 1)
theorem rg_mem : ∀ {f lo v : Nat}, v ∈ rg f lo → lo ≤ v ∧ v < lo + f
  | 0, _, _, h => by cases h
  | f + 1, lo, v, h => by
    rcases List.mem_cons.mp h with rfl | h
    · omega
    · have := rg_mem h
      omega
theorem rg_app : ∀ f lo, rg (f + 1) lo = rg f lo ++ [lo + f]
  | 0, lo => rfl
  | f + 1, lo => by
    rw [rg, rg_app f (lo + 1), rg, List.cons_append, show lo + 1 + f = lo + (f + 1) by omega]
theorem jgvL_rg (g : Nat → Nat) : ∀ k, jgvL g k = lsum g (rg k 1)
  | 0 => rfl
  | k + 1 => by rw [jgvL, jgvL_rg g k, rg_app, lsum_app, Nat.add_comm 1 k]; simp [lsum]
noncomputable def ind (P : Prop) : Nat := @ite Nat P (Classical.propDecidable P) 1 0
theorem ind_c {P Q : Prop} (h : P ↔ Q) : ind P = ind Q := by rw [propext h]
theorem ind_t {P : Prop} (h : P) : ind P = 1 := if_pos h
theorem ind_f {P : Prop} (h : ¬ P) : ind P = 0 := if_neg h
/-- all functions with values out of A for the things from i on: how many have P -/
noncomputable def Sf (A : Nat → List Nat) (P : (Nat → Nat) → Prop) : Nat → Nat → (Nat → Nat) → Nat
  | 0, _, g => ind (P g)
  | f + 1, i, g => lsum (fun v => Sf A P f (i + 1) (fun j => if j = i then v else g j)) (A i)
/-- what agrees with g ahead of i, and lies in A from i on -/
def agr (A : Nat → List Nat) (i f : Nat) (g h : Nat → Nat) : Prop := (∀ j, (j < i ∨ i + f ≤ j) → h j = g j) ∧ ∀ j, i ≤ j → j < i + f → h j ∈ A j
theorem agr_hd {A : Nat → List Nat} {i f v : Nat} {g h : Nat → Nat} (hh : agr A (i + 1) f (fun j => if j = i then v else g j) h) : h i = v ∧ ∀ j, (j < i ∨ i + (f + 1) ≤ j) → h j = g j := by
  refine ⟨?_, fun j hj => ?_⟩
  · have := hh.1 i (by omega)
    dsimp only at this
    rw [if_pos rfl] at this
    exact this
  · have := hh.1 j (by omega)
    dsimp only at this
    rw [if_neg (by omega)] at this
    exact this
theorem agr_up {A : Nat → List Nat} {i f v : Nat} {g h : Nat → Nat} (hh : agr A (i + 1) f (fun j => if j = i then v else g j) h) (hv : v ∈ A i) : agr A i (f + 1) g h := by
  obtain ⟨h1, h2⟩ := agr_hd hh
  refine ⟨h2, fun j h3 h4 => ?_⟩
  by_cases hji : j = i
  · rw [hji, h1]
    exact hv
  · exact hh.2 j (by omega) (by omega)
theorem Sf_P {A : Nat → List Nat} {P Q : (Nat → Nat) → Prop} : ∀ f i g, (∀ h, agr A i f g h → (P h ↔ Q h)) → Sf A P f i g = Sf A Q f i g
  | 0, i, g, H => ind_c (H g ⟨fun _ _ => rfl, fun j h1 h2 => by omega⟩)
  | f + 1, i, g, H => by
    rw [Sf, Sf]
    exact lsum_c (fun v hv => Sf_P f (i + 1) _ (fun h hh => H h (agr_up hh hv)))
theorem Sf_0 {A : Nat → List Nat} {P : (Nat → Nat) → Prop} (f i : Nat) (g : Nat → Nat) (H : ∀ h, agr A i f g h → ¬ P h) : Sf A P f i g = 0 := by
  rw [Sf_P (Q := fun _ => False) f i g (fun h hh => ⟨fun q => (H h hh) q, fun q => q.elim⟩)]
  have : ∀ f i g, Sf A (fun _ => False) f i g = 0 := by
    intro f
    induction f with
    | zero => intro i g; exact ind_f (fun q => q)
    | succ f ih =>
      intro i g
      rw [Sf, lsum_c (fun v _ => ih (i + 1) _)]
      exact lsum_0 _
  exact this f i g
theorem Sf_A {A B : Nat → List Nat} {P : (Nat → Nat) → Prop} : ∀ f i g, (∀ j, i ≤ j → j < i + f → A j = B j) → Sf A P f i g = Sf B P f i g
  | 0, _, _, _ => rfl
  | f + 1, i, g, H => by
    rw [Sf, Sf, H i (Nat.le_refl _) (by omega)]
    exact lsum_c (fun v _ => Sf_A f (i + 1) _ (fun j h1 h2 => H j (by omega) (by omega)))
/-- at one thing one value more -/
theorem Sf_split {A : Nat → List Nat} {P : (Nat → Nat) → Prop} {y c : Nat} {l : List Nat} : ∀ f i g, (i ≤ y ∧ y < i + f) → A y = c :: l → Sf A P f i g = Sf (fun j => if j = y then [c] else A j) P f i g + Sf (fun j => if j = y then l else A j) P f i g
  | 0, i, g, hy, _ => by omega
  | f + 1, i, g, hy, hA => by
    rw [Sf, Sf, Sf]
    by_cases hi : i = y
    · subst hi
      rw [if_pos rfl, if_pos rfl, hA]
      simp only [lsum, Nat.add_zero]
      congr 1
      · exact Sf_A f (i + 1) _ (fun j h1 h2 => (if_neg (by omega)).symm)
      · exact lsum_c (fun v _ => Sf_A f (i + 1) _ (fun j h1 h2 => (if_neg (by omega)).symm))
    · rw [if_neg hi, if_neg hi, ← lsum_add]
      exact lsum_c (fun v _ => Sf_split f (i + 1) _ (by omega) hA)
/-- at one thing another value -/
theorem Sf_at {A : Nat → List Nat} {P Q : (Nat → Nat) → Prop} {y c d : Nat} : ∀ f i g g2, (y < i → g y = c ∧ g2 y = d) → (∀ j, j ≠ y → g j = g2 j) → (∀ h h2, agr (fun j => if j = y then [c] else A j) i f g h → h y = c → h2 y = d → (∀ j, j ≠ y → h j = h2 j) → (P h ↔ Q h2)) → (y < i ∨ y < i + f) → Sf (fun j => if j = y then [c] else A j) P f i g = Sf (fun j => if j = y then [d] else A j) Q f i g2
  | 0, i, g, g2, hy, hg, H, hi => by
    have h1 := hy (by omega)
    exact ind_c (H g g2 ⟨fun _ _ => rfl, fun j a b => by omega⟩ h1.1 h1.2 hg)
  | f + 1, i, g, g2, hy, hg, H, hi => by
    rw [Sf, Sf]
    by_cases hyi : i = y
    · subst hyi
      rw [if_pos rfl, if_pos rfl]
      simp only [lsum, Nat.add_zero]
      refine Sf_at f (i + 1) _ _ (fun _ => ⟨if_pos rfl, if_pos rfl⟩) (fun j hj => ?_) (fun h h2 hh a b e => H h h2 (agr_up hh ?_) a b e) (Or.inl (by omega))
      · rw [if_neg hj, if_neg hj]
        exact hg j hj
      · rw [if_pos rfl]
        exact List.mem_cons_self
    · rw [if_neg hyi, if_neg hyi]
      refine lsum_c (fun v hv => Sf_at f (i + 1) _ _ (fun hyl => ?_) (fun j hj => ?_) (fun h h2 hh a b e => H h h2 (agr_up hh ?_) a b e) (by omega))
      · rw [if_neg (by omega), if_neg (by omega)]
        exact hy (by omega)
      · split
        · rfl
        · exact hg j hj
      · rw [if_neg hyi]
        exact hv
/-! the reference's counting -/
theorem jokG_c (o : zOrd) {g h : Nat → Nat} (i v : Nat) : ∀ j, (∀ m, 1 ≤ m → m ≤ j → g m = h m) → jokG o g i v j = jokG o h i v j
  | 0, _ => rfl
  | j + 1, H => by rw [jokG, jokG, jokG_c o i v j (fun m h1 h2 => H m h1 (by omega)), H (j + 1) (by omega) (Nat.le_refl _)]
theorem jgvS_Sf (o : zOrd) (k : Nat) : ∀ f i gv, 1 ≤ i → jgvS o k f i gv = Sf (fun _ => rg k 1) (fun g => ∀ m, i ≤ m → m < i + f → jokG o g m (g m) (m - 1) = true) f i gv
  | 0, i, gv, _ => (ind_t (fun m h1 h2 => by omega)).symm
  | f + 1, i, gv, hi => by
    rw [jgvS, Sf, jgvL_rg]
    refine lsum_c (fun v _ => ?_)
    have ih := jgvS_Sf o k f (i + 1) (fun j => if j = i then v else gv j) (by omega)
    by_cases hok : jokG o gv i v (i - 1) = true
    · rw [if_pos hok, ih]
      refine Sf_P f (i + 1) _ (fun h hh => ⟨fun q m h1 h2 => ?_, fun q m h1 h2 => q m (by omega) (by omega)⟩)
      by_cases hmi : m = i
      · subst hmi
        obtain ⟨e1, e2⟩ := agr_hd hh
        rw [e1, jokG_c o (h := gv) m v (m - 1) (fun m2 h3 h4 => e2 m2 (by omega))]
        exact hok
      · exact q m (by omega) (by omega)
    · rw [if_neg hok]
      refine (Sf_0 f (i + 1) _ (fun h hh q => hok ?_)).symm
      have := q i (Nat.le_refl _) (by omega)
      obtain ⟨e1, e2⟩ := agr_hd hh
      rw [e1, jokG_c o (h := gv) i v (i - 1) (fun m2 h3 h4 => e2 m2 (by omega))] at this
      exact this
