/-! layings are as many as rows with pairs -/
theorem jokG_iff (o : zOrd) (gv : Nat → Nat) (i v : Nat) : ∀ n, jokG o gv i v n = true ↔ ∀ j, 1 ≤ j → j ≤ n → (zund o j i → gv j ≤ v) ∧ (zund o i j → v < gv j)
  | 0 => ⟨fun _ j h1 h2 => by omega, fun _ => rfl⟩
  | n + 1 => by
    rw [jokG, Bool.and_eq_true, jokG_iff o gv i v n, Bool.and_eq_true, decide_eq_true_eq, decide_eq_true_eq]
    constructor
    · rintro ⟨h1, h2, h3⟩ j j1 j2
      by_cases hj : j = n + 1
      · subst hj
        exact ⟨fun q => h2.resolve_left (fun w => w q), fun q => h3.resolve_left (fun w => w q)⟩
      · exact h1 j j1 (by omega)
    · intro h
      obtain ⟨h2, h3⟩ := h (n + 1) (by omega) (Nat.le_refl _)
      refine ⟨fun j j1 j2 => h j j1 (by omega), ?_, ?_⟩
      · by_cases q : zund o (n + 1) i
        · exact Or.inr (h2 q)
        · exact Or.inl q
      · by_cases q : zund o i (n + 1)
        · exact Or.inr (h3 q)
        · exact Or.inl q
def Pv (o : zOrd) (t : Nat) (g : Nat → Nat) : Prop := ∀ i, 1 ≤ i → i ≤ o.1 → ∀ j, 1 ≤ j → j < i → ¬ jin t i → ¬ jin t j → (zund o j i → g j ≤ g i) ∧ (zund o i j → g i < g j)
def lo (p n i : Nat) : Nat := if n % p + 1 ≤ i then n / p + 1 else n / p + 2
def Av (p k n t : Nat) : Nat → List Nat := fun i => if jin t i then [0] else rg (k + 1 - lo p n i) (lo p n i)
theorem lo_step {p n i : Nat} (hp : 1 ≤ p ∧ p ≤ 6) (hi : 1 ≤ i ∧ i ≤ p) : lo p (n + 1) i = if i = n % p + 1 then lo p n i + 1 else lo p n i := by
  unfold lo
  rcases jstep hp n with ⟨h1, h2, h3⟩ | ⟨h1, h2, h3⟩
  · rw [h2, h3]
    by_cases h4 : i = n % p + 1
    · rw [if_neg (by omega), if_pos h4, if_pos (by omega)]
    · rw [if_neg h4]
      by_cases h5 : n % p + 1 ≤ i
      · rw [if_pos (by omega), if_pos h5]
      · rw [if_neg (by omega), if_neg h5]
  · rw [h2, h3, if_pos (by omega)]
    by_cases h4 : i = n % p + 1
    · rw [if_pos h4, if_pos (by omega)]
    · rw [if_neg h4, if_neg (by omega)]
theorem Sf_sing {A : Nat → List Nat} {P : (Nat → Nat) → Prop} (hP : ∀ g, P g) : ∀ f i g, (∀ j, i ≤ j → j < i + f → A j = [0]) → Sf A P f i g = 1
  | 0, i, g, _ => ind_t (hP g)
  | f + 1, i, g, H => by
    rw [Sf, H i (Nat.le_refl _) (by omega)]
    simp only [lsum, Nat.add_zero]
    exact Sf_sing hP f (i + 1) _ (fun j h1 h2 => H j (by omega) (by omega))
theorem Sf_empty {A : Nat → List Nat} {P : (Nat → Nat) → Prop} {y : Nat} (hy : A y = []) : ∀ f i g, (i ≤ y ∧ y < i + f) → Sf A P f i g = 0
  | 0, i, g, h => by omega
  | f + 1, i, g, h => by
    rw [Sf]
    by_cases hi : i = y
    · rw [hi, hy]; rfl
    · rw [lsum_c (g := fun _ => 0) (fun v _ => Sf_empty hy f (i + 1) _ (by omega))]
      exact lsum_0 _
theorem jmiss : ∀ p, p < 7 → ∀ t, t < 64 → (t < 2 ^ p ∧ ¬ t = 2 ^ p - 1 → ∃ y, y < 6 ∧ (y < p ∧ t / 2 ^ y % 2 = 0)) := by decide +kernel
theorem jfullin : ∀ p, p < 7 → ∀ y, y < 6 → (y < p → (2 ^ p - 1) / 2 ^ y % 2 = 1) := by decide +kernel
theorem jsub_t : ∀ a, a < 64 → ∀ t, t < 64 → ((nI a &&& (nI t ^^^ (-1)) = nI 0) → ∀ j, j < 6 → a / 2 ^ j % 2 = 1 → t / 2 ^ j % 2 = 1) := by decide +kernel
theorem jsub_f : ∀ a, a < 64 → ∀ t, t < 64 → (¬ (nI a &&& (nI t ^^^ (-1)) = nI 0) → ∃ j, j < 6 ∧ (a / 2 ^ j % 2 = 1 ∧ t / 2 ^ j % 2 = 0)) := by decide +kernel
theorem jor_in : ∀ t, t < 64 → ∀ y, y < 6 → ∀ i, i < 6 → ((t ||| 2 ^ y) / 2 ^ i % 2 = 1 ↔ (t / 2 ^ i % 2 = 1 ∨ i = y)) := by decide +kernel
theorem jbit_lt : ∀ a, a < 64 → ∀ p, p < 7 → ∀ j, j < 6 → (a < 2 ^ p → a / 2 ^ j % 2 = 1 → j < p) := by decide +kernel
theorem zund_iff (o : zOrd) {a : Nat} (b : Nat) (ha : 1 ≤ a) : zund o a b ↔ o.2 b / 2 ^ (a - 1) % 2 = 1 := by
  unfold zund
  rw [jzb _ _ ha]
theorem St_eq {o : zOrd} (ho : zordOk o) (h0 : 1 ≤ o.1) (k : Nat) : ∀ m n t, n + m = k * o.1 → t < 2 ^ o.1 → Sf (Av o.1 k n t) (Pv o t) o.1 1 (fun _ => 0) = jRp o m n t := by
  have hp := ho.1
  have hp2 : 2 ^ o.1 ≤ 64 := Nat.pow_le_pow_right (by decide) hp
  intro m
  induction m with
  | zero =>
    intro n t hn ht
    have h1 : n % o.1 = 0 := by rw [← Nat.add_zero n, hn]; exact Nat.mul_mod_left k o.1
    have h2 : n / o.1 = k := by rw [← Nat.add_zero n, hn]; exact Nat.mul_div_cancel k (by omega)
    rw [jRp]
    by_cases hf : t = 2 ^ o.1 - 1
    · rw [if_pos hf]
      have hall : ∀ j, 1 ≤ j → j ≤ o.1 → jin t j := fun j a b => by
        show t / 2 ^ (j - 1) % 2 = 1
        rw [hf]
        exact jfullin o.1 (by omega) (j - 1) (by omega) (by omega)
      have hPv : ∀ g, Pv o t g := fun g i a b j c d e => absurd (hall i a b) e
      refine Sf_sing hPv o.1 1 _ (fun j a b => ?_)
      unfold Av
      rw [if_pos (hall j a (by omega))]
    · rw [if_neg hf]
      obtain ⟨y, y1, y2, y3⟩ := jmiss o.1 (by omega) t (by omega) ⟨ht, hf⟩
      refine Sf_empty (y := y + 1) ?_ o.1 1 _ (by omega)
      unfold Av lo
      rw [if_neg (show ¬ jin t (y + 1) by show ¬ t / 2 ^ (y + 1 - 1) % 2 = 1; rw [Nat.add_sub_cancel]; omega), h1, h2, if_pos (by omega), Nat.sub_self]
      rfl
  | succ m ih =>
    intro n t hn ht
    obtain ⟨y, hy⟩ : ∃ y, y = n % o.1 + 1 := ⟨_, rfl⟩
    have hyl : 1 ≤ y ∧ y ≤ o.1 := by have := Nat.mod_lt n (show 0 < o.1 by omega); omega
    obtain ⟨c, hc⟩ : ∃ c, c = n / o.1 + 1 := ⟨_, rfl⟩
    have hck : c ≤ k := by
      have : n / o.1 < k := by
        rw [Nat.div_lt_iff_lt_mul (by omega)]
        omega
      omega
    have hlo : ∀ i, lo o.1 n i = if y ≤ i then c else c + 1 := fun i => by unfold lo; rw [← hy, hc]
    have hls : ∀ i, 1 ≤ i → i ≤ o.1 → lo o.1 (n + 1) i = if i = y then lo o.1 n i + 1 else lo o.1 n i := fun i a b => by rw [lo_step ⟨h0, hp⟩ ⟨a, b⟩, hy]
    have hAs : ∀ i, 1 ≤ i → i ≤ o.1 → i ≠ y → Av o.1 k (n + 1) t i = Av o.1 k n t i := fun i a b d => by
      unfold Av
      rw [hls i a b, if_neg d]
    have i1 := ih (n + 1) t (by omega) ht
    have h64 := zord64 ho
    rw [jRp, ← hy, show n % o.1 = y - 1 by omega, ← i1]
    by_cases hin : jin t y
    · have hno : ¬ okI o (2 * t) y := by
        intro q
        have := q.1
        rw [jzb t y hyl.1] at this
        exact this hin
      rw [if_neg hno, Nat.add_zero]
      refine Sf_A o.1 1 _ (fun j a b => ?_)
      by_cases hjy : j = y
      · subst hjy
        unfold Av
        rw [if_pos hin, if_pos hin]
      · exact (hAs j a (by omega) hjy).symm
    · have hAy : Av o.1 k n t y = c :: rg (k - c) (c + 1) := by
        unfold Av
        rw [if_neg hin, hlo, if_pos (Nat.le_refl _), show k + 1 - c = (k - c) + 1 by omega]
        rfl
      have hsec : Sf (fun j => if j = y then rg (k - c) (c + 1) else Av o.1 k n t j) (Pv o t) o.1 1 (fun _ => 0) = Sf (Av o.1 k (n + 1) t) (Pv o t) o.1 1 (fun _ => 0) := by
        refine Sf_A o.1 1 _ (fun j a b => ?_)
        by_cases hjy : j = y
        · rw [if_pos hjy]
          subst hjy
          unfold Av
          rw [if_neg hin, hls j a (by omega), if_pos rfl, hlo, if_pos (Nat.le_refl _), show k + 1 - (c + 1) = k - c by omega]
        · rw [if_neg hjy]
          exact (hAs j a (by omega) hjy).symm
      rw [Sf_split o.1 1 _ (by omega) hAy, hsec, Nat.add_comm]
      congr 1
      -- what the values of the others are, at least
      have hval : ∀ h : Nat → Nat, agr (fun j => if j = y then [c] else Av o.1 k n t j) 1 o.1 (fun _ => 0) h → ∀ j, 1 ≤ j → j ≤ o.1 → j ≠ y → ¬ jin t j → (if y ≤ j then c else c + 1) ≤ h j := by
        intro h hh j a b d e
        have := hh.2 j a (by omega)
        dsimp only at this
        rw [if_neg d] at this
        unfold Av at this
        rw [if_neg e] at this
        have := (rg_mem this).1
        rw [hlo] at this
        exact this
      have hvy : ∀ h : Nat → Nat, agr (fun j => if j = y then [c] else Av o.1 k n t j) 1 o.1 (fun _ => 0) h → h y = c := by
        intro h hh
        have := hh.2 y hyl.1 (by omega)
        dsimp only at this
        rw [if_pos rfl] at this
        exact List.mem_singleton.mp this
      have hbo := (ho.2 y (by omega)).1
      by_cases hok : okI o (2 * t) y
      · rw [if_pos hok]
        have hsubs := jsub_t (o.2 y) (h64 y (by omega)) t (by omega) ((jnot_eq (o.2 y) (h64 y (by omega)) t (by omega)).mpr hok.2)
        have hbel : ∀ j, 1 ≤ j → j ≤ o.1 → zund o j y → jin t j := fun j a b q => hsubs (j - 1) (by omega) ((zund_iff o y a).mp q)
        have hin2 : ∀ i, 1 ≤ i → i ≤ o.1 → (jin (t ||| 2 ^ (y - 1)) i ↔ (jin t i ∨ i = y)) := fun i a b => by
          have := jor_in t (by omega) (y - 1) (by omega) (i - 1) (by omega)
          rw [show (i - 1 = y - 1) ↔ (i = y) from by omega] at this
          exact this
        have i2 := ih (n + 1) (t ||| 2 ^ (y - 1)) (by omega) (jor_lt2 hp ht (by omega))
        rw [← i2]
        have e1 : Sf (Av o.1 k (n + 1) (t ||| 2 ^ (y - 1))) (Pv o (t ||| 2 ^ (y - 1))) o.1 1 (fun _ => 0) = Sf (fun j => if j = y then [0] else Av o.1 k n t j) (Pv o (t ||| 2 ^ (y - 1))) o.1 1 (fun _ => 0) := by
          refine Sf_A o.1 1 _ (fun j a b => ?_)
          by_cases hjy : j = y
          · rw [if_pos hjy]
            unfold Av
            rw [if_pos ((hin2 j a (by omega)).mpr (Or.inr hjy))]
          · rw [if_neg hjy, ← hAs j a (by omega) hjy]
            unfold Av
            by_cases hjt : jin t j
            · rw [if_pos hjt, if_pos ((hin2 j a (by omega)).mpr (Or.inl hjt))]
            · rw [if_neg hjt, if_neg (fun q => ((hin2 j a (by omega)).mp q).elim hjt hjy)]
        rw [e1]
        refine Sf_at o.1 1 _ _ (fun q => by omega) (fun _ _ => rfl) (fun h h2 hh a b e => ?_) (Or.inr (by omega))
        constructor
        · intro H i i1 i2 j j1 j2 ni nj
          have ni2 := fun q => ni ((hin2 i i1 i2).mpr q)
          have nj2 := fun q => nj ((hin2 j j1 (by omega)).mpr q)
          rw [← e i (fun q => ni2 (Or.inr q)), ← e j (fun q => nj2 (Or.inr q))]
          exact H i i1 i2 j j1 j2 (fun q => ni2 (Or.inl q)) (fun q => nj2 (Or.inl q))
        · intro H i u1 u2 j j1 j2 ni nj
          by_cases hiy : i = y
          · subst hiy
            rw [a]
            have hv := hval h hh j j1 (by omega) (by omega) nj
            rw [if_neg (by omega)] at hv
            exact ⟨fun q => absurd (hbel j j1 (by omega) q) nj, fun _ => by omega⟩
          · by_cases hjy : j = y
            · subst hjy
              rw [a]
              have hv := hval h hh i u1 u2 hiy ni
              rw [if_pos (by omega)] at hv
              exact ⟨fun _ => hv, fun q => absurd (hbel i u1 u2 q) ni⟩
            · rw [e i hiy, e j hjy]
              exact H i u1 u2 j j1 j2 (fun q => ((hin2 i u1 u2).mp q).elim ni hiy) (fun q => ((hin2 j j1 (by omega)).mp q).elim nj hjy)
      · rw [if_neg hok]
        have hne : ¬ (nI (o.2 y) &&& (nI t ^^^ (-1)) = nI 0) := by
          intro q
          refine hok ⟨?_, (jnot_eq (o.2 y) (h64 y (by omega)) t (by omega)).mp q⟩
          rw [jzb t y hyl.1]
          exact hin
        obtain ⟨j, j1, j2, j3⟩ := jsub_f (o.2 y) (h64 y (by omega)) t (by omega) hne
        have hjp := jbit_lt (o.2 y) (h64 y (by omega)) o.1 (by omega) j j1 hbo j2
        have hun : zund o (j + 1) y := (zund_iff o y (by omega)).mpr (by rw [Nat.add_sub_cancel]; exact j2)
        have hnt : ¬ jin t (j + 1) := by
          show ¬ t / 2 ^ (j + 1 - 1) % 2 = 1
          rw [Nat.add_sub_cancel]
          omega
        have hjy : j + 1 ≠ y := by
          intro q
          have := (ho.2 y (by omega)).2.2.1 (by omega)
          rw [Nat.testBit_eq_decide_div_mod_eq, decide_eq_false_iff_not, show y - 1 = j by omega] at this
          exact this j2
        refine Sf_0 o.1 1 _ (fun h hh H => ?_)
        have hv := hval h hh (j + 1) (by omega) (by omega) hjy hnt
        have hy2 := hvy h hh
        by_cases hlt : j + 1 < y
        · have := (H y hyl.1 hyl.2 (j + 1) (by omega) hlt hin hnt).1 hun
          rw [if_neg (by omega)] at hv
          omega
        · have := (H (j + 1) (by omega) (by omega) y hyl.1 (by omega) hnt hin).2 hun
          rw [if_pos (by omega)] at hv
          omega
theorem rws_adj {o : zOrd} : ∀ {f t : Nat} {l : List Nat}, l ∈ rws o f t → adj l ∧ ∀ v ∈ l, ¬ t / 2 ^ v % 2 = 1
  | 0, t, l, h => by
    rw [rws, List.mem_singleton] at h
    subst h
    exact ⟨trivial, fun v hv => by cases hv⟩
  | f + 1, t, l, h => by
    rw [rws] at h
    obtain ⟨i, i1, i2, hi⟩ := rwsL_mem h
    by_cases hok : okI o t i
    · rw [if_pos hok, List.mem_map] at hi
      obtain ⟨l2, h2, rfl⟩ := hi
      obtain ⟨a1, a2⟩ := rws_adj h2
      have hbits : ∀ v, ¬ (t ||| 2 ^ i) / 2 ^ v % 2 = 1 → v ≠ i ∧ ¬ t / 2 ^ v % 2 = 1 := by
        intro v hv
        have e1 := Nat.testBit_eq_decide_div_mod_eq (x := t ||| 2 ^ i) (i := v)
        rw [decide_eq_false hv, Nat.testBit_or, Bool.or_eq_false_iff] at e1
        refine ⟨fun q => ?_, fun q => ?_⟩
        · subst q
          rw [Nat.testBit_two_pow_self] at e1
          exact absurd e1.2 (by decide)
        · have e2 := Nat.testBit_eq_decide_div_mod_eq (x := t) (i := v)
          rw [e1.1, decide_eq_true q] at e2
          cases e2
      refine ⟨?_, fun v hv => ?_⟩
      · match l2, a1, a2 with
        | [], _, _ => exact trivial
        | b :: l3, a1, a2 => exact ⟨fun q => (hbits b (a2 b List.mem_cons_self)).1 q.symm, a1⟩
      · rcases List.mem_cons.mp hv with rfl | hv
        · exact hok.1
        · exact (hbits v (a2 v hv)).2
    · rw [if_neg hok] at hi
      cases hi
/-- descents, one by one -/
def nd2 (l : List Nat) : Nat → Nat
  | 0 => 0
  | e + 1 => nd2 l e + (if l.getD (e + 1) 0 < l.getD e 0 then 1 else 0)
theorem nd2_pop (l : List Nat) : ∀ m, m ≤ 6 → jpop (jdes l m) = nd2 l m
  | 0, _ => by rw [jdes, nd2]; rfl
  | m + 1, hm => by
    have ih := nd2_pop l m (by omega)
    have hlt := jdes_lt l m
    rw [jdes, nd2]
    split
    · have h64 : 2 ^ m ≤ 2 ^ 6 := Nat.pow_le_pow_right (by decide) (by omega)
      rw [(jpop_or (jdes l m) (by omega) m (by omega) (by rw [Nat.div_eq_of_lt hlt])).1, ih]
    · rw [Nat.or_zero, ih, Nat.add_zero]
theorem nd2_cons (a : Nat) (r : List Nat) : ∀ m, nd2 (a :: r) (m + 1) = (if r.getD 0 0 < a then 1 else 0) + nd2 r m
  | 0 => by simp [nd2]
  | m + 1 => by
    rw [nd2, nd2_cons a r m, nd2]
    simp only [List.getD_cons_succ]
    omega
theorem ndes_nd2 : ∀ (a : Nat) (r : List Nat), ndes (a :: r) = nd2 (a :: r) r.length
  | a, [] => rfl
  | a, b :: r => by
    rw [ndes, ndes_nd2 b r, List.length_cons, nd2_cons]
    rfl
