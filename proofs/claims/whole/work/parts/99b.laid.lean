/-! laid: rows and layings are counted by one recursion, over pairs of a value and a thing, in order -/
abbrev jin (t i : Nat) : Prop := t / 2 ^ (i - 1) % 2 = 1
/-- pairs from n on, m of them: each may be taken, if its thing can come -/
def jRp (o : zOrd) : Nat → Nat → Nat → Nat
  | 0, _, t => if t = 2 ^ o.1 - 1 then 1 else 0
  | m + 1, n, t => jRp o m (n + 1) t + (if okI o (2 * t) (n % o.1 + 1) then jRp o m (n + 1) (t ||| 2 ^ (n % o.1)) else 0)
/-- a row of things taken from the pairs from n on -/
def jV (p : Nat) : Nat → Nat → List Nat → Nat
  | _, _, [] => 1
  | 0, _, _ :: _ => 0
  | m + 1, n, y :: r => jV p m (n + 1) (y :: r) + (if n % p + 1 = y then jV p m (n + 1) r else 0)
def lsum {α : Type} (h : α → Nat) : List α → Nat
  | [] => 0
  | v :: l => h v + lsum h l
theorem lsum_app {α : Type} (h : α → Nat) : ∀ a b, lsum h (a ++ b) = lsum h a + lsum h b
  | [], b => by simp [lsum]
  | v :: a, b => by simp only [List.cons_append, lsum, lsum_app h a b]; omega
theorem lsum_map {α β : Type} (h : β → Nat) (f : α → β) : ∀ l, lsum h (l.map f) = lsum (fun v => h (f v)) l
  | [] => rfl
  | v :: l => by simp only [List.map_cons, lsum, lsum_map h f l]
theorem lsum_add {α : Type} (f g : α → Nat) : ∀ l, lsum (fun v => f v + g v) l = lsum f l + lsum g l
  | [] => rfl
  | v :: l => by simp only [lsum, lsum_add f g l]; omega
theorem lsum_c {α : Type} {f g : α → Nat} : ∀ {l : List α}, (∀ v ∈ l, f v = g v) → lsum f l = lsum g l
  | [], _ => rfl
  | v :: l, h => by
    simp only [lsum]
    rw [h v List.mem_cons_self, lsum_c (fun w hw => h w (List.mem_cons_of_mem _ hw))]
theorem lsum_0 {α : Type} : ∀ l : List α, lsum (fun _ => 0) l = 0
  | [] => rfl
  | v :: l => by simp only [lsum, lsum_0 l]
theorem lsum_rwsL (h : List Nat → Nat) (g : Nat → List (List Nat)) : ∀ n, lsum h (rwsL g n) = jgvL (fun v => lsum h (g v)) n
  | 0 => rfl
  | n + 1 => by rw [rwsL, lsum_app, jgvL, lsum_rwsL h g n]
theorem jgvL_add (f g : Nat → Nat) : ∀ n, jgvL (fun v => f v + g v) n = jgvL f n + jgvL g n
  | 0 => rfl
  | n + 1 => by simp only [jgvL, jgvL_add f g n]; omega
theorem jgvL_one (d v : Nat) : ∀ n, jgvL (fun u => if u = d then v else 0) n = if 1 ≤ d ∧ d ≤ n then v else 0
  | 0 => by rw [if_neg (by omega)]; rfl
  | n + 1 => by
    rw [jgvL, jgvL_one d v n]
    by_cases h1 : n + 1 = d
    · rw [if_pos h1, if_neg (by omega), if_pos (by omega), Nat.zero_add]
    · rw [if_neg h1, Nat.add_zero]
      by_cases h2 : 1 ≤ d ∧ d ≤ n
      · rw [if_pos h2, if_pos (by omega)]
      · rw [if_neg h2, if_neg (by omega)]
theorem jRp_full {o : zOrd} (hp : o.1 ≤ 6) (h0 : 0 < o.1) : ∀ m n, jRp o m n (2 ^ o.1 - 1) = 1
  | 0, n => if_pos rfl
  | m + 1, n => by
    have hlt := Nat.mod_lt n h0
    rw [jRp, jRp_full hp h0 m (n + 1), if_neg ((zend_last hp).2 (n % o.1 + 1) (by omega) (by omega))]
theorem jV_nil (p m n : Nat) : jV p m n [] = 1 := by cases m <;> rfl
/-- rows behind a set, with their pairs -/
theorem jV_rows {o : zOrd} (hp : o.1 ≤ 6) (h0 : 0 < o.1) : ∀ m n t, t < 2 ^ o.1 → lsum (jV o.1 m n) (rws o (o.1 - jpop t) (2 * t)) = jRp o m n t := by
  intro m
  induction m with
  | zero =>
    intro n t ht
    rw [jRp]
    by_cases hf : t = 2 ^ o.1 - 1
    · rw [if_pos hf, (jpop_full2 hp ht).2.mpr hf, Nat.sub_self]
      rfl
    · rw [if_neg hf, zrw_step hp ht hf, lsum_rwsL]
      have : jgvL (fun v => lsum (jV o.1 0 n) (if okI o (2 * t) v then (rws o (o.1 - jpop (t ||| 2 ^ (v - 1))) (2 * (t ||| 2 ^ (v - 1)))).map (fun l => v :: l) else [])) o.1 = jgvL (fun _ => 0) o.1 := by
        refine jgvL_c _ (fun v _ _ => ?_)
        split
        · rw [lsum_map]
          exact lsum_0 _
        · rfl
      rw [this, jgvL_0]
  | succ m ih =>
    intro n t ht
    have hp2 : 2 ^ o.1 ≤ 64 := Nat.pow_le_pow_right (by decide) hp
    by_cases hf : t = 2 ^ o.1 - 1
    · rw [hf, jRp_full hp h0, ← hf, (jpop_full2 hp ht).2.mpr hf, Nat.sub_self]
      rfl
    · have hlt := Nat.mod_lt n h0
      have e1 := ih (n + 1) t ht
      rw [zrw_step hp ht hf, lsum_rwsL] at e1
      rw [zrw_step hp ht hf, lsum_rwsL, jRp, ← e1]
      have : jgvL (fun v => lsum (jV o.1 (m + 1) n) (if okI o (2 * t) v then (rws o (o.1 - jpop (t ||| 2 ^ (v - 1))) (2 * (t ||| 2 ^ (v - 1)))).map (fun l => v :: l) else [])) o.1 = jgvL (fun v => lsum (jV o.1 m (n + 1)) (if okI o (2 * t) v then (rws o (o.1 - jpop (t ||| 2 ^ (v - 1))) (2 * (t ||| 2 ^ (v - 1)))).map (fun l => v :: l) else []) + (if v = n % o.1 + 1 then (if okI o (2 * t) (n % o.1 + 1) then jRp o m (n + 1) (t ||| 2 ^ (n % o.1)) else 0) else 0)) o.1 := by
        refine jgvL_c _ (fun v hv1 hv2 => ?_)
        by_cases hok : okI o (2 * t) v
        · rw [if_pos hok]
          rw [lsum_map, lsum_map]
          by_cases hvn : v = n % o.1 + 1
          · subst hvn
            rw [if_pos rfl, if_pos hok, Nat.add_sub_cancel]
            have e2 := ih (n + 1) (t ||| 2 ^ (n % o.1)) (jor_lt2 hp ht hlt)
            rw [← e2, ← lsum_add]
            refine lsum_c (fun l _ => ?_)
            rw [jV, if_pos rfl]
          · rw [if_neg hvn, Nat.add_zero]
            refine lsum_c (fun l _ => ?_)
            rw [jV, if_neg (fun q => hvn q.symm), Nat.add_zero]
        · rw [if_neg hok]
          by_cases hvn : v = n % o.1 + 1
          · subst hvn
            rw [if_pos rfl, if_neg hok]
            rfl
          · rw [if_neg hvn]
            rfl
      rw [this, jgvL_add, jgvL_one, if_pos (by omega)]
/-! how often a row is taken -/
def bin : Nat → Nat → Nat
  | _, 0 => 1
  | 0, _ + 1 => 0
  | n + 1, k + 1 => bin n k + bin n (k + 1)
theorem bin_0 (n : Nat) : bin n 0 = 1 := by cases n <;> rfl
theorem bin_big : ∀ n k, n < k → bin n k = 0
  | 0, k + 1, _ => rfl
  | n + 1, k + 1, h => by rw [bin, bin_big n k (by omega), bin_big n (k + 1) (by omega)]
def ndes : List Nat → Nat
  | [] => 0
  | [_] => 0
  | a :: b :: l => (if b < a then 1 else 0) + ndes (b :: l)
/-- neighbours differ -/
def adj : List Nat → Prop
  | [] => True
  | [_] => True
  | a :: b :: l => a ≠ b ∧ adj (b :: l)
theorem ndes_le : ∀ a l, ndes (a :: l) ≤ l.length
  | _, [] => Nat.le_refl _
  | a, b :: l => by
    have := ndes_le b l
    rw [ndes, List.length_cons]
    split <;> omega
/-- values that are left to a thing, from n on -/
def jav (p k n y : Nat) : Nat := if n % p + 1 ≤ y then k - n / p else k - n / p - 1
theorem jstep {p : Nat} (hp : 1 ≤ p ∧ p ≤ 6) (n : Nat) : (n % p + 1 < p ∧ (n + 1) % p = n % p + 1 ∧ (n + 1) / p = n / p) ∨ (n % p + 1 = p ∧ (n + 1) % p = 0 ∧ (n + 1) / p = n / p + 1) := by
  have : p = 1 ∨ p = 2 ∨ p = 3 ∨ p = 4 ∨ p = 5 ∨ p = 6 := by omega
  rcases this with rfl | rfl | rfl | rfl | rfl | rfl <;> omega
theorem jav_step {p k n y : Nat} (hp : 1 ≤ p ∧ p ≤ 6) (hy : 1 ≤ y ∧ y ≤ p) : jav p k (n + 1) y = if n % p + 1 = y then jav p k n y - 1 else jav p k n y := by
  unfold jav
  rcases jstep hp n with ⟨h1, h2, h3⟩ | ⟨h1, h2, h3⟩
  · rw [h2, h3]
    by_cases h4 : n % p + 1 = y
    · rw [if_neg (by omega), if_pos h4, if_pos (by omega)]
    · rw [if_neg h4]
      by_cases h5 : n % p + 1 ≤ y
      · rw [if_pos (by omega), if_pos h5]
      · rw [if_neg (by omega), if_neg h5]
  · rw [h2, h3]
    by_cases h4 : n % p + 1 = y
    · rw [if_pos (by omega), if_pos h4, if_pos (by omega)]
      omega
    · rw [if_neg h4, if_pos (by omega), if_neg (by omega)]
      omega
theorem jav_next {p k n y z : Nat} (hp : 1 ≤ p ∧ p ≤ 6) (hy : n % p + 1 = y) (hz : 1 ≤ z ∧ z ≤ p) (hne : y ≠ z) : jav p k (n + 1) z = jav p k n y - (if z < y then 1 else 0) := by
  rw [jav_step hp hz, if_neg (by omega)]
  unfold jav
  rw [if_pos (show n % p + 1 ≤ y by omega)]
  by_cases h : z < y
  · rw [if_pos h, if_neg (by omega)]
  · rw [if_neg h, if_pos (by omega), Nat.sub_zero]
theorem jV_bin {p k : Nat} (hp : 1 ≤ p ∧ p ≤ 6) : ∀ m n, n + m = k * p → ∀ y r, (∀ v ∈ y :: r, 1 ≤ v ∧ v ≤ p) → adj (y :: r) → jV p m n (y :: r) = bin (jav p k n y + r.length - ndes (y :: r)) (r.length + 1) := by
  intro m
  induction m with
  | zero =>
    intro n hn y r hv ha
    have hy := hv y List.mem_cons_self
    have h0 : n % p = 0 := by rw [← Nat.add_zero n, hn]; exact Nat.mul_mod_left k p
    have h1 : n / p = k := by rw [← Nat.add_zero n, hn]; exact Nat.mul_div_cancel k (by omega)
    have hj : jav p k n y = 0 := by
      unfold jav
      rw [h0, h1, if_pos (by omega), Nat.sub_self]
    rw [jV, hj, bin_big _ _ (by omega)]
  | succ m ih =>
    intro n hn y r hv ha
    have hy := hv y List.mem_cons_self
    have i1 := ih (n + 1) (by omega) y r hv ha
    rw [jV, i1, jav_step hp hy]
    have hnl : n / p < k := by
      rw [Nat.div_lt_iff_lt_mul (by omega)]
      omega
    by_cases h : n % p + 1 = y
    · rw [if_pos h, if_pos h]
      have hpos : 1 ≤ jav p k n y := by
        unfold jav
        rw [if_pos (by omega)]
        omega
      have hd := ndes_le y r
      match r, hv, ha with
      | [], _, _ =>
        rw [jV_nil]
        simp only [List.length_nil, ndes, Nat.add_zero, Nat.sub_zero, Nat.zero_add]
        obtain ⟨a, ha2⟩ : ∃ a, jav p k n y = a + 1 := ⟨jav p k n y - 1, by omega⟩
        rw [ha2, Nat.add_sub_cancel, bin, bin_0]
        exact Nat.add_comm _ _
      | z :: r, hv, ha =>
        have hz := hv z (List.mem_cons_of_mem _ List.mem_cons_self)
        have i2 := ih (n + 1) (by omega) z r (fun v hv2 => hv v (List.mem_cons_of_mem _ hv2)) ha.2
        rw [i2, jav_next hp h hz ha.1]
        have hd2 := ndes_le z r
        have hnd : ndes (y :: z :: r) = (if z < y then 1 else 0) + ndes (z :: r) := rfl
        rw [hnd]
        rw [List.length_cons]
        generalize jav p k n y = a at *
        generalize ndes (z :: r) = s at *
        generalize r.length = q at *
        by_cases hzy : z < y
        · rw [if_pos hzy]
          obtain ⟨b, hb⟩ : ∃ b, a = b + 1 := ⟨a - 1, by omega⟩
          subst hb
          rw [show b + 1 - 1 + (q + 1) - (1 + s) = b + q - s by omega, show b + 1 + (q + 1) - (1 + s) = (b + q - s) + 1 by omega, bin, show b + 1 - 1 + q - s = b + q - s by omega]
          omega
        · rw [if_neg hzy]
          obtain ⟨b, hb⟩ : ∃ b, a = b + 1 := ⟨a - 1, by omega⟩
          subst hb
          rw [show b + 1 - 1 + (q + 1) - (0 + s) = b + 1 + q - s by omega, show b + 1 + (q + 1) - (0 + s) = (b + 1 + q - s) + 1 by omega, bin, show b + 1 - 0 + q - s = b + 1 + q - s by omega]
          omega
    · rw [if_neg h, if_neg h, Nat.add_zero]
