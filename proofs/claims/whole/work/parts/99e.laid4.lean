/-! laid -/
theorem jchb : ∀ k, k < 10 → ∀ l, l < 8 → jchs k l = Int64.ofNat (bin k l) := by decide +kernel
theorem jWb : ∀ p, p < 7 → ∀ d, d < 32 → ∀ k, k < 10 → (Nat.blt d (jmany p) && Nat.blt 0 p && !(Nat.beq (jsmN (fun e => if jfn e d then bin k (jlen p e) else 0) (jmany p)) (bin (k + (p - 1) - jpop d) p))) = false := by decide +kernel
theorem jW_eq {p d k : Nat} (hp : p ≤ 6) (h0 : 1 ≤ p) (hd : d < jmany p) (hk : k < 10) : jsmN (fun e => if jfn e d then bin k (jlen p e) else 0) (jmany p) = bin (k + (p - 1) - jpop d) p := by
  have hm := jmany_le hp
  have := jWb p (by omega) d (by omega) k hk
  rw [show Nat.blt d (jmany p) = true from (Nat.blt_eq).mpr hd, show Nat.blt 0 p = true from (Nat.blt_eq).mpr h0, Bool.true_and, Bool.true_and, Bool.not_eq_eq_eq_not, Bool.not_false] at this
  exact Nat.eq_of_beq_eq_true this
theorem i64_mul (a b : Nat) : Int64.ofNat a * Int64.ofNat b = Int64.ofNat (a * b) := (Int64.ofNat_mul a b).symm
theorem jcn_val {f : Nat → Int64} {N : Nat → Nat} {p k : Nat} (hk : k < 10) : ∀ M, (∀ c, c < M → f c = Int64.ofNat (N c)) → (jcn f p k M).1 = Int64.ofNat (jsmN (fun c => N c * bin k (jlen p c)) M)
  | 0, _ => rfl
  | M + 1, h => by
    have hl := jlen_le p M
    rw [jcn, jsmN]
    dsimp only
    rw [jcn_val hk M (fun c hc => h c (by omega)), h M (by omega), jchb k hk _ (by omega), i64_mul, i64_add]
/-- all rows, each with its ways -/
theorem jNn_sum {p k : Nat} (rs : List (List Nat)) (M : Nat) : ∀ m, jsmN (fun c => jNn p rs m c * bin k (jlen p c)) M = jsmN (fun i => jsmN (fun c => if jfn c (jdes (rs.getD i []) (p - 1)) then bin k (jlen p c) else 0) M) m
  | 0 => by
    rw [jsmN, jsmN_c (g := fun _ => 0) M (fun c _ => by rw [jNn, Nat.zero_mul]), jsmN_0]
  | m + 1 => by
    rw [jsmN, ← jNn_sum rs M m, ← jsmN_add]
    refine jsmN_c M (fun c _ => ?_)
    rw [jNn, Nat.add_mul]
    congr 1
    split
    · rw [Nat.one_mul]
    · rw [Nat.zero_mul]
theorem jsmN_succ (f : Nat → Nat) : ∀ m, jsmN f (m + 1) = f 0 + jsmN (fun i => f (i + 1)) m
  | 0 => by simp [jsmN]
  | m + 1 => by rw [jsmN, jsmN_succ f m, jsmN]; omega
theorem jsmN_list (F : List Nat → Nat) : ∀ rs : List (List Nat), jsmN (fun i => F (rs.getD i [])) rs.length = lsum F rs
  | [] => rfl
  | r :: rs => by
    rw [List.length_cons, jsmN_succ, lsum]
    simp only [List.getD_cons_zero, List.getD_cons_succ]
    rw [jsmN_list F rs]
/-- as many ways as layings -/
theorem jlaid_eq {o : zOrd} (ho : zordOk o) {k : Nat} (hk : k < 10) : jsmN (fun c => jNn o.1 (zrows o) (zrows o).length c * bin k (jlen o.1 c)) (jmany o.1) = jgvS o k o.1 1 (fun _ => 0) := by
  have hp := ho.1
  by_cases h0 : o.1 = 0
  · have hz : zrows o = [[]] := by
      unfold zrows
      rw [h0]
      rfl
    rw [hz, h0]
    show jsmN (fun c => jNn 0 [[]] 1 c * bin k (jlen 0 c)) 1 = 1
    rw [jsmN, jsmN, jNn, jNn]
    rw [if_pos (show jfn 0 (jdes (([[]] : List (List Nat)).getD 0 []) (0 - 1)) by decide)]
    show 0 + (0 + 1) * bin k 0 = 1
    rw [bin_0]
  have h1 : 1 ≤ o.1 := by omega
  have hpos : 0 < 2 ^ o.1 := Nat.pow_pos (by decide)
  rw [jNn_sum, jsmN_c (g := fun i => (fun r => bin (k + (o.1 - 1) - jpop (jdes r (o.1 - 1))) o.1) ((zrows o).getD i [])) _ (fun i _ => jW_eq hp h1 (jdes_many _ _) hk), jsmN_list (fun r => bin (k + (o.1 - 1) - jpop (jdes r (o.1 - 1))) o.1)]
  have hV := jV_rows hp h1 (k * o.1) 0 0 hpos
  rw [show jpop 0 = 0 from rfl, Nat.sub_zero, Nat.mul_zero] at hV
  have e1 : lsum (fun r => bin (k + (o.1 - 1) - jpop (jdes r (o.1 - 1))) o.1) (zrows o) = lsum (jV o.1 (k * o.1) 0) (rws o o.1 0) := by
    refine lsum_c (fun r hr => ?_)
    have hr2 : r ∈ rws o o.1 0 := hr
    obtain ⟨l1, l2⟩ := rws_each hr2
    obtain ⟨a1, -⟩ := rws_adj hr2
    match r, l1, l2, a1 with
    | [], l1, _, _ => rw [List.length_nil] at l1; omega
    | y :: r, l1, l2, a1 =>
      rw [List.length_cons] at l1
      rw [jV_bin ⟨h1, hp⟩ (k * o.1) 0 (Nat.zero_add _) y r (fun v hv => ⟨(l2 v hv).1, (l2 v hv).2⟩) a1, nd2_pop _ _ (by omega), ndes_nd2, show o.1 - 1 = r.length by omega, l1]
      congr 1
      have hy := l2 y List.mem_cons_self
      unfold jav
      rw [Nat.zero_mod, Nat.zero_div, if_pos (by omega), Nat.sub_zero]
  rw [e1, hV, jgvS_Sf o k o.1 1 (fun _ => 0) (Nat.le_refl _), ← St_eq ho h1 k (k * o.1) 0 0 (Nat.zero_add _) hpos]
  have e2 : Sf (Av o.1 k 0 0) (Pv o 0) o.1 1 (fun _ => 0) = Sf (fun _ => rg k 1) (Pv o 0) o.1 1 (fun _ => 0) := by
    refine Sf_A o.1 1 _ (fun j a b => ?_)
    unfold Av lo
    rw [if_neg (show ¬ jin 0 j by show ¬ 0 / 2 ^ (j - 1) % 2 = 1; rw [Nat.zero_div]; decide), Nat.zero_mod, Nat.zero_div, if_pos (by omega)]
    rfl
  rw [e2]
  refine Sf_P o.1 1 _ (fun h _ => ⟨fun q m m1 m2 => ?_, fun q i i1 i2 j j1 j2 _ _ => ?_⟩)
  · rw [jokG_iff]
    intro j j1 j2
    have hn : ∀ i, ¬ jin 0 i := fun i => by show ¬ 0 / 2 ^ (i - 1) % 2 = 1; rw [Nat.zero_div]; decide
    exact q m m1 (by omega) j j1 (by omega) (hn m) (hn j)
  · exact (jokG_iff o h i (h i) (i - 1)).mp (q i i1 (by omega)) j j1 (by omega)
theorem i64_32 (v : Nat) : (Int64.ofNat v).toInt32 = nI v := Int64.toInt32_ofNat'
theorem q_laid {τ : jTg} {h : List jC} {z : zS} (E : EncX τ h z) (hz : zWF z) (x : Int32) : jCt jy_X11_laid [.ref 2, .int x] h (xPost h (zlaid z x) z) := by
  obtain ⟨ρ, ω, κ, π, n, t, k, H⟩ := id E
  obtain ⟨lo, en, lf, ef, cv, -, -, -, hω, -⟩ := H.ord
  have e1 := H.1
  have e11 := E.B
  have hok := hz.2.2.1
  have h64 := zord64 hok
  have hp := hok.1
  have hm := jmany_le hp
  generalize hΦ : xPost h _ _ = Φ
  refine jrun2 (js_X11_laid _) rfl rfl rfl (fun G hG hW hB => ?_)
  refine hG [] 300 _ _ _ _ _ _ ?_
  conv => whnf
  refine jcall (c_wi x 10 (by decide) h) ?_
  rintro r' h' ⟨rfl, he⟩
  obtain rfl := he.symm
  clear he
  conv => whnf
  refine ⟨fun c => ?_, fun c => ?_⟩ <;> rw [jbi_0] at c
  case refine_2 =>
    rw [zlaid, if_neg (by omega)] at hΦ
    conv => whnf
    rw [← hΦ]
    exact xsame E _
  have c := Decidable.not_not.mp c
  rw [zlaid, if_pos (by omega)] at hΦ
  have hx := tn_eq c.1
  have hx10 : tn x < 10 := by unfold tn; omega
  generalize tn x = kk at *
  rw [← jlaid_eq hok hx10] at hΦ
  conv => whnf
  refine ⟨_, e1, ?_⟩
  conv => whnf
  refine ⟨⟨_, hω⟩, jcall (c_makesE H hz) ?_⟩
  rintro r' h1 ⟨b, rfl, H1, ⟨-, a, g, -, hb, ha, hg⟩, K1⟩
  have E1 : EncX τ h1 z := ⟨ρ, ω, κ, π, n, t, k, H1⟩
  have hcs := c_X8_countsWith (h := h1 ++ [oL (false, nI 0)]) (s := b) (a := a) (w := (zO z).1) (f := g) (jget_app hb) (jget_app ha) (jget_new _ _) hp (k := kk) (by omega)
  rw [jcn_val hx10 (jmany (zO z).1) (fun c hc => (hg c hc).trans (jmk_val _ _ _ hc))] at hcs
  rw [← hx] at hcs
  conv => whnf
  refine jcall (c_X3_init (jget_new _ _)) ?_
  rintro r h' ⟨rfl, rfl⟩
  conv => whnf
  rw [← oL0]
  refine ⟨⟨_, jget_app hb⟩, jcall hcs ?_⟩
  rintro r' h' ⟨rfl, rfl⟩
  conv => whnf
  rw [i64_32, ← hΦ]
  have hst : ∀ y : jC, (h1 ++ [oL (false, nI 0)]).set h1.length y = h1 ++ [y] := by
    intro y
    rw [List.set_append_right _ _ (Nat.le_refl _), Nat.sub_self]
    rfl
  rw [hst]
  exact xPost.of e11 (E1.app _) ((K1.mono t09_13).app _)
