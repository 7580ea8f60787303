/-! the law: its loop, and whole -/
theorem ly_all {Φ : jPost} {G : jKt} (hG : ∀ (C : List Nat) (n pc : Nat) lv st h a b, jw (jp_L_law Φ) G C n pc lv st h a b → G pc lv st h a b) (hB : ∀ {pc : Nat} {lv st h a b} (a' b' : Nat), a ≤ a' → b ≤ b' → G pc lv st h a' b' → G pc lv st h a b) {h : List jC} {z : zS} {L i a b : Nat} {xs : Nat → Int32} (H : lSt h z L xs) (hi : i + 6 ≤ L) (ha : a + 180 ≤ 600000) (hb : b + 3800 ≤ 7302250) (nx : ∀ h' z', lSt h' z' L xs → G 1547 (lLv i) [] h' (a + 180) (b + 3800)) : G 27 (lLv i) [] h a b := by
  have c_zero := ly_zero hG hB H hi ha hb nx
  have c_put := ly_put hG hB H hi ha hb nx
  have c_of := ly_of hG hB H hi ha hb nx
  have c_fundamental := ly_fundamental hG hB H hi ha hb nx
  have c_inF := ly_inF hG hB H hi ha hb nx
  have c_told := ly_told hG hB H hi ha hb nx
  have c_composition := ly_composition hG hB H hi ha hb nx
  have c_sum := ly_sum hG hB H hi ha hb nx
  have c_multiply := ly_multiply hG hB H hi ha hb nx
  have c_antipode := ly_antipode hG hB H hi ha hb nx
  have c_cut := ly_cut hG hB H hi ha hb nx
  have c_counts := ly_counts hG hB H hi ha hb nx
  have c_order := ly_order hG hB H hi ha hb nx
  have c_below := ly_below hG hB H hi ha hb nx
  have c_isBelow := ly_isBelow hG hB H hi ha hb nx
  have c_rowOf := ly_rowOf hG hB H hi ha hb nx
  have c_marks := ly_marks hG hB H hi ha hb nx
  have c_made := ly_made hG hB H hi ha hb nx
  have c_laid := ly_laid hG hB H hi ha hb nx
  have c_share := ly_share hG hB H hi ha hb nx
  have c_warm := ly_warm hG hB H hi ha hb nx
  have c_warmth := ly_warmth hG hB H hi ha hb nx
  have c_store := ly_store hG hB H hi ha hb nx
  have c_fetch := ly_fetch hG hB H hi ha hb nx
  have c_holds := ly_holds hG hB H hi ha hb nx
  have c_row := ly_row hG hB H hi ha hb nx
  have c_lay := ly_lay hG hB H hi ha hb nx
  have c_get := ly_get hG hB H hi ha hb nx
  have c_copy := ly_copy hG hB H hi ha hb nx
  have c_film := ly_film hG hB H hi ha hb nx
  have c_judge := ly_judge hG hB H hi ha hb nx
  have c_back := ly_back hG hB H hi ha hb nx
  have c_feed := ly_feed hG hB H hi ha hb nx
  have c_wipe := ly_wipe hG hB H hi ha hb nx
  have c_read := ly_read hG hB H hi ha hb nx
  have c_why := ly_why hG hB H hi ha hb nx
  have c_image := ly_image hG hB H hi ha hb nx
  have c_restore := ly_restore hG hB H hi ha hb nx
  have c_count := ly_count hG hB H hi ha hb nx
  have c_dflt : G 1547 (lLv i) [] h a b := hB (a + 180) (b + 3800) (Nat.le_add_right _ _) (Nat.le_add_right _ _) (nx h z H)
  refine hG [204, 237, 310, 344, 417, 451, 484, 527, 570, 613, 646, 700, 734, 757, 790, 823, 856, 889, 912, 935, 968, 1011, 1035, 1088, 1131, 1164, 1197, 1240, 1274, 1337, 1370, 1393, 1406, 1429, 1442, 1465, 1498, 1511, 1524, 1547] 300 _ _ _ _ _ _ ?_
  conv => whnf
  refine ⟨_, _, _, H.2.2, rfl, (show i < L by omega), ?_⟩
  conv => whnf
  refine And.intro (fun _ => c_zero) ?_
  refine And.intro (fun _ => c_put) ?_
  refine And.intro (fun _ => c_of) ?_
  refine And.intro (fun _ => c_fundamental) ?_
  refine And.intro (fun _ => c_inF) ?_
  refine And.intro (fun _ => c_told) ?_
  refine And.intro (fun _ => c_composition) ?_
  refine And.intro (fun _ => c_sum) ?_
  refine And.intro (fun _ => c_multiply) ?_
  refine And.intro (fun _ => c_antipode) ?_
  refine And.intro (fun _ => c_cut) ?_
  refine And.intro (fun _ => c_counts) ?_
  refine And.intro (fun _ => c_order) ?_
  refine And.intro (fun _ => c_below) ?_
  refine And.intro (fun _ => c_isBelow) ?_
  refine And.intro (fun _ => c_rowOf) ?_
  refine And.intro (fun _ => c_marks) ?_
  refine And.intro (fun _ => c_made) ?_
  refine And.intro (fun _ => c_laid) ?_
  refine And.intro (fun _ => c_share) ?_
  refine And.intro (fun _ => c_warm) ?_
  refine And.intro (fun _ => c_warmth) ?_
  refine And.intro (fun _ => c_store) ?_
  refine And.intro (fun _ => c_fetch) ?_
  refine And.intro (fun _ => c_holds) ?_
  refine And.intro (fun _ => c_row) ?_
  refine And.intro (fun _ => c_lay) ?_
  refine And.intro (fun _ => c_get) ?_
  refine And.intro (fun _ => c_copy) ?_
  refine And.intro (fun _ => c_film) ?_
  refine And.intro (fun _ => c_judge) ?_
  refine And.intro (fun _ => c_back) ?_
  refine And.intro (fun _ => c_feed) ?_
  refine And.intro (fun _ => c_wipe) ?_
  refine And.intro (fun _ => c_read) ?_
  refine And.intro (fun _ => c_why) ?_
  refine And.intro (fun _ => c_image) ?_
  refine And.intro (fun _ => c_restore) ?_
  refine And.intro (fun _ => c_count) ?_
  exact fun _ => c_dflt
theorem ly_end {Φ : jPost} {G : jKt} (hG : ∀ (C : List Nat) (n pc : Nat) lv st h a b, jw (jp_L_law Φ) G C n pc lv st h a b → G pc lv st h a b) (hB : ∀ {pc : Nat} {lv st h a b} (a' b' : Nat), a ≤ a' → b ≤ b' → G pc lv st h a' b' → G pc lv st h a b) (hΦ : ∀ h, Φ (some (.int (nI 1))) h) {h : List jC} {L i a b : Nat} {xs : Nat → Int32} (hsc : h[1]? = some (.inl (.byte, L, .inl xs))) (hi : ¬ i + 6 ≤ L) (hL : L ≤ 3072) (hi2 : i < 10000) (ha : a ≤ 600000) (hb : b ≤ 7302250) : G 18 (lLv i) [] h a b := by
  refine hB 600000 7302250 ha hb ?_
  refine hG [] 300 _ _ _ _ _ _ ?_
  conv => whnf
  refine ⟨_, _, _, hsc, ?_⟩
  conv => whnf
  refine ⟨fun _ => ?_, fun c => absurd ?_ c⟩
  · conv => whnf
    exact ⟨Or.inr rfl, hΦ h⟩
  · rw [jlt, pk_sub_toInt (by omega) (by omega), nI_toInt (by omega)]
    omega
theorem ly_loop {Φ : jPost} {G : jKt} (hG : ∀ (C : List Nat) (n pc : Nat) lv st h a b, jw (jp_L_law Φ) G C n pc lv st h a b → G pc lv st h a b) (hB : ∀ {pc : Nat} {lv st h a b} (a' b' : Nat), a ≤ a' → b ≤ b' → G pc lv st h a' b' → G pc lv st h a b) (hΦ : ∀ h, Φ (some (.int (nI 1))) h) {L : Nat} {xs : Nat → Int32} (hL : L ≤ 3072) : ∀ (k t : Nat) (h : List jC) (z : zS), t + k = 600 → lSt h z L xs → G 18 (lLv (6 * t)) [] h (100 + 180 * t) (5000 + 3800 * t) := by
  intro k
  induction k with
  | zero =>
    intro t h z ht H
    exact ly_end hG hB hΦ H.2.2 (by omega) hL (by omega) (by omega) (by omega)
  | succ k ih =>
    intro t h z ht H
    by_cases c : 6 * t + 6 ≤ L
    case neg => exact ly_end hG hB hΦ H.2.2 c hL (by omega) (by omega) (by omega)
    have nx : ∀ h' z', lSt h' z' L xs → G 1547 (lLv (6 * t)) [] h' (100 + 180 * t + 180) (5000 + 3800 * t + 3800) := by
      intro h' z' H'
      have i1 := ih (t + 1) h' z' (by omega) H'
      rw [show 100 + 180 * (t + 1) = 100 + 180 * t + 180 by omega, show 5000 + 3800 * (t + 1) = 5000 + 3800 * t + 3800 by omega, show 6 * (t + 1) = 6 * t + 6 by omega] at i1
      refine hG [18] 300 _ _ _ _ _ _ ?_
      conv => whnf
      rw [nI_add]
      exact i1
    have g27 := ly_all hG hB (a := 100 + 180 * t) (b := 5000 + 3800 * t) H c (by omega) (by omega) nx
    refine hG [27, 1553] 300 _ _ _ _ _ _ ?_
    conv => whnf
    refine ⟨_, _, _, H.2.2, ?_⟩
    conv => whnf
    refine ⟨fun w => ?_, fun _ => g27⟩
    rw [jlt, pk_sub_toInt (by omega) (by omega), nI_toInt (by omega)] at w
    omega
theorem ly_whole {Φ : jPost} {G : jKt} (hG : ∀ (C : List Nat) (n pc : Nat) lv st h a b, jw (jp_L_law Φ) G C n pc lv st h a b → G pc lv st h a b) (hB : ∀ {pc : Nat} {lv st h a b} (a' b' : Nat), a ≤ a' → b ≤ b' → G pc lv st h a' b' → G pc lv st h a b) (hend : ∀ h, Φ (some (.int (nI 1))) h) {L : Nat} {xs : Nat → Int32} (hL : L ≤ 3072) : G 0 [some (.ref 1), none, none, none] [] [jD, .inl (.byte, L, .inl xs)] 0 0 := by
  refine hG [7] 300 _ _ _ _ _ _ ?_
  conv => whnf
  show ∃ Ψ, jCt jy_X11_init [.ref 2] [jD, .inl (.byte, L, .inl xs), .inr (10, [.null, .null, .null, .null, .null, .null, .int (nI 0), .null, .null, .null])] Ψ ∧ ∀ r h', Ψ r h' → G 7 [some (.ref 1), none, none, none] (r.toList ++ [.ref 2]) h' 31 510
  refine jcall (c_X11_init rfl) ?_
  rintro r h' ⟨rfl, ef, rfl, hef⟩
  refine hG [15] 300 _ _ _ _ _ _ ?_
  conv => whnf
  show ∃ Ψ, jCt jy_X12_init [.ref 20] (jx0 (.inl (.byte, L, .inl xs)) ef ++ [.inr (11, [.int (nI 0), .null, .null, .int (nI 0), .null, .null, .null, .null, .null, .null, .int (nI 0), .null, .int (nI 0), .null, .null, .int (nI 0), .null, .null, .null, .null, .null, .null, .null, .null, .null, .null, .int (nI 0), .int (nI 0), .int (nI 0), .int (nI 0), .null, .null, .null, .null, .null, .null, .int (nI 0), .null, .null, .null, .null, .null])]) Ψ ∧ ∀ r h', Ψ r h' → G 15 [some (.ref 1), some (.ref 2), none, none] (r.toList ++ [.ref 20]) h' 72 4552
  refine jcall (c_X12_init rfl rfl) ?_
  rintro r h' ⟨rfl, rfl⟩
  have hb : lSt (jst0 (.inl (.byte, L, .inl xs)) ef) zS0 L xs := ⟨jB_init hef, zG_init, rfl⟩
  have l0 := hB (a := 72) (b := 4552) _ _ (by decide) (by decide) (ly_loop hG hB hend hL 600 0 _ zS0 rfl hb)
  refine hG [18] 300 _ _ _ _ _ _ ?_
  conv => whnf
  exact l0
theorem g_law {L : Nat} {xs : Nat → Int32} (hL : L ≤ 3072) : jG jy_L_law (fun r _ => r = some (.int (nI 1))) 0 [some (.ref 1), none, none, none] [] [jD, .inl (.byte, L, .inl xs)] 0 0 :=
  ly_whole (G := jG jy_L_law (fun r _ => r = some (.int (nI 1)))) (jw_sound (js_L_law _)) (fun _ _ ha hb hG => jG_wd ha hb hG) (fun _ => rfl) hL
