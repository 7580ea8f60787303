/-! the law, case by case: printed by wip/whole/genlaw.py -/
abbrev lLv (i : Nat) : List (Option Value) := [some (.ref 1), some (.ref 2), some (.ref 20), some (.int (nI i))]
def lSt (h : List jC) (z : zS) (L : Nat) (xs : Nat → Int32) : Prop := jB h z z ∧ zG z ∧ h[1]? = some (.inl (.byte, L, .inl xs))
theorem ly_zero {Φ : jPost} {G : jKt} (hG : ∀ (C : List Nat) (n pc : Nat) lv st h a b, jw (jp_L_law Φ) G C n pc lv st h a b → G pc lv st h a b) (hB : ∀ {pc : Nat} {lv st h a b} (a' b' : Nat), a ≤ a' → b ≤ b' → G pc lv st h a' b' → G pc lv st h a b) {h : List jC} {z : zS} {L i a b : Nat} {xs : Nat → Int32} (H : lSt h z L xs) (hi : i + 6 ≤ L) (ha : a + 180 ≤ 600000) (hb : b + 3800 ≤ 7302250) (nx : ∀ h' z', lSt h' z' L xs → G 1547 (lLv i) [] h' (a + 180) (b + 3800)) : G 204 (lLv i) [] h a b := by
  have hsc := H.2.2
  have hX := fun (x0 : Int32) (x1 : Int32) => jB_xint (p := zzero z x0 x1) H.1 (ty_zero z x0 x1) (fun E => q_zero E H.2.1.1 x0 x1)
  have p1 : jp_L_law Φ 215 = ji_vcall jy_X11_zero 2 10 600000 7302250 218 := rfl
  have p2 : jp_L_law Φ 229 = ji_vcall jy_X12_zero 2 11 600000 7302250 232 := rfl
  refine hG [215] 300 _ _ _ _ _ _ ?_
  conv => whnf
  refine ⟨_, _, _, hsc, nI_add _ _, (show i + 1 < L by omega), ?_⟩
  conv => whnf
  refine ⟨_, _, _, hsc, nI_add _ _, (show i + 2 < L by omega), ?_⟩
  conv => whnf
  refine hG [218] 1 _ _ _ _ _ _ ?_
  rw [jw1, p1]
  refine jvS (r := 2) (rest := []) (by show a + 4 ≤ 600000; omega) (by show b + 80 ≤ 7302250; omega) rfl rfl (jB_2 H.1) (jcall (hX _ _) ?_)
  rintro r h1 ⟨w, hw, rfl, B1, hs1⟩
  show G 218 _ _ _ _ _
  have hsc1 := hs1.trans hsc
  have hR := fun (x0 : Int32) (x1 : Int32) => jB_rint (p := zzero z x0 x1) B1 (ty_zero z x0 x1) (fun E => r_zero B1.len E H.2.1.1 x0 x1)
  refine hG [229] 300 _ _ _ _ _ _ ?_
  conv => whnf
  refine ⟨_, _, _, hsc1, nI_add _ _, (show i + 1 < L by omega), ?_⟩
  conv => whnf
  refine ⟨_, _, _, hsc1, nI_add _ _, (show i + 2 < L by omega), ?_⟩
  conv => whnf
  refine hG [232] 1 _ _ _ _ _ _ ?_
  rw [jw1, p2]
  refine jvS (r := 20) (rest := [.int w]) (by show a + 4 + 0 ≤ 600000; omega) (by show b + 80 + 0 ≤ 7302250; omega) rfl rfl (jB_20 B1) (jcall (hR _ _) ?_)
  rintro r h2 ⟨w2, hw2, rfl, B2, hs2⟩
  cases hw.symm.trans hw2
  show G 232 _ _ _ _ _
  have fin := hB (a := a + 4 + 0) (b := b + 80 + 0) (a + 180) (b + 3800) (by omega) (by omega) (nx h2 _ ⟨B2, k_zero H.2.1 _ _, hs2.trans hsc1⟩)
  refine hG [1547] 300 _ _ _ _ _ _ ?_
  conv => whnf
  refine ⟨fun _ => fin, fun c => absurd rfl c⟩
theorem ly_put {Φ : jPost} {G : jKt} (hG : ∀ (C : List Nat) (n pc : Nat) lv st h a b, jw (jp_L_law Φ) G C n pc lv st h a b → G pc lv st h a b) (hB : ∀ {pc : Nat} {lv st h a b} (a' b' : Nat), a ≤ a' → b ≤ b' → G pc lv st h a' b' → G pc lv st h a b) {h : List jC} {z : zS} {L i a b : Nat} {xs : Nat → Int32} (H : lSt h z L xs) (hi : i + 6 ≤ L) (ha : a + 180 ≤ 600000) (hb : b + 3800 ≤ 7302250) (nx : ∀ h' z', lSt h' z' L xs → G 1547 (lLv i) [] h' (a + 180) (b + 3800)) : G 237 (lLv i) [] h a b := by
  have hsc := H.2.2
  have hX := fun (x0 : Int32) (x1 : Int32) (x2 : Int64) => jB_xint (p := zput z x0 x1 x2) H.1 (ty_put z x0 x1 x2) (fun E => q_put E H.2.1.1 x0 x1 x2)
  have p1 : jp_L_law Φ 268 = ji_vcall jy_X11_put 3 10 600000 7302250 271 := rfl
  have p2 : jp_L_law Φ 302 = ji_vcall jy_X12_put 3 11 600000 7302250 305 := rfl
  refine hG [268] 300 _ _ _ _ _ _ ?_
  conv => whnf
  refine ⟨_, _, _, hsc, nI_add _ _, (show i + 1 < L by omega), ?_⟩
  conv => whnf
  refine ⟨_, _, _, hsc, nI_add _ _, (show i + 2 < L by omega), ?_⟩
  conv => whnf
  refine ⟨_, _, _, hsc, nI_add _ _, (show i + 3 < L by omega), ?_⟩
  conv => whnf
  refine ⟨_, _, _, hsc, nI_add _ _, (show i + 4 < L by omega), ?_⟩
  conv => whnf
  refine hG [271] 1 _ _ _ _ _ _ ?_
  rw [jw1, p1]
  refine jvS (r := 2) (rest := []) (by show a + 4 ≤ 600000; omega) (by show b + 80 ≤ 7302250; omega) rfl rfl (jB_2 H.1) (jcall (hX _ _ _) ?_)
  rintro r h1 ⟨w, hw, rfl, B1, hs1⟩
  show G 271 _ _ _ _ _
  have hsc1 := hs1.trans hsc
  have hR := fun (x0 : Int32) (x1 : Int32) (x2 : Int64) => jB_rint (p := zput z x0 x1 x2) B1 (ty_put z x0 x1 x2) (fun E => r_put B1.len E H.2.1.1 x0 x1 x2)
  refine hG [302] 300 _ _ _ _ _ _ ?_
  conv => whnf
  refine ⟨_, _, _, hsc1, nI_add _ _, (show i + 1 < L by omega), ?_⟩
  conv => whnf
  refine ⟨_, _, _, hsc1, nI_add _ _, (show i + 2 < L by omega), ?_⟩
  conv => whnf
  refine ⟨_, _, _, hsc1, nI_add _ _, (show i + 3 < L by omega), ?_⟩
  conv => whnf
  refine ⟨_, _, _, hsc1, nI_add _ _, (show i + 4 < L by omega), ?_⟩
  conv => whnf
  refine hG [305] 1 _ _ _ _ _ _ ?_
  rw [jw1, p2]
  refine jvS (r := 20) (rest := [.int w]) (by show a + 4 + 0 ≤ 600000; omega) (by show b + 80 + 0 ≤ 7302250; omega) rfl rfl (jB_20 B1) (jcall (hR _ _ _) ?_)
  rintro r h2 ⟨w2, hw2, rfl, B2, hs2⟩
  cases hw.symm.trans hw2
  show G 305 _ _ _ _ _
  have fin := hB (a := a + 4 + 0) (b := b + 80 + 0) (a + 180) (b + 3800) (by omega) (by omega) (nx h2 _ ⟨B2, k_put H.2.1 _ _ _, hs2.trans hsc1⟩)
  refine hG [1547] 300 _ _ _ _ _ _ ?_
  conv => whnf
  refine ⟨fun _ => fin, fun c => absurd rfl c⟩
theorem ly_of {Φ : jPost} {G : jKt} (hG : ∀ (C : List Nat) (n pc : Nat) lv st h a b, jw (jp_L_law Φ) G C n pc lv st h a b → G pc lv st h a b) (hB : ∀ {pc : Nat} {lv st h a b} (a' b' : Nat), a ≤ a' → b ≤ b' → G pc lv st h a' b' → G pc lv st h a b) {h : List jC} {z : zS} {L i a b : Nat} {xs : Nat → Int32} (H : lSt h z L xs) (hi : i + 6 ≤ L) (ha : a + 180 ≤ 600000) (hb : b + 3800 ≤ 7302250) (nx : ∀ h' z', lSt h' z' L xs → G 1547 (lLv i) [] h' (a + 180) (b + 3800)) : G 310 (lLv i) [] h a b := by
  have hsc := H.2.2
  have hX := fun (x0 : Int32) (x1 : Int32) => jB_xlong (p := (zof z x0 x1, z)) H.1 (ty_of z x0 x1) (fun E => q_of E H.2.1.1 x0 x1)
  have p1 : jp_L_law Φ 321 = ji_vcall jy_X11_of 2 10 600000 7302250 324 := rfl
  have p2 : jp_L_law Φ 335 = ji_vcall jy_X12_of 2 11 600000 7302250 338 := rfl
  refine hG [321] 300 _ _ _ _ _ _ ?_
  conv => whnf
  refine ⟨_, _, _, hsc, nI_add _ _, (show i + 1 < L by omega), ?_⟩
  conv => whnf
  refine ⟨_, _, _, hsc, nI_add _ _, (show i + 2 < L by omega), ?_⟩
  conv => whnf
  refine hG [324] 1 _ _ _ _ _ _ ?_
  rw [jw1, p1]
  refine jvS (r := 2) (rest := []) (by show a + 0 ≤ 600000; omega) (by show b + 0 ≤ 7302250; omega) rfl rfl (jB_2 H.1) (jcall (hX _ _) ?_)
  rintro r h1 ⟨w, hw, rfl, B1, hs1⟩
  show G 324 _ _ _ _ _
  have hsc1 := hs1.trans hsc
  have hR := fun (x0 : Int32) (x1 : Int32) => jB_rlong (p := (zof z x0 x1, z)) B1 (ty_of z x0 x1) (fun E => r_of B1.len E H.2.1.1 x0 x1)
  refine hG [335] 300 _ _ _ _ _ _ ?_
  conv => whnf
  refine ⟨_, _, _, hsc1, nI_add _ _, (show i + 1 < L by omega), ?_⟩
  conv => whnf
  refine ⟨_, _, _, hsc1, nI_add _ _, (show i + 2 < L by omega), ?_⟩
  conv => whnf
  refine hG [338] 1 _ _ _ _ _ _ ?_
  rw [jw1, p2]
  refine jvS (r := 20) (rest := [.long w]) (by show a + 0 + 0 ≤ 600000; omega) (by show b + 0 + 0 ≤ 7302250; omega) rfl rfl (jB_20 B1) (jcall (hR _ _) ?_)
  rintro r h2 ⟨w2, hw2, rfl, B2, hs2⟩
  cases hw.symm.trans hw2
  show G 338 _ _ _ _ _
  have fin := hB (a := a + 0 + 0) (b := b + 0 + 0) (a + 180) (b + 3800) (by omega) (by omega) (nx h2 _ ⟨B2, H.2.1, hs2.trans hsc1⟩)
  refine hG [1547] 300 _ _ _ _ _ _ ?_
  conv => whnf
  refine ⟨fun _ => fin, fun c => absurd ((jlg0 _ _).mpr rfl) c⟩
theorem ly_fundamental {Φ : jPost} {G : jKt} (hG : ∀ (C : List Nat) (n pc : Nat) lv st h a b, jw (jp_L_law Φ) G C n pc lv st h a b → G pc lv st h a b) (hB : ∀ {pc : Nat} {lv st h a b} (a' b' : Nat), a ≤ a' → b ≤ b' → G pc lv st h a' b' → G pc lv st h a b) {h : List jC} {z : zS} {L i a b : Nat} {xs : Nat → Int32} (H : lSt h z L xs) (hi : i + 6 ≤ L) (ha : a + 180 ≤ 600000) (hb : b + 3800 ≤ 7302250) (nx : ∀ h' z', lSt h' z' L xs → G 1547 (lLv i) [] h' (a + 180) (b + 3800)) : G 344 (lLv i) [] h a b := by
  have hsc := H.2.2
  have hX := fun (x0 : Int32) (x1 : Int32) (x2 : Int64) => jB_xint (p := zfund z x0 x1 x2) H.1 (ty_fund z x0 x1 x2) (fun E => q_fundamental E H.2.1.1 x0 x1 x2)
  have p1 : jp_L_law Φ 375 = ji_vcall jy_X11_fundamental 3 10 600000 7302250 378 := rfl
  have p2 : jp_L_law Φ 409 = ji_vcall jy_X12_fundamental 3 11 600000 7302250 412 := rfl
  refine hG [375] 300 _ _ _ _ _ _ ?_
  conv => whnf
  refine ⟨_, _, _, hsc, nI_add _ _, (show i + 1 < L by omega), ?_⟩
  conv => whnf
  refine ⟨_, _, _, hsc, nI_add _ _, (show i + 2 < L by omega), ?_⟩
  conv => whnf
  refine ⟨_, _, _, hsc, nI_add _ _, (show i + 3 < L by omega), ?_⟩
  conv => whnf
  refine ⟨_, _, _, hsc, nI_add _ _, (show i + 4 < L by omega), ?_⟩
  conv => whnf
  refine hG [378] 1 _ _ _ _ _ _ ?_
  rw [jw1, p1]
  refine jvS (r := 2) (rest := []) (by show a + 8 ≤ 600000; omega) (by show b + 90 ≤ 7302250; omega) rfl rfl (jB_2 H.1) (jcall (hX _ _ _) ?_)
  rintro r h1 ⟨w, hw, rfl, B1, hs1⟩
  show G 378 _ _ _ _ _
  have hsc1 := hs1.trans hsc
  have hR := fun (x0 : Int32) (x1 : Int32) (x2 : Int64) => jB_rint (p := zfund z x0 x1 x2) B1 (ty_fund z x0 x1 x2) (fun E => r_fundamental B1.len E H.2.1.1 x0 x1 x2)
  refine hG [409] 300 _ _ _ _ _ _ ?_
  conv => whnf
  refine ⟨_, _, _, hsc1, nI_add _ _, (show i + 1 < L by omega), ?_⟩
  conv => whnf
  refine ⟨_, _, _, hsc1, nI_add _ _, (show i + 2 < L by omega), ?_⟩
  conv => whnf
  refine ⟨_, _, _, hsc1, nI_add _ _, (show i + 3 < L by omega), ?_⟩
  conv => whnf
  refine ⟨_, _, _, hsc1, nI_add _ _, (show i + 4 < L by omega), ?_⟩
  conv => whnf
  refine hG [412] 1 _ _ _ _ _ _ ?_
  rw [jw1, p2]
  refine jvS (r := 20) (rest := [.int w]) (by show a + 8 + 0 ≤ 600000; omega) (by show b + 90 + 0 ≤ 7302250; omega) rfl rfl (jB_20 B1) (jcall (hR _ _ _) ?_)
  rintro r h2 ⟨w2, hw2, rfl, B2, hs2⟩
  cases hw.symm.trans hw2
  show G 412 _ _ _ _ _
  have fin := hB (a := a + 8 + 0) (b := b + 90 + 0) (a + 180) (b + 3800) (by omega) (by omega) (nx h2 _ ⟨B2, k_fund H.2.1 _ _ _, hs2.trans hsc1⟩)
  refine hG [1547] 300 _ _ _ _ _ _ ?_
  conv => whnf
  refine ⟨fun _ => fin, fun c => absurd rfl c⟩
theorem ly_inF {Φ : jPost} {G : jKt} (hG : ∀ (C : List Nat) (n pc : Nat) lv st h a b, jw (jp_L_law Φ) G C n pc lv st h a b → G pc lv st h a b) (hB : ∀ {pc : Nat} {lv st h a b} (a' b' : Nat), a ≤ a' → b ≤ b' → G pc lv st h a' b' → G pc lv st h a b) {h : List jC} {z : zS} {L i a b : Nat} {xs : Nat → Int32} (H : lSt h z L xs) (hi : i + 6 ≤ L) (ha : a + 180 ≤ 600000) (hb : b + 3800 ≤ 7302250) (nx : ∀ h' z', lSt h' z' L xs → G 1547 (lLv i) [] h' (a + 180) (b + 3800)) : G 417 (lLv i) [] h a b := by
  have hsc := H.2.2
  have hX := fun (x0 : Int32) (x1 : Int32) => jB_xlong (p := zinF z x0 x1) H.1 (ty_inF z x0 x1) (fun E => q_inF E H.2.1.1 x0 x1)
  have p1 : jp_L_law Φ 428 = ji_vcall jy_X11_inF 2 10 600000 7302250 431 := rfl
  have p2 : jp_L_law Φ 442 = ji_vcall jy_X12_inF 2 11 600000 7302250 445 := rfl
  refine hG [428] 300 _ _ _ _ _ _ ?_
  conv => whnf
  refine ⟨_, _, _, hsc, nI_add _ _, (show i + 1 < L by omega), ?_⟩
  conv => whnf
  refine ⟨_, _, _, hsc, nI_add _ _, (show i + 2 < L by omega), ?_⟩
  conv => whnf
  refine hG [431] 1 _ _ _ _ _ _ ?_
  rw [jw1, p1]
  refine jvS (r := 2) (rest := []) (by show a + 2 ≤ 600000; omega) (by show b + 5 ≤ 7302250; omega) rfl rfl (jB_2 H.1) (jcall (hX _ _) ?_)
  rintro r h1 ⟨w, hw, rfl, B1, hs1⟩
  show G 431 _ _ _ _ _
  have hsc1 := hs1.trans hsc
  have hR := fun (x0 : Int32) (x1 : Int32) => jB_rlong (p := zinF z x0 x1) B1 (ty_inF z x0 x1) (fun E => r_inF B1.len E H.2.1.1 x0 x1)
  refine hG [442] 300 _ _ _ _ _ _ ?_
  conv => whnf
  refine ⟨_, _, _, hsc1, nI_add _ _, (show i + 1 < L by omega), ?_⟩
  conv => whnf
  refine ⟨_, _, _, hsc1, nI_add _ _, (show i + 2 < L by omega), ?_⟩
  conv => whnf
  refine hG [445] 1 _ _ _ _ _ _ ?_
  rw [jw1, p2]
  refine jvS (r := 20) (rest := [.long w]) (by show a + 2 + 0 ≤ 600000; omega) (by show b + 5 + 0 ≤ 7302250; omega) rfl rfl (jB_20 B1) (jcall (hR _ _) ?_)
  rintro r h2 ⟨w2, hw2, rfl, B2, hs2⟩
  cases hw.symm.trans hw2
  show G 445 _ _ _ _ _
  have fin := hB (a := a + 2 + 0) (b := b + 5 + 0) (a + 180) (b + 3800) (by omega) (by omega) (nx h2 _ ⟨B2, k_inF H.2.1 _ _, hs2.trans hsc1⟩)
  refine hG [1547] 300 _ _ _ _ _ _ ?_
  conv => whnf
  refine ⟨fun _ => fin, fun c => absurd ((jlg0 _ _).mpr rfl) c⟩
theorem ly_told {Φ : jPost} {G : jKt} (hG : ∀ (C : List Nat) (n pc : Nat) lv st h a b, jw (jp_L_law Φ) G C n pc lv st h a b → G pc lv st h a b) (hB : ∀ {pc : Nat} {lv st h a b} (a' b' : Nat), a ≤ a' → b ≤ b' → G pc lv st h a' b' → G pc lv st h a b) {h : List jC} {z : zS} {L i a b : Nat} {xs : Nat → Int32} (H : lSt h z L xs) (hi : i + 6 ≤ L) (ha : a + 180 ≤ 600000) (hb : b + 3800 ≤ 7302250) (nx : ∀ h' z', lSt h' z' L xs → G 1547 (lLv i) [] h' (a + 180) (b + 3800)) : G 451 (lLv i) [] h a b := by
  have hsc := H.2.2
  have hX := fun (x0 : Int32) (x1 : Int32) => jB_xint (p := (ztold z x0 x1, z)) H.1 (ty_told z x0 x1) (fun E => q_told E H.2.1.1 x0 x1)
  have p1 : jp_L_law Φ 462 = ji_vcall jy_X11_told 2 10 600000 7302250 465 := rfl
  have p2 : jp_L_law Φ 476 = ji_vcall jy_X12_told 2 11 600000 7302250 479 := rfl
  refine hG [462] 300 _ _ _ _ _ _ ?_
  conv => whnf
  refine ⟨_, _, _, hsc, nI_add _ _, (show i + 1 < L by omega), ?_⟩
  conv => whnf
  refine ⟨_, _, _, hsc, nI_add _ _, (show i + 2 < L by omega), ?_⟩
  conv => whnf
  refine hG [465] 1 _ _ _ _ _ _ ?_
  rw [jw1, p1]
  refine jvS (r := 2) (rest := []) (by show a + 0 ≤ 600000; omega) (by show b + 0 ≤ 7302250; omega) rfl rfl (jB_2 H.1) (jcall (hX _ _) ?_)
  rintro r h1 ⟨w, hw, rfl, B1, hs1⟩
  show G 465 _ _ _ _ _
  have hsc1 := hs1.trans hsc
  have hR := fun (x0 : Int32) (x1 : Int32) => jB_rint (p := (ztold z x0 x1, z)) B1 (ty_told z x0 x1) (fun E => r_told B1.len E H.2.1.1 x0 x1)
  refine hG [476] 300 _ _ _ _ _ _ ?_
  conv => whnf
  refine ⟨_, _, _, hsc1, nI_add _ _, (show i + 1 < L by omega), ?_⟩
  conv => whnf
  refine ⟨_, _, _, hsc1, nI_add _ _, (show i + 2 < L by omega), ?_⟩
  conv => whnf
  refine hG [479] 1 _ _ _ _ _ _ ?_
  rw [jw1, p2]
  refine jvS (r := 20) (rest := [.int w]) (by show a + 0 + 0 ≤ 600000; omega) (by show b + 0 + 0 ≤ 7302250; omega) rfl rfl (jB_20 B1) (jcall (hR _ _) ?_)
  rintro r h2 ⟨w2, hw2, rfl, B2, hs2⟩
  cases hw.symm.trans hw2
  show G 479 _ _ _ _ _
  have fin := hB (a := a + 0 + 0) (b := b + 0 + 0) (a + 180) (b + 3800) (by omega) (by omega) (nx h2 _ ⟨B2, H.2.1, hs2.trans hsc1⟩)
  refine hG [1547] 300 _ _ _ _ _ _ ?_
  conv => whnf
  refine ⟨fun _ => fin, fun c => absurd rfl c⟩
theorem ly_composition {Φ : jPost} {G : jKt} (hG : ∀ (C : List Nat) (n pc : Nat) lv st h a b, jw (jp_L_law Φ) G C n pc lv st h a b → G pc lv st h a b) (hB : ∀ {pc : Nat} {lv st h a b} (a' b' : Nat), a ≤ a' → b ≤ b' → G pc lv st h a' b' → G pc lv st h a b) {h : List jC} {z : zS} {L i a b : Nat} {xs : Nat → Int32} (H : lSt h z L xs) (hi : i + 6 ≤ L) (ha : a + 180 ≤ 600000) (hb : b + 3800 ≤ 7302250) (nx : ∀ h' z', lSt h' z' L xs → G 1547 (lLv i) [] h' (a + 180) (b + 3800)) : G 484 (lLv i) [] h a b := by
  have hsc := H.2.2
  have hX := fun (x0 : Int32) (x1 : Int32) (x2 : Int32) => jB_xint (p := (zcomp x0 x1 x2, z)) H.1 (ty_comp z x0 x1 x2) (fun E => q_composition E H.2.1.1 x0 x1 x2)
  have p1 : jp_L_law Φ 500 = ji_vcall jy_X11_composition 3 10 600000 7302250 503 := rfl
  have p2 : jp_L_law Φ 519 = ji_vcall jy_X12_composition 3 11 600000 7302250 522 := rfl
  refine hG [500] 300 _ _ _ _ _ _ ?_
  conv => whnf
  refine ⟨_, _, _, hsc, nI_add _ _, (show i + 1 < L by omega), ?_⟩
  conv => whnf
  refine ⟨_, _, _, hsc, nI_add _ _, (show i + 2 < L by omega), ?_⟩
  conv => whnf
  refine ⟨_, _, _, hsc, nI_add _ _, (show i + 3 < L by omega), ?_⟩
  conv => whnf
  refine hG [503] 1 _ _ _ _ _ _ ?_
  rw [jw1, p1]
  refine jvS (r := 2) (rest := []) (by show a + 0 ≤ 600000; omega) (by show b + 0 ≤ 7302250; omega) rfl rfl (jB_2 H.1) (jcall (hX _ _ _) ?_)
  rintro r h1 ⟨w, hw, rfl, B1, hs1⟩
  show G 503 _ _ _ _ _
  have hsc1 := hs1.trans hsc
  have hR := fun (x0 : Int32) (x1 : Int32) (x2 : Int32) => jB_rint (p := (zcomp x0 x1 x2, z)) B1 (ty_comp z x0 x1 x2) (fun E => r_composition B1.len E x0 x1 x2)
  refine hG [519] 300 _ _ _ _ _ _ ?_
  conv => whnf
  refine ⟨_, _, _, hsc1, nI_add _ _, (show i + 1 < L by omega), ?_⟩
  conv => whnf
  refine ⟨_, _, _, hsc1, nI_add _ _, (show i + 2 < L by omega), ?_⟩
  conv => whnf
  refine ⟨_, _, _, hsc1, nI_add _ _, (show i + 3 < L by omega), ?_⟩
  conv => whnf
  refine hG [522] 1 _ _ _ _ _ _ ?_
  rw [jw1, p2]
  refine jvS (r := 20) (rest := [.int w]) (by show a + 0 + 0 ≤ 600000; omega) (by show b + 0 + 0 ≤ 7302250; omega) rfl rfl (jB_20 B1) (jcall (hR _ _ _) ?_)
  rintro r h2 ⟨w2, hw2, rfl, B2, hs2⟩
  cases hw.symm.trans hw2
  show G 522 _ _ _ _ _
  have fin := hB (a := a + 0 + 0) (b := b + 0 + 0) (a + 180) (b + 3800) (by omega) (by omega) (nx h2 _ ⟨B2, H.2.1, hs2.trans hsc1⟩)
  refine hG [1547] 300 _ _ _ _ _ _ ?_
  conv => whnf
  refine ⟨fun _ => fin, fun c => absurd rfl c⟩
theorem ly_sum {Φ : jPost} {G : jKt} (hG : ∀ (C : List Nat) (n pc : Nat) lv st h a b, jw (jp_L_law Φ) G C n pc lv st h a b → G pc lv st h a b) (hB : ∀ {pc : Nat} {lv st h a b} (a' b' : Nat), a ≤ a' → b ≤ b' → G pc lv st h a' b' → G pc lv st h a b) {h : List jC} {z : zS} {L i a b : Nat} {xs : Nat → Int32} (H : lSt h z L xs) (hi : i + 6 ≤ L) (ha : a + 180 ≤ 600000) (hb : b + 3800 ≤ 7302250) (nx : ∀ h' z', lSt h' z' L xs → G 1547 (lLv i) [] h' (a + 180) (b + 3800)) : G 527 (lLv i) [] h a b := by
  have hsc := H.2.2
  have hX := fun (x0 : Int32) (x1 : Int32) (x2 : Int32) => jB_xint (p := zsum z x0 x1 x2) H.1 (ty_sum z x0 x1 x2) (fun E => q_sum E H.2.1.1 x0 x1 x2)
  have p1 : jp_L_law Φ 543 = ji_vcall jy_X11_sum 3 10 600000 7302250 546 := rfl
  have p2 : jp_L_law Φ 562 = ji_vcall jy_X12_sum 3 11 600000 7302250 565 := rfl
  refine hG [543] 300 _ _ _ _ _ _ ?_
  conv => whnf
  refine ⟨_, _, _, hsc, nI_add _ _, (show i + 1 < L by omega), ?_⟩
  conv => whnf
  refine ⟨_, _, _, hsc, nI_add _ _, (show i + 2 < L by omega), ?_⟩
  conv => whnf
  refine ⟨_, _, _, hsc, nI_add _ _, (show i + 3 < L by omega), ?_⟩
  conv => whnf
  refine hG [546] 1 _ _ _ _ _ _ ?_
  rw [jw1, p1]
  refine jvS (r := 2) (rest := []) (by show a + 8 ≤ 600000; omega) (by show b + 90 ≤ 7302250; omega) rfl rfl (jB_2 H.1) (jcall (hX _ _ _) ?_)
  rintro r h1 ⟨w, hw, rfl, B1, hs1⟩
  show G 546 _ _ _ _ _
  have hsc1 := hs1.trans hsc
  have hR := fun (x0 : Int32) (x1 : Int32) (x2 : Int32) => jB_rint (p := zsum z x0 x1 x2) B1 (ty_sum z x0 x1 x2) (fun E => r_sum B1.len E H.2.1.1 x0 x1 x2)
  refine hG [562] 300 _ _ _ _ _ _ ?_
  conv => whnf
  refine ⟨_, _, _, hsc1, nI_add _ _, (show i + 1 < L by omega), ?_⟩
  conv => whnf
  refine ⟨_, _, _, hsc1, nI_add _ _, (show i + 2 < L by omega), ?_⟩
  conv => whnf
  refine ⟨_, _, _, hsc1, nI_add _ _, (show i + 3 < L by omega), ?_⟩
  conv => whnf
  refine hG [565] 1 _ _ _ _ _ _ ?_
  rw [jw1, p2]
  refine jvS (r := 20) (rest := [.int w]) (by show a + 8 + 0 ≤ 600000; omega) (by show b + 90 + 0 ≤ 7302250; omega) rfl rfl (jB_20 B1) (jcall (hR _ _ _) ?_)
  rintro r h2 ⟨w2, hw2, rfl, B2, hs2⟩
  cases hw.symm.trans hw2
  show G 565 _ _ _ _ _
  have fin := hB (a := a + 8 + 0) (b := b + 90 + 0) (a + 180) (b + 3800) (by omega) (by omega) (nx h2 _ ⟨B2, k_sum H.2.1 _ _ _, hs2.trans hsc1⟩)
  refine hG [1547] 300 _ _ _ _ _ _ ?_
  conv => whnf
  refine ⟨fun _ => fin, fun c => absurd rfl c⟩
theorem ly_multiply {Φ : jPost} {G : jKt} (hG : ∀ (C : List Nat) (n pc : Nat) lv st h a b, jw (jp_L_law Φ) G C n pc lv st h a b → G pc lv st h a b) (hB : ∀ {pc : Nat} {lv st h a b} (a' b' : Nat), a ≤ a' → b ≤ b' → G pc lv st h a' b' → G pc lv st h a b) {h : List jC} {z : zS} {L i a b : Nat} {xs : Nat → Int32} (H : lSt h z L xs) (hi : i + 6 ≤ L) (ha : a + 180 ≤ 600000) (hb : b + 3800 ≤ 7302250) (nx : ∀ h' z', lSt h' z' L xs → G 1547 (lLv i) [] h' (a + 180) (b + 3800)) : G 570 (lLv i) [] h a b := by
  have hsc := H.2.2
  have hX := fun (x0 : Int32) (x1 : Int32) (x2 : Int32) => jB_xint (p := zmul z x0 x1 x2) H.1 (ty_mul z x0 x1 x2) (fun E => q_multiply E H.2.1.1 x0 x1 x2)
  have p1 : jp_L_law Φ 586 = ji_vcall jy_X11_multiply 3 10 600000 7302250 589 := rfl
  have p2 : jp_L_law Φ 605 = ji_vcall jy_X12_multiply 3 11 600000 7302250 608 := rfl
  refine hG [586] 300 _ _ _ _ _ _ ?_
  conv => whnf
  refine ⟨_, _, _, hsc, nI_add _ _, (show i + 1 < L by omega), ?_⟩
  conv => whnf
  refine ⟨_, _, _, hsc, nI_add _ _, (show i + 2 < L by omega), ?_⟩
  conv => whnf
  refine ⟨_, _, _, hsc, nI_add _ _, (show i + 3 < L by omega), ?_⟩
  conv => whnf
  refine hG [589] 1 _ _ _ _ _ _ ?_
  rw [jw1, p1]
  refine jvS (r := 2) (rest := []) (by show a + 9 ≤ 600000; omega) (by show b + 120 ≤ 7302250; omega) rfl rfl (jB_2 H.1) (jcall (hX _ _ _) ?_)
  rintro r h1 ⟨w, hw, rfl, B1, hs1⟩
  show G 589 _ _ _ _ _
  have hsc1 := hs1.trans hsc
  have hR := fun (x0 : Int32) (x1 : Int32) (x2 : Int32) => jB_rint (p := zmul z x0 x1 x2) B1 (ty_mul z x0 x1 x2) (fun E => r_multiply B1.len E H.2.1.1 x0 x1 x2)
  refine hG [605] 300 _ _ _ _ _ _ ?_
  conv => whnf
  refine ⟨_, _, _, hsc1, nI_add _ _, (show i + 1 < L by omega), ?_⟩
  conv => whnf
  refine ⟨_, _, _, hsc1, nI_add _ _, (show i + 2 < L by omega), ?_⟩
  conv => whnf
  refine ⟨_, _, _, hsc1, nI_add _ _, (show i + 3 < L by omega), ?_⟩
  conv => whnf
  refine hG [608] 1 _ _ _ _ _ _ ?_
  rw [jw1, p2]
  refine jvS (r := 20) (rest := [.int w]) (by show a + 9 + 0 ≤ 600000; omega) (by show b + 120 + 0 ≤ 7302250; omega) rfl rfl (jB_20 B1) (jcall (hR _ _ _) ?_)
  rintro r h2 ⟨w2, hw2, rfl, B2, hs2⟩
  cases hw.symm.trans hw2
  show G 608 _ _ _ _ _
  have fin := hB (a := a + 9 + 0) (b := b + 120 + 0) (a + 180) (b + 3800) (by omega) (by omega) (nx h2 _ ⟨B2, k_mul H.2.1 _ _ _, hs2.trans hsc1⟩)
  refine hG [1547] 300 _ _ _ _ _ _ ?_
  conv => whnf
  refine ⟨fun _ => fin, fun c => absurd rfl c⟩
theorem ly_antipode {Φ : jPost} {G : jKt} (hG : ∀ (C : List Nat) (n pc : Nat) lv st h a b, jw (jp_L_law Φ) G C n pc lv st h a b → G pc lv st h a b) (hB : ∀ {pc : Nat} {lv st h a b} (a' b' : Nat), a ≤ a' → b ≤ b' → G pc lv st h a' b' → G pc lv st h a b) {h : List jC} {z : zS} {L i a b : Nat} {xs : Nat → Int32} (H : lSt h z L xs) (hi : i + 6 ≤ L) (ha : a + 180 ≤ 600000) (hb : b + 3800 ≤ 7302250) (nx : ∀ h' z', lSt h' z' L xs → G 1547 (lLv i) [] h' (a + 180) (b + 3800)) : G 613 (lLv i) [] h a b := by
  have hsc := H.2.2
  have hX := fun (x0 : Int32) (x1 : Int32) => jB_xint (p := zanti z x0 x1) H.1 (ty_anti z x0 x1) (fun E => q_antipode E H.2.1.1 x0 x1)
  have p1 : jp_L_law Φ 624 = ji_vcall jy_X11_antipode 2 10 600000 7302250 627 := rfl
  have p2 : jp_L_law Φ 638 = ji_vcall jy_X12_antipode 2 11 600000 7302250 641 := rfl
  refine hG [624] 300 _ _ _ _ _ _ ?_
  conv => whnf
  refine ⟨_, _, _, hsc, nI_add _ _, (show i + 1 < L by omega), ?_⟩
  conv => whnf
  refine ⟨_, _, _, hsc, nI_add _ _, (show i + 2 < L by omega), ?_⟩
  conv => whnf
  refine hG [627] 1 _ _ _ _ _ _ ?_
  rw [jw1, p1]
  refine jvS (r := 2) (rest := []) (by show a + 8 ≤ 600000; omega) (by show b + 90 ≤ 7302250; omega) rfl rfl (jB_2 H.1) (jcall (hX _ _) ?_)
  rintro r h1 ⟨w, hw, rfl, B1, hs1⟩
  show G 627 _ _ _ _ _
  have hsc1 := hs1.trans hsc
  have hR := fun (x0 : Int32) (x1 : Int32) => jB_rint (p := zanti z x0 x1) B1 (ty_anti z x0 x1) (fun E => r_antipode B1.len E H.2.1.1 x0 x1)
  refine hG [638] 300 _ _ _ _ _ _ ?_
  conv => whnf
  refine ⟨_, _, _, hsc1, nI_add _ _, (show i + 1 < L by omega), ?_⟩
  conv => whnf
  refine ⟨_, _, _, hsc1, nI_add _ _, (show i + 2 < L by omega), ?_⟩
  conv => whnf
  refine hG [641] 1 _ _ _ _ _ _ ?_
  rw [jw1, p2]
  refine jvS (r := 20) (rest := [.int w]) (by show a + 8 + 0 ≤ 600000; omega) (by show b + 90 + 0 ≤ 7302250; omega) rfl rfl (jB_20 B1) (jcall (hR _ _) ?_)
  rintro r h2 ⟨w2, hw2, rfl, B2, hs2⟩
  cases hw.symm.trans hw2
  show G 641 _ _ _ _ _
  have fin := hB (a := a + 8 + 0) (b := b + 90 + 0) (a + 180) (b + 3800) (by omega) (by omega) (nx h2 _ ⟨B2, k_anti H.2.1 _ _, hs2.trans hsc1⟩)
  refine hG [1547] 300 _ _ _ _ _ _ ?_
  conv => whnf
  refine ⟨fun _ => fin, fun c => absurd rfl c⟩
theorem ly_cut {Φ : jPost} {G : jKt} (hG : ∀ (C : List Nat) (n pc : Nat) lv st h a b, jw (jp_L_law Φ) G C n pc lv st h a b → G pc lv st h a b) (hB : ∀ {pc : Nat} {lv st h a b} (a' b' : Nat), a ≤ a' → b ≤ b' → G pc lv st h a' b' → G pc lv st h a b) {h : List jC} {z : zS} {L i a b : Nat} {xs : Nat → Int32} (H : lSt h z L xs) (hi : i + 6 ≤ L) (ha : a + 180 ≤ 600000) (hb : b + 3800 ≤ 7302250) (nx : ∀ h' z', lSt h' z' L xs → G 1547 (lLv i) [] h' (a + 180) (b + 3800)) : G 646 (lLv i) [] h a b := by
  have hsc := H.2.2
  have hX := fun (x0 : Int32) (x1 : Int32) (x2 : Int32) (x3 : Int32) => jB_xlong (p := (zcut z x0 x1 x2 x3, z)) H.1 (ty_cut z x0 x1 x2 x3) (fun E => q_cut E H.2.1.1 x0 x1 x2 x3)
  have p1 : jp_L_law Φ 667 = ji_vcall jy_X11_cut 4 10 600000 7302250 670 := rfl
  have p2 : jp_L_law Φ 691 = ji_vcall jy_X12_cut 4 11 600000 7302250 694 := rfl
  refine hG [667] 300 _ _ _ _ _ _ ?_
  conv => whnf
  refine ⟨_, _, _, hsc, nI_add _ _, (show i + 1 < L by omega), ?_⟩
  conv => whnf
  refine ⟨_, _, _, hsc, nI_add _ _, (show i + 2 < L by omega), ?_⟩
  conv => whnf
  refine ⟨_, _, _, hsc, nI_add _ _, (show i + 3 < L by omega), ?_⟩
  conv => whnf
  refine ⟨_, _, _, hsc, nI_add _ _, (show i + 4 < L by omega), ?_⟩
  conv => whnf
  refine hG [670] 1 _ _ _ _ _ _ ?_
  rw [jw1, p1]
  refine jvS (r := 2) (rest := []) (by show a + 0 ≤ 600000; omega) (by show b + 0 ≤ 7302250; omega) rfl rfl (jB_2 H.1) (jcall (hX _ _ _ _) ?_)
  rintro r h1 ⟨w, hw, rfl, B1, hs1⟩
  show G 670 _ _ _ _ _
  have hsc1 := hs1.trans hsc
  have hR := fun (x0 : Int32) (x1 : Int32) (x2 : Int32) (x3 : Int32) => jB_rlong (p := (zcut z x0 x1 x2 x3, z)) B1 (ty_cut z x0 x1 x2 x3) (fun E => r_cut B1.len E H.2.1.1 x0 x1 x2 x3)
  refine hG [691] 300 _ _ _ _ _ _ ?_
  conv => whnf
  refine ⟨_, _, _, hsc1, nI_add _ _, (show i + 1 < L by omega), ?_⟩
  conv => whnf
  refine ⟨_, _, _, hsc1, nI_add _ _, (show i + 2 < L by omega), ?_⟩
  conv => whnf
  refine ⟨_, _, _, hsc1, nI_add _ _, (show i + 3 < L by omega), ?_⟩
  conv => whnf
  refine ⟨_, _, _, hsc1, nI_add _ _, (show i + 4 < L by omega), ?_⟩
  conv => whnf
  refine hG [694] 1 _ _ _ _ _ _ ?_
  rw [jw1, p2]
  refine jvS (r := 20) (rest := [.long w]) (by show a + 0 + 0 ≤ 600000; omega) (by show b + 0 + 0 ≤ 7302250; omega) rfl rfl (jB_20 B1) (jcall (hR _ _ _ _) ?_)
  rintro r h2 ⟨w2, hw2, rfl, B2, hs2⟩
  cases hw.symm.trans hw2
  show G 694 _ _ _ _ _
  have fin := hB (a := a + 0 + 0) (b := b + 0 + 0) (a + 180) (b + 3800) (by omega) (by omega) (nx h2 _ ⟨B2, H.2.1, hs2.trans hsc1⟩)
  refine hG [1547] 300 _ _ _ _ _ _ ?_
  conv => whnf
  refine ⟨fun _ => fin, fun c => absurd ((jlg0 _ _).mpr rfl) c⟩
theorem ly_counts {Φ : jPost} {G : jKt} (hG : ∀ (C : List Nat) (n pc : Nat) lv st h a b, jw (jp_L_law Φ) G C n pc lv st h a b → G pc lv st h a b) (hB : ∀ {pc : Nat} {lv st h a b} (a' b' : Nat), a ≤ a' → b ≤ b' → G pc lv st h a' b' → G pc lv st h a b) {h : List jC} {z : zS} {L i a b : Nat} {xs : Nat → Int32} (H : lSt h z L xs) (hi : i + 6 ≤ L) (ha : a + 180 ≤ 600000) (hb : b + 3800 ≤ 7302250) (nx : ∀ h' z', lSt h' z' L xs → G 1547 (lLv i) [] h' (a + 180) (b + 3800)) : G 700 (lLv i) [] h a b := by
  have hsc := H.2.2
  have hX := fun (x0 : Int32) (x1 : Int32) => jB_xlong (p := zcounts z x0 x1) H.1 (ty_counts z x0 x1) (fun E => q_counts E H.2.1.1 x0 x1)
  have p1 : jp_L_law Φ 711 = ji_vcall jy_X11_counts 2 10 600000 7302250 714 := rfl
  have p2 : jp_L_law Φ 725 = ji_vcall jy_X12_counts 2 11 600000 7302250 728 := rfl
  refine hG [711] 300 _ _ _ _ _ _ ?_
  conv => whnf
  refine ⟨_, _, _, hsc, nI_add _ _, (show i + 1 < L by omega), ?_⟩
  conv => whnf
  refine ⟨_, _, _, hsc, nI_add _ _, (show i + 2 < L by omega), ?_⟩
  conv => whnf
  refine hG [714] 1 _ _ _ _ _ _ ?_
  rw [jw1, p1]
  refine jvS (r := 2) (rest := []) (by show a + 2 ≤ 600000; omega) (by show b + 5 ≤ 7302250; omega) rfl rfl (jB_2 H.1) (jcall (hX _ _) ?_)
  rintro r h1 ⟨w, hw, rfl, B1, hs1⟩
  show G 714 _ _ _ _ _
  have hsc1 := hs1.trans hsc
  have hR := fun (x0 : Int32) (x1 : Int32) => jB_rlong (p := zcounts z x0 x1) B1 (ty_counts z x0 x1) (fun E => r_counts B1.len E H.2.1.1 x0 x1)
  refine hG [725] 300 _ _ _ _ _ _ ?_
  conv => whnf
  refine ⟨_, _, _, hsc1, nI_add _ _, (show i + 1 < L by omega), ?_⟩
  conv => whnf
  refine ⟨_, _, _, hsc1, nI_add _ _, (show i + 2 < L by omega), ?_⟩
  conv => whnf
  refine hG [728] 1 _ _ _ _ _ _ ?_
  rw [jw1, p2]
  refine jvS (r := 20) (rest := [.long w]) (by show a + 2 + 0 ≤ 600000; omega) (by show b + 5 + 0 ≤ 7302250; omega) rfl rfl (jB_20 B1) (jcall (hR _ _) ?_)
  rintro r h2 ⟨w2, hw2, rfl, B2, hs2⟩
  cases hw.symm.trans hw2
  show G 728 _ _ _ _ _
  have fin := hB (a := a + 2 + 0) (b := b + 5 + 0) (a + 180) (b + 3800) (by omega) (by omega) (nx h2 _ ⟨B2, k_counts H.2.1 _ _, hs2.trans hsc1⟩)
  refine hG [1547] 300 _ _ _ _ _ _ ?_
  conv => whnf
  refine ⟨fun _ => fin, fun c => absurd ((jlg0 _ _).mpr rfl) c⟩
theorem ly_order {Φ : jPost} {G : jKt} (hG : ∀ (C : List Nat) (n pc : Nat) lv st h a b, jw (jp_L_law Φ) G C n pc lv st h a b → G pc lv st h a b) (hB : ∀ {pc : Nat} {lv st h a b} (a' b' : Nat), a ≤ a' → b ≤ b' → G pc lv st h a' b' → G pc lv st h a b) {h : List jC} {z : zS} {L i a b : Nat} {xs : Nat → Int32} (H : lSt h z L xs) (hi : i + 6 ≤ L) (ha : a + 180 ≤ 600000) (hb : b + 3800 ≤ 7302250) (nx : ∀ h' z', lSt h' z' L xs → G 1547 (lLv i) [] h' (a + 180) (b + 3800)) : G 734 (lLv i) [] h a b := by
  have hsc := H.2.2
  have hX := fun (x0 : Int32) => jB_xint (p := zorder z x0) H.1 (ty_order z x0) (fun E => q_order E x0)
  have p1 : jp_L_law Φ 740 = ji_vcall jy_X11_order 1 10 600000 7302250 743 := rfl
  have p2 : jp_L_law Φ 749 = ji_vcall jy_X12_order 1 11 600000 7302250 752 := rfl
  refine hG [740] 300 _ _ _ _ _ _ ?_
  conv => whnf
  refine ⟨_, _, _, hsc, nI_add _ _, (show i + 1 < L by omega), ?_⟩
  conv => whnf
  refine hG [743] 1 _ _ _ _ _ _ ?_
  rw [jw1, p1]
  refine jvS (r := 2) (rest := []) (by show a + 3 ≤ 600000; omega) (by show b + 75 ≤ 7302250; omega) rfl rfl (jB_2 H.1) (jcall (hX _) ?_)
  rintro r h1 ⟨w, hw, rfl, B1, hs1⟩
  show G 743 _ _ _ _ _
  have hsc1 := hs1.trans hsc
  have hR := fun (x0 : Int32) => jB_rint (p := zorder z x0) B1 (ty_order z x0) (fun E => r_order B1.len E x0)
  refine hG [749] 300 _ _ _ _ _ _ ?_
  conv => whnf
  refine ⟨_, _, _, hsc1, nI_add _ _, (show i + 1 < L by omega), ?_⟩
  conv => whnf
  refine hG [752] 1 _ _ _ _ _ _ ?_
  rw [jw1, p2]
  refine jvS (r := 20) (rest := [.int w]) (by show a + 3 + 0 ≤ 600000; omega) (by show b + 75 + 0 ≤ 7302250; omega) rfl rfl (jB_20 B1) (jcall (hR _) ?_)
  rintro r h2 ⟨w2, hw2, rfl, B2, hs2⟩
  cases hw.symm.trans hw2
  show G 752 _ _ _ _ _
  have fin := hB (a := a + 3 + 0) (b := b + 75 + 0) (a + 180) (b + 3800) (by omega) (by omega) (nx h2 _ ⟨B2, k_order H.2.1 _, hs2.trans hsc1⟩)
  refine hG [1547] 300 _ _ _ _ _ _ ?_
  conv => whnf
  refine ⟨fun _ => fin, fun c => absurd rfl c⟩
theorem ly_below {Φ : jPost} {G : jKt} (hG : ∀ (C : List Nat) (n pc : Nat) lv st h a b, jw (jp_L_law Φ) G C n pc lv st h a b → G pc lv st h a b) (hB : ∀ {pc : Nat} {lv st h a b} (a' b' : Nat), a ≤ a' → b ≤ b' → G pc lv st h a' b' → G pc lv st h a b) {h : List jC} {z : zS} {L i a b : Nat} {xs : Nat → Int32} (H : lSt h z L xs) (hi : i + 6 ≤ L) (ha : a + 180 ≤ 600000) (hb : b + 3800 ≤ 7302250) (nx : ∀ h' z', lSt h' z' L xs → G 1547 (lLv i) [] h' (a + 180) (b + 3800)) : G 757 (lLv i) [] h a b := by
  have hsc := H.2.2
  have hX := fun (x0 : Int32) (x1 : Int32) => jB_xint (p := zbelow z x0 x1) H.1 (ty_below z x0 x1) (fun E => q_below E H.2.1.1 x0 x1)
  have p1 : jp_L_law Φ 768 = ji_vcall jy_X11_below 2 10 600000 7302250 771 := rfl
  have p2 : jp_L_law Φ 782 = ji_vcall jy_X12_below 2 11 600000 7302250 785 := rfl
  refine hG [768] 300 _ _ _ _ _ _ ?_
  conv => whnf
  refine ⟨_, _, _, hsc, nI_add _ _, (show i + 1 < L by omega), ?_⟩
  conv => whnf
  refine ⟨_, _, _, hsc, nI_add _ _, (show i + 2 < L by omega), ?_⟩
  conv => whnf
  refine hG [771] 1 _ _ _ _ _ _ ?_
  rw [jw1, p1]
  refine jvS (r := 2) (rest := []) (by show a + 3 ≤ 600000; omega) (by show b + 75 ≤ 7302250; omega) rfl rfl (jB_2 H.1) (jcall (hX _ _) ?_)
  rintro r h1 ⟨w, hw, rfl, B1, hs1⟩
  show G 771 _ _ _ _ _
  have hsc1 := hs1.trans hsc
  have hR := fun (x0 : Int32) (x1 : Int32) => jB_rint (p := zbelow z x0 x1) B1 (ty_below z x0 x1) (fun E => r_below B1.len E H.2.1.1 x0 x1)
  refine hG [782] 300 _ _ _ _ _ _ ?_
  conv => whnf
  refine ⟨_, _, _, hsc1, nI_add _ _, (show i + 1 < L by omega), ?_⟩
  conv => whnf
  refine ⟨_, _, _, hsc1, nI_add _ _, (show i + 2 < L by omega), ?_⟩
  conv => whnf
  refine hG [785] 1 _ _ _ _ _ _ ?_
  rw [jw1, p2]
  refine jvS (r := 20) (rest := [.int w]) (by show a + 3 + 0 ≤ 600000; omega) (by show b + 75 + 0 ≤ 7302250; omega) rfl rfl (jB_20 B1) (jcall (hR _ _) ?_)
  rintro r h2 ⟨w2, hw2, rfl, B2, hs2⟩
  cases hw.symm.trans hw2
  show G 785 _ _ _ _ _
  have fin := hB (a := a + 3 + 0) (b := b + 75 + 0) (a + 180) (b + 3800) (by omega) (by omega) (nx h2 _ ⟨B2, k_below H.2.1 _ _, hs2.trans hsc1⟩)
  refine hG [1547] 300 _ _ _ _ _ _ ?_
  conv => whnf
  refine ⟨fun _ => fin, fun c => absurd rfl c⟩
theorem ly_isBelow {Φ : jPost} {G : jKt} (hG : ∀ (C : List Nat) (n pc : Nat) lv st h a b, jw (jp_L_law Φ) G C n pc lv st h a b → G pc lv st h a b) (hB : ∀ {pc : Nat} {lv st h a b} (a' b' : Nat), a ≤ a' → b ≤ b' → G pc lv st h a' b' → G pc lv st h a b) {h : List jC} {z : zS} {L i a b : Nat} {xs : Nat → Int32} (H : lSt h z L xs) (hi : i + 6 ≤ L) (ha : a + 180 ≤ 600000) (hb : b + 3800 ≤ 7302250) (nx : ∀ h' z', lSt h' z' L xs → G 1547 (lLv i) [] h' (a + 180) (b + 3800)) : G 790 (lLv i) [] h a b := by
  have hsc := H.2.2
  have hX := fun (x0 : Int32) (x1 : Int32) => jB_xint (p := (zisb z x0 x1, z)) H.1 (ty_isb z x0 x1) (fun E => q_isBelow E H.2.1.1 x0 x1)
  have p1 : jp_L_law Φ 801 = ji_vcall jy_X11_isBelow 2 10 600000 7302250 804 := rfl
  have p2 : jp_L_law Φ 815 = ji_vcall jy_X12_isBelow 2 11 600000 7302250 818 := rfl
  refine hG [801] 300 _ _ _ _ _ _ ?_
  conv => whnf
  refine ⟨_, _, _, hsc, nI_add _ _, (show i + 1 < L by omega), ?_⟩
  conv => whnf
  refine ⟨_, _, _, hsc, nI_add _ _, (show i + 2 < L by omega), ?_⟩
  conv => whnf
  refine hG [804] 1 _ _ _ _ _ _ ?_
  rw [jw1, p1]
  refine jvS (r := 2) (rest := []) (by show a + 0 ≤ 600000; omega) (by show b + 0 ≤ 7302250; omega) rfl rfl (jB_2 H.1) (jcall (hX _ _) ?_)
  rintro r h1 ⟨w, hw, rfl, B1, hs1⟩
  show G 804 _ _ _ _ _
  have hsc1 := hs1.trans hsc
  have hR := fun (x0 : Int32) (x1 : Int32) => jB_rint (p := (zisb z x0 x1, z)) B1 (ty_isb z x0 x1) (fun E => r_isBelow B1.len E H.2.1.1 x0 x1)
  refine hG [815] 300 _ _ _ _ _ _ ?_
  conv => whnf
  refine ⟨_, _, _, hsc1, nI_add _ _, (show i + 1 < L by omega), ?_⟩
  conv => whnf
  refine ⟨_, _, _, hsc1, nI_add _ _, (show i + 2 < L by omega), ?_⟩
  conv => whnf
  refine hG [818] 1 _ _ _ _ _ _ ?_
  rw [jw1, p2]
  refine jvS (r := 20) (rest := [.int w]) (by show a + 0 + 0 ≤ 600000; omega) (by show b + 0 + 0 ≤ 7302250; omega) rfl rfl (jB_20 B1) (jcall (hR _ _) ?_)
  rintro r h2 ⟨w2, hw2, rfl, B2, hs2⟩
  cases hw.symm.trans hw2
  show G 818 _ _ _ _ _
  have fin := hB (a := a + 0 + 0) (b := b + 0 + 0) (a + 180) (b + 3800) (by omega) (by omega) (nx h2 _ ⟨B2, H.2.1, hs2.trans hsc1⟩)
  refine hG [1547] 300 _ _ _ _ _ _ ?_
  conv => whnf
  refine ⟨fun _ => fin, fun c => absurd rfl c⟩
theorem ly_rowOf {Φ : jPost} {G : jKt} (hG : ∀ (C : List Nat) (n pc : Nat) lv st h a b, jw (jp_L_law Φ) G C n pc lv st h a b → G pc lv st h a b) (hB : ∀ {pc : Nat} {lv st h a b} (a' b' : Nat), a ≤ a' → b ≤ b' → G pc lv st h a' b' → G pc lv st h a b) {h : List jC} {z : zS} {L i a b : Nat} {xs : Nat → Int32} (H : lSt h z L xs) (hi : i + 6 ≤ L) (ha : a + 180 ≤ 600000) (hb : b + 3800 ≤ 7302250) (nx : ∀ h' z', lSt h' z' L xs → G 1547 (lLv i) [] h' (a + 180) (b + 3800)) : G 823 (lLv i) [] h a b := by
  have hsc := H.2.2
  have hX := fun (x0 : Int32) (x1 : Int32) => jB_xint (p := (zrowOf z x0 x1, z)) H.1 (ty_rowOf z x0 x1) (fun E => q_rowOf E H.2.1.1 x0 x1)
  have p1 : jp_L_law Φ 834 = ji_vcall jy_X11_rowOf 2 10 600000 7302250 837 := rfl
  have p2 : jp_L_law Φ 848 = ji_vcall jy_X12_rowOf 2 11 600000 7302250 851 := rfl
  refine hG [834] 300 _ _ _ _ _ _ ?_
  conv => whnf
  refine ⟨_, _, _, hsc, nI_add _ _, (show i + 1 < L by omega), ?_⟩
  conv => whnf
  refine ⟨_, _, _, hsc, nI_add _ _, (show i + 2 < L by omega), ?_⟩
  conv => whnf
  refine hG [837] 1 _ _ _ _ _ _ ?_
  rw [jw1, p1]
  refine jvS (r := 2) (rest := []) (by show a + 1 ≤ 600000; omega) (by show b + 6 ≤ 7302250; omega) rfl rfl (jB_2 H.1) (jcall (hX _ _) ?_)
  rintro r h1 ⟨w, hw, rfl, B1, hs1⟩
  show G 837 _ _ _ _ _
  have hsc1 := hs1.trans hsc
  have hR := fun (x0 : Int32) (x1 : Int32) => jB_rint (p := (zrowOf z x0 x1, z)) B1 (ty_rowOf z x0 x1) (fun E => r_rowOf B1.len E H.2.1.1 x0 x1)
  refine hG [848] 300 _ _ _ _ _ _ ?_
  conv => whnf
  refine ⟨_, _, _, hsc1, nI_add _ _, (show i + 1 < L by omega), ?_⟩
  conv => whnf
  refine ⟨_, _, _, hsc1, nI_add _ _, (show i + 2 < L by omega), ?_⟩
  conv => whnf
  refine hG [851] 1 _ _ _ _ _ _ ?_
  rw [jw1, p2]
  refine jvS (r := 20) (rest := [.int w]) (by show a + 1 + 0 ≤ 600000; omega) (by show b + 6 + 0 ≤ 7302250; omega) rfl rfl (jB_20 B1) (jcall (hR _ _) ?_)
  rintro r h2 ⟨w2, hw2, rfl, B2, hs2⟩
  cases hw.symm.trans hw2
  show G 851 _ _ _ _ _
  have fin := hB (a := a + 1 + 0) (b := b + 6 + 0) (a + 180) (b + 3800) (by omega) (by omega) (nx h2 _ ⟨B2, H.2.1, hs2.trans hsc1⟩)
  refine hG [1547] 300 _ _ _ _ _ _ ?_
  conv => whnf
  refine ⟨fun _ => fin, fun c => absurd rfl c⟩
theorem ly_marks {Φ : jPost} {G : jKt} (hG : ∀ (C : List Nat) (n pc : Nat) lv st h a b, jw (jp_L_law Φ) G C n pc lv st h a b → G pc lv st h a b) (hB : ∀ {pc : Nat} {lv st h a b} (a' b' : Nat), a ≤ a' → b ≤ b' → G pc lv st h a' b' → G pc lv st h a b) {h : List jC} {z : zS} {L i a b : Nat} {xs : Nat → Int32} (H : lSt h z L xs) (hi : i + 6 ≤ L) (ha : a + 180 ≤ 600000) (hb : b + 3800 ≤ 7302250) (nx : ∀ h' z', lSt h' z' L xs → G 1547 (lLv i) [] h' (a + 180) (b + 3800)) : G 856 (lLv i) [] h a b := by
  have hsc := H.2.2
  have hX := fun (x0 : Int32) (x1 : Int32) => jB_xint (p := (zmarks z x0 x1, z)) H.1 (ty_marks z x0 x1) (fun E => q_marks E H.2.1.1 x0 x1)
  have p1 : jp_L_law Φ 867 = ji_vcall jy_X11_marks 2 10 600000 7302250 870 := rfl
  have p2 : jp_L_law Φ 881 = ji_vcall jy_X12_marks 2 11 600000 7302250 884 := rfl
  refine hG [867] 300 _ _ _ _ _ _ ?_
  conv => whnf
  refine ⟨_, _, _, hsc, nI_add _ _, (show i + 1 < L by omega), ?_⟩
  conv => whnf
  refine ⟨_, _, _, hsc, nI_add _ _, (show i + 2 < L by omega), ?_⟩
  conv => whnf
  refine hG [870] 1 _ _ _ _ _ _ ?_
  rw [jw1, p1]
  refine jvS (r := 2) (rest := []) (by show a + 1 ≤ 600000; omega) (by show b + 6 ≤ 7302250; omega) rfl rfl (jB_2 H.1) (jcall (hX _ _) ?_)
  rintro r h1 ⟨w, hw, rfl, B1, hs1⟩
  show G 870 _ _ _ _ _
  have hsc1 := hs1.trans hsc
  have hR := fun (x0 : Int32) (x1 : Int32) => jB_rint (p := (zmarks z x0 x1, z)) B1 (ty_marks z x0 x1) (fun E => r_marks B1.len E H.2.1.1 x0 x1)
  refine hG [881] 300 _ _ _ _ _ _ ?_
  conv => whnf
  refine ⟨_, _, _, hsc1, nI_add _ _, (show i + 1 < L by omega), ?_⟩
  conv => whnf
  refine ⟨_, _, _, hsc1, nI_add _ _, (show i + 2 < L by omega), ?_⟩
  conv => whnf
  refine hG [884] 1 _ _ _ _ _ _ ?_
  rw [jw1, p2]
  refine jvS (r := 20) (rest := [.int w]) (by show a + 1 + 0 ≤ 600000; omega) (by show b + 6 + 0 ≤ 7302250; omega) rfl rfl (jB_20 B1) (jcall (hR _ _) ?_)
  rintro r h2 ⟨w2, hw2, rfl, B2, hs2⟩
  cases hw.symm.trans hw2
  show G 884 _ _ _ _ _
  have fin := hB (a := a + 1 + 0) (b := b + 6 + 0) (a + 180) (b + 3800) (by omega) (by omega) (nx h2 _ ⟨B2, H.2.1, hs2.trans hsc1⟩)
  refine hG [1547] 300 _ _ _ _ _ _ ?_
  conv => whnf
  refine ⟨fun _ => fin, fun c => absurd rfl c⟩
theorem ly_made {Φ : jPost} {G : jKt} (hG : ∀ (C : List Nat) (n pc : Nat) lv st h a b, jw (jp_L_law Φ) G C n pc lv st h a b → G pc lv st h a b) (hB : ∀ {pc : Nat} {lv st h a b} (a' b' : Nat), a ≤ a' → b ≤ b' → G pc lv st h a' b' → G pc lv st h a b) {h : List jC} {z : zS} {L i a b : Nat} {xs : Nat → Int32} (H : lSt h z L xs) (hi : i + 6 ≤ L) (ha : a + 180 ≤ 600000) (hb : b + 3800 ≤ 7302250) (nx : ∀ h' z', lSt h' z' L xs → G 1547 (lLv i) [] h' (a + 180) (b + 3800)) : G 889 (lLv i) [] h a b := by
  have hsc := H.2.2
  have hX := fun (x0 : Int32) => jB_xint (p := zmake z x0) H.1 (ty_make z x0) (fun E => q_made E H.2.1.1 x0)
  have p1 : jp_L_law Φ 895 = ji_vcall jy_X11_made 1 10 600000 7302250 898 := rfl
  have p2 : jp_L_law Φ 904 = ji_vcall jy_X12_made 1 11 600000 7302250 907 := rfl
  refine hG [895] 300 _ _ _ _ _ _ ?_
  conv => whnf
  refine ⟨_, _, _, hsc, nI_add _ _, (show i + 1 < L by omega), ?_⟩
  conv => whnf
  refine hG [898] 1 _ _ _ _ _ _ ?_
  rw [jw1, p1]
  refine jvS (r := 2) (rest := []) (by show a + 8 ≤ 600000; omega) (by show b + 130 ≤ 7302250; omega) rfl rfl (jB_2 H.1) (jcall (hX _) ?_)
  rintro r h1 ⟨w, hw, rfl, B1, hs1⟩
  show G 898 _ _ _ _ _
  have hsc1 := hs1.trans hsc
  have hR := fun (x0 : Int32) => jB_rint (p := zmake z x0) B1 (ty_make z x0) (fun E => r_made B1.len E H.2.1.1 x0)
  refine hG [904] 300 _ _ _ _ _ _ ?_
  conv => whnf
  refine ⟨_, _, _, hsc1, nI_add _ _, (show i + 1 < L by omega), ?_⟩
  conv => whnf
  refine hG [907] 1 _ _ _ _ _ _ ?_
  rw [jw1, p2]
  refine jvS (r := 20) (rest := [.int w]) (by show a + 8 + 0 ≤ 600000; omega) (by show b + 130 + 0 ≤ 7302250; omega) rfl rfl (jB_20 B1) (jcall (hR _) ?_)
  rintro r h2 ⟨w2, hw2, rfl, B2, hs2⟩
  cases hw.symm.trans hw2
  show G 907 _ _ _ _ _
  have fin := hB (a := a + 8 + 0) (b := b + 130 + 0) (a + 180) (b + 3800) (by omega) (by omega) (nx h2 _ ⟨B2, k_make H.2.1 _, hs2.trans hsc1⟩)
  refine hG [1547] 300 _ _ _ _ _ _ ?_
  conv => whnf
  refine ⟨fun _ => fin, fun c => absurd rfl c⟩
theorem ly_laid {Φ : jPost} {G : jKt} (hG : ∀ (C : List Nat) (n pc : Nat) lv st h a b, jw (jp_L_law Φ) G C n pc lv st h a b → G pc lv st h a b) (hB : ∀ {pc : Nat} {lv st h a b} (a' b' : Nat), a ≤ a' → b ≤ b' → G pc lv st h a' b' → G pc lv st h a b) {h : List jC} {z : zS} {L i a b : Nat} {xs : Nat → Int32} (H : lSt h z L xs) (hi : i + 6 ≤ L) (ha : a + 180 ≤ 600000) (hb : b + 3800 ≤ 7302250) (nx : ∀ h' z', lSt h' z' L xs → G 1547 (lLv i) [] h' (a + 180) (b + 3800)) : G 912 (lLv i) [] h a b := by
  have hsc := H.2.2
  have hX := fun (x0 : Int32) => jB_xint (p := (zlaid z x0, z)) H.1 (ty_laid z x0) (fun E => q_laid E H.2.1.1 x0)
  have p1 : jp_L_law Φ 918 = ji_vcall jy_X11_laid 1 10 600000 7302250 921 := rfl
  have p2 : jp_L_law Φ 927 = ji_vcall jy_X12_laid 1 11 600000 7302250 930 := rfl
  refine hG [918] 300 _ _ _ _ _ _ ?_
  conv => whnf
  refine ⟨_, _, _, hsc, nI_add _ _, (show i + 1 < L by omega), ?_⟩
  conv => whnf
  refine hG [921] 1 _ _ _ _ _ _ ?_
  rw [jw1, p1]
  refine jvS (r := 2) (rest := []) (by show a + 7 ≤ 600000; omega) (by show b + 90 ≤ 7302250; omega) rfl rfl (jB_2 H.1) (jcall (hX _) ?_)
  rintro r h1 ⟨w, hw, rfl, B1, hs1⟩
  show G 921 _ _ _ _ _
  have hsc1 := hs1.trans hsc
  have hR := fun (x0 : Int32) => jB_rint (p := (zlaid z x0, z)) B1 (ty_laid z x0) (fun E => r_laid B1.len E H.2.1.1 x0)
  refine hG [927] 300 _ _ _ _ _ _ ?_
  conv => whnf
  refine ⟨_, _, _, hsc1, nI_add _ _, (show i + 1 < L by omega), ?_⟩
  conv => whnf
  refine hG [930] 1 _ _ _ _ _ _ ?_
  rw [jw1, p2]
  refine jvS (r := 20) (rest := [.int w]) (by show a + 7 + 0 ≤ 600000; omega) (by show b + 90 + 0 ≤ 7302250; omega) rfl rfl (jB_20 B1) (jcall (hR _) ?_)
  rintro r h2 ⟨w2, hw2, rfl, B2, hs2⟩
  cases hw.symm.trans hw2
  show G 930 _ _ _ _ _
  have fin := hB (a := a + 7 + 0) (b := b + 90 + 0) (a + 180) (b + 3800) (by omega) (by omega) (nx h2 _ ⟨B2, H.2.1, hs2.trans hsc1⟩)
  refine hG [1547] 300 _ _ _ _ _ _ ?_
  conv => whnf
  refine ⟨fun _ => fin, fun c => absurd rfl c⟩
theorem ly_share {Φ : jPost} {G : jKt} (hG : ∀ (C : List Nat) (n pc : Nat) lv st h a b, jw (jp_L_law Φ) G C n pc lv st h a b → G pc lv st h a b) (hB : ∀ {pc : Nat} {lv st h a b} (a' b' : Nat), a ≤ a' → b ≤ b' → G pc lv st h a' b' → G pc lv st h a b) {h : List jC} {z : zS} {L i a b : Nat} {xs : Nat → Int32} (H : lSt h z L xs) (hi : i + 6 ≤ L) (ha : a + 180 ≤ 600000) (hb : b + 3800 ≤ 7302250) (nx : ∀ h' z', lSt h' z' L xs → G 1547 (lLv i) [] h' (a + 180) (b + 3800)) : G 935 (lLv i) [] h a b := by
  have hsc := H.2.2
  have hX := fun (x0 : Int32) (x1 : Int32) => jB_xint (p := (zshare z x0 x1, z)) H.1 (ty_share z x0 x1) (fun E => q_share E H.2.1.1 x0 x1)
  have p1 : jp_L_law Φ 946 = ji_vcall jy_X11_share 2 10 600000 7302250 949 := rfl
  have p2 : jp_L_law Φ 960 = ji_vcall jy_X12_share 2 11 600000 7302250 963 := rfl
  refine hG [946] 300 _ _ _ _ _ _ ?_
  conv => whnf
  refine ⟨_, _, _, hsc, nI_add _ _, (show i + 1 < L by omega), ?_⟩
  conv => whnf
  refine ⟨_, _, _, hsc, nI_add _ _, (show i + 2 < L by omega), ?_⟩
  conv => whnf
  refine hG [949] 1 _ _ _ _ _ _ ?_
  rw [jw1, p1]
  refine jvS (r := 2) (rest := []) (by show a + 0 ≤ 600000; omega) (by show b + 0 ≤ 7302250; omega) rfl rfl (jB_2 H.1) (jcall (hX _ _) ?_)
  rintro r h1 ⟨w, hw, rfl, B1, hs1⟩
  show G 949 _ _ _ _ _
  have hsc1 := hs1.trans hsc
  have hR := fun (x0 : Int32) (x1 : Int32) => jB_rint (p := (zshare z x0 x1, z)) B1 (ty_share z x0 x1) (fun E => r_share B1.len E H.2.1.1 x0 x1)
  refine hG [960] 300 _ _ _ _ _ _ ?_
  conv => whnf
  refine ⟨_, _, _, hsc1, nI_add _ _, (show i + 1 < L by omega), ?_⟩
  conv => whnf
  refine ⟨_, _, _, hsc1, nI_add _ _, (show i + 2 < L by omega), ?_⟩
  conv => whnf
  refine hG [963] 1 _ _ _ _ _ _ ?_
  rw [jw1, p2]
  refine jvS (r := 20) (rest := [.int w]) (by show a + 0 + 0 ≤ 600000; omega) (by show b + 0 + 0 ≤ 7302250; omega) rfl rfl (jB_20 B1) (jcall (hR _ _) ?_)
  rintro r h2 ⟨w2, hw2, rfl, B2, hs2⟩
  cases hw.symm.trans hw2
  show G 963 _ _ _ _ _
  have fin := hB (a := a + 0 + 0) (b := b + 0 + 0) (a + 180) (b + 3800) (by omega) (by omega) (nx h2 _ ⟨B2, H.2.1, hs2.trans hsc1⟩)
  refine hG [1547] 300 _ _ _ _ _ _ ?_
  conv => whnf
  refine ⟨fun _ => fin, fun c => absurd rfl c⟩
theorem ly_warm {Φ : jPost} {G : jKt} (hG : ∀ (C : List Nat) (n pc : Nat) lv st h a b, jw (jp_L_law Φ) G C n pc lv st h a b → G pc lv st h a b) (hB : ∀ {pc : Nat} {lv st h a b} (a' b' : Nat), a ≤ a' → b ≤ b' → G pc lv st h a' b' → G pc lv st h a b) {h : List jC} {z : zS} {L i a b : Nat} {xs : Nat → Int32} (H : lSt h z L xs) (hi : i + 6 ≤ L) (ha : a + 180 ≤ 600000) (hb : b + 3800 ≤ 7302250) (nx : ∀ h' z', lSt h' z' L xs → G 1547 (lLv i) [] h' (a + 180) (b + 3800)) : G 968 (lLv i) [] h a b := by
  have hsc := H.2.2
  have hX := fun (x0 : Int32) (x1 : Int32) (x2 : Int32) => jB_xint (p := zwarm z x0 x1 x2) H.1 (ty_warm z x0 x1 x2) (fun E => q_warm E H.2.1.1 H.2.1.2 x0 x1 x2)
  have p1 : jp_L_law Φ 984 = ji_vcall jy_X11_warm 3 10 600000 7302250 987 := rfl
  have p2 : jp_L_law Φ 1003 = ji_vcall jy_X12_warm 3 11 600000 7302250 1006 := rfl
  refine hG [984] 300 _ _ _ _ _ _ ?_
  conv => whnf
  refine ⟨_, _, _, hsc, nI_add _ _, (show i + 1 < L by omega), ?_⟩
  conv => whnf
  refine ⟨_, _, _, hsc, nI_add _ _, (show i + 2 < L by omega), ?_⟩
  conv => whnf
  refine ⟨_, _, _, hsc, nI_add _ _, (show i + 3 < L by omega), ?_⟩
  conv => whnf
  refine hG [987] 1 _ _ _ _ _ _ ?_
  rw [jw1, p1]
  refine jvS (r := 2) (rest := []) (by show a + 0 ≤ 600000; omega) (by show b + 0 ≤ 7302250; omega) rfl rfl (jB_2 H.1) (jcall (hX _ _ _) ?_)
  rintro r h1 ⟨w, hw, rfl, B1, hs1⟩
  show G 987 _ _ _ _ _
  have hsc1 := hs1.trans hsc
  have hR := fun (x0 : Int32) (x1 : Int32) (x2 : Int32) => jB_rint (p := zwarm z x0 x1 x2) B1 (ty_warm z x0 x1 x2) (fun E => r_warm B1.len E H.2.1.1 H.2.1.2 x0 x1 x2)
  refine hG [1003] 300 _ _ _ _ _ _ ?_
  conv => whnf
  refine ⟨_, _, _, hsc1, nI_add _ _, (show i + 1 < L by omega), ?_⟩
  conv => whnf
  refine ⟨_, _, _, hsc1, nI_add _ _, (show i + 2 < L by omega), ?_⟩
  conv => whnf
  refine ⟨_, _, _, hsc1, nI_add _ _, (show i + 3 < L by omega), ?_⟩
  conv => whnf
  refine hG [1006] 1 _ _ _ _ _ _ ?_
  rw [jw1, p2]
  refine jvS (r := 20) (rest := [.int w]) (by show a + 0 + 0 ≤ 600000; omega) (by show b + 0 + 0 ≤ 7302250; omega) rfl rfl (jB_20 B1) (jcall (hR _ _ _) ?_)
  rintro r h2 ⟨w2, hw2, rfl, B2, hs2⟩
  cases hw.symm.trans hw2
  show G 1006 _ _ _ _ _
  have fin := hB (a := a + 0 + 0) (b := b + 0 + 0) (a + 180) (b + 3800) (by omega) (by omega) (nx h2 _ ⟨B2, k_warm H.2.1 _ _ _, hs2.trans hsc1⟩)
  refine hG [1547] 300 _ _ _ _ _ _ ?_
  conv => whnf
  refine ⟨fun _ => fin, fun c => absurd rfl c⟩
theorem ly_warmth {Φ : jPost} {G : jKt} (hG : ∀ (C : List Nat) (n pc : Nat) lv st h a b, jw (jp_L_law Φ) G C n pc lv st h a b → G pc lv st h a b) (hB : ∀ {pc : Nat} {lv st h a b} (a' b' : Nat), a ≤ a' → b ≤ b' → G pc lv st h a' b' → G pc lv st h a b) {h : List jC} {z : zS} {L i a b : Nat} {xs : Nat → Int32} (H : lSt h z L xs) (hi : i + 6 ≤ L) (ha : a + 180 ≤ 600000) (hb : b + 3800 ≤ 7302250) (nx : ∀ h' z', lSt h' z' L xs → G 1547 (lLv i) [] h' (a + 180) (b + 3800)) : G 1011 (lLv i) [] h a b := by
  have hsc := H.2.2
  have hX := fun (x0 : Int32) => jB_xlong (p := (zwarmth z x0, z)) H.1 (ty_warmth z x0) (fun E => q_warmth E H.2.1.2 x0)
  have p1 : jp_L_law Φ 1017 = ji_vcall jy_X11_warmth 1 10 600000 7302250 1020 := rfl
  have p2 : jp_L_law Φ 1026 = ji_vcall jy_X12_warmth 1 11 600000 7302250 1029 := rfl
  refine hG [1017] 300 _ _ _ _ _ _ ?_
  conv => whnf
  refine ⟨_, _, _, hsc, nI_add _ _, (show i + 1 < L by omega), ?_⟩
  conv => whnf
  refine hG [1020] 1 _ _ _ _ _ _ ?_
  rw [jw1, p1]
  refine jvS (r := 2) (rest := []) (by show a + 0 ≤ 600000; omega) (by show b + 0 ≤ 7302250; omega) rfl rfl (jB_2 H.1) (jcall (hX _) ?_)
  rintro r h1 ⟨w, hw, rfl, B1, hs1⟩
  show G 1020 _ _ _ _ _
  have hsc1 := hs1.trans hsc
  have hR := fun (x0 : Int32) => jB_rlong (p := (zwarmth z x0, z)) B1 (ty_warmth z x0) (fun E => r_warmth B1.len E H.2.1.2 x0)
  refine hG [1026] 300 _ _ _ _ _ _ ?_
  conv => whnf
  refine ⟨_, _, _, hsc1, nI_add _ _, (show i + 1 < L by omega), ?_⟩
  conv => whnf
  refine hG [1029] 1 _ _ _ _ _ _ ?_
  rw [jw1, p2]
  refine jvS (r := 20) (rest := [.long w]) (by show a + 0 + 0 ≤ 600000; omega) (by show b + 0 + 0 ≤ 7302250; omega) rfl rfl (jB_20 B1) (jcall (hR _) ?_)
  rintro r h2 ⟨w2, hw2, rfl, B2, hs2⟩
  cases hw.symm.trans hw2
  show G 1029 _ _ _ _ _
  have fin := hB (a := a + 0 + 0) (b := b + 0 + 0) (a + 180) (b + 3800) (by omega) (by omega) (nx h2 _ ⟨B2, H.2.1, hs2.trans hsc1⟩)
  refine hG [1547] 300 _ _ _ _ _ _ ?_
  conv => whnf
  refine ⟨fun _ => fin, fun c => absurd ((jlg0 _ _).mpr rfl) c⟩
theorem ly_store {Φ : jPost} {G : jKt} (hG : ∀ (C : List Nat) (n pc : Nat) lv st h a b, jw (jp_L_law Φ) G C n pc lv st h a b → G pc lv st h a b) (hB : ∀ {pc : Nat} {lv st h a b} (a' b' : Nat), a ≤ a' → b ≤ b' → G pc lv st h a' b' → G pc lv st h a b) {h : List jC} {z : zS} {L i a b : Nat} {xs : Nat → Int32} (H : lSt h z L xs) (hi : i + 6 ≤ L) (ha : a + 180 ≤ 600000) (hb : b + 3800 ≤ 7302250) (nx : ∀ h' z', lSt h' z' L xs → G 1547 (lLv i) [] h' (a + 180) (b + 3800)) : G 1035 (lLv i) [] h a b := by
  have hsc := H.2.2
  have hX := fun (x0 : Int32) (x1 : Int32) (x2 : Int32) (x3 : Int32) => jB_xint (p := zstore z x0 x1 x2 x3) H.1 (ty_store z x0 x1 x2 x3) (fun E => q_store E H.2.1.1 x0 x1 x2 x3)
  have p1 : jp_L_law Φ 1056 = ji_vcall jy_X11_store 4 10 600000 7302250 1059 := rfl
  have p2 : jp_L_law Φ 1080 = ji_vcall jy_X12_store 4 11 600000 7302250 1083 := rfl
  refine hG [1056] 300 _ _ _ _ _ _ ?_
  conv => whnf
  refine ⟨_, _, _, hsc, nI_add _ _, (show i + 1 < L by omega), ?_⟩
  conv => whnf
  refine ⟨_, _, _, hsc, nI_add _ _, (show i + 2 < L by omega), ?_⟩
  conv => whnf
  refine ⟨_, _, _, hsc, nI_add _ _, (show i + 3 < L by omega), ?_⟩
  conv => whnf
  refine ⟨_, _, _, hsc, nI_add _ _, (show i + 4 < L by omega), ?_⟩
  conv => whnf
  refine hG [1059] 1 _ _ _ _ _ _ ?_
  rw [jw1, p1]
  refine jvS (r := 2) (rest := []) (by show a + 2 ≤ 600000; omega) (by show b + 41 ≤ 7302250; omega) rfl rfl (jB_2 H.1) (jcall (hX _ _ _ _) ?_)
  rintro r h1 ⟨w, hw, rfl, B1, hs1⟩
  show G 1059 _ _ _ _ _
  have hsc1 := hs1.trans hsc
  have hR := fun (x0 : Int32) (x1 : Int32) (x2 : Int32) (x3 : Int32) => jB_rint (p := zstore z x0 x1 x2 x3) B1 (ty_store z x0 x1 x2 x3) (fun E => r_store B1.len E H.2.1.1 x0 x1 x2 x3)
  refine hG [1080] 300 _ _ _ _ _ _ ?_
  conv => whnf
  refine ⟨_, _, _, hsc1, nI_add _ _, (show i + 1 < L by omega), ?_⟩
  conv => whnf
  refine ⟨_, _, _, hsc1, nI_add _ _, (show i + 2 < L by omega), ?_⟩
  conv => whnf
  refine ⟨_, _, _, hsc1, nI_add _ _, (show i + 3 < L by omega), ?_⟩
  conv => whnf
  refine ⟨_, _, _, hsc1, nI_add _ _, (show i + 4 < L by omega), ?_⟩
  conv => whnf
  refine hG [1083] 1 _ _ _ _ _ _ ?_
  rw [jw1, p2]
  refine jvS (r := 20) (rest := [.int w]) (by show a + 2 + 0 ≤ 600000; omega) (by show b + 41 + 0 ≤ 7302250; omega) rfl rfl (jB_20 B1) (jcall (hR _ _ _ _) ?_)
  rintro r h2 ⟨w2, hw2, rfl, B2, hs2⟩
  cases hw.symm.trans hw2
  show G 1083 _ _ _ _ _
  have fin := hB (a := a + 2 + 0) (b := b + 41 + 0) (a + 180) (b + 3800) (by omega) (by omega) (nx h2 _ ⟨B2, k_store H.2.1 _ _ _ _, hs2.trans hsc1⟩)
  refine hG [1547] 300 _ _ _ _ _ _ ?_
  conv => whnf
  refine ⟨fun _ => fin, fun c => absurd rfl c⟩
theorem ly_fetch {Φ : jPost} {G : jKt} (hG : ∀ (C : List Nat) (n pc : Nat) lv st h a b, jw (jp_L_law Φ) G C n pc lv st h a b → G pc lv st h a b) (hB : ∀ {pc : Nat} {lv st h a b} (a' b' : Nat), a ≤ a' → b ≤ b' → G pc lv st h a' b' → G pc lv st h a b) {h : List jC} {z : zS} {L i a b : Nat} {xs : Nat → Int32} (H : lSt h z L xs) (hi : i + 6 ≤ L) (ha : a + 180 ≤ 600000) (hb : b + 3800 ≤ 7302250) (nx : ∀ h' z', lSt h' z' L xs → G 1547 (lLv i) [] h' (a + 180) (b + 3800)) : G 1088 (lLv i) [] h a b := by
  have hsc := H.2.2
  have hX := fun (x0 : Int32) (x1 : Int32) (x2 : Int32) => jB_xint (p := zfetch z x0 x1 x2) H.1 (ty_fetch z x0 x1 x2) (fun E => q_fetch E H.2.1.1 x0 x1 x2)
  have p1 : jp_L_law Φ 1104 = ji_vcall jy_X11_fetch 3 10 600000 7302250 1107 := rfl
  have p2 : jp_L_law Φ 1123 = ji_vcall jy_X12_fetch 3 11 600000 7302250 1126 := rfl
  refine hG [1104] 300 _ _ _ _ _ _ ?_
  conv => whnf
  refine ⟨_, _, _, hsc, nI_add _ _, (show i + 1 < L by omega), ?_⟩
  conv => whnf
  refine ⟨_, _, _, hsc, nI_add _ _, (show i + 2 < L by omega), ?_⟩
  conv => whnf
  refine ⟨_, _, _, hsc, nI_add _ _, (show i + 3 < L by omega), ?_⟩
  conv => whnf
  refine hG [1107] 1 _ _ _ _ _ _ ?_
  rw [jw1, p1]
  refine jvS (r := 2) (rest := []) (by show a + 2 ≤ 600000; omega) (by show b + 42 ≤ 7302250; omega) rfl rfl (jB_2 H.1) (jcall (hX _ _ _) ?_)
  rintro r h1 ⟨w, hw, rfl, B1, hs1⟩
  show G 1107 _ _ _ _ _
  have hsc1 := hs1.trans hsc
  have hR := fun (x0 : Int32) (x1 : Int32) (x2 : Int32) => jB_rint (p := zfetch z x0 x1 x2) B1 (ty_fetch z x0 x1 x2) (fun E => r_fetch B1.len E H.2.1.1 x0 x1 x2)
  refine hG [1123] 300 _ _ _ _ _ _ ?_
  conv => whnf
  refine ⟨_, _, _, hsc1, nI_add _ _, (show i + 1 < L by omega), ?_⟩
  conv => whnf
  refine ⟨_, _, _, hsc1, nI_add _ _, (show i + 2 < L by omega), ?_⟩
  conv => whnf
  refine ⟨_, _, _, hsc1, nI_add _ _, (show i + 3 < L by omega), ?_⟩
  conv => whnf
  refine hG [1126] 1 _ _ _ _ _ _ ?_
  rw [jw1, p2]
  refine jvS (r := 20) (rest := [.int w]) (by show a + 2 + 0 ≤ 600000; omega) (by show b + 42 + 0 ≤ 7302250; omega) rfl rfl (jB_20 B1) (jcall (hR _ _ _) ?_)
  rintro r h2 ⟨w2, hw2, rfl, B2, hs2⟩
  cases hw.symm.trans hw2
  show G 1126 _ _ _ _ _
  have fin := hB (a := a + 2 + 0) (b := b + 42 + 0) (a + 180) (b + 3800) (by omega) (by omega) (nx h2 _ ⟨B2, k_fetch H.2.1 _ _ _, hs2.trans hsc1⟩)
  refine hG [1547] 300 _ _ _ _ _ _ ?_
  conv => whnf
  refine ⟨fun _ => fin, fun c => absurd rfl c⟩
theorem ly_holds {Φ : jPost} {G : jKt} (hG : ∀ (C : List Nat) (n pc : Nat) lv st h a b, jw (jp_L_law Φ) G C n pc lv st h a b → G pc lv st h a b) (hB : ∀ {pc : Nat} {lv st h a b} (a' b' : Nat), a ≤ a' → b ≤ b' → G pc lv st h a' b' → G pc lv st h a b) {h : List jC} {z : zS} {L i a b : Nat} {xs : Nat → Int32} (H : lSt h z L xs) (hi : i + 6 ≤ L) (ha : a + 180 ≤ 600000) (hb : b + 3800 ≤ 7302250) (nx : ∀ h' z', lSt h' z' L xs → G 1547 (lLv i) [] h' (a + 180) (b + 3800)) : G 1131 (lLv i) [] h a b := by
  have hsc := H.2.2
  have hX := fun (x0 : Int32) (x1 : Int32) => jB_xint (p := (zholds z x0 x1, z)) H.1 (ty_holds z x0 x1) (fun E => q_holds E x0 x1)
  have p1 : jp_L_law Φ 1142 = ji_vcall jy_X11_holds 2 10 600000 7302250 1145 := rfl
  have p2 : jp_L_law Φ 1156 = ji_vcall jy_X12_holds 2 11 600000 7302250 1159 := rfl
  refine hG [1142] 300 _ _ _ _ _ _ ?_
  conv => whnf
  refine ⟨_, _, _, hsc, nI_add _ _, (show i + 1 < L by omega), ?_⟩
  conv => whnf
  refine ⟨_, _, _, hsc, nI_add _ _, (show i + 2 < L by omega), ?_⟩
  conv => whnf
  refine hG [1145] 1 _ _ _ _ _ _ ?_
  rw [jw1, p1]
  refine jvS (r := 2) (rest := []) (by show a + 0 ≤ 600000; omega) (by show b + 0 ≤ 7302250; omega) rfl rfl (jB_2 H.1) (jcall (hX _ _) ?_)
  rintro r h1 ⟨w, hw, rfl, B1, hs1⟩
  show G 1145 _ _ _ _ _
  have hsc1 := hs1.trans hsc
  have hR := fun (x0 : Int32) (x1 : Int32) => jB_rint (p := (zholds z x0 x1, z)) B1 (ty_holds z x0 x1) (fun E => r_holds B1.len E x0 x1)
  refine hG [1156] 300 _ _ _ _ _ _ ?_
  conv => whnf
  refine ⟨_, _, _, hsc1, nI_add _ _, (show i + 1 < L by omega), ?_⟩
  conv => whnf
  refine ⟨_, _, _, hsc1, nI_add _ _, (show i + 2 < L by omega), ?_⟩
  conv => whnf
  refine hG [1159] 1 _ _ _ _ _ _ ?_
  rw [jw1, p2]
  refine jvS (r := 20) (rest := [.int w]) (by show a + 0 + 0 ≤ 600000; omega) (by show b + 0 + 0 ≤ 7302250; omega) rfl rfl (jB_20 B1) (jcall (hR _ _) ?_)
  rintro r h2 ⟨w2, hw2, rfl, B2, hs2⟩
  cases hw.symm.trans hw2
  show G 1159 _ _ _ _ _
  have fin := hB (a := a + 0 + 0) (b := b + 0 + 0) (a + 180) (b + 3800) (by omega) (by omega) (nx h2 _ ⟨B2, H.2.1, hs2.trans hsc1⟩)
  refine hG [1547] 300 _ _ _ _ _ _ ?_
  conv => whnf
  refine ⟨fun _ => fin, fun c => absurd rfl c⟩
theorem ly_row {Φ : jPost} {G : jKt} (hG : ∀ (C : List Nat) (n pc : Nat) lv st h a b, jw (jp_L_law Φ) G C n pc lv st h a b → G pc lv st h a b) (hB : ∀ {pc : Nat} {lv st h a b} (a' b' : Nat), a ≤ a' → b ≤ b' → G pc lv st h a' b' → G pc lv st h a b) {h : List jC} {z : zS} {L i a b : Nat} {xs : Nat → Int32} (H : lSt h z L xs) (hi : i + 6 ≤ L) (ha : a + 180 ≤ 600000) (hb : b + 3800 ≤ 7302250) (nx : ∀ h' z', lSt h' z' L xs → G 1547 (lLv i) [] h' (a + 180) (b + 3800)) : G 1164 (lLv i) [] h a b := by
  have hsc := H.2.2
  have hX := fun (x0 : Int32) (x1 : Int32) => jB_xint (p := zrow z x0 x1) H.1 (ty_row z x0 x1) (fun E => q_row E x0 x1)
  have p1 : jp_L_law Φ 1175 = ji_vcall jy_X11_row 2 10 600000 7302250 1178 := rfl
  have p2 : jp_L_law Φ 1189 = ji_vcall jy_X12_row 2 11 600000 7302250 1192 := rfl
  refine hG [1175] 300 _ _ _ _ _ _ ?_
  conv => whnf
  refine ⟨_, _, _, hsc, nI_add _ _, (show i + 1 < L by omega), ?_⟩
  conv => whnf
  refine ⟨_, _, _, hsc, nI_add _ _, (show i + 2 < L by omega), ?_⟩
  conv => whnf
  refine hG [1178] 1 _ _ _ _ _ _ ?_
  rw [jw1, p1]
  refine jvS (r := 2) (rest := []) (by show a + 2 ≤ 600000; omega) (by show b + 41 ≤ 7302250; omega) rfl rfl (jB_2 H.1) (jcall (hX _ _) ?_)
  rintro r h1 ⟨w, hw, rfl, B1, hs1⟩
  show G 1178 _ _ _ _ _
  have hsc1 := hs1.trans hsc
  have hR := fun (x0 : Int32) (x1 : Int32) => jB_rint (p := zrow z x0 x1) B1 (ty_row z x0 x1) (fun E => r_row B1.len E H.2.1.1 x0 x1)
  refine hG [1189] 300 _ _ _ _ _ _ ?_
  conv => whnf
  refine ⟨_, _, _, hsc1, nI_add _ _, (show i + 1 < L by omega), ?_⟩
  conv => whnf
  refine ⟨_, _, _, hsc1, nI_add _ _, (show i + 2 < L by omega), ?_⟩
  conv => whnf
  refine hG [1192] 1 _ _ _ _ _ _ ?_
  rw [jw1, p2]
  refine jvS (r := 20) (rest := [.int w]) (by show a + 2 + 0 ≤ 600000; omega) (by show b + 41 + 0 ≤ 7302250; omega) rfl rfl (jB_20 B1) (jcall (hR _ _) ?_)
  rintro r h2 ⟨w2, hw2, rfl, B2, hs2⟩
  cases hw.symm.trans hw2
  show G 1192 _ _ _ _ _
  have fin := hB (a := a + 2 + 0) (b := b + 41 + 0) (a + 180) (b + 3800) (by omega) (by omega) (nx h2 _ ⟨B2, k_row H.2.1 _ _, hs2.trans hsc1⟩)
  refine hG [1547] 300 _ _ _ _ _ _ ?_
  conv => whnf
  refine ⟨fun _ => fin, fun c => absurd rfl c⟩
theorem ly_lay {Φ : jPost} {G : jKt} (hG : ∀ (C : List Nat) (n pc : Nat) lv st h a b, jw (jp_L_law Φ) G C n pc lv st h a b → G pc lv st h a b) (hB : ∀ {pc : Nat} {lv st h a b} (a' b' : Nat), a ≤ a' → b ≤ b' → G pc lv st h a' b' → G pc lv st h a b) {h : List jC} {z : zS} {L i a b : Nat} {xs : Nat → Int32} (H : lSt h z L xs) (hi : i + 6 ≤ L) (ha : a + 180 ≤ 600000) (hb : b + 3800 ≤ 7302250) (nx : ∀ h' z', lSt h' z' L xs → G 1547 (lLv i) [] h' (a + 180) (b + 3800)) : G 1197 (lLv i) [] h a b := by
  have hsc := H.2.2
  have hX := fun (x0 : Int32) (x1 : Int32) (x2 : Int32) => jB_xint (p := zlay z x0 x1 x2) H.1 (ty_lay z x0 x1 x2) (fun E => q_lay E H.2.1.1 x0 x1 x2)
  have p1 : jp_L_law Φ 1213 = ji_vcall jy_X11_lay 3 10 600000 7302250 1216 := rfl
  have p2 : jp_L_law Φ 1232 = ji_vcall jy_X12_lay 3 11 600000 7302250 1235 := rfl
  refine hG [1213] 300 _ _ _ _ _ _ ?_
  conv => whnf
  refine ⟨_, _, _, hsc, nI_add _ _, (show i + 1 < L by omega), ?_⟩
  conv => whnf
  refine ⟨_, _, _, hsc, nI_add _ _, (show i + 2 < L by omega), ?_⟩
  conv => whnf
  refine ⟨_, _, _, hsc, nI_add _ _, (show i + 3 < L by omega), ?_⟩
  conv => whnf
  refine hG [1216] 1 _ _ _ _ _ _ ?_
  rw [jw1, p1]
  refine jvS (r := 2) (rest := []) (by show a + 0 ≤ 600000; omega) (by show b + 0 ≤ 7302250; omega) rfl rfl (jB_2 H.1) (jcall (hX _ _ _) ?_)
  rintro r h1 ⟨w, hw, rfl, B1, hs1⟩
  show G 1216 _ _ _ _ _
  have hsc1 := hs1.trans hsc
  have hR := fun (x0 : Int32) (x1 : Int32) (x2 : Int32) => jB_rint (p := zlay z x0 x1 x2) B1 (ty_lay z x0 x1 x2) (fun E => r_lay B1.len E H.2.1.1 x0 x1 x2)
  refine hG [1232] 300 _ _ _ _ _ _ ?_
  conv => whnf
  refine ⟨_, _, _, hsc1, nI_add _ _, (show i + 1 < L by omega), ?_⟩
  conv => whnf
  refine ⟨_, _, _, hsc1, nI_add _ _, (show i + 2 < L by omega), ?_⟩
  conv => whnf
  refine ⟨_, _, _, hsc1, nI_add _ _, (show i + 3 < L by omega), ?_⟩
  conv => whnf
  refine hG [1235] 1 _ _ _ _ _ _ ?_
  rw [jw1, p2]
  refine jvS (r := 20) (rest := [.int w]) (by show a + 0 + 0 ≤ 600000; omega) (by show b + 0 + 0 ≤ 7302250; omega) rfl rfl (jB_20 B1) (jcall (hR _ _ _) ?_)
  rintro r h2 ⟨w2, hw2, rfl, B2, hs2⟩
  cases hw.symm.trans hw2
  show G 1235 _ _ _ _ _
  have fin := hB (a := a + 0 + 0) (b := b + 0 + 0) (a + 180) (b + 3800) (by omega) (by omega) (nx h2 _ ⟨B2, k_lay H.2.1 _ _ _, hs2.trans hsc1⟩)
  refine hG [1547] 300 _ _ _ _ _ _ ?_
  conv => whnf
  refine ⟨fun _ => fin, fun c => absurd rfl c⟩
theorem ly_get {Φ : jPost} {G : jKt} (hG : ∀ (C : List Nat) (n pc : Nat) lv st h a b, jw (jp_L_law Φ) G C n pc lv st h a b → G pc lv st h a b) (hB : ∀ {pc : Nat} {lv st h a b} (a' b' : Nat), a ≤ a' → b ≤ b' → G pc lv st h a' b' → G pc lv st h a b) {h : List jC} {z : zS} {L i a b : Nat} {xs : Nat → Int32} (H : lSt h z L xs) (hi : i + 6 ≤ L) (ha : a + 180 ≤ 600000) (hb : b + 3800 ≤ 7302250) (nx : ∀ h' z', lSt h' z' L xs → G 1547 (lLv i) [] h' (a + 180) (b + 3800)) : G 1240 (lLv i) [] h a b := by
  have hsc := H.2.2
  have hX := fun (x0 : Int32) (x1 : Int32) => jB_xlong (p := (zget z x0 x1, z)) H.1 (ty_get z x0 x1) (fun E => q_get E H.2.1.1 x0 x1)
  have p1 : jp_L_law Φ 1251 = ji_vcall jy_X11_get 2 10 600000 7302250 1254 := rfl
  have p2 : jp_L_law Φ 1265 = ji_vcall jy_X12_get 2 11 600000 7302250 1268 := rfl
  refine hG [1251] 300 _ _ _ _ _ _ ?_
  conv => whnf
  refine ⟨_, _, _, hsc, nI_add _ _, (show i + 1 < L by omega), ?_⟩
  conv => whnf
  refine ⟨_, _, _, hsc, nI_add _ _, (show i + 2 < L by omega), ?_⟩
  conv => whnf
  refine hG [1254] 1 _ _ _ _ _ _ ?_
  rw [jw1, p1]
  refine jvS (r := 2) (rest := []) (by show a + 0 ≤ 600000; omega) (by show b + 0 ≤ 7302250; omega) rfl rfl (jB_2 H.1) (jcall (hX _ _) ?_)
  rintro r h1 ⟨w, hw, rfl, B1, hs1⟩
  show G 1254 _ _ _ _ _
  have hsc1 := hs1.trans hsc
  have hR := fun (x0 : Int32) (x1 : Int32) => jB_rlong (p := (zget z x0 x1, z)) B1 (ty_get z x0 x1) (fun E => r_get B1.len E H.2.1.1 x0 x1)
  refine hG [1265] 300 _ _ _ _ _ _ ?_
  conv => whnf
  refine ⟨_, _, _, hsc1, nI_add _ _, (show i + 1 < L by omega), ?_⟩
  conv => whnf
  refine ⟨_, _, _, hsc1, nI_add _ _, (show i + 2 < L by omega), ?_⟩
  conv => whnf
  refine hG [1268] 1 _ _ _ _ _ _ ?_
  rw [jw1, p2]
  refine jvS (r := 20) (rest := [.long w]) (by show a + 0 + 0 ≤ 600000; omega) (by show b + 0 + 0 ≤ 7302250; omega) rfl rfl (jB_20 B1) (jcall (hR _ _) ?_)
  rintro r h2 ⟨w2, hw2, rfl, B2, hs2⟩
  cases hw.symm.trans hw2
  show G 1268 _ _ _ _ _
  have fin := hB (a := a + 0 + 0) (b := b + 0 + 0) (a + 180) (b + 3800) (by omega) (by omega) (nx h2 _ ⟨B2, H.2.1, hs2.trans hsc1⟩)
  refine hG [1547] 300 _ _ _ _ _ _ ?_
  conv => whnf
  refine ⟨fun _ => fin, fun c => absurd ((jlg0 _ _).mpr rfl) c⟩
theorem ly_copy {Φ : jPost} {G : jKt} (hG : ∀ (C : List Nat) (n pc : Nat) lv st h a b, jw (jp_L_law Φ) G C n pc lv st h a b → G pc lv st h a b) (hB : ∀ {pc : Nat} {lv st h a b} (a' b' : Nat), a ≤ a' → b ≤ b' → G pc lv st h a' b' → G pc lv st h a b) {h : List jC} {z : zS} {L i a b : Nat} {xs : Nat → Int32} (H : lSt h z L xs) (hi : i + 6 ≤ L) (ha : a + 180 ≤ 600000) (hb : b + 3800 ≤ 7302250) (nx : ∀ h' z', lSt h' z' L xs → G 1547 (lLv i) [] h' (a + 180) (b + 3800)) : G 1274 (lLv i) [] h a b := by
  have hsc := H.2.2
  have hX := fun (x0 : Int32) (x1 : Int32) (x2 : Int32) (x3 : Int32) (x4 : Int32) => jB_xint (p := zcopy z x0 x1 x2 x3 x4) H.1 (ty_copy z x0 x1 x2 x3 x4) (fun E => q_copy E H.2.1.1 x0 x1 x2 x3 x4)
  have p1 : jp_L_law Φ 1300 = ji_vcall jy_X11_copy 5 10 600000 7302250 1303 := rfl
  have p2 : jp_L_law Φ 1329 = ji_vcall jy_X12_copy 5 11 600000 7302250 1332 := rfl
  refine hG [1300] 300 _ _ _ _ _ _ ?_
  conv => whnf
  refine ⟨_, _, _, hsc, nI_add _ _, (show i + 1 < L by omega), ?_⟩
  conv => whnf
  refine ⟨_, _, _, hsc, nI_add _ _, (show i + 2 < L by omega), ?_⟩
  conv => whnf
  refine ⟨_, _, _, hsc, nI_add _ _, (show i + 3 < L by omega), ?_⟩
  conv => whnf
  refine ⟨_, _, _, hsc, nI_add _ _, (show i + 4 < L by omega), ?_⟩
  conv => whnf
  refine ⟨_, _, _, hsc, nI_add _ _, (show i + 5 < L by omega), ?_⟩
  conv => whnf
  refine hG [1303] 1 _ _ _ _ _ _ ?_
  rw [jw1, p1]
  refine jvS (r := 2) (rest := []) (by show a + 0 ≤ 600000; omega) (by show b + 0 ≤ 7302250; omega) rfl rfl (jB_2 H.1) (jcall (hX _ _ _ _ _) ?_)
  rintro r h1 ⟨w, hw, rfl, B1, hs1⟩
  show G 1303 _ _ _ _ _
  have hsc1 := hs1.trans hsc
  have hR := fun (x0 : Int32) (x1 : Int32) (x2 : Int32) (x3 : Int32) (x4 : Int32) => jB_rint (p := zcopy z x0 x1 x2 x3 x4) B1 (ty_copy z x0 x1 x2 x3 x4) (fun E => r_copy B1.len E H.2.1.1 x0 x1 x2 x3 x4)
  refine hG [1329] 300 _ _ _ _ _ _ ?_
  conv => whnf
  refine ⟨_, _, _, hsc1, nI_add _ _, (show i + 1 < L by omega), ?_⟩
  conv => whnf
  refine ⟨_, _, _, hsc1, nI_add _ _, (show i + 2 < L by omega), ?_⟩
  conv => whnf
  refine ⟨_, _, _, hsc1, nI_add _ _, (show i + 3 < L by omega), ?_⟩
  conv => whnf
  refine ⟨_, _, _, hsc1, nI_add _ _, (show i + 4 < L by omega), ?_⟩
  conv => whnf
  refine ⟨_, _, _, hsc1, nI_add _ _, (show i + 5 < L by omega), ?_⟩
  conv => whnf
  refine hG [1332] 1 _ _ _ _ _ _ ?_
  rw [jw1, p2]
  refine jvS (r := 20) (rest := [.int w]) (by show a + 0 + 0 ≤ 600000; omega) (by show b + 0 + 0 ≤ 7302250; omega) rfl rfl (jB_20 B1) (jcall (hR _ _ _ _ _) ?_)
  rintro r h2 ⟨w2, hw2, rfl, B2, hs2⟩
  cases hw.symm.trans hw2
  show G 1332 _ _ _ _ _
  have fin := hB (a := a + 0 + 0) (b := b + 0 + 0) (a + 180) (b + 3800) (by omega) (by omega) (nx h2 _ ⟨B2, k_copy H.2.1 _ _ _ _ _, hs2.trans hsc1⟩)
  refine hG [1547] 300 _ _ _ _ _ _ ?_
  conv => whnf
  refine ⟨fun _ => fin, fun c => absurd rfl c⟩
theorem ly_film {Φ : jPost} {G : jKt} (hG : ∀ (C : List Nat) (n pc : Nat) lv st h a b, jw (jp_L_law Φ) G C n pc lv st h a b → G pc lv st h a b) (hB : ∀ {pc : Nat} {lv st h a b} (a' b' : Nat), a ≤ a' → b ≤ b' → G pc lv st h a' b' → G pc lv st h a b) {h : List jC} {z : zS} {L i a b : Nat} {xs : Nat → Int32} (H : lSt h z L xs) (hi : i + 6 ≤ L) (ha : a + 180 ≤ 600000) (hb : b + 3800 ≤ 7302250) (nx : ∀ h' z', lSt h' z' L xs → G 1547 (lLv i) [] h' (a + 180) (b + 3800)) : G 1337 (lLv i) [] h a b := by
  have hsc := H.2.2
  have hX := fun (x0 : Int32) (x1 : Int32) => jB_xint (p := zfilm z x0 x1) H.1 (ty_film z x0 x1) (fun E => q_film E H.2.1.1 x0 x1)
  have p1 : jp_L_law Φ 1348 = ji_vcall jy_X11_film 2 10 600000 7302250 1351 := rfl
  have p2 : jp_L_law Φ 1362 = ji_vcall jy_X12_film 2 11 600000 7302250 1365 := rfl
  refine hG [1348] 300 _ _ _ _ _ _ ?_
  conv => whnf
  refine ⟨_, _, _, hsc, nI_add _ _, (show i + 1 < L by omega), ?_⟩
  conv => whnf
  refine ⟨_, _, _, hsc, nI_add _ _, (show i + 2 < L by omega), ?_⟩
  conv => whnf
  refine hG [1351] 1 _ _ _ _ _ _ ?_
  rw [jw1, p1]
  refine jvS (r := 2) (rest := []) (by show a + 2 ≤ 600000; omega) (by show b + 7 ≤ 7302250; omega) rfl rfl (jB_2 H.1) (jcall (hX _ _) ?_)
  rintro r h1 ⟨w, hw, rfl, B1, hs1⟩
  show G 1351 _ _ _ _ _
  have hsc1 := hs1.trans hsc
  have hR := fun (x0 : Int32) (x1 : Int32) => jB_rint (p := zfilm z x0 x1) B1 (ty_film z x0 x1) (fun E => r_film B1.len E H.2.1.1 x0 x1)
  refine hG [1362] 300 _ _ _ _ _ _ ?_
  conv => whnf
  refine ⟨_, _, _, hsc1, nI_add _ _, (show i + 1 < L by omega), ?_⟩
  conv => whnf
  refine ⟨_, _, _, hsc1, nI_add _ _, (show i + 2 < L by omega), ?_⟩
  conv => whnf
  refine hG [1365] 1 _ _ _ _ _ _ ?_
  rw [jw1, p2]
  refine jvS (r := 20) (rest := [.int w]) (by show a + 2 + 0 ≤ 600000; omega) (by show b + 7 + 0 ≤ 7302250; omega) rfl rfl (jB_20 B1) (jcall (hR _ _) ?_)
  rintro r h2 ⟨w2, hw2, rfl, B2, hs2⟩
  cases hw.symm.trans hw2
  show G 1365 _ _ _ _ _
  have fin := hB (a := a + 2 + 0) (b := b + 7 + 0) (a + 180) (b + 3800) (by omega) (by omega) (nx h2 _ ⟨B2, k_film H.2.1 _ _, hs2.trans hsc1⟩)
  refine hG [1547] 300 _ _ _ _ _ _ ?_
  conv => whnf
  refine ⟨fun _ => fin, fun c => absurd rfl c⟩
theorem ly_judge {Φ : jPost} {G : jKt} (hG : ∀ (C : List Nat) (n pc : Nat) lv st h a b, jw (jp_L_law Φ) G C n pc lv st h a b → G pc lv st h a b) (hB : ∀ {pc : Nat} {lv st h a b} (a' b' : Nat), a ≤ a' → b ≤ b' → G pc lv st h a' b' → G pc lv st h a b) {h : List jC} {z : zS} {L i a b : Nat} {xs : Nat → Int32} (H : lSt h z L xs) (hi : i + 6 ≤ L) (ha : a + 180 ≤ 600000) (hb : b + 3800 ≤ 7302250) (nx : ∀ h' z', lSt h' z' L xs → G 1547 (lLv i) [] h' (a + 180) (b + 3800)) : G 1370 (lLv i) [] h a b := by
  have hsc := H.2.2
  have hX := fun (x0 : Int32) => jB_xint (p := (zjudge z x0, z)) H.1 (ty_judge z x0) (fun E => q_judge E H.2.1.1 x0)
  have p1 : jp_L_law Φ 1376 = ji_vcall jy_X11_judge 1 10 600000 7302250 1379 := rfl
  have p2 : jp_L_law Φ 1385 = ji_vcall jy_X12_judge 1 11 600000 7302250 1388 := rfl
  refine hG [1376] 300 _ _ _ _ _ _ ?_
  conv => whnf
  refine ⟨_, _, _, hsc, nI_add _ _, (show i + 1 < L by omega), ?_⟩
  conv => whnf
  refine hG [1379] 1 _ _ _ _ _ _ ?_
  rw [jw1, p1]
  refine jvS (r := 2) (rest := []) (by show a + 0 ≤ 600000; omega) (by show b + 0 ≤ 7302250; omega) rfl rfl (jB_2 H.1) (jcall (hX _) ?_)
  rintro r h1 ⟨w, hw, rfl, B1, hs1⟩
  show G 1379 _ _ _ _ _
  have hsc1 := hs1.trans hsc
  have hR := fun (x0 : Int32) => jB_rint (p := (zjudge z x0, z)) B1 (ty_judge z x0) (fun E => r_judge B1.len E H.2.1.1 x0)
  refine hG [1385] 300 _ _ _ _ _ _ ?_
  conv => whnf
  refine ⟨_, _, _, hsc1, nI_add _ _, (show i + 1 < L by omega), ?_⟩
  conv => whnf
  refine hG [1388] 1 _ _ _ _ _ _ ?_
  rw [jw1, p2]
  refine jvS (r := 20) (rest := [.int w]) (by show a + 0 + 0 ≤ 600000; omega) (by show b + 0 + 0 ≤ 7302250; omega) rfl rfl (jB_20 B1) (jcall (hR _) ?_)
  rintro r h2 ⟨w2, hw2, rfl, B2, hs2⟩
  cases hw.symm.trans hw2
  show G 1388 _ _ _ _ _
  have fin := hB (a := a + 0 + 0) (b := b + 0 + 0) (a + 180) (b + 3800) (by omega) (by omega) (nx h2 _ ⟨B2, H.2.1, hs2.trans hsc1⟩)
  refine hG [1547] 300 _ _ _ _ _ _ ?_
  conv => whnf
  refine ⟨fun _ => fin, fun c => absurd rfl c⟩
theorem ly_back {Φ : jPost} {G : jKt} (hG : ∀ (C : List Nat) (n pc : Nat) lv st h a b, jw (jp_L_law Φ) G C n pc lv st h a b → G pc lv st h a b) (hB : ∀ {pc : Nat} {lv st h a b} (a' b' : Nat), a ≤ a' → b ≤ b' → G pc lv st h a' b' → G pc lv st h a b) {h : List jC} {z : zS} {L i a b : Nat} {xs : Nat → Int32} (H : lSt h z L xs) (hi : i + 6 ≤ L) (ha : a + 180 ≤ 600000) (hb : b + 3800 ≤ 7302250) (nx : ∀ h' z', lSt h' z' L xs → G 1547 (lLv i) [] h' (a + 180) (b + 3800)) : G 1393 (lLv i) [] h a b := by
  have hsc := H.2.2
  have hX := jB_xint (p := zback z) H.1 (ty_back z ) (fun E => q_back E H.2.1.1 )
  have p1 : jp_L_law Φ 1394 = ji_vcall jy_X11_back 0 10 600000 7302250 1397 := rfl
  have p2 : jp_L_law Φ 1398 = ji_vcall jy_X12_back 0 11 600000 7302250 1401 := rfl
  refine hG [1394] 300 _ _ _ _ _ _ ?_
  conv => whnf
  refine hG [1397] 1 _ _ _ _ _ _ ?_
  rw [jw1, p1]
  refine jvS (r := 2) (rest := []) (by show a + 0 ≤ 600000; omega) (by show b + 0 ≤ 7302250; omega) rfl rfl (jB_2 H.1) (jcall (hX ) ?_)
  rintro r h1 ⟨w, hw, rfl, B1, hs1⟩
  show G 1397 _ _ _ _ _
  have hsc1 := hs1.trans hsc
  have hR := jB_rint (p := zback z) B1 (ty_back z ) (fun E => r_back B1.len E H.2.1.1 )
  refine hG [1398] 300 _ _ _ _ _ _ ?_
  conv => whnf
  refine hG [1401] 1 _ _ _ _ _ _ ?_
  rw [jw1, p2]
  refine jvS (r := 20) (rest := [.int w]) (by show a + 0 + 0 ≤ 600000; omega) (by show b + 0 + 0 ≤ 7302250; omega) rfl rfl (jB_20 B1) (jcall (hR ) ?_)
  rintro r h2 ⟨w2, hw2, rfl, B2, hs2⟩
  cases hw.symm.trans hw2
  show G 1401 _ _ _ _ _
  have fin := hB (a := a + 0 + 0) (b := b + 0 + 0) (a + 180) (b + 3800) (by omega) (by omega) (nx h2 _ ⟨B2, k_back H.2.1, hs2.trans hsc1⟩)
  refine hG [1547] 300 _ _ _ _ _ _ ?_
  conv => whnf
  refine ⟨fun _ => fin, fun c => absurd rfl c⟩
theorem ly_feed {Φ : jPost} {G : jKt} (hG : ∀ (C : List Nat) (n pc : Nat) lv st h a b, jw (jp_L_law Φ) G C n pc lv st h a b → G pc lv st h a b) (hB : ∀ {pc : Nat} {lv st h a b} (a' b' : Nat), a ≤ a' → b ≤ b' → G pc lv st h a' b' → G pc lv st h a b) {h : List jC} {z : zS} {L i a b : Nat} {xs : Nat → Int32} (H : lSt h z L xs) (hi : i + 6 ≤ L) (ha : a + 180 ≤ 600000) (hb : b + 3800 ≤ 7302250) (nx : ∀ h' z', lSt h' z' L xs → G 1547 (lLv i) [] h' (a + 180) (b + 3800)) : G 1406 (lLv i) [] h a b := by
  have hsc := H.2.2
  have hX := fun (x0 : Int32) => jB_xint (p := zfeed z x0) H.1 (ty_feed z x0) (fun E => q_feed E H.2.1.1 x0)
  have p1 : jp_L_law Φ 1412 = ji_vcall jy_X11_feed 1 10 600000 7302250 1415 := rfl
  have p2 : jp_L_law Φ 1421 = ji_vcall jy_X12_feed 1 11 600000 7302250 1424 := rfl
  refine hG [1412] 300 _ _ _ _ _ _ ?_
  conv => whnf
  refine ⟨_, _, _, hsc, nI_add _ _, (show i + 1 < L by omega), ?_⟩
  conv => whnf
  refine hG [1415] 1 _ _ _ _ _ _ ?_
  rw [jw1, p1]
  refine jvS (r := 2) (rest := []) (by show a + 0 ≤ 600000; omega) (by show b + 0 ≤ 7302250; omega) rfl rfl (jB_2 H.1) (jcall (hX _) ?_)
  rintro r h1 ⟨w, hw, rfl, B1, hs1⟩
  show G 1415 _ _ _ _ _
  have hsc1 := hs1.trans hsc
  have hR := fun (x0 : Int32) => jB_rint (p := zfeed z x0) B1 (ty_feed z x0) (fun E => r_feed B1.len E H.2.1.1 x0)
  refine hG [1421] 300 _ _ _ _ _ _ ?_
  conv => whnf
  refine ⟨_, _, _, hsc1, nI_add _ _, (show i + 1 < L by omega), ?_⟩
  conv => whnf
  refine hG [1424] 1 _ _ _ _ _ _ ?_
  rw [jw1, p2]
  refine jvS (r := 20) (rest := [.int w]) (by show a + 0 + 0 ≤ 600000; omega) (by show b + 0 + 0 ≤ 7302250; omega) rfl rfl (jB_20 B1) (jcall (hR _) ?_)
  rintro r h2 ⟨w2, hw2, rfl, B2, hs2⟩
  cases hw.symm.trans hw2
  show G 1424 _ _ _ _ _
  have fin := hB (a := a + 0 + 0) (b := b + 0 + 0) (a + 180) (b + 3800) (by omega) (by omega) (nx h2 _ ⟨B2, k_feed H.2.1 _, hs2.trans hsc1⟩)
  refine hG [1547] 300 _ _ _ _ _ _ ?_
  conv => whnf
  refine ⟨fun _ => fin, fun c => absurd rfl c⟩
theorem ly_wipe {Φ : jPost} {G : jKt} (hG : ∀ (C : List Nat) (n pc : Nat) lv st h a b, jw (jp_L_law Φ) G C n pc lv st h a b → G pc lv st h a b) (hB : ∀ {pc : Nat} {lv st h a b} (a' b' : Nat), a ≤ a' → b ≤ b' → G pc lv st h a' b' → G pc lv st h a b) {h : List jC} {z : zS} {L i a b : Nat} {xs : Nat → Int32} (H : lSt h z L xs) (hi : i + 6 ≤ L) (ha : a + 180 ≤ 600000) (hb : b + 3800 ≤ 7302250) (nx : ∀ h' z', lSt h' z' L xs → G 1547 (lLv i) [] h' (a + 180) (b + 3800)) : G 1429 (lLv i) [] h a b := by
  have hsc := H.2.2
  have hX := jB_xint (p := zwipe z) H.1 (ty_wipe z ) (fun E => q_wipe E )
  have p1 : jp_L_law Φ 1430 = ji_vcall jy_X11_wipe 0 10 600000 7302250 1433 := rfl
  have p2 : jp_L_law Φ 1434 = ji_vcall jy_X12_wipe 0 11 600000 7302250 1437 := rfl
  refine hG [1430] 300 _ _ _ _ _ _ ?_
  conv => whnf
  refine hG [1433] 1 _ _ _ _ _ _ ?_
  rw [jw1, p1]
  refine jvS (r := 2) (rest := []) (by show a + 0 ≤ 600000; omega) (by show b + 0 ≤ 7302250; omega) rfl rfl (jB_2 H.1) (jcall (hX ) ?_)
  rintro r h1 ⟨w, hw, rfl, B1, hs1⟩
  show G 1433 _ _ _ _ _
  have hsc1 := hs1.trans hsc
  have hR := jB_rint (p := zwipe z) B1 (ty_wipe z ) (fun E => r_wipe B1.len E )
  refine hG [1434] 300 _ _ _ _ _ _ ?_
  conv => whnf
  refine hG [1437] 1 _ _ _ _ _ _ ?_
  rw [jw1, p2]
  refine jvS (r := 20) (rest := [.int w]) (by show a + 0 + 0 ≤ 600000; omega) (by show b + 0 + 0 ≤ 7302250; omega) rfl rfl (jB_20 B1) (jcall (hR ) ?_)
  rintro r h2 ⟨w2, hw2, rfl, B2, hs2⟩
  cases hw.symm.trans hw2
  show G 1437 _ _ _ _ _
  have fin := hB (a := a + 0 + 0) (b := b + 0 + 0) (a + 180) (b + 3800) (by omega) (by omega) (nx h2 _ ⟨B2, k_wipe H.2.1, hs2.trans hsc1⟩)
  refine hG [1547] 300 _ _ _ _ _ _ ?_
  conv => whnf
  refine ⟨fun _ => fin, fun c => absurd rfl c⟩
theorem ly_read {Φ : jPost} {G : jKt} (hG : ∀ (C : List Nat) (n pc : Nat) lv st h a b, jw (jp_L_law Φ) G C n pc lv st h a b → G pc lv st h a b) (hB : ∀ {pc : Nat} {lv st h a b} (a' b' : Nat), a ≤ a' → b ≤ b' → G pc lv st h a' b' → G pc lv st h a b) {h : List jC} {z : zS} {L i a b : Nat} {xs : Nat → Int32} (H : lSt h z L xs) (hi : i + 6 ≤ L) (ha : a + 180 ≤ 600000) (hb : b + 3800 ≤ 7302250) (nx : ∀ h' z', lSt h' z' L xs → G 1547 (lLv i) [] h' (a + 180) (b + 3800)) : G 1442 (lLv i) [] h a b := by
  have hsc := H.2.2
  have hX := fun (x0 : Int32) => jB_xint (p := zread z x0) H.1 (ty_read z x0) (fun E => q_read E H.2.1.1 x0)
  have p1 : jp_L_law Φ 1448 = ji_vcall jy_X11_read 1 10 600000 7302250 1451 := rfl
  have p2 : jp_L_law Φ 1457 = ji_vcall jy_X12_read 1 11 600000 7302250 1460 := rfl
  refine hG [1448] 300 _ _ _ _ _ _ ?_
  conv => whnf
  refine ⟨_, _, _, hsc, nI_add _ _, (show i + 1 < L by omega), ?_⟩
  conv => whnf
  refine hG [1451] 1 _ _ _ _ _ _ ?_
  rw [jw1, p1]
  refine jvS (r := 2) (rest := []) (by show a + 180 ≤ 600000; omega) (by show b + 3800 ≤ 7302250; omega) rfl rfl (jB_2 H.1) (jcall (hX _) ?_)
  rintro r h1 ⟨w, hw, rfl, B1, hs1⟩
  show G 1451 _ _ _ _ _
  have hsc1 := hs1.trans hsc
  have hR := fun (x0 : Int32) => jB_rint (p := zread z x0) B1 (ty_read z x0) (fun E => r_read B1.len E H.2.1.1 x0)
  refine hG [1457] 300 _ _ _ _ _ _ ?_
  conv => whnf
  refine ⟨_, _, _, hsc1, nI_add _ _, (show i + 1 < L by omega), ?_⟩
  conv => whnf
  refine hG [1460] 1 _ _ _ _ _ _ ?_
  rw [jw1, p2]
  refine jvS (r := 20) (rest := [.int w]) (by show a + 180 + 0 ≤ 600000; omega) (by show b + 3800 + 0 ≤ 7302250; omega) rfl rfl (jB_20 B1) (jcall (hR _) ?_)
  rintro r h2 ⟨w2, hw2, rfl, B2, hs2⟩
  cases hw.symm.trans hw2
  show G 1460 _ _ _ _ _
  have fin := hB (a := a + 180 + 0) (b := b + 3800 + 0) (a + 180) (b + 3800) (by omega) (by omega) (nx h2 _ ⟨B2, k_read H.2.1 _, hs2.trans hsc1⟩)
  refine hG [1547] 300 _ _ _ _ _ _ ?_
  conv => whnf
  refine ⟨fun _ => fin, fun c => absurd rfl c⟩
theorem ly_why {Φ : jPost} {G : jKt} (hG : ∀ (C : List Nat) (n pc : Nat) lv st h a b, jw (jp_L_law Φ) G C n pc lv st h a b → G pc lv st h a b) (hB : ∀ {pc : Nat} {lv st h a b} (a' b' : Nat), a ≤ a' → b ≤ b' → G pc lv st h a' b' → G pc lv st h a b) {h : List jC} {z : zS} {L i a b : Nat} {xs : Nat → Int32} (H : lSt h z L xs) (hi : i + 6 ≤ L) (ha : a + 180 ≤ 600000) (hb : b + 3800 ≤ 7302250) (nx : ∀ h' z', lSt h' z' L xs → G 1547 (lLv i) [] h' (a + 180) (b + 3800)) : G 1465 (lLv i) [] h a b := by
  have hsc := H.2.2
  have hX := fun (x0 : Int32) (x1 : Int32) => jB_xint (p := (zwhy z x0 x1, z)) H.1 (ty_why z x0 x1) (fun E => q_why E H.2.1.1 x0 x1)
  have p1 : jp_L_law Φ 1476 = ji_vcall jy_X11_why 2 10 600000 7302250 1479 := rfl
  have p2 : jp_L_law Φ 1490 = ji_vcall jy_X12_why 2 11 600000 7302250 1493 := rfl
  refine hG [1476] 300 _ _ _ _ _ _ ?_
  conv => whnf
  refine ⟨_, _, _, hsc, nI_add _ _, (show i + 1 < L by omega), ?_⟩
  conv => whnf
  refine ⟨_, _, _, hsc, nI_add _ _, (show i + 2 < L by omega), ?_⟩
  conv => whnf
  refine hG [1479] 1 _ _ _ _ _ _ ?_
  rw [jw1, p1]
  refine jvS (r := 2) (rest := []) (by show a + 0 ≤ 600000; omega) (by show b + 0 ≤ 7302250; omega) rfl rfl (jB_2 H.1) (jcall (hX _ _) ?_)
  rintro r h1 ⟨w, hw, rfl, B1, hs1⟩
  show G 1479 _ _ _ _ _
  have hsc1 := hs1.trans hsc
  have hR := fun (x0 : Int32) (x1 : Int32) => jB_rint (p := (zwhy z x0 x1, z)) B1 (ty_why z x0 x1) (fun E => r_why B1.len E H.2.1.1 x0 x1)
  refine hG [1490] 300 _ _ _ _ _ _ ?_
  conv => whnf
  refine ⟨_, _, _, hsc1, nI_add _ _, (show i + 1 < L by omega), ?_⟩
  conv => whnf
  refine ⟨_, _, _, hsc1, nI_add _ _, (show i + 2 < L by omega), ?_⟩
  conv => whnf
  refine hG [1493] 1 _ _ _ _ _ _ ?_
  rw [jw1, p2]
  refine jvS (r := 20) (rest := [.int w]) (by show a + 0 + 0 ≤ 600000; omega) (by show b + 0 + 0 ≤ 7302250; omega) rfl rfl (jB_20 B1) (jcall (hR _ _) ?_)
  rintro r h2 ⟨w2, hw2, rfl, B2, hs2⟩
  cases hw.symm.trans hw2
  show G 1493 _ _ _ _ _
  have fin := hB (a := a + 0 + 0) (b := b + 0 + 0) (a + 180) (b + 3800) (by omega) (by omega) (nx h2 _ ⟨B2, H.2.1, hs2.trans hsc1⟩)
  refine hG [1547] 300 _ _ _ _ _ _ ?_
  conv => whnf
  refine ⟨fun _ => fin, fun c => absurd rfl c⟩
theorem ly_image {Φ : jPost} {G : jKt} (hG : ∀ (C : List Nat) (n pc : Nat) lv st h a b, jw (jp_L_law Φ) G C n pc lv st h a b → G pc lv st h a b) (hB : ∀ {pc : Nat} {lv st h a b} (a' b' : Nat), a ≤ a' → b ≤ b' → G pc lv st h a' b' → G pc lv st h a b) {h : List jC} {z : zS} {L i a b : Nat} {xs : Nat → Int32} (H : lSt h z L xs) (hi : i + 6 ≤ L) (ha : a + 180 ≤ 600000) (hb : b + 3800 ≤ 7302250) (nx : ∀ h' z', lSt h' z' L xs → G 1547 (lLv i) [] h' (a + 180) (b + 3800)) : G 1498 (lLv i) [] h a b := by
  have hsc := H.2.2
  have hX := jB_xint (p := zimage z) H.1 (ty_image z ) (fun E => q_image E )
  have p1 : jp_L_law Φ 1499 = ji_vcall jy_X11_image 0 10 600000 7302250 1502 := rfl
  have p2 : jp_L_law Φ 1503 = ji_vcall jy_X12_image 0 11 600000 7302250 1506 := rfl
  refine hG [1499] 300 _ _ _ _ _ _ ?_
  conv => whnf
  refine hG [1502] 1 _ _ _ _ _ _ ?_
  rw [jw1, p1]
  refine jvS (r := 2) (rest := []) (by show a + 4 ≤ 600000; omega) (by show b + 26 ≤ 7302250; omega) rfl rfl (jB_2 H.1) (jcall (hX ) ?_)
  rintro r h1 ⟨w, hw, rfl, B1, hs1⟩
  show G 1502 _ _ _ _ _
  have hsc1 := hs1.trans hsc
  have hR := jB_rint (p := zimage z) B1 (ty_image z ) (fun E => r_image B1.len E H.2.1.1 )
  refine hG [1503] 300 _ _ _ _ _ _ ?_
  conv => whnf
  refine hG [1506] 1 _ _ _ _ _ _ ?_
  rw [jw1, p2]
  refine jvS (r := 20) (rest := [.int w]) (by show a + 4 + 0 ≤ 600000; omega) (by show b + 26 + 0 ≤ 7302250; omega) rfl rfl (jB_20 B1) (jcall (hR ) ?_)
  rintro r h2 ⟨w2, hw2, rfl, B2, hs2⟩
  cases hw.symm.trans hw2
  show G 1506 _ _ _ _ _
  have fin := hB (a := a + 4 + 0) (b := b + 26 + 0) (a + 180) (b + 3800) (by omega) (by omega) (nx h2 _ ⟨B2, k_image H.2.1, hs2.trans hsc1⟩)
  refine hG [1547] 300 _ _ _ _ _ _ ?_
  conv => whnf
  refine ⟨fun _ => fin, fun c => absurd rfl c⟩
theorem ly_restore {Φ : jPost} {G : jKt} (hG : ∀ (C : List Nat) (n pc : Nat) lv st h a b, jw (jp_L_law Φ) G C n pc lv st h a b → G pc lv st h a b) (hB : ∀ {pc : Nat} {lv st h a b} (a' b' : Nat), a ≤ a' → b ≤ b' → G pc lv st h a' b' → G pc lv st h a b) {h : List jC} {z : zS} {L i a b : Nat} {xs : Nat → Int32} (H : lSt h z L xs) (hi : i + 6 ≤ L) (ha : a + 180 ≤ 600000) (hb : b + 3800 ≤ 7302250) (nx : ∀ h' z', lSt h' z' L xs → G 1547 (lLv i) [] h' (a + 180) (b + 3800)) : G 1511 (lLv i) [] h a b := by
  have hsc := H.2.2
  have hX := jB_xint (p := zrestore z) H.1 (ty_restore z ) (fun E => q_restore E H.2.1.1 )
  have p1 : jp_L_law Φ 1512 = ji_vcall jy_X11_restore 0 10 600000 7302250 1515 := rfl
  have p2 : jp_L_law Φ 1516 = ji_vcall jy_X12_restore 0 11 600000 7302250 1519 := rfl
  refine hG [1512] 300 _ _ _ _ _ _ ?_
  conv => whnf
  refine hG [1515] 1 _ _ _ _ _ _ ?_
  rw [jw1, p1]
  refine jvS (r := 2) (rest := []) (by show a + 3 ≤ 600000; omega) (by show b + 22 ≤ 7302250; omega) rfl rfl (jB_2 H.1) (jcall (hX ) ?_)
  rintro r h1 ⟨w, hw, rfl, B1, hs1⟩
  show G 1515 _ _ _ _ _
  have hsc1 := hs1.trans hsc
  have hR := jB_rint (p := zrestore z) B1 (ty_restore z ) (fun E => r_restore B1.len E H.2.1.1 )
  refine hG [1516] 300 _ _ _ _ _ _ ?_
  conv => whnf
  refine hG [1519] 1 _ _ _ _ _ _ ?_
  rw [jw1, p2]
  refine jvS (r := 20) (rest := [.int w]) (by show a + 3 + 0 ≤ 600000; omega) (by show b + 22 + 0 ≤ 7302250; omega) rfl rfl (jB_20 B1) (jcall (hR ) ?_)
  rintro r h2 ⟨w2, hw2, rfl, B2, hs2⟩
  cases hw.symm.trans hw2
  show G 1519 _ _ _ _ _
  have fin := hB (a := a + 3 + 0) (b := b + 22 + 0) (a + 180) (b + 3800) (by omega) (by omega) (nx h2 _ ⟨B2, k_restore H.2.1, hs2.trans hsc1⟩)
  refine hG [1547] 300 _ _ _ _ _ _ ?_
  conv => whnf
  refine ⟨fun _ => fin, fun c => absurd rfl c⟩
theorem ly_count {Φ : jPost} {G : jKt} (hG : ∀ (C : List Nat) (n pc : Nat) lv st h a b, jw (jp_L_law Φ) G C n pc lv st h a b → G pc lv st h a b) (hB : ∀ {pc : Nat} {lv st h a b} (a' b' : Nat), a ≤ a' → b ≤ b' → G pc lv st h a' b' → G pc lv st h a b) {h : List jC} {z : zS} {L i a b : Nat} {xs : Nat → Int32} (H : lSt h z L xs) (hi : i + 6 ≤ L) (ha : a + 180 ≤ 600000) (hb : b + 3800 ≤ 7302250) (nx : ∀ h' z', lSt h' z' L xs → G 1547 (lLv i) [] h' (a + 180) (b + 3800)) : G 1524 (lLv i) [] h a b := by
  have hsc := H.2.2
  have hX := fun (x0 : Int32) => jB_xint (p := (zcount z x0, z)) H.1 (ty_count z x0) (fun E => q_count E H.2.1.1 x0)
  have p1 : jp_L_law Φ 1530 = ji_vcall jy_X11_count 1 10 600000 7302250 1533 := rfl
  have p2 : jp_L_law Φ 1539 = ji_vcall jy_X12_count 1 11 600000 7302250 1542 := rfl
  refine hG [1530] 300 _ _ _ _ _ _ ?_
  conv => whnf
  refine ⟨_, _, _, hsc, nI_add _ _, (show i + 1 < L by omega), ?_⟩
  conv => whnf
  refine hG [1533] 1 _ _ _ _ _ _ ?_
  rw [jw1, p1]
  refine jvS (r := 2) (rest := []) (by show a + 0 ≤ 600000; omega) (by show b + 0 ≤ 7302250; omega) rfl rfl (jB_2 H.1) (jcall (hX _) ?_)
  rintro r h1 ⟨w, hw, rfl, B1, hs1⟩
  show G 1533 _ _ _ _ _
  have hsc1 := hs1.trans hsc
  have hR := fun (x0 : Int32) => jB_rint (p := (zcount z x0, z)) B1 (ty_count z x0) (fun E => r_count B1.len E x0)
  refine hG [1539] 300 _ _ _ _ _ _ ?_
  conv => whnf
  refine ⟨_, _, _, hsc1, nI_add _ _, (show i + 1 < L by omega), ?_⟩
  conv => whnf
  refine hG [1542] 1 _ _ _ _ _ _ ?_
  rw [jw1, p2]
  refine jvS (r := 20) (rest := [.int w]) (by show a + 0 + 0 ≤ 600000; omega) (by show b + 0 + 0 ≤ 7302250; omega) rfl rfl (jB_20 B1) (jcall (hR _) ?_)
  rintro r h2 ⟨w2, hw2, rfl, B2, hs2⟩
  cases hw.symm.trans hw2
  show G 1542 _ _ _ _ _
  have fin := hB (a := a + 0 + 0) (b := b + 0 + 0) (a + 180) (b + 3800) (by omega) (by omega) (nx h2 _ ⟨B2, H.2.1, hs2.trans hsc1⟩)
  refine hG [1547] 300 _ _ _ _ _ _ ?_
  conv => whnf
  refine ⟨fun _ => fin, fun c => absurd rfl c⟩
