/-! the law: what its orders answer; both sides by one state -/
theorem jCt_sc {Y : jY} {As : List Value} {h : List jC} {Ψ : jPost} (hc : jCt Y As h Ψ) : jCt Y As h (fun r h' => Ψ r h' ∧ h'[1]? = h[1]?) := by
  intro l g
  refine MetFree.mono (hc l g) (fun _ _ q => q) (fun _ _ _ _ _ q => q) (fun a st o t hp q => ?_)
  obtain ⟨⟨⟨r, h', h1, h2, h3⟩, h4⟩, h5⟩ := q
  exact ⟨⟨⟨r, h', ⟨h1, h3.2.2.1.trans hp.2.1.2.2.1.symm⟩, h2, h3⟩, h4⟩, h5⟩
theorem jB_2 {h : List jC} {z w : zS} (b : jB h z w) : ∃ vs, h[2]? = some (.inr (10, vs)) := by
  obtain ⟨⟨τ, ρ, ω, κ, π, n, t, k, H⟩, -⟩ := b
  exact ⟨_, H.1⟩
theorem jB_20 {h : List jC} {z w : zS} (b : jB h z w) : ∃ vs, h[20]? = some (.inr (11, vs)) := by
  have hh := b.len
  obtain ⟨-, s, I, L, F, e, E⟩ := b
  rw [e]
  exact ⟨_, m_0 hh⟩
theorem jB_xint {h : List jC} {z w : zS} (b : jB h z w) {Y : jY} {As : List Value} {p : Value × zS} (ht : ∃ v, p.1 = Value.int v) (hc : ∀ {τ}, EncX τ h z → jCt Y As h (xPost h p.1 p.2)) : jCt Y As h (fun r h' => ∃ v, p.1 = Value.int v ∧ r = some (.int v) ∧ jB h' p.2 w ∧ h'[1]? = h[1]?) := by
  obtain ⟨⟨τ, X⟩, -⟩ := id b
  refine jCt_mono (jCt_sc (hc X)) ?_
  rintro r h' ⟨hp, hs⟩
  obtain ⟨p1, p2⟩ := jB_class b hp
  obtain ⟨v, hv⟩ := ht
  exact ⟨v, hv, by rw [p1, hv], p2, hs⟩
theorem jB_rint {h : List jC} {z w : zS} (b : jB h z w) {Y : jY} {As : List Value} {p : Value × zS} (ht : ∃ v, p.1 = Value.int v) (hc : ∀ {s I L F}, EncR s I L F w → jCt Y As (jR h s I L F) (zPost h p.1 p.2)) : jCt Y As h (fun r h' => ∃ v, p.1 = Value.int v ∧ r = some (.int v) ∧ jB h' z p.2 ∧ h'[1]? = h[1]?) := by
  obtain ⟨-, s, I, L, F, e, E⟩ := id b
  have h0 := hc E
  rw [← e] at h0
  refine jCt_mono (jCt_sc h0) ?_
  rintro r h' ⟨hp, hs⟩
  obtain ⟨p1, p2⟩ := jB_ref b hp
  obtain ⟨v, hv⟩ := ht
  exact ⟨v, hv, by rw [p1, hv], p2, hs⟩
theorem jB_xlong {h : List jC} {z w : zS} (b : jB h z w) {Y : jY} {As : List Value} {p : Value × zS} (ht : ∃ v, p.1 = Value.long v) (hc : ∀ {τ}, EncX τ h z → jCt Y As h (xPost h p.1 p.2)) : jCt Y As h (fun r h' => ∃ v, p.1 = Value.long v ∧ r = some (.long v) ∧ jB h' p.2 w ∧ h'[1]? = h[1]?) := by
  obtain ⟨⟨τ, X⟩, -⟩ := id b
  refine jCt_mono (jCt_sc (hc X)) ?_
  rintro r h' ⟨hp, hs⟩
  obtain ⟨p1, p2⟩ := jB_class b hp
  obtain ⟨v, hv⟩ := ht
  exact ⟨v, hv, by rw [p1, hv], p2, hs⟩
theorem jB_rlong {h : List jC} {z w : zS} (b : jB h z w) {Y : jY} {As : List Value} {p : Value × zS} (ht : ∃ v, p.1 = Value.long v) (hc : ∀ {s I L F}, EncR s I L F w → jCt Y As (jR h s I L F) (zPost h p.1 p.2)) : jCt Y As h (fun r h' => ∃ v, p.1 = Value.long v ∧ r = some (.long v) ∧ jB h' z p.2 ∧ h'[1]? = h[1]?) := by
  obtain ⟨-, s, I, L, F, e, E⟩ := id b
  have h0 := hc E
  rw [← e] at h0
  refine jCt_mono (jCt_sc h0) ?_
  rintro r h' ⟨hp, hs⟩
  obtain ⟨p1, p2⟩ := jB_ref b hp
  obtain ⟨v, hv⟩ := ht
  exact ⟨v, hv, by rw [p1, hv], p2, hs⟩
theorem ty_zero (z : zS) (x0 : Int32) (x1 : Int32) : ∃ v, (zzero z x0 x1).1 = Value.int v := by
  unfold zzero
  (try dsimp only)
  repeat' (first | exact ⟨_, zstl_1 _ _ _ _ _⟩ | split)
  all_goals exact ⟨_, rfl⟩
theorem ty_put (z : zS) (x0 : Int32) (x1 : Int32) (x2 : Int64) : ∃ v, (zput z x0 x1 x2).1 = Value.int v := by
  unfold zput
  (try dsimp only)
  repeat' (first | exact ⟨_, zstl_1 _ _ _ _ _⟩ | split)
  all_goals exact ⟨_, rfl⟩
theorem ty_of (z : zS) (x0 : Int32) (x1 : Int32) : ∃ v, ((zof z x0 x1, z)).1 = Value.long v := by
  unfold zof
  (try dsimp only)
  repeat' (first | exact ⟨_, zstl_1 _ _ _ _ _⟩ | split)
  all_goals exact ⟨_, rfl⟩
theorem ty_fund (z : zS) (x0 : Int32) (x1 : Int32) (x2 : Int64) : ∃ v, (zfund z x0 x1 x2).1 = Value.int v := by
  unfold zfund
  (try dsimp only)
  repeat' (first | exact ⟨_, zstl_1 _ _ _ _ _⟩ | split)
  all_goals exact ⟨_, rfl⟩
theorem ty_inF (z : zS) (x0 : Int32) (x1 : Int32) : ∃ v, (zinF z x0 x1).1 = Value.long v := by
  unfold zinF
  (try dsimp only)
  repeat' (first | exact ⟨_, zstl_1 _ _ _ _ _⟩ | split)
  all_goals exact ⟨_, rfl⟩
theorem ty_told (z : zS) (x0 : Int32) (x1 : Int32) : ∃ v, ((ztold z x0 x1, z)).1 = Value.int v := by
  unfold ztold
  (try dsimp only)
  repeat' (first | exact ⟨_, zstl_1 _ _ _ _ _⟩ | split)
  all_goals exact ⟨_, rfl⟩
theorem ty_comp (z : zS) (x0 : Int32) (x1 : Int32) (x2 : Int32) : ∃ v, ((zcomp x0 x1 x2, z)).1 = Value.int v := by
  unfold zcomp
  (try dsimp only)
  repeat' (first | exact ⟨_, zstl_1 _ _ _ _ _⟩ | split)
  all_goals exact ⟨_, rfl⟩
theorem ty_sum (z : zS) (x0 : Int32) (x1 : Int32) (x2 : Int32) : ∃ v, (zsum z x0 x1 x2).1 = Value.int v := by
  unfold zsum
  (try dsimp only)
  repeat' (first | exact ⟨_, zstl_1 _ _ _ _ _⟩ | split)
  all_goals exact ⟨_, rfl⟩
theorem ty_mul (z : zS) (x0 : Int32) (x1 : Int32) (x2 : Int32) : ∃ v, (zmul z x0 x1 x2).1 = Value.int v := by
  unfold zmul
  (try dsimp only)
  repeat' (first | exact ⟨_, zstl_1 _ _ _ _ _⟩ | split)
  all_goals exact ⟨_, rfl⟩
theorem ty_anti (z : zS) (x0 : Int32) (x1 : Int32) : ∃ v, (zanti z x0 x1).1 = Value.int v := by
  unfold zanti
  (try dsimp only)
  repeat' (first | exact ⟨_, zstl_1 _ _ _ _ _⟩ | split)
  all_goals exact ⟨_, rfl⟩
theorem ty_cut (z : zS) (x0 : Int32) (x1 : Int32) (x2 : Int32) (x3 : Int32) : ∃ v, ((zcut z x0 x1 x2 x3, z)).1 = Value.long v := by
  unfold zcut
  (try dsimp only)
  repeat' (first | exact ⟨_, zstl_1 _ _ _ _ _⟩ | split)
  all_goals exact ⟨_, rfl⟩
theorem ty_counts (z : zS) (x0 : Int32) (x1 : Int32) : ∃ v, (zcounts z x0 x1).1 = Value.long v := by
  unfold zcounts
  (try dsimp only)
  repeat' (first | exact ⟨_, zstl_1 _ _ _ _ _⟩ | split)
  all_goals exact ⟨_, rfl⟩
theorem ty_order (z : zS) (x0 : Int32) : ∃ v, (zorder z x0).1 = Value.int v := by
  unfold zorder
  (try dsimp only)
  repeat' (first | exact ⟨_, zstl_1 _ _ _ _ _⟩ | split)
  all_goals exact ⟨_, rfl⟩
theorem ty_below (z : zS) (x0 : Int32) (x1 : Int32) : ∃ v, (zbelow z x0 x1).1 = Value.int v := by
  unfold zbelow
  (try dsimp only)
  repeat' (first | exact ⟨_, zstl_1 _ _ _ _ _⟩ | split)
  all_goals exact ⟨_, rfl⟩
theorem ty_isb (z : zS) (x0 : Int32) (x1 : Int32) : ∃ v, ((zisb z x0 x1, z)).1 = Value.int v := by
  unfold zisb
  (try dsimp only)
  repeat' (first | exact ⟨_, zstl_1 _ _ _ _ _⟩ | split)
  all_goals exact ⟨_, rfl⟩
theorem ty_rowOf (z : zS) (x0 : Int32) (x1 : Int32) : ∃ v, ((zrowOf z x0 x1, z)).1 = Value.int v := by
  unfold zrowOf
  (try dsimp only)
  repeat' (first | exact ⟨_, zstl_1 _ _ _ _ _⟩ | split)
  all_goals exact ⟨_, rfl⟩
theorem ty_marks (z : zS) (x0 : Int32) (x1 : Int32) : ∃ v, ((zmarks z x0 x1, z)).1 = Value.int v := by
  unfold zmarks
  (try dsimp only)
  repeat' (first | exact ⟨_, zstl_1 _ _ _ _ _⟩ | split)
  all_goals exact ⟨_, rfl⟩
theorem ty_make (z : zS) (x0 : Int32) : ∃ v, (zmake z x0).1 = Value.int v := by
  unfold zmake
  (try dsimp only)
  repeat' (first | exact ⟨_, zstl_1 _ _ _ _ _⟩ | split)
  all_goals exact ⟨_, rfl⟩
theorem ty_laid (z : zS) (x0 : Int32) : ∃ v, ((zlaid z x0, z)).1 = Value.int v := by
  unfold zlaid
  (try dsimp only)
  repeat' (first | exact ⟨_, zstl_1 _ _ _ _ _⟩ | split)
  all_goals exact ⟨_, rfl⟩
theorem ty_share (z : zS) (x0 : Int32) (x1 : Int32) : ∃ v, ((zshare z x0 x1, z)).1 = Value.int v := by
  unfold zshare
  (try dsimp only)
  repeat' (first | exact ⟨_, zstl_1 _ _ _ _ _⟩ | split)
  all_goals exact ⟨_, rfl⟩
theorem ty_warm (z : zS) (x0 : Int32) (x1 : Int32) (x2 : Int32) : ∃ v, (zwarm z x0 x1 x2).1 = Value.int v := by
  unfold zwarm
  (try dsimp only)
  repeat' (first | exact ⟨_, zstl_1 _ _ _ _ _⟩ | split)
  all_goals exact ⟨_, rfl⟩
theorem ty_warmth (z : zS) (x0 : Int32) : ∃ v, ((zwarmth z x0, z)).1 = Value.long v := by
  unfold zwarmth
  (try dsimp only)
  repeat' (first | exact ⟨_, zstl_1 _ _ _ _ _⟩ | split)
  all_goals exact ⟨_, rfl⟩
theorem ty_store (z : zS) (x0 : Int32) (x1 : Int32) (x2 : Int32) (x3 : Int32) : ∃ v, (zstore z x0 x1 x2 x3).1 = Value.int v := by
  unfold zstore
  (try dsimp only)
  repeat' (first | exact ⟨_, zstl_1 _ _ _ _ _⟩ | split)
  all_goals exact ⟨_, rfl⟩
theorem ty_fetch (z : zS) (x0 : Int32) (x1 : Int32) (x2 : Int32) : ∃ v, (zfetch z x0 x1 x2).1 = Value.int v := by
  unfold zfetch
  (try dsimp only)
  repeat' (first | exact ⟨_, zstl_1 _ _ _ _ _⟩ | split)
  all_goals exact ⟨_, rfl⟩
theorem ty_holds (z : zS) (x0 : Int32) (x1 : Int32) : ∃ v, ((zholds z x0 x1, z)).1 = Value.int v := by
  unfold zholds
  (try dsimp only)
  repeat' (first | exact ⟨_, zstl_1 _ _ _ _ _⟩ | split)
  all_goals exact ⟨_, rfl⟩
theorem ty_row (z : zS) (x0 : Int32) (x1 : Int32) : ∃ v, (zrow z x0 x1).1 = Value.int v := by
  unfold zrow
  (try dsimp only)
  repeat' (first | exact ⟨_, zstl_1 _ _ _ _ _⟩ | split)
  all_goals exact ⟨_, rfl⟩
theorem ty_lay (z : zS) (x0 : Int32) (x1 : Int32) (x2 : Int32) : ∃ v, (zlay z x0 x1 x2).1 = Value.int v := by
  unfold zlay
  (try dsimp only)
  repeat' (first | exact ⟨_, zstl_1 _ _ _ _ _⟩ | split)
  all_goals exact ⟨_, rfl⟩
theorem ty_get (z : zS) (x0 : Int32) (x1 : Int32) : ∃ v, ((zget z x0 x1, z)).1 = Value.long v := by
  unfold zget
  (try dsimp only)
  repeat' (first | exact ⟨_, zstl_1 _ _ _ _ _⟩ | split)
  all_goals exact ⟨_, rfl⟩
theorem ty_copy (z : zS) (x0 : Int32) (x1 : Int32) (x2 : Int32) (x3 : Int32) (x4 : Int32) : ∃ v, (zcopy z x0 x1 x2 x3 x4).1 = Value.int v := by
  unfold zcopy
  (try dsimp only)
  repeat' (first | exact ⟨_, zstl_1 _ _ _ _ _⟩ | split)
  all_goals exact ⟨_, rfl⟩
theorem ty_film (z : zS) (x0 : Int32) (x1 : Int32) : ∃ v, (zfilm z x0 x1).1 = Value.int v := by
  unfold zfilm
  (try dsimp only)
  repeat' (first | exact ⟨_, zstl_1 _ _ _ _ _⟩ | split)
  all_goals exact ⟨_, rfl⟩
theorem ty_judge (z : zS) (x0 : Int32) : ∃ v, ((zjudge z x0, z)).1 = Value.int v := by
  unfold zjudge
  (try dsimp only)
  repeat' (first | exact ⟨_, zstl_1 _ _ _ _ _⟩ | split)
  all_goals exact ⟨_, rfl⟩
theorem ty_back (z : zS) : ∃ v, (zback z).1 = Value.int v := by
  unfold zback
  (try dsimp only)
  repeat' (first | exact ⟨_, zstl_1 _ _ _ _ _⟩ | split)
  all_goals exact ⟨_, rfl⟩
theorem ty_feed (z : zS) (x0 : Int32) : ∃ v, (zfeed z x0).1 = Value.int v := by
  unfold zfeed
  (try dsimp only)
  repeat' (first | exact ⟨_, zstl_1 _ _ _ _ _⟩ | split)
  all_goals exact ⟨_, rfl⟩
theorem ty_wipe (z : zS) : ∃ v, (zwipe z).1 = Value.int v := by
  unfold zwipe
  (try dsimp only)
  repeat' (first | exact ⟨_, zstl_1 _ _ _ _ _⟩ | split)
  all_goals exact ⟨_, rfl⟩
theorem ty_read (z : zS) (x0 : Int32) : ∃ v, (zread z x0).1 = Value.int v := by
  by_cases c : isReg x0
  · rw [zread_eq z x0 c]
    split
    · exact ⟨_, rfl⟩
    · exact zadd_int (jrd_int _ _ _ _)
  · rw [zread, if_neg c]
    exact ⟨_, rfl⟩
theorem ty_why (z : zS) (x0 : Int32) (x1 : Int32) : ∃ v, ((zwhy z x0 x1, z)).1 = Value.int v := by
  unfold zwhy
  (try dsimp only)
  repeat' (first | exact ⟨_, zstl_1 _ _ _ _ _⟩ | split)
  all_goals exact ⟨_, rfl⟩
theorem ty_image (z : zS) : ∃ v, (zimage z).1 = Value.int v := by
  unfold zimage
  (try dsimp only)
  repeat' (first | exact ⟨_, zstl_1 _ _ _ _ _⟩ | split)
  all_goals exact ⟨_, rfl⟩
theorem ty_restore (z : zS) : ∃ v, (zrestore z).1 = Value.int v := by
  unfold zrestore
  (try dsimp only)
  repeat' (first | exact ⟨_, zstl_1 _ _ _ _ _⟩ | split)
  all_goals exact ⟨_, rfl⟩
theorem ty_count (z : zS) (x0 : Int32) : ∃ v, ((zcount z x0, z)).1 = Value.int v := by
  unfold zcount
  (try dsimp only)
  repeat' (first | exact ⟨_, zstl_1 _ _ _ _ _⟩ | split)
  all_goals exact ⟨_, rfl⟩
