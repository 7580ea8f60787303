/-! the start: what the machine holds at the law's entry -/
theorem jgw_at {w : Cond} (h : jgw w = true) {args : Array Value} {s : State} (hb : w.before args s = true) : va_Nw w s := by
  unfold jgw at h
  split at h
  · exact va_Nw.of rfl hb
  · exact va_Nw.of rfl hb
  · exact va_Nw.of rfl hb
  · exact va_Nw.of rfl hb
  · rcases good_of_word h with h | ⟨ty, rfl⟩
    · exact va_Nw.of (Bool.and_eq_true _ _ |>.mp h).1 hb
    · exact hb
theorem jlen_small {args : Array Value} {s : State} {t : Term} {a : Addr} {cell : Cell} {z : Value} (ht : t.eval args s none [] s = some (.ref a)) (harr : s.arrayAt? a = some cell) (hv : (Term.length t).eval args s none [] s = some z) : cell.slots.size < 2 ^ 31 := by
  simp only [Term.eval, ht, harr, Option.bind_eq_bind, Option.bind_some] at hv
  by_cases hlt : cell.slots.size < 2147483648
  · exact hlt
  · simp [hlt] at hv
theorem jeq_int {args : Array Value} {s : State} {t : Term} {z : Int32} (h : (Cond.eq t (.int z)).before args s = true) : t.eval args s none [] s = some (.int z) := by
  cases hv : t.eval args s none [] s with
  | none => simp [Cond.before, Cond.holds, Cond.value, hv] at h
  | some w =>
    have hz : (Term.int z).eval args s none [] s = some (.int z) := rfl
    simp only [Cond.before, Cond.holds, Cond.value, hv, hz] at h
    cases w <;> simp_all
theorem jst_prim {args : Array Value} {s : State} {ty : FieldType} (h : (Cond.arrayClass ty).before args s = true) (hp : ∀ cA, s.vm.findClass ("[" ++ ty.toString) = some cA → va_RA s cA ty) : ∃ cA : ClassId, ArrOfT s cA ty ∧ va_RA s cA ty := by
  obtain ⟨c, k, comp, h1, h2, h3⟩ := Cond.arrayClass_spec h
  exact ⟨c, fun n z => ⟨fun k h => (by cases h), k, h2, comp, h3⟩, hp c h1⟩
theorem jst_obj {args : Array Value} {s : State} {C : String} (h : (Cond.arrayOver (.object C)).before args s = true) : ∃ cA : ClassId, ArrOfT s cA (.object C) ∧ va_RA s cA (.object C) := by
  obtain ⟨comp, c, k, h1, -, h2, h3, h4⟩ := Cond.arrayOver_spec h
  exact ⟨c, fun N z => ⟨(fun k h => by cases h), k, h2, comp, h3⟩, k, comp, h2, h3, h1, h4⟩
theorem jst_ty {args : Array Value} {s : State} (hts : ∀ w ∈ lw_tbl, w.before args s = true) : ∀ ty : FieldType, ∃ cA : ClassId, ty ∈ jtys → ArrOfT s cA ty ∧ va_RA s cA ty := by
  have k1 := jst_prim (hts _ (jmem (w := Cond.arrayClass .int) 138 (by decide +kernel))) (fun _ h => h)
  have k2 := jst_prim (hts _ (jmem (w := Cond.arrayClass .long) 192 (by decide +kernel))) (fun _ h => h)
  have k3 := jst_prim (hts _ (jmem (w := Cond.arrayClass .float) 169 (by decide +kernel))) (fun _ h => h)
  have k4 := jst_prim (hts _ (jmem (w := Cond.arrayClass .boolean) 1042 (by decide +kernel))) (fun _ h => h)
  have k5 := jst_obj (hts _ (jmem (w := Cond.arrayOver (.object "QuasiSums$Sum")) 89 (by decide +kernel)))
  have k6 := jst_obj (hts _ (jmem (w := Cond.arrayOver (.object "QuasiSums$Item")) 140 (by decide +kernel)))
  have k7 := jst_obj (hts _ (jmem (w := Cond.arrayOver (.object "QuasiSums$Row")) 142 (by decide +kernel)))
  have k8 := jst_obj (hts _ (jmem (w := Cond.arrayOver (.object "java/lang/Object")) 299 (by decide +kernel)))
  intro ty
  by_cases hty : ty ∈ jtys
  · simp only [jtys, List.mem_cons, List.not_mem_nil, or_false] at hty
    rcases hty with rfl | rfl | rfl | rfl | rfl | rfl | rfl | rfl
    · exact k1.imp (fun _ h _ => h)
    · exact k2.imp (fun _ h _ => h)
    · exact k3.imp (fun _ h _ => h)
    · exact k4.imp (fun _ h _ => h)
    · exact k5.imp (fun _ h _ => h)
    · exact k6.imp (fun _ h _ => h)
    · exact k7.imp (fun _ h _ => h)
    · exact k8.imp (fun _ h _ => h)
  · obtain ⟨cA, -⟩ := k1
    exact ⟨cA, fun h => absurd h hty⟩
theorem jst_cl {args : Array Value} {s : State} (hts : ∀ w ∈ lw_tbl, w.before args s = true) : ∀ c : Nat, ∃ p : ClassId × (Nat → Nat), ∀ q, vwCl[c]? = some q → u_Kn s q.1 q.2.1 q.2.2 p.1 p.2 := by
  obtain ⟨c0, i0, h0⟩ := u_known (C := RJx4a65c) (T := TJx4a65c) (N := 3) (n := 3) hts jin0 (hts _ (jmem (w := Cond.instantiable RJx4a65c 3) 144 (by decide +kernel)))
  obtain ⟨c1, i1, h1⟩ := u_known (C := RX1) (T := TX1) (N := 4) (n := 4) hts jin1 (hts _ (jmem (w := Cond.instantiable RX1 4) 845 (by decide +kernel)))
  obtain ⟨c2, i2, h2⟩ := u_known (C := RX3) (T := TX3) (N := 2) (n := 2) hts jin2 (hts _ (jmem (w := Cond.instantiable RX3 2) 359 (by decide +kernel)))
  obtain ⟨c3, i3, h3⟩ := u_known (C := RX4) (T := TX4) (N := 4) (n := 4) hts jin3 (hts _ (jmem (w := Cond.instantiable RX4 4) 91 (by decide +kernel)))
  obtain ⟨c4, i4, h4⟩ := u_known (C := RX5) (T := TX5) (N := 5) (n := 5) hts jin4 (hts _ (jmem (w := Cond.instantiable RX5 5) 736 (by decide +kernel)))
  obtain ⟨c5, i5, h5⟩ := u_known (C := RX6) (T := TX6) (N := 1) (n := 1) hts jin5 (hts _ (jmem (w := Cond.instantiable RX6 1) 657 (by decide +kernel)))
  obtain ⟨c6, i6, h6⟩ := u_known (C := RX7) (T := TX7) (N := 2) (n := 2) hts jin6 (hts _ (jmem (w := Cond.instantiable RX7 2) 238 (by decide +kernel)))
  obtain ⟨c7, i7, h7⟩ := u_known (C := RX8) (T := TX8) (N := 2) (n := 2) hts jin7 (hts _ (jmem (w := Cond.instantiable RX8 2) 170 (by decide +kernel)))
  obtain ⟨c8, i8, h8⟩ := u_known (C := RX9) (T := TX9) (N := 4) (n := 4) hts jin8 (hts _ (jmem (w := Cond.instantiable RX9 4) 785 (by decide +kernel)))
  obtain ⟨c9, i9, h9⟩ := u_known (C := RX10) (T := TX10) (N := 3) (n := 3) hts jin9 (hts _ (jmem (w := Cond.instantiable RX10 3) 405 (by decide +kernel)))
  obtain ⟨c10, i10, h10⟩ := u_known (C := RX11) (T := TX11) (N := 10) (n := 10) hts jin10 (hts _ (jmem (w := Cond.instantiable RX11 10) 81 (by decide +kernel)))
  obtain ⟨c11, i11, h11⟩ := u_known (C := RX12) (T := TX12) (N := 42) (n := 42) hts jin11 (hts _ (jmem (w := Cond.instantiable RX12 42) 910 (by decide +kernel)))
  intro c
  match c with
  | 0 => exact ⟨(c0, i0), fun q hq => by cases hq; exact h0⟩
  | 1 => exact ⟨(c1, i1), fun q hq => by cases hq; exact h1⟩
  | 2 => exact ⟨(c2, i2), fun q hq => by cases hq; exact h2⟩
  | 3 => exact ⟨(c3, i3), fun q hq => by cases hq; exact h3⟩
  | 4 => exact ⟨(c4, i4), fun q hq => by cases hq; exact h4⟩
  | 5 => exact ⟨(c5, i5), fun q hq => by cases hq; exact h5⟩
  | 6 => exact ⟨(c6, i6), fun q hq => by cases hq; exact h6⟩
  | 7 => exact ⟨(c7, i7), fun q hq => by cases hq; exact h7⟩
  | 8 => exact ⟨(c8, i8), fun q hq => by cases hq; exact h8⟩
  | 9 => exact ⟨(c9, i9), fun q hq => by cases hq; exact h9⟩
  | 10 => exact ⟨(c10, i10), fun q hq => by cases hq; exact h10⟩
  | 11 => exact ⟨(c11, i11), fun q hq => by cases hq; exact h11⟩
  | k + 12 => exact ⟨(c0, i0), fun q hq => by cases hq⟩
abbrev jST : Term := .static "java/util/ArrayList" "DEFAULTCAPACITY_EMPTY_ELEMENTDATA" "[Ljava/lang/Object;"
theorem jK_start {s : State} {b L : Nat} {xs : Nat → Int32} (hts : ∀ w ∈ lw_tbl, w.before #[Value.ref b] s = true) (hX : va_X b L xs s s.heap) (hb : b < s.heap.size) (hL : L ≤ 3072) (hgv : (Jvm.Cond.and given_1 narrow_1).before #[Value.ref b] s = true) : ∃ g : jg, g.1.1 = s.heap.size ∧ g.1.2.1 = b ∧ g.1.2.2.2 = L ∧ g.2.1 = xs ∧ jK g s := by
  have hs := flat_of_before _ hgv
  have hcl := jst_cl hts
  have hty := jst_ty hts
  have h1 : (Cond.arrayOf jST (.object "java/lang/Object")).before #[Value.ref b] s = true := hs _ (by decide +kernel)
  have h2 : (Cond.eq (.length jST) (.int 0)).before #[Value.ref b] s = true := hs _ (by decide +kernel)
  have hv := jeq_int h2
  obtain ⟨e0, cell, ht, harr, hv2⟩ := Term.length_spec hv
  have hsz := jlen_small ht harr hv
  have hz : cell.slots.size = 0 := by
    have e : nI 0 = nI cell.slots.size := by
      injection hv2
    exact ((nI_eq (by decide) hsz).mp e).symm
  obtain ⟨hcell, -, -, -⟩ := State.arrayAt?_spec harr
  have hof := (Cond.arrayOf_spec h1 ht hcell).1
  have he0 : e0 < s.heap.size := (Array.getElem?_eq_some_iff.mp hcell).1
  refine ⟨((s.heap.size, b, e0, L), xs, (fun c => (Classical.choose (hcl c)).1, fun c => (Classical.choose (hcl c)).2), fun ty => Classical.choose (hty ty)), rfl, rfl, rfl, rfl, ?_⟩
  refine ⟨fun w hw => ?_, ⟨fun c q hq => Classical.choose_spec (hcl c) q hq, fun k q hq => ?_⟩, ⟨fun q hq => ?_, fun C hC => ?_⟩, hX, hL, hb, he0, Nat.le_refl _, ⟨cell, hcell, hof, hz⟩, ?_, ?_⟩
  · obtain ⟨m1, m2⟩ := List.mem_filter.mp hw
    exact jgw_at m2 (hts w m1)
  · unfold jtl at hq
    rw [List.getElem?_map] at hq
    obtain ⟨ty, hty1, rfl⟩ := Option.map_eq_some_iff.mp hq
    exact Classical.choose_spec (hty ty) (List.mem_of_getElem? hty1)
  · simp only [jNc, List.mem_cons, List.not_mem_nil, or_false] at hq
    rcases hq with rfl | rfl
    · exact va_Nc.of (hs (.not (.castable "QuasiSums$Row" "QuasiSums$Sum")) (by decide +kernel))
    · exact va_Nc.of (hs (.not (.castable "QuasiSums$Sum" "QuasiSums$Row")) (by decide +kernel))
  · simp only [jAO, List.mem_cons, List.not_mem_nil, or_false] at hC
    rcases hC with rfl | rfl | rfl | rfl
    · exact va_AO.of (hts _ (jmem (w := Cond.arrayOver (.object "QuasiSums$Sum")) 89 (by decide +kernel)))
    · exact va_AO.of (hts _ (jmem (w := Cond.arrayOver (.object "QuasiSums$Item")) 140 (by decide +kernel)))
    · exact va_AO.of (hts _ (jmem (w := Cond.arrayOver (.object "QuasiSums$Row")) 142 (by decide +kernel)))
    · exact va_AO.of (hts _ (jmem (w := Cond.arrayOver (.object "java/lang/Object")) 299 (by decide +kernel)))
  · exact va_Zof (hts _ (jmem (w := Cond.laysStatic "java/util/ArrayList" "DEFAULTCAPACITY_EMPTY_ELEMENTDATA" "[Ljava/lang/Object;") 156 (by decide +kernel))) (hts _ (jmem (w := Cond.initialized "java/util/ArrayList") 59 (by decide +kernel))) ht (fun a ha h => absurd (show s.heap.size ≤ a from h) (by omega))
  · exact va_Mi.of (hs (.isRef (.mirror "[Ljava/lang/Object;")) (by decide +kernel))
theorem jroom {s : State} {pl : Platform} (h : s.hasRoom pl room_1 = true) : s.hasRoom pl (jrm jy_L_law) = true := by
  unfold State.hasRoom at *
  simp only [Bool.and_eq_true, decide_eq_true_eq] at *
  have e1 : (jrm jy_L_law).frames = 19 := rfl
  have e2 : (jrm jy_L_law).locals = 912 := rfl
  have e3 : (jrm jy_L_law).cells = 600000 := rfl
  have e4 : (jrm jy_L_law).slots = 7302250 := rfl
  have f1 : room_1.frames = 2048 := rfl
  have f2 : room_1.locals = 84000 := rfl
  have f3 : room_1.cells = 600000 := rfl
  have f4 : room_1.slots = 7302250 := rfl
  rw [e1, e2, e3, e4]
  rw [f1, f2, f3, f4] at h
  obtain ⟨⟨⟨⟨h1, h2, h3, h4, h5, h6⟩, h7⟩, h8⟩, h9⟩ := h
  refine ⟨⟨⟨⟨?_, ?_, ?_, ?_, ?_, h6⟩, h7⟩, h8⟩, h9⟩ <;> omega
