theorem en_arr {args : Array Value} {s : State} {ty : FieldType} (hno : ∀ C, ty ≠ .object C) (h : (Cond.arrayClass ty).before args s = true) : ∃ cA : ClassId, ArrOfT s cA ty ∧ va_RA s cA ty := by
  obtain ⟨cA, kA, comp, h1, h2, h3⟩ := Cond.arrayClass_spec h
  refine ⟨cA, fun n z => ⟨fun k h => (by cases h), kA, h2, comp, h3⟩, ?_⟩
  cases ty <;> first | exact absurd rfl (hno _) | exact h1
theorem en_arrq {args : Array Value} {s : State} {C : String} (h : (Cond.arrayOver (.object C)).before args s = true) : ∃ cA : ClassId, ArrOfT s cA (.object C) ∧ va_RA s cA (.object C) := by
  obtain ⟨comp, cA, kA, h1, h2, h3, h4, h5⟩ := Cond.arrayOver_spec h
  exact ⟨cA, fun n z => ⟨fun k h => (by cases h), kA, h3, comp, h4⟩, kA, comp, h3, h4, h1, h5⟩
set_option maxRecDepth 100000 in
theorem en_K {s : State} {b : Nat} (hts : ∀ w ∈ lw_tbl, w.before #[Value.ref b] s = true) : ∃ (dC : Nat → ClassId) (dI : Nat → Nat → Nat) (ct : Nat → ClassId), va_K (dC, dI) vwCl (Ty ct) s := by
  have htL : ∀ w ∈ wsL_law, w.before #[Value.ref b] s = true := fun w hw => hts w (wsL_law_in w hw)
  obtain ⟨c0, i0, h0⟩ := u_known (C := RX0) (T := TX0) (N := 7) (n := 7) hts inX0 (htL _ (List.mem_of_getElem? (i := 25) rfl))
  obtain ⟨c1, i1, h1⟩ := u_known (C := RX1) (T := TX1) (N := 17) (n := 17) hts inX1 (htL _ (List.mem_of_getElem? (i := 36) rfl))
  obtain ⟨c2, i2, h2⟩ := u_known (C := RX2) (T := TX2) (N := 10) (n := 10) hts inX2 (htL _ (List.mem_of_getElem? (i := 21) rfl))
  obtain ⟨c3, i3, h3⟩ := u_known (C := RX3) (T := TX3) (N := 13) (n := 13) hts inX3 (htL _ (List.mem_of_getElem? (i := 41) rfl))
  obtain ⟨c4, i4, h4⟩ := u_known (C := RX4) (T := TX4) (N := 8) (n := 8) hts inX4 (htL _ (List.mem_of_getElem? (i := 17) rfl))
  obtain ⟨c5, i5, h5⟩ := u_known (C := RX5) (T := TX5) (N := 2) (n := 2) hts inX5 (htL _ (List.mem_of_getElem? (i := 13) rfl))
  obtain ⟨c6, i6, h6⟩ := u_known (C := RX6) (T := TX6) (N := 2) (n := 2) hts inX6 (htL _ (List.mem_of_getElem? (i := 29) rfl))
  obtain ⟨c7, i7, h7⟩ := u_known (C := RX7) (T := TX7) (N := 11) (n := 11) hts inX7 (htL _ (List.mem_of_getElem? (i := 1) rfl))
  obtain ⟨c8, i8, h8⟩ := u_known (C := RX8) (T := TX8) (N := 45) (n := 45) hts inX8 (htL _ (List.mem_of_getElem? (i := 4) rfl))
  obtain ⟨t0, g0⟩ := en_arr (ty := .int) (fun _ h => by cases h) (htL _ (List.mem_of_getElem? (i := 54) rfl))
  obtain ⟨t1, g1⟩ := en_arr (ty := .byte) (fun _ h => by cases h) (htL _ (List.mem_of_getElem? (i := 48) rfl))
  obtain ⟨t2, g2⟩ := en_arr (ty := .boolean) (fun _ h => by cases h) (htL _ (List.mem_of_getElem? (i := 33) rfl))
  obtain ⟨t3, g3⟩ := en_arr (ty := .long) (fun _ h => by cases h) (htL _ (List.mem_of_getElem? (i := 135) rfl))
  obtain ⟨t4, g4⟩ := en_arrq (C := "MoonDebts$Market") (hts (.arrayOver (.object "MoonDebts$Market")) (by decide +kernel))
  refine ⟨fun k => match k with | 0 => c0 | 1 => c1 | 2 => c2 | 3 => c3 | 4 => c4 | 5 => c5 | 6 => c6 | 7 => c7 | 8 => c8 | _ => c0, fun k => match k with | 0 => i0 | 1 => i1 | 2 => i2 | 3 => i3 | 4 => i4 | 5 => i5 | 6 => i6 | 7 => i7 | 8 => i8 | _ => i0, fun k => match k with | 0 => t0 | 1 => t1 | 2 => t2 | 3 => t3 | 4 => t4 | _ => t0, ?_, ?_⟩
  · intro k q hq
    match k, hq with
    | 0, hq => obtain rfl : (RX0, TX0, 7) = q := Option.some.inj hq; exact h0
    | 1, hq => obtain rfl : (RX1, TX1, 17) = q := Option.some.inj hq; exact h1
    | 2, hq => obtain rfl : (RX2, TX2, 10) = q := Option.some.inj hq; exact h2
    | 3, hq => obtain rfl : (RX3, TX3, 13) = q := Option.some.inj hq; exact h3
    | 4, hq => obtain rfl : (RX4, TX4, 8) = q := Option.some.inj hq; exact h4
    | 5, hq => obtain rfl : (RX5, TX5, 2) = q := Option.some.inj hq; exact h5
    | 6, hq => obtain rfl : (RX6, TX6, 2) = q := Option.some.inj hq; exact h6
    | 7, hq => obtain rfl : (RX7, TX7, 11) = q := Option.some.inj hq; exact h7
    | 8, hq => obtain rfl : (RX8, TX8, 45) = q := Option.some.inj hq; exact h8
    | k + 9, hq => simp [vwCl] at hq
  · intro k q hq
    match k, hq with
    | 0, hq => obtain rfl : (t0, .int) = q := Option.some.inj hq; exact g0
    | 1, hq => obtain rfl : (t1, .byte) = q := Option.some.inj hq; exact g1
    | 2, hq => obtain rfl : (t2, .boolean) = q := Option.some.inj hq; exact g2
    | 3, hq => obtain rfl : (t3, .long) = q := Option.some.inj hq; exact g3
    | 4, hq => obtain rfl : (t4, .object "MoonDebts$Market") = q := Option.some.inj hq; exact g4
    | k + 5, hq => simp [Ty] at hq
theorem en_N {s : State} {b : Nat} {A : Nat → Prop} {H : Heap} (hts : ∀ w ∈ lw_tbl, w.before #[Value.ref b] s = true) : EN A s H :=
  ⟨va_Nw.of rfl (hts (.methodLinkNest RX7 9 yX5_init RX7) (by decide +kernel)), va_Nw.of rfl (hts (.methodLinkNest RX7 18 yX4_init RX7) (by decide +kernel)), va_Nw.of rfl (hts (.methodLinkNest RX7 25 yX2_init RX7) (by decide +kernel)), va_Nw.of rfl (hts (.methodLinkNest RX7 32 yX0_init RX7) (by decide +kernel)), va_Nw.of rfl (hts (.methodLinkNest RX7 39 yX6_init RX7) (by decide +kernel)), va_Nw.of rfl (hts (.methodLinkNest RX7 54 yX1_init RX7) (by decide +kernel)), va_Nw.of rfl (hts (.methodLinkNest RX0 33 yX2_init RX7) (by decide +kernel)), va_AO.of (hts (.arrayOver (.object RX2)) (by decide +kernel))⟩
theorem en_V {s : State} {b : Nat} {A : Nat → Prop} (hts : ∀ w ∈ lw_tbl, w.before #[Value.ref b] s = true) (hgv : (Jvm.Cond.and given_1 narrow_1).before #[Value.ref b] s = true) (hA : ∀ a : Nat, a < s.heap.size → ¬ A a) : ∃ adK adV : Nat → Nat, EV adK adV A s s.heap := by
  have hf := flat_of_before _ hgv
  obtain ⟨adK, adV, h1, h2⟩ := vk_Sof (args := #[Value.ref b]) (s := s) (N := 11) (tm := fun i => Term.string "MoonDebts$Reader" (ixR.getD i 0)) (len := lenS) (byt := bytS) (A := A) (by decide) (fun i hi => hf _ (ev_ex i hi)) (fun i hi => hf _ (ev_co i hi)) (fun i hi => hf _ (ev_ar i hi)) (fun i hi => hf _ (ev_le i hi)) (fun i hi j hj => hf _ (ev_el i hi j hj)) (fun i j hi hj hn => (ev_ne i j hi hj hn).imp (hf _) (hf _)) hA
  obtain ⟨tL, eL, TL⟩ := va_Tof (args := #[Value.ref b]) (s := s) (tm := .static RX3 "LEAST_OF_SORT" "[I") (ty := .int) (N := 6) (f := fun j => .int (tabL j)) (A := A) (by decide) (hf (.arrayOf (.static RX3 "LEAST_OF_SORT" "[I") .int) (by decide +kernel)) (va_eqt (hf (.eq (.length (.static RX3 "LEAST_OF_SORT" "[I")) (.int (Int32.ofNat 6))) (by decide +kernel))) (fun j hj => va_eqt (hf _ (ev_tL j hj))) hA
  obtain ⟨tM, eM, TM⟩ := va_Tof (args := #[Value.ref b]) (s := s) (tm := .static RX3 "MOST_OF_SORT" "[I") (ty := .int) (N := 6) (f := fun j => .int (tabM j)) (A := A) (by decide) (hf (.arrayOf (.static RX3 "MOST_OF_SORT" "[I") .int) (by decide +kernel)) (va_eqt (hf (.eq (.length (.static RX3 "MOST_OF_SORT" "[I")) (.int (Int32.ofNat 6))) (by decide +kernel))) (fun j hj => va_eqt (hf _ (ev_tM j hj))) hA
  refine ⟨adK, adV, h1, fun i hi => vk_R.of (hts _ (ev_sr i hi)) (h2 i hi), fun i hi => vk_R.of (hts _ (ev_so i hi)) (va_eqR (hf _ (ev_on i hi)) (h2 i hi)), ?_, ?_, ⟨tL, ?_, TL⟩, ⟨tM, ?_, TM⟩, va_Nw.of rfl (hts (.methodLinkNest RX3 164 yX7_isIn RX7) (by decide +kernel))⟩
  · exact va_Zof (hts (.laysStatic "java/lang/String" "COMPACT_STRINGS" "Z") (by decide +kernel)) (hts (.initialized "java/lang/String") (by decide +kernel)) (va_eqt (hf (.eq (.static "java/lang/String" "COMPACT_STRINGS" "Z") (.int 1)) (by decide +kernel))) hA
  · exact va_Zqof (hts (.laysStatic "jdk/internal/util/Preconditions" "SIOOBE_FORMATTER" "Ljava/util/function/BiFunction;") (by decide +kernel)) (hts (.initialized "jdk/internal/util/Preconditions") (by decide +kernel)) (hf (.isRef (.static "jdk/internal/util/Preconditions" "SIOOBE_FORMATTER" "Ljava/util/function/BiFunction;")) (by decide +kernel)) hA
  · exact va_Zref (hts (.laysStatic RX3 "LEAST_OF_SORT" "[I") (by decide +kernel)) (hts (.initialized RX3) (by decide +kernel)) eL hA
  · exact va_Zref (hts (.laysStatic RX3 "MOST_OF_SORT" "[I") (by decide +kernel)) (hts (.initialized RX3) (by decide +kernel)) eM hA
