abbrev rmX7_feed : Room := { frames := 1, cells := 0, slots := 0, locals := 22 }
theorem iwX7_feed_X5 : ∀ w ∈ wsX50, w ∈ wsX7_feed := fun _ h => List.mem_cons_of_mem _ (List.mem_append_right _ (h))
theorem iwX7_feed_X7 : ∀ w ∈ wsX70, w ∈ wsX7_feed := fun _ h => List.mem_cons_of_mem _ (List.mem_append_left _ (List.mem_append_right _ (h)))
set_option maxHeartbeats 4000000 in
set_option maxRecDepth 100000 in
theorem kX7_feed (l : Launch) (dC : Nat → ClassId) (dI : Nat → Nat → Nat) (ct : Nat → ClassId) (aX : Nat → Nat) (aT : Nat → Nat) (xX_reader : Nat) (xX_sowing : Nat) (xX_market : Nat) (xX_book : Nat) (xX_ways : Nat) (xX_land : Nat) (xX_draft : Nat) (xX_im0 : Nat) (xX_im1 : Nat) (xX_im2 : Nat) (sz : Nat) (mX : Mem) (mT : Mem) (v1 : Int32) (v2 : Int32) (v3 : Int32) (v4 : Int32) (v5 : Int32) (res : (Int32 × Mem)) (hM : mX7_feed mX mT v1 v2 v3 v4 v5 = some res) : Met l yX7_feed wsX7_feed rmX7_feed (va_Pc [.ref (aX 0), .int v1, .int v2, .int v3, .int v4, .int v5] (PB (dC, dI) ct E0 sz (wX ct aX (aT 0) xX_reader xX_sowing xX_market xX_book xX_ways xX_land xX_draft xX_im0 xX_im1 xX_im2 mX ++ wT ct aT mT))) (Qi (dC, dI) ct (va_A (wX ct aX (aT 0) xX_reader xX_sowing xX_market xX_book xX_ways xX_land xX_draft xX_im0 xX_im1 xX_im2 mX ++ wT ct aT mT) sz) res.1 (wX ct aX (aT 0) xX_reader xX_sowing xX_market xX_book xX_ways xX_land xX_draft xX_im0 xX_im1 xX_im2 mX ++ wT ct aT res.2)) 0 0 (va_A (wX ct aX (aT 0) xX_reader xX_sowing xX_market xX_book xX_ways xX_land xX_draft xX_im0 xX_im1 xX_im2 mX ++ wT ct aT mT) sz) := by
  refine Met.ofW (cc := cX7_feed) (maxL := 6) (ret := (some .int)) (by decide) rfl ?_
  intro p e s m args below meth c s₁ B hml hv
  obtain ⟨hargs, hsz, hP, hK, hD0, hE⟩ := hv
  have hx := B.exec
  have hb := B.bytes
  have hr := B.returns
  have hts := atoms_spec (ws := wsX7_feed) B.pre
  have hown : s.vm.findClass RX7 = some m.cls := findClass_of_methodNamed B.named
  have hlocks := B.notSynchronized
  clear B s₁
  subst hsz
  have hD := hD0.self (sz := s.heap.size)
  clear hD0
  generalize hAe : va_A (wX ct aX (aT 0) xX_reader xX_sowing xX_market xX_book xX_ways xX_land xX_draft xX_im0 xX_im1 xX_im2 mX ++ wT ct aT mT) s.heap.size = A at hD hE ⊢
  have hA : ∀ q : Nat, s.heap.size ≤ q → A q := fun q h => by rw [← hAe]; exact Or.inr h
  clear hAe
  have hS : va_S A s.heap s.heap [] := va_S.rf
  refine cutQ (fun Q hQ => ?_)
  refine entryW (vs := [.ref (aX 0), .int v1, .int v2, .int v3, .int v4, .int v5]) hargs (Nat.le_of_ble_eq_true rfl) (fun ls hl => ?_)
  replace hl : lv_has ls 6 [(0, .ref (aX 0)), (1, .int v1), (2, .int v2), (3, .int v3), (4, .int v4), (5, .int v5)] := hl
  unfold mX7_feed at hM
  refine lv_aload_n hx hb dX7_feed_0 rfl (lv_at hl 0 rfl) ?_
  refine va_get (D := (dC, dI)) (ci := 7) (v := .ref (aT 0)) (C := RX7) (T := TX7) (N := 11) hx hb hts iwX7_feed_X7 hown hK hP 0 rfl rfl 0 (by decide) (hts _ (List.mem_of_getElem? (i := 1) rfl)) (fun _ h9 => h9) rfl dX7_feed_1 ?_
  refine va_get (D := (dC, dI)) (ci := 5) (v := .int (mT 0 1)) (C := RX5) (T := TX5) (N := 2) hx hb hts iwX7_feed_X5 hown hK hP 3 rfl rfl 1 (by decide) (hts _ (List.mem_of_getElem? (i := 2) rfl)) (fun _ h9 => h9) rfl dX7_feed_4 ?_
  refine lv_bipush (v := 20) hx hb dX7_feed_7 (by decide) ?_
  refine lv_iadd hx hb dX7_feed_9 ?_
  refine lv_sipush (v := 500) hx hb dX7_feed_10 (by decide) ?_
  refine lv_icmp_le (tgt := 18) hx hb dX7_feed_13 (by decide) (fun hc_1 => ?_) (fun hc_1 => ?_)
  · have hM := it_p hc_1 hM
    refine lv_aload_n hx hb dX7_feed_18 rfl (lv_at hl 0 rfl) ?_
    refine va_get (D := (dC, dI)) (ci := 7) (v := .ref (aT 0)) (C := RX7) (T := TX7) (N := 11) hx hb hts iwX7_feed_X7 hown hK hP 0 rfl rfl 0 (by decide) (hts _ (List.mem_of_getElem? (i := 1) rfl)) (fun _ h9 => h9) rfl dX7_feed_19 ?_
    refine lv_iload_n hx hb dX7_feed_22 rfl (lv_at hl 1 rfl) ?_
    obtain ⟨mT_2, hr_3, hM⟩ := bn_some hM
    refine gv_v (wn := (wX ct aX (aT 0) xX_reader xX_sowing xX_market xX_book xX_ways xX_land xX_draft xX_im0 xX_im1 xX_im2 mX ++ wT ct aT mT_2)) (va_runV (As := [.int v1]) (rest := []) ⟨hx, hb, hml, hown, hts⟩ (kX5_append l dC dI ct aT _ mT v1 _ hr_3) (cwV 1 hts gX7_feed_X5_append rfl rfl rfl hvX5_append ⟨Nat.le_of_ble_eq_true rfl, Nat.le_of_ble_eq_true rfl⟩) (preV_of E0_ok hK hP hD (is := [3, 4]) rfl rfl rfl (ci := 5) rfl 3 rfl e_0) rfl rfl hl.1 rfl (lv_room (Nat.le_of_ble_eq_true rfl)) dX7_feed_23 ⟨Nat.le_of_ble_eq_true rfl, Nat.le_of_ble_eq_true rfl⟩) hP hD hS hA [3, 4] [0, 1, 2] [0, 1, 2, 3, 4] rfl rfl rfl (by decide) rfl rfl (fun H locs hP hD hS => ?_)
    refine lv_aload_n hx hb dX7_feed_26 rfl (lv_at hl 0 rfl) ?_
    refine va_get (D := (dC, dI)) (ci := 7) (v := .ref (aT 0)) (C := RX7) (T := TX7) (N := 11) hx hb hts iwX7_feed_X7 hown hK hP 0 rfl rfl 0 (by decide) (hts _ (List.mem_of_getElem? (i := 1) rfl)) (fun _ h9 => h9) rfl dX7_feed_27 ?_
    refine lv_iload_n hx hb dX7_feed_30 rfl (lv_at hl 2 rfl) ?_
    obtain ⟨mT_5, hr_6, hM⟩ := bn_some hM
    refine gv_v (wn := (wX ct aX (aT 0) xX_reader xX_sowing xX_market xX_book xX_ways xX_land xX_draft xX_im0 xX_im1 xX_im2 mX ++ wT ct aT mT_5)) (va_runV (As := [.int v2]) (rest := []) ⟨hx, hb, hml, hown, hts⟩ (kX5_append l dC dI ct aT _ mT_2 v2 _ hr_6) (cwV 1 hts gX7_feed_X5_append rfl rfl rfl hvX5_append ⟨Nat.le_of_ble_eq_true rfl, Nat.le_of_ble_eq_true rfl⟩) (preV_of E0_ok hK hP hD (is := [3, 4]) rfl rfl rfl (ci := 5) rfl 3 rfl e_0) rfl rfl hl.1 rfl (lv_room (Nat.le_of_ble_eq_true rfl)) dX7_feed_31 ⟨Nat.le_of_ble_eq_true rfl, Nat.le_of_ble_eq_true rfl⟩) hP hD hS hA [3, 4] [0, 1, 2] [0, 1, 2, 3, 4] rfl rfl rfl (by decide) rfl rfl (fun H locs hP hD hS => ?_)
    refine lv_aload_n hx hb dX7_feed_34 rfl (lv_at hl 0 rfl) ?_
    refine va_get (D := (dC, dI)) (ci := 7) (v := .ref (aT 0)) (C := RX7) (T := TX7) (N := 11) hx hb hts iwX7_feed_X7 hown hK hP 0 rfl rfl 0 (by decide) (hts _ (List.mem_of_getElem? (i := 1) rfl)) (fun _ h9 => h9) rfl dX7_feed_35 ?_
    refine lv_iload_n hx hb dX7_feed_38 rfl (lv_at hl 3 rfl) ?_
    obtain ⟨mT_8, hr_9, hM⟩ := bn_some hM
    refine gv_v (wn := (wX ct aX (aT 0) xX_reader xX_sowing xX_market xX_book xX_ways xX_land xX_draft xX_im0 xX_im1 xX_im2 mX ++ wT ct aT mT_8)) (va_runV (As := [.int v3]) (rest := []) ⟨hx, hb, hml, hown, hts⟩ (kX5_append l dC dI ct aT _ mT_5 v3 _ hr_9) (cwV 1 hts gX7_feed_X5_append rfl rfl rfl hvX5_append ⟨Nat.le_of_ble_eq_true rfl, Nat.le_of_ble_eq_true rfl⟩) (preV_of E0_ok hK hP hD (is := [3, 4]) rfl rfl rfl (ci := 5) rfl 3 rfl e_0) rfl rfl hl.1 rfl (lv_room (Nat.le_of_ble_eq_true rfl)) dX7_feed_39 ⟨Nat.le_of_ble_eq_true rfl, Nat.le_of_ble_eq_true rfl⟩) hP hD hS hA [3, 4] [0, 1, 2] [0, 1, 2, 3, 4] rfl rfl rfl (by decide) rfl rfl (fun H locs hP hD hS => ?_)
    refine lv_aload_n hx hb dX7_feed_42 rfl (lv_at hl 0 rfl) ?_
    refine va_get (D := (dC, dI)) (ci := 7) (v := .ref (aT 0)) (C := RX7) (T := TX7) (N := 11) hx hb hts iwX7_feed_X7 hown hK hP 0 rfl rfl 0 (by decide) (hts _ (List.mem_of_getElem? (i := 1) rfl)) (fun _ h9 => h9) rfl dX7_feed_43 ?_
    refine lv_iload hx hb dX7_feed_46 (lv_at hl 4 rfl) ?_
    obtain ⟨mT_11, hr_12, hM⟩ := bn_some hM
    refine gv_v (wn := (wX ct aX (aT 0) xX_reader xX_sowing xX_market xX_book xX_ways xX_land xX_draft xX_im0 xX_im1 xX_im2 mX ++ wT ct aT mT_11)) (va_runV (As := [.int v4]) (rest := []) ⟨hx, hb, hml, hown, hts⟩ (kX5_append l dC dI ct aT _ mT_8 v4 _ hr_12) (cwV 1 hts gX7_feed_X5_append rfl rfl rfl hvX5_append ⟨Nat.le_of_ble_eq_true rfl, Nat.le_of_ble_eq_true rfl⟩) (preV_of E0_ok hK hP hD (is := [3, 4]) rfl rfl rfl (ci := 5) rfl 3 rfl e_0) rfl rfl hl.1 rfl (lv_room (Nat.le_of_ble_eq_true rfl)) dX7_feed_48 ⟨Nat.le_of_ble_eq_true rfl, Nat.le_of_ble_eq_true rfl⟩) hP hD hS hA [3, 4] [0, 1, 2] [0, 1, 2, 3, 4] rfl rfl rfl (by decide) rfl rfl (fun H locs hP hD hS => ?_)
    refine lv_aload_n hx hb dX7_feed_51 rfl (lv_at hl 0 rfl) ?_
    refine va_get (D := (dC, dI)) (ci := 7) (v := .ref (aT 0)) (C := RX7) (T := TX7) (N := 11) hx hb hts iwX7_feed_X7 hown hK hP 0 rfl rfl 0 (by decide) (hts _ (List.mem_of_getElem? (i := 1) rfl)) (fun _ h9 => h9) rfl dX7_feed_52 ?_
    refine lv_iload hx hb dX7_feed_55 (lv_at hl 5 rfl) ?_
    obtain ⟨mT_14, hr_15, hM⟩ := bn_some hM
    refine gv_v (wn := (wX ct aX (aT 0) xX_reader xX_sowing xX_market xX_book xX_ways xX_land xX_draft xX_im0 xX_im1 xX_im2 mX ++ wT ct aT mT_14)) (va_runV (As := [.int v5]) (rest := []) ⟨hx, hb, hml, hown, hts⟩ (kX5_append l dC dI ct aT _ mT_11 v5 _ hr_15) (cwV 1 hts gX7_feed_X5_append rfl rfl rfl hvX5_append ⟨Nat.le_of_ble_eq_true rfl, Nat.le_of_ble_eq_true rfl⟩) (preV_of E0_ok hK hP hD (is := [3, 4]) rfl rfl rfl (ci := 5) rfl 3 rfl e_0) rfl rfl hl.1 rfl (lv_room (Nat.le_of_ble_eq_true rfl)) dX7_feed_57 ⟨Nat.le_of_ble_eq_true rfl, Nat.le_of_ble_eq_true rfl⟩) hP hD hS hA [3, 4] [0, 1, 2] [0, 1, 2, 3, 4] rfl rfl rfl (by decide) rfl rfl (fun H locs hP hD hS => ?_)
    refine lv_aload_n hx hb dX7_feed_60 rfl (lv_at hl 0 rfl) ?_
    refine va_get (D := (dC, dI)) (ci := 7) (v := .ref (aT 0)) (C := RX7) (T := TX7) (N := 11) hx hb hts iwX7_feed_X7 hown hK hP 0 rfl rfl 0 (by decide) (hts _ (List.mem_of_getElem? (i := 1) rfl)) (fun _ h9 => h9) rfl dX7_feed_61 ?_
    refine va_get (D := (dC, dI)) (ci := 5) (v := .int (mT_14 0 1)) (C := RX5) (T := TX5) (N := 2) hx hb hts iwX7_feed_X5 hown hK hP 3 rfl rfl 1 (by decide) (hts _ (List.mem_of_getElem? (i := 2) rfl)) (fun _ h9 => h9) rfl dX7_feed_64 ?_
    refine lv_topi (fun x_17 ex_17 => ?_)
    have hM := nm_at ex_17 hM
    have hR := som hM
    rw [hR] at hQ
    exact ret_i hQ hx hb hr hlocks hP hK hD hS dX7_feed_67
  · have hM := it_n hc_1 hM
    refine lv_iconst (v := -1) hx hb dX7_feed_16 (by decide) ?_
    have hR := som hM
    rw [hR] at hQ
    exact ret_i hQ hx hb hr hlocks hP hK hD hS dX7_feed_17
abbrev rmX7_end : Room := { frames := 0, cells := 0, slots := 0, locals := 0 }
theorem iwX7_end_X5 : ∀ w ∈ wsX50, w ∈ wsX7_end := fun _ h => List.mem_cons_of_mem _ (List.mem_append_right _ (h))
theorem iwX7_end_X7 : ∀ w ∈ wsX70, w ∈ wsX7_end := fun _ h => List.mem_cons_of_mem _ (List.mem_append_left _ (List.mem_append_right _ (h)))
set_option maxHeartbeats 4000000 in
set_option maxRecDepth 100000 in
theorem kX7_end (l : Launch) (dC : Nat → ClassId) (dI : Nat → Nat → Nat) (ct : Nat → ClassId) (aX : Nat → Nat) (aT : Nat → Nat) (xX_reader : Nat) (xX_sowing : Nat) (xX_market : Nat) (xX_book : Nat) (xX_ways : Nat) (xX_land : Nat) (xX_draft : Nat) (xX_im0 : Nat) (xX_im1 : Nat) (xX_im2 : Nat) (sz : Nat) (mX : Mem) (mT : Mem) (v1 : Int32) (res : (Int32 × Mem)) (hM : mX7_end mX mT v1 = some res) : Met l yX7_end wsX7_end rmX7_end (va_Pc [.ref (aX 0), .int v1] (PB (dC, dI) ct E0 sz (wX ct aX (aT 0) xX_reader xX_sowing xX_market xX_book xX_ways xX_land xX_draft xX_im0 xX_im1 xX_im2 mX ++ wT ct aT mT))) (Qi (dC, dI) ct (va_A (wX ct aX (aT 0) xX_reader xX_sowing xX_market xX_book xX_ways xX_land xX_draft xX_im0 xX_im1 xX_im2 mX ++ wT ct aT mT) sz) res.1 (wX ct aX (aT 0) xX_reader xX_sowing xX_market xX_book xX_ways xX_land xX_draft xX_im0 xX_im1 xX_im2 mX ++ wT ct aT res.2)) 0 0 (va_A (wX ct aX (aT 0) xX_reader xX_sowing xX_market xX_book xX_ways xX_land xX_draft xX_im0 xX_im1 xX_im2 mX ++ wT ct aT mT) sz) := by
  refine Met.ofW (cc := cX7_end) (maxL := 2) (ret := (some .boolean)) (by decide) rfl ?_
  intro p e s m args below meth c s₁ B hml hv
  obtain ⟨hargs, hsz, hP, hK, hD0, hE⟩ := hv
  have hx := B.exec
  have hb := B.bytes
  have hr := B.returns
  have hts := atoms_spec (ws := wsX7_end) B.pre
  have hown : s.vm.findClass RX7 = some m.cls := findClass_of_methodNamed B.named
  have hlocks := B.notSynchronized
  clear B s₁
  subst hsz
  have hD := hD0.self (sz := s.heap.size)
  clear hD0
  generalize hAe : va_A (wX ct aX (aT 0) xX_reader xX_sowing xX_market xX_book xX_ways xX_land xX_draft xX_im0 xX_im1 xX_im2 mX ++ wT ct aT mT) s.heap.size = A at hD hE ⊢
  have hA : ∀ q : Nat, s.heap.size ≤ q → A q := fun q h => by rw [← hAe]; exact Or.inr h
  clear hAe
  have hS : va_S A s.heap s.heap [] := va_S.rf
  refine cutQ (fun Q hQ => ?_)
  refine entryW (vs := [.ref (aX 0), .int v1]) hargs (Nat.le_of_ble_eq_true rfl) (fun ls hl => ?_)
  replace hl : lv_has ls 2 [(0, .ref (aX 0)), (1, .int v1)] := hl
  unfold mX7_end at hM
  refine lv_iload_n hx hb dX7_end_0 rfl (lv_at hl 1 rfl) ?_
  refine lv_if_lt (tgt := 15) hx hb dX7_end_1 (by decide) (fun hc_1 => ?_) (fun hc_1 => ?_)
  · have hM := it_p hc_1 hM
    refine lv_iconst (v := 0) hx hb dX7_end_15 (by decide) ?_
    have hR := som hM
    rw [hR] at hQ
    exact ret_z hQ hx hb hr hlocks rfl hP hK hD hS dX7_end_16
  · have hM := it_n hc_1 hM
    refine lv_iload_n hx hb dX7_end_4 rfl (lv_at hl 1 rfl) ?_
    refine lv_aload_n hx hb dX7_end_5 rfl (lv_at hl 0 rfl) ?_
    refine va_get (D := (dC, dI)) (ci := 7) (v := .ref (aT 0)) (C := RX7) (T := TX7) (N := 11) hx hb hts iwX7_end_X7 hown hK hP 0 rfl rfl 0 (by decide) (hts _ (List.mem_of_getElem? (i := 1) rfl)) (fun _ h9 => h9) rfl dX7_end_6 ?_
    refine va_get (D := (dC, dI)) (ci := 5) (v := .int (mT 0 1)) (C := RX5) (T := TX5) (N := 2) hx hb hts iwX7_end_X5 hown hK hP 3 rfl rfl 1 (by decide) (hts _ (List.mem_of_getElem? (i := 2) rfl)) (fun _ h9 => h9) rfl dX7_end_9 ?_
    refine lv_icmp_le (tgt := 17) hx hb dX7_end_12 (by decide) (fun hc_2 => ?_) (fun hc_2 => ?_)
    · have hM := it_p hc_2 hM
      refine lv_aload_n hx hb dX7_end_17 rfl (lv_at hl 0 rfl) ?_
      refine va_get (D := (dC, dI)) (ci := 7) (v := .ref (aT 0)) (C := RX7) (T := TX7) (N := 11) hx hb hts iwX7_end_X7 hown hK hP 0 rfl rfl 0 (by decide) (hts _ (List.mem_of_getElem? (i := 1) rfl)) (fun _ h9 => h9) rfl dX7_end_18 ?_
      refine lv_iload_n hx hb dX7_end_21 rfl (lv_at hl 1 rfl) ?_
      refine pf_i (wf := fun z => (wX ct aX (aT 0) xX_reader xX_sowing xX_market xX_book xX_ways xX_land xX_draft xX_im0 xX_im1 xX_im2 mX ++ wT ct aT z)) (m1 := upf mT 1 v1) hx hb hts iwX7_end_X5 tyX5 tyX5_ok nmX5 hown hK hP hD hS 3 rfl rfl 1 (by decide) (hts _ (List.mem_of_getElem? (i := 2) rfl)) (fun _ h9 => h9) rfl rfl rfl (Nat.le_of_ble_eq_true rfl) dX7_end_22 rfl (fun mT_3 emT_3 H locs hP hD hS => ?_)
      have hM := nm_at emT_3 hM
      refine lv_iconst (v := 1) hx hb dX7_end_25 (by decide) ?_
      have hR := som hM
      rw [hR] at hQ
      exact ret_z hQ hx hb hr hlocks rfl hP hK hD hS dX7_end_26
    · have hM := it_n hc_2 hM
      refine lv_iconst (v := 0) hx hb dX7_end_15 (by decide) ?_
      have hR := som hM
      rw [hR] at hQ
      exact ret_z hQ hx hb hr hlocks rfl hP hK hD hS dX7_end_16
abbrev rmX7_fault : Room := { frames := 10, cells := 0, slots := 0, locals := 212 }
theorem iwX7_fault_X7 : ∀ w ∈ wsX70, w ∈ wsX7_fault := fun _ h => List.mem_cons_of_mem _ (List.mem_append_left _ (List.mem_append_left _ (List.mem_append_left _ (List.mem_append_right _ (h)))))
set_option maxHeartbeats 4000000 in
set_option maxRecDepth 100000 in
theorem kX7_fault (l : Launch) (dC : Nat → ClassId) (dI : Nat → Nat → Nat) (ct : Nat → ClassId) (aX : Nat → Nat) (aR : Nat → Nat) (aT : Nat → Nat) (aD : Nat → Nat) (xX_sowing : Nat) (xX_market : Nat) (xX_book : Nat) (xX_ways : Nat) (xX_land : Nat) (xX_im0 : Nat) (xX_im1 : Nat) (xX_im2 : Nat) (xR_land : Nat) (adK adV : Nat → Nat) (sz : Nat) (mX : Mem) (mR : Mem) (mT : Mem) (mD : Mem) (res : (Int32 × Mem × Mem)) (hM : mX7_fault mX mR mT mD = some res) : Met l yX7_fault wsX7_fault rmX7_fault (va_Pc [.ref (aX 0)] (PB (dC, dI) ct (EV adK adV) sz (wX ct aX (aT 0) (aR 0) xX_sowing xX_market xX_book xX_ways xX_land (aD 0) xX_im0 xX_im1 xX_im2 mX ++ wR ct aR (aT 0) xR_land mR ++ wT ct aT mT ++ wL ct aD mD))) (Qi (dC, dI) ct (va_A (wX ct aX (aT 0) (aR 0) xX_sowing xX_market xX_book xX_ways xX_land (aD 0) xX_im0 xX_im1 xX_im2 mX ++ wR ct aR (aT 0) xR_land mR ++ wT ct aT mT ++ wL ct aD mD) sz) res.1 (wX ct aX (aT 0) (aR 0) xX_sowing xX_market xX_book xX_ways xX_land (aD 0) xX_im0 xX_im1 xX_im2 mX ++ wR ct aR (aT 0) (aD 0) res.2.1 ++ wT ct aT mT ++ wL ct aD res.2.2)) 0 0 (va_A (wX ct aX (aT 0) (aR 0) xX_sowing xX_market xX_book xX_ways xX_land (aD 0) xX_im0 xX_im1 xX_im2 mX ++ wR ct aR (aT 0) xR_land mR ++ wT ct aT mT ++ wL ct aD mD) sz) := by
  refine Met.ofW (cc := cX7_fault) (maxL := 1) (ret := (some .int)) (by decide) rfl ?_
  intro p e s m args below meth c s₁ B hml hv
  obtain ⟨hargs, hsz, hP, hK, hD0, hE⟩ := hv
  have hx := B.exec
  have hb := B.bytes
  have hr := B.returns
  have hts := atoms_spec (ws := wsX7_fault) B.pre
  have hown : s.vm.findClass RX7 = some m.cls := findClass_of_methodNamed B.named
  have hlocks := B.notSynchronized
  clear B s₁
  subst hsz
  have hD := hD0.self (sz := s.heap.size)
  clear hD0
  generalize hAe : va_A (wX ct aX (aT 0) (aR 0) xX_sowing xX_market xX_book xX_ways xX_land (aD 0) xX_im0 xX_im1 xX_im2 mX ++ wR ct aR (aT 0) xR_land mR ++ wT ct aT mT ++ wL ct aD mD) s.heap.size = A at hD hE ⊢
  have hA : ∀ q : Nat, s.heap.size ≤ q → A q := fun q h => by rw [← hAe]; exact Or.inr h
  clear hAe
  have hS : va_S A s.heap s.heap [] := va_S.rf
  refine cutQ (fun Q hQ => ?_)
  refine entryW (vs := [.ref (aX 0)]) hargs (Nat.le_of_ble_eq_true rfl) (fun ls hl => ?_)
  replace hl : lv_has ls 1 [(0, .ref (aX 0))] := hl
  unfold mX7_fault at hM
  refine lv_aload_n hx hb dX7_fault_0 rfl (lv_at hl 0 rfl) ?_
  refine va_get (D := (dC, dI)) (ci := 7) (v := .ref (aR 0)) (C := RX7) (T := TX7) (N := 11) hx hb hts iwX7_fault_X7 hown hK hP 0 rfl rfl 1 (by decide) (hts _ (List.mem_of_getElem? (i := 1) rfl)) (fun _ h9 => h9) rfl dX7_fault_1 ?_
  refine lv_aload_n hx hb dX7_fault_4 rfl (lv_at hl 0 rfl) ?_
  refine va_get (D := (dC, dI)) (ci := 7) (v := .ref (aD 0)) (C := RX7) (T := TX7) (N := 11) hx hb hts iwX7_fault_X7 hown hK hP 0 rfl rfl 9 (by decide) (hts _ (List.mem_of_getElem? (i := 2) rfl)) (fun _ h9 => h9) rfl dX7_fault_5 ?_
  obtain ⟨q_5, hr_4, hM⟩ := bn_some hM
  obtain ⟨x_1, mR_2, mD_3⟩ := q_5
  have hM := nm_at (y := x_1) rfl hM
  have hM := nm_at (y := mR_2) rfl hM
  have hM := nm_at (y := mD_3) rfl hM
  refine gv_i (r0 := x_1) (wn := (wX ct aX (aT 0) (aR 0) xX_sowing xX_market xX_book xX_ways xX_land (aD 0) xX_im0 xX_im1 xX_im2 mX ++ wR ct aR (aT 0) (aD 0) mR_2 ++ wT ct aT mT ++ wL ct aD mD_3)) (va_runV (As := [.ref (aD 0)]) (rest := []) ⟨hx, hb, hml, hown, hts⟩ (kX3_read l dC dI ct aR aT aD xR_land adK adV _ mR mT mD _ hr_4) (cwV 1 hts gX7_fault_X3_read rfl rfl rfl hvX3_read ⟨Nat.le_of_ble_eq_true rfl, Nat.le_of_ble_eq_true rfl⟩) (preV_of EV_ok hK hP hD (is := [3, 4, 5, 6, 7, 8, 9, 10, 11, 12, 13, 14, 15, 16, 17, 18]) rfl rfl rfl (ci := 3) rfl 3 rfl (e_sub EV_ok hE hS (va_free hD hS hA [3, 4, 5, 6, 7, 8, 9, 10, 11, 12, 13, 14, 15, 16, 17, 18] rfl))) rfl rfl hl.1 rfl (lv_room (Nat.le_of_ble_eq_true rfl)) dX7_fault_8 ⟨Nat.le_of_ble_eq_true rfl, Nat.le_of_ble_eq_true rfl⟩) hP hD hS hA [3, 4, 5, 6, 7, 8, 9, 10, 11, 12, 13, 14, 15, 16, 17, 18] [0, 1, 2] [0, 1, 2, 3, 4, 5, 6, 7, 8, 9, 10, 11, 12, 13, 14, 15, 16, 17, 18] rfl rfl rfl (by decide) rfl rfl (fun H locs hP hD hS => ?_)
  have hR := som hM
  rw [hR] at hQ
  exact ret_i hQ hx hb hr hlocks hP hK hD hS dX7_fault_11
abbrev rmX7_isSort : Room := { frames := 1, cells := 0, slots := 0, locals := 21 }
theorem iwX7_isSort_X7 : ∀ w ∈ wsX70, w ∈ wsX7_isSort := fun _ h => List.mem_cons_of_mem _ (List.mem_append_left _ (List.mem_append_right _ (h)))
set_option maxHeartbeats 4000000 in
set_option maxRecDepth 100000 in
theorem kX7_isSort (l : Launch) (dC : Nat → ClassId) (dI : Nat → Nat → Nat) (ct : Nat → ClassId) (aX : Nat → Nat) (aL : Nat → Nat) (xX_text : Nat) (xX_reader : Nat) (xX_sowing : Nat) (xX_market : Nat) (xX_book : Nat) (xX_ways : Nat) (xX_draft : Nat) (xX_im0 : Nat) (xX_im1 : Nat) (xX_im2 : Nat) (sz : Nat) (mX : Mem) (mL : Mem) (v1 : Int32) (res : Int32) (hM : mX7_isSort mX mL v1 = some res) : Met l yX7_isSort wsX7_isSort rmX7_isSort (va_Pc [.ref (aX 0), .int v1] (PB (dC, dI) ct E0 sz (wX ct aX xX_text xX_reader xX_sowing xX_market xX_book xX_ways (aL 0) xX_draft xX_im0 xX_im1 xX_im2 mX ++ wL ct aL mL))) (Qi (dC, dI) ct (va_A (wX ct aX xX_text xX_reader xX_sowing xX_market xX_book xX_ways (aL 0) xX_draft xX_im0 xX_im1 xX_im2 mX ++ wL ct aL mL) sz) res (wX ct aX xX_text xX_reader xX_sowing xX_market xX_book xX_ways (aL 0) xX_draft xX_im0 xX_im1 xX_im2 mX ++ wL ct aL mL)) 0 0 (va_A (wX ct aX xX_text xX_reader xX_sowing xX_market xX_book xX_ways (aL 0) xX_draft xX_im0 xX_im1 xX_im2 mX ++ wL ct aL mL) sz) := by
  refine Met.ofW (cc := cX7_isSort) (maxL := 2) (ret := (some .boolean)) (by decide) rfl ?_
  intro p e s m args below meth c s₁ B hml hv
  obtain ⟨hargs, hsz, hP, hK, hD0, hE⟩ := hv
  have hx := B.exec
  have hb := B.bytes
  have hr := B.returns
  have hts := atoms_spec (ws := wsX7_isSort) B.pre
  have hown : s.vm.findClass RX7 = some m.cls := findClass_of_methodNamed B.named
  have hlocks := B.notSynchronized
  clear B s₁
  subst hsz
  have hD := hD0.self (sz := s.heap.size)
  clear hD0
  generalize hAe : va_A (wX ct aX xX_text xX_reader xX_sowing xX_market xX_book xX_ways (aL 0) xX_draft xX_im0 xX_im1 xX_im2 mX ++ wL ct aL mL) s.heap.size = A at hD hE ⊢
  have hA : ∀ q : Nat, s.heap.size ≤ q → A q := fun q h => by rw [← hAe]; exact Or.inr h
  clear hAe
  have hS : va_S A s.heap s.heap [] := va_S.rf
  refine cutQ (fun Q hQ => ?_)
  refine entryW (vs := [.ref (aX 0), .int v1]) hargs (Nat.le_of_ble_eq_true rfl) (fun ls hl => ?_)
  replace hl : lv_has ls 2 [(0, .ref (aX 0)), (1, .int v1)] := hl
  unfold mX7_isSort at hM
  refine lv_aload_n hx hb dX7_isSort_0 rfl (lv_at hl 0 rfl) ?_
  refine va_get (D := (dC, dI)) (ci := 7) (v := .int (mX 0 10)) (C := RX7) (T := TX7) (N := 11) hx hb hts iwX7_isSort_X7 hown hK hP 0 rfl rfl 10 (by decide) (hts _ (List.mem_of_getElem? (i := 1) rfl)) (fun _ h9 => h9) rfl dX7_isSort_1 ?_
  refine lv_if_eq (tgt := 22) hx hb dX7_isSort_4 (by decide) (fun hc_1 => ?_) (fun hc_1 => ?_)
  · have hM := it_p hc_1 hM
    refine lv_iconst (v := 0) hx hb dX7_isSort_22 (by decide) ?_
    have hR := som hM
    rw [hR] at hQ
    exact ret_z hQ hx hb hr hlocks rfl hP hK hD hS dX7_isSort_23
  · have hM := it_n hc_1 hM
    refine lv_aload_n hx hb dX7_isSort_7 rfl (lv_at hl 0 rfl) ?_
    refine va_get (D := (dC, dI)) (ci := 7) (v := .ref (aL 0)) (C := RX7) (T := TX7) (N := 11) hx hb hts iwX7_isSort_X7 hown hK hP 0 rfl rfl 8 (by decide) (hts _ (List.mem_of_getElem? (i := 2) rfl)) (fun _ h9 => h9) rfl dX7_isSort_8 ?_
    refine lv_iload_n hx hb dX7_isSort_11 rfl (lv_at hl 1 rfl) ?_
    obtain ⟨x_2, hr_3, hM⟩ := bn_some hM
    refine gv_i (r0 := x_2) (wn := (wX ct aX xX_text xX_reader xX_sowing xX_market xX_book xX_ways (aL 0) xX_draft xX_im0 xX_im1 xX_im2 mX ++ wL ct aL mL)) (va_runV (As := [.int v1]) (rest := []) ⟨hx, hb, hml, hown, hts⟩ (kX1_hasSort l dC dI ct aL _ mL v1 _ hr_3) (cwV 1 hts gX7_isSort_X1_hasSort rfl rfl rfl hvX1_hasSort ⟨Nat.le_of_ble_eq_true rfl, Nat.le_of_ble_eq_true rfl⟩) (preV_of E0_ok hK hP hD (is := [3, 4, 5, 6, 7, 8, 9, 10, 11, 12]) rfl rfl rfl (ci := 1) rfl 3 rfl e_0) rfl rfl hl.1 rfl (lv_room (Nat.le_of_ble_eq_true rfl)) dX7_isSort_12 ⟨Nat.le_of_ble_eq_true rfl, Nat.le_of_ble_eq_true rfl⟩) hP hD hS hA [3, 4, 5, 6, 7, 8, 9, 10, 11, 12] [0, 1, 2] [0, 1, 2, 3, 4, 5, 6, 7, 8, 9, 10, 11, 12] rfl rfl rfl (by decide) rfl rfl (fun H locs hP hD hS => ?_)
    refine lv_if_eq (tgt := 22) hx hb dX7_isSort_15 (by decide) (fun hc_5 => ?_) (fun hc_5 => ?_)
    · have hM := it_p hc_5 hM
      refine lv_iconst (v := 0) hx hb dX7_isSort_22 (by decide) ?_
      have hR := som hM
      rw [hR] at hQ
      exact ret_z hQ hx hb hr hlocks rfl hP hK hD hS dX7_isSort_23
    · have hM := it_n hc_5 hM
      refine lv_iconst (v := 1) hx hb dX7_isSort_18 (by decide) ?_
      refine lv_goto (tgt := 23) hx hb dX7_isSort_19 (by decide) ?_
      have hR := som hM
      rw [hR] at hQ
      exact ret_z hQ hx hb hr hlocks rfl hP hK hD hS dX7_isSort_23
abbrev rmX7_sort : Room := { frames := 2, cells := 0, slots := 0, locals := 42 }
theorem iwX7_sort_X7 : ∀ w ∈ wsX70, w ∈ wsX7_sort := fun _ h => List.mem_cons_of_mem _ (List.mem_append_left _ (List.mem_append_right _ (h)))
set_option maxHeartbeats 4000000 in
set_option maxRecDepth 100000 in
theorem kX7_sort (l : Launch) (dC : Nat → ClassId) (dI : Nat → Nat → Nat) (ct : Nat → ClassId) (aX : Nat → Nat) (aL : Nat → Nat) (xX_text : Nat) (xX_reader : Nat) (xX_sowing : Nat) (xX_market : Nat) (xX_book : Nat) (xX_ways : Nat) (xX_draft : Nat) (xX_im0 : Nat) (xX_im1 : Nat) (xX_im2 : Nat) (sz : Nat) (mX : Mem) (mL : Mem) (v1 : Int32) (v2 : Int32) (res : Int32) (hM : mX7_sort mX mL v1 v2 = some res) : Met l yX7_sort wsX7_sort rmX7_sort (va_Pc [.ref (aX 0), .int v1, .int v2] (PB (dC, dI) ct E0 sz (wX ct aX xX_text xX_reader xX_sowing xX_market xX_book xX_ways (aL 0) xX_draft xX_im0 xX_im1 xX_im2 mX ++ wL ct aL mL))) (Qi (dC, dI) ct (va_A (wX ct aX xX_text xX_reader xX_sowing xX_market xX_book xX_ways (aL 0) xX_draft xX_im0 xX_im1 xX_im2 mX ++ wL ct aL mL) sz) res (wX ct aX xX_text xX_reader xX_sowing xX_market xX_book xX_ways (aL 0) xX_draft xX_im0 xX_im1 xX_im2 mX ++ wL ct aL mL)) 0 0 (va_A (wX ct aX xX_text xX_reader xX_sowing xX_market xX_book xX_ways (aL 0) xX_draft xX_im0 xX_im1 xX_im2 mX ++ wL ct aL mL) sz) := by
  refine Met.ofW (cc := cX7_sort) (maxL := 3) (ret := (some .int)) (by decide) rfl ?_
  intro p e s m args below meth c s₁ B hml hv
  obtain ⟨hargs, hsz, hP, hK, hD0, hE⟩ := hv
  have hx := B.exec
  have hb := B.bytes
  have hr := B.returns
  have hts := atoms_spec (ws := wsX7_sort) B.pre
  have hown : s.vm.findClass RX7 = some m.cls := findClass_of_methodNamed B.named
  have hlocks := B.notSynchronized
  clear B s₁
  subst hsz
  have hD := hD0.self (sz := s.heap.size)
  clear hD0
  generalize hAe : va_A (wX ct aX xX_text xX_reader xX_sowing xX_market xX_book xX_ways (aL 0) xX_draft xX_im0 xX_im1 xX_im2 mX ++ wL ct aL mL) s.heap.size = A at hD hE ⊢
  have hA : ∀ q : Nat, s.heap.size ≤ q → A q := fun q h => by rw [← hAe]; exact Or.inr h
  clear hAe
  have hS : va_S A s.heap s.heap [] := va_S.rf
  refine cutQ (fun Q hQ => ?_)
  refine entryW (vs := [.ref (aX 0), .int v1, .int v2]) hargs (Nat.le_of_ble_eq_true rfl) (fun ls hl => ?_)
  replace hl : lv_has ls 3 [(0, .ref (aX 0)), (1, .int v1), (2, .int v2)] := hl
  unfold mX7_sort at hM
  refine lv_aload_n hx hb dX7_sort_0 rfl (lv_at hl 0 rfl) ?_
  refine lv_iload_n hx hb dX7_sort_1 rfl (lv_at hl 1 rfl) ?_
  obtain ⟨x_1, hr_2, hM⟩ := bn_some hM
  refine gv_i (r0 := x_1) (wn := (wX ct aX xX_text xX_reader xX_sowing xX_market xX_book xX_ways (aL 0) xX_draft xX_im0 xX_im1 xX_im2 mX ++ wL ct aL mL)) (va_runV (As := [.int v1]) (rest := []) ⟨hx, hb, hml, hown, hts⟩ (kX7_isSort l dC dI ct aX aL xX_text xX_reader xX_sowing xX_market xX_book xX_ways xX_draft xX_im0 xX_im1 xX_im2 _ mX mL v1 _ hr_2) (cwV 1 hts gX7_sort_X7_isSort rfl rfl rfl hvX7_isSort ⟨Nat.le_of_ble_eq_true rfl, Nat.le_of_ble_eq_true rfl⟩) (preV_of E0_ok hK hP hD (is := [0, 1, 2, 3, 4, 5, 6, 7, 8, 9, 10, 11, 12]) rfl rfl rfl (ci := 7) rfl 0 rfl e_0) rfl rfl hl.1 rfl (lv_room (Nat.le_of_ble_eq_true rfl)) dX7_sort_2 ⟨Nat.le_of_ble_eq_true rfl, Nat.le_of_ble_eq_true rfl⟩) hP hD hS hA [0, 1, 2, 3, 4, 5, 6, 7, 8, 9, 10, 11, 12] [] [0, 1, 2, 3, 4, 5, 6, 7, 8, 9, 10, 11, 12] rfl rfl rfl (by decide) rfl rfl (fun H locs hP hD hS => ?_)
  refine lv_if_eq (tgt := 20) hx hb dX7_sort_5 (by decide) (fun hc_4 => ?_) (fun hc_4 => ?_)
  · have hM := it_p hc_4 hM
    refine lv_iconst (v := -1) hx hb dX7_sort_20 (by decide) ?_
    have hR := som hM
    rw [hR] at hQ
    exact ret_i hQ hx hb hr hlocks hP hK hD hS dX7_sort_21
  · have hM := it_n hc_4 hM
    refine lv_aload_n hx hb dX7_sort_8 rfl (lv_at hl 0 rfl) ?_
    refine va_get (D := (dC, dI)) (ci := 7) (v := .ref (aL 0)) (C := RX7) (T := TX7) (N := 11) hx hb hts iwX7_sort_X7 hown hK hP 0 rfl rfl 8 (by decide) (hts _ (List.mem_of_getElem? (i := 1) rfl)) (fun _ h9 => h9) rfl dX7_sort_9 ?_
    refine lv_iload_n hx hb dX7_sort_12 rfl (lv_at hl 1 rfl) ?_
    refine lv_iload_n hx hb dX7_sort_13 rfl (lv_at hl 2 rfl) ?_
    obtain ⟨x_5, hr_6, hM⟩ := bn_some hM
    refine gv_i (r0 := x_5) (wn := (wX ct aX xX_text xX_reader xX_sowing xX_market xX_book xX_ways (aL 0) xX_draft xX_im0 xX_im1 xX_im2 mX ++ wL ct aL mL)) (va_runV (As := [.int v1, .int v2]) (rest := []) ⟨hx, hb, hml, hown, hts⟩ (kX1_numberOf l dC dI ct aL _ mL v1 v2 _ hr_6) (cwV 2 hts gX7_sort_X1_numberOf rfl rfl rfl hvX1_numberOf ⟨Nat.le_of_ble_eq_true rfl, Nat.le_of_ble_eq_true rfl⟩) (preV_of E0_ok hK hP hD (is := [3, 4, 5, 6, 7, 8, 9, 10, 11, 12]) rfl rfl rfl (ci := 1) rfl 3 rfl e_0) rfl rfl hl.1 rfl (lv_room (Nat.le_of_ble_eq_true rfl)) dX7_sort_14 ⟨Nat.le_of_ble_eq_true rfl, Nat.le_of_ble_eq_true rfl⟩) hP hD hS hA [3, 4, 5, 6, 7, 8, 9, 10, 11, 12] [0, 1, 2] [0, 1, 2, 3, 4, 5, 6, 7, 8, 9, 10, 11, 12] rfl rfl rfl (by decide) rfl rfl (fun H locs hP hD hS => ?_)
    refine lv_goto (tgt := 21) hx hb dX7_sort_17 (by decide) ?_
    have hR := som hM
    rw [hR] at hQ
    exact ret_i hQ hx hb hr hlocks hP hK hD hS dX7_sort_21
abbrev rmX7_back : Room := { frames := 2, cells := 0, slots := 0, locals := 42 }
theorem iwX7_back_X1 : ∀ w ∈ wsX10, w ∈ wsX7_back := fun _ h => List.mem_cons_of_mem _ (List.mem_append_right _ (h))
theorem iwX7_back_X7 : ∀ w ∈ wsX70, w ∈ wsX7_back := fun _ h => List.mem_cons_of_mem _ (List.mem_append_left _ (List.mem_append_right _ (h)))
set_option maxHeartbeats 4000000 in
set_option maxRecDepth 100000 in
theorem kX7_back (l : Launch) (dC : Nat → ClassId) (dI : Nat → Nat → Nat) (ct : Nat → ClassId) (aX : Nat → Nat) (aL : Nat → Nat) (xX_text : Nat) (xX_reader : Nat) (xX_sowing : Nat) (xX_market : Nat) (xX_book : Nat) (xX_ways : Nat) (xX_draft : Nat) (xX_im0 : Nat) (xX_im1 : Nat) (xX_im2 : Nat) (sz : Nat) (mX : Mem) (mL : Mem) (v1 : Int32) (v2 : Int32) (v3 : Int32) (res : Int32) (hM : mX7_back mX mL v1 v2 v3 = some res) : Met l yX7_back wsX7_back rmX7_back (va_Pc [.ref (aX 0), .int v1, .int v2, .int v3] (PB (dC, dI) ct E0 sz (wX ct aX xX_text xX_reader xX_sowing xX_market xX_book xX_ways (aL 0) xX_draft xX_im0 xX_im1 xX_im2 mX ++ wL ct aL mL))) (Qi (dC, dI) ct (va_A (wX ct aX xX_text xX_reader xX_sowing xX_market xX_book xX_ways (aL 0) xX_draft xX_im0 xX_im1 xX_im2 mX ++ wL ct aL mL) sz) res (wX ct aX xX_text xX_reader xX_sowing xX_market xX_book xX_ways (aL 0) xX_draft xX_im0 xX_im1 xX_im2 mX ++ wL ct aL mL)) 0 0 (va_A (wX ct aX xX_text xX_reader xX_sowing xX_market xX_book xX_ways (aL 0) xX_draft xX_im0 xX_im1 xX_im2 mX ++ wL ct aL mL) sz) := by
  refine Met.ofW (cc := cX7_back) (maxL := 5) (ret := (some .int)) (by decide) rfl ?_
  intro p e s m args below meth c s₁ B hml hv
  obtain ⟨hargs, hsz, hP, hK, hD0, hE⟩ := hv
  have hx := B.exec
  have hb := B.bytes
  have hr := B.returns
  have hts := atoms_spec (ws := wsX7_back) B.pre
  have hown : s.vm.findClass RX7 = some m.cls := findClass_of_methodNamed B.named
  have hlocks := B.notSynchronized
  clear B s₁
  subst hsz
  have hD := hD0.self (sz := s.heap.size)
  clear hD0
  generalize hAe : va_A (wX ct aX xX_text xX_reader xX_sowing xX_market xX_book xX_ways (aL 0) xX_draft xX_im0 xX_im1 xX_im2 mX ++ wL ct aL mL) s.heap.size = A at hD hE ⊢
  have hA : ∀ q : Nat, s.heap.size ≤ q → A q := fun q h => by rw [← hAe]; exact Or.inr h
  clear hAe
  have hS : va_S A s.heap s.heap [] := va_S.rf
  refine cutQ (fun Q hQ => ?_)
  refine entryW (vs := [.ref (aX 0), .int v1, .int v2, .int v3]) hargs (Nat.le_of_ble_eq_true rfl) (fun ls hl => ?_)
  replace hl : lv_has ls 5 [(0, .ref (aX 0)), (1, .int v1), (2, .int v2), (3, .int v3)] := hl
  unfold mX7_back at hM
  refine lv_aload_n hx hb dX7_back_0 rfl (lv_at hl 0 rfl) ?_
  refine lv_iload_n hx hb dX7_back_1 rfl (lv_at hl 1 rfl) ?_
  obtain ⟨x_1, hr_2, hM⟩ := bn_some hM
  refine gv_i (r0 := x_1) (wn := (wX ct aX xX_text xX_reader xX_sowing xX_market xX_book xX_ways (aL 0) xX_draft xX_im0 xX_im1 xX_im2 mX ++ wL ct aL mL)) (va_runV (As := [.int v1]) (rest := []) ⟨hx, hb, hml, hown, hts⟩ (kX7_isSort l dC dI ct aX aL xX_text xX_reader xX_sowing xX_market xX_book xX_ways xX_draft xX_im0 xX_im1 xX_im2 _ mX mL v1 _ hr_2) (cwV 1 hts gX7_back_X7_isSort rfl rfl rfl hvX7_isSort ⟨Nat.le_of_ble_eq_true rfl, Nat.le_of_ble_eq_true rfl⟩) (preV_of E0_ok hK hP hD (is := [0, 1, 2, 3, 4, 5, 6, 7, 8, 9, 10, 11, 12]) rfl rfl rfl (ci := 7) rfl 0 rfl e_0) rfl rfl hl.1 rfl (lv_room (Nat.le_of_ble_eq_true rfl)) dX7_back_2 ⟨Nat.le_of_ble_eq_true rfl, Nat.le_of_ble_eq_true rfl⟩) hP hD hS hA [0, 1, 2, 3, 4, 5, 6, 7, 8, 9, 10, 11, 12] [] [0, 1, 2, 3, 4, 5, 6, 7, 8, 9, 10, 11, 12] rfl rfl rfl (by decide) rfl rfl (fun H locs hP hD hS => ?_)
  refine lv_if_eq (tgt := 15) hx hb dX7_back_5 (by decide) (fun hc_4 => ?_) (fun hc_4 => ?_)
  · have hM := it_p hc_4 hM
    refine lv_iconst (v := -1) hx hb dX7_back_15 (by decide) ?_
    have hR := som hM
    rw [hR] at hQ
    exact ret_i hQ hx hb hr hlocks hP hK hD hS dX7_back_16
  · have hM := it_n hc_4 hM
    refine lv_iload_n hx hb dX7_back_8 rfl (lv_at hl 2 rfl) ?_
    obtain ⟨x_5, hr_6, hM⟩ := bn_some hM
    refine gv_i (r0 := x_5) (wn := (wX ct aX xX_text xX_reader xX_sowing xX_market xX_book xX_ways (aL 0) xX_draft xX_im0 xX_im1 xX_im2 mX ++ wL ct aL mL)) (va_runS (As := [.int v2]) (rest := []) ⟨hx, hb, hml, hown, hts⟩ (kX7_isNight l dC dI ct _ v2 _ hr_6) (va_cwS 1 hts gX7_back_X7_isNight rfl rfl rfl hvX7_isNight.2 ⟨Nat.le_of_ble_eq_true rfl, Nat.le_of_ble_eq_true rfl⟩) (preS_of E0_ok hK hP hD (is := []) rfl rfl e_0) rfl rfl hl.1 rfl (lv_room (Nat.le_of_ble_eq_true rfl)) dX7_back_9 ⟨Nat.le_of_ble_eq_true rfl, Nat.le_of_ble_eq_true rfl⟩) hP hD hS hA [] [0, 1, 2, 3, 4, 5, 6, 7, 8, 9, 10, 11, 12] [0, 1, 2, 3, 4, 5, 6, 7, 8, 9, 10, 11, 12] rfl rfl rfl (by decide) rfl rfl (fun H locs hP hD hS => ?_)
    refine lv_if_ne (tgt := 17) hx hb dX7_back_12 (by decide) (fun hc_8 => ?_) (fun hc_8 => ?_)
    · have hM := it_p hc_8 hM
      refine lv_aload_n hx hb dX7_back_17 rfl (lv_at hl 0 rfl) ?_
      refine va_get (D := (dC, dI)) (ci := 7) (v := .ref (aL 0)) (C := RX7) (T := TX7) (N := 11) hx hb hts iwX7_back_X7 hown hK hP 0 rfl rfl 8 (by decide) (hts _ (List.mem_of_getElem? (i := 1) rfl)) (fun _ h9 => h9) rfl dX7_back_18 ?_
      refine lv_iload_n hx hb dX7_back_21 rfl (lv_at hl 1 rfl) ?_
      refine lv_iload_n hx hb dX7_back_22 rfl (lv_at hl 2 rfl) ?_
      refine lv_aload_n hx hb dX7_back_23 rfl (lv_at hl 0 rfl) ?_
      refine va_get (D := (dC, dI)) (ci := 7) (v := .ref (aL 0)) (C := RX7) (T := TX7) (N := 11) hx hb hts iwX7_back_X7 hown hK hP 0 rfl rfl 8 (by decide) (hts _ (List.mem_of_getElem? (i := 1) rfl)) (fun _ h9 => h9) rfl dX7_back_24 ?_
      refine va_get (D := (dC, dI)) (ci := 1) (v := .int (mL 0 2)) (C := RX1) (T := TX1) (N := 17) hx hb hts iwX7_back_X1 hown hK hP 3 rfl rfl 2 (by decide) (hts _ (List.mem_of_getElem? (i := 2) rfl)) (fun _ h9 => h9) rfl dX7_back_27 ?_
      refine lv_aload_n hx hb dX7_back_30 rfl (lv_at hl 0 rfl) ?_
      refine va_get (D := (dC, dI)) (ci := 7) (v := .ref (aL 0)) (C := RX7) (T := TX7) (N := 11) hx hb hts iwX7_back_X7 hown hK hP 0 rfl rfl 8 (by decide) (hts _ (List.mem_of_getElem? (i := 1) rfl)) (fun _ h9 => h9) rfl dX7_back_31 ?_
      refine va_get (D := (dC, dI)) (ci := 1) (v := .int (mL 0 3)) (C := RX1) (T := TX1) (N := 17) hx hb hts iwX7_back_X1 hown hK hP 3 rfl rfl 3 (by decide) (hts _ (List.mem_of_getElem? (i := 3) rfl)) (fun _ h9 => h9) rfl dX7_back_34 ?_
      obtain ⟨x_9, hr_10, hM⟩ := bn_some hM
      refine gv_i (r0 := x_9) (wn := (wX ct aX xX_text xX_reader xX_sowing xX_market xX_book xX_ways (aL 0) xX_draft xX_im0 xX_im1 xX_im2 mX ++ wL ct aL mL)) (va_runS (As := [.ref (aL 0), .int v1, .int v2, .int (mL 0 2), .int (mL 0 3)]) (rest := []) ⟨hx, hb, hml, hown, hts⟩ (kX4_backOf l dC dI ct aL _ mL v1 v2 (mL 0 2) (mL 0 3) _ hr_10) (va_cwS 5 hts gX7_back_X4_backOf rfl rfl rfl hvX4_backOf.2 ⟨Nat.le_of_ble_eq_true rfl, Nat.le_of_ble_eq_true rfl⟩) (preS_of E0_ok hK hP hD (is := [3, 4, 5, 6, 7, 8, 9, 10, 11, 12]) rfl rfl e_0) rfl rfl hl.1 rfl (lv_room (Nat.le_of_ble_eq_true rfl)) dX7_back_37 ⟨Nat.le_of_ble_eq_true rfl, Nat.le_of_ble_eq_true rfl⟩) hP hD hS hA [3, 4, 5, 6, 7, 8, 9, 10, 11, 12] [0, 1, 2] [0, 1, 2, 3, 4, 5, 6, 7, 8, 9, 10, 11, 12] rfl rfl rfl (by decide) rfl rfl (fun H locs hP hD hS => ?_)
      refine lv_istore (lv' := [(4, .int x_9), (0, .ref (aX 0)), (1, .int v1), (2, .int v2), (3, .int v3)]) hx hb dX7_back_40 hl (by decide) rfl (fun ls hl => ?_)
      refine lv_iload_n hx hb dX7_back_42 rfl (lv_at hl 4 rfl) ?_
      by_cases hc_12 : v3 = 0
      · have hM := it_p hc_12 hM
        refine lv_tableIn (off := 25) (tgt := 68) hx hb dX7_back_43 (by rw [hc_12]; decide) (by rw [hc_12]; decide) (by rw [hc_12]; decide) (by decide) ?_
        refine lv_iload hx hb dX7_back_68 (lv_at hl 0 rfl) ?_
        have hR := som hM
        rw [hR] at hQ
        exact ret_i hQ hx hb hr hlocks hP hK hD hS dX7_back_70
      · have hM := it_n hc_12 hM
        by_cases hc_13 : v3 = 1
        · have hM := it_p hc_13 hM
          refine lv_tableIn (off := 28) (tgt := 71) hx hb dX7_back_43 (by rw [hc_13]; decide) (by rw [hc_13]; decide) (by rw [hc_13]; decide) (by decide) ?_
          refine lv_aload_n hx hb dX7_back_71 rfl (lv_at hl 1 rfl) ?_
          refine va_get (D := (dC, dI)) (ci := 7) (v := .ref (aL 0)) (C := RX7) (T := TX7) (N := 11) hx hb hts iwX7_back_X7 hown hK hP 0 rfl rfl 8 (by decide) (hts _ (List.mem_of_getElem? (i := 1) rfl)) (fun _ h9 => h9) rfl dX7_back_72 ?_
          refine lv_iload_n hx hb dX7_back_75 rfl (lv_at hl 2 rfl) ?_
          refine lv_iload hx hb dX7_back_76 (lv_at hl 0 rfl) ?_
          obtain ⟨x_14, hr_15, hM⟩ := bn_some hM
          refine gv_i (r0 := x_14) (wn := (wX ct aX xX_text xX_reader xX_sowing xX_market xX_book xX_ways (aL 0) xX_draft xX_im0 xX_im1 xX_im2 mX ++ wL ct aL mL)) (va_runS (As := [.ref (aL 0), .int v1, .int x_9]) (rest := []) ⟨hx, hb, hml, hown, hts⟩ (kX4_leastPrice l dC dI ct aL _ mL v1 x_9 _ hr_15) (va_cwS 3 hts gX7_back_X4_leastPrice rfl rfl rfl hvX4_leastPrice.2 ⟨Nat.le_of_ble_eq_true rfl, Nat.le_of_ble_eq_true rfl⟩) (preS_of E0_ok hK hP hD (is := [3, 4, 5, 6, 7, 8, 9, 10, 11, 12]) rfl rfl e_0) rfl rfl hl.1 rfl (lv_room (Nat.le_of_ble_eq_true rfl)) dX7_back_78 ⟨Nat.le_of_ble_eq_true rfl, Nat.le_of_ble_eq_true rfl⟩) hP hD hS hA [3, 4, 5, 6, 7, 8, 9, 10, 11, 12] [0, 1, 2] [0, 1, 2, 3, 4, 5, 6, 7, 8, 9, 10, 11, 12] rfl rfl rfl (by decide) rfl rfl (fun H locs hP hD hS => ?_)
          have hR := som hM
          rw [hR] at hQ
          exact ret_i hQ hx hb hr hlocks hP hK hD hS dX7_back_81
        · have hM := it_n hc_13 hM
          by_cases hc_17 : v3 = 2
          · have hM := it_p hc_17 hM
            refine lv_tableIn (off := 39) (tgt := 82) hx hb dX7_back_43 (by rw [hc_17]; decide) (by rw [hc_17]; decide) (by rw [hc_17]; decide) (by decide) ?_
            refine lv_aload_n hx hb dX7_back_82 rfl (lv_at hl 1 rfl) ?_
            refine va_get (D := (dC, dI)) (ci := 7) (v := .ref (aL 0)) (C := RX7) (T := TX7) (N := 11) hx hb hts iwX7_back_X7 hown hK hP 0 rfl rfl 8 (by decide) (hts _ (List.mem_of_getElem? (i := 1) rfl)) (fun _ h9 => h9) rfl dX7_back_83 ?_
            refine lv_iload_n hx hb dX7_back_86 rfl (lv_at hl 2 rfl) ?_
            obtain ⟨x_18, hr_19, hM⟩ := bn_some hM
            refine gv_i (r0 := x_18) (wn := (wX ct aX xX_text xX_reader xX_sowing xX_market xX_book xX_ways (aL 0) xX_draft xX_im0 xX_im1 xX_im2 mX ++ wL ct aL mL)) (va_runS (As := [.ref (aL 0), .int v1]) (rest := []) ⟨hx, hb, hml, hown, hts⟩ (kX4_mostPrice l dC dI ct aL _ mL v1 _ hr_19) (va_cwS 2 hts gX7_back_X4_mostPrice rfl rfl rfl hvX4_mostPrice.2 ⟨Nat.le_of_ble_eq_true rfl, Nat.le_of_ble_eq_true rfl⟩) (preS_of E0_ok hK hP hD (is := [3, 4, 5, 6, 7, 8, 9, 10, 11, 12]) rfl rfl e_0) rfl rfl hl.1 rfl (lv_room (Nat.le_of_ble_eq_true rfl)) dX7_back_87 ⟨Nat.le_of_ble_eq_true rfl, Nat.le_of_ble_eq_true rfl⟩) hP hD hS hA [3, 4, 5, 6, 7, 8, 9, 10, 11, 12] [0, 1, 2] [0, 1, 2, 3, 4, 5, 6, 7, 8, 9, 10, 11, 12] rfl rfl rfl (by decide) rfl rfl (fun H locs hP hD hS => ?_)
            have hR := som hM
            rw [hR] at hQ
            exact ret_i hQ hx hb hr hlocks hP hK hD hS dX7_back_90
          · have hM := it_n hc_17 hM
            have nhc_12 := ne_toInt hc_12
            have nhc_13 := ne_toInt hc_13
            have nhc_17 := ne_toInt hc_17
            refine lv_tableOut (tgt := 91) hx hb dX7_back_43 (by rw [show ((0 : Int32)).toInt = 0 from by decide] at nhc_12; rw [show ((1 : Int32)).toInt = 1 from by decide] at nhc_13; rw [show ((2 : Int32)).toInt = 2 from by decide] at nhc_17; omega) (by decide) ?_
            refine lv_iconst (v := -1) hx hb dX7_back_91 (by decide) ?_
            have hR := som hM
            rw [hR] at hQ
            exact ret_i hQ hx hb hr hlocks hP hK hD hS dX7_back_92
    · have hM := it_nn hc_8 hM
      refine lv_iconst (v := -1) hx hb dX7_back_15 (by decide) ?_
      have hR := som hM
      rw [hR] at hQ
      exact ret_i hQ hx hb hr hlocks hP hK hD hS dX7_back_16
abbrev rmX7_lastNightBack : Room := { frames := 1, cells := 0, slots := 0, locals := 29 }
theorem iwX7_lastNightBack_X1 : ∀ w ∈ wsX10, w ∈ wsX7_lastNightBack := fun _ h => List.mem_cons_of_mem _ (List.mem_append_right _ (h))
theorem iwX7_lastNightBack_X7 : ∀ w ∈ wsX70, w ∈ wsX7_lastNightBack := fun _ h => List.mem_cons_of_mem _ (List.mem_append_left _ (List.mem_append_right _ (h)))
set_option maxHeartbeats 4000000 in
set_option maxRecDepth 100000 in
theorem kX7_lastNightBack (l : Launch) (dC : Nat → ClassId) (dI : Nat → Nat → Nat) (ct : Nat → ClassId) (aX : Nat → Nat) (aL : Nat → Nat) (xX_text : Nat) (xX_reader : Nat) (xX_sowing : Nat) (xX_market : Nat) (xX_book : Nat) (xX_ways : Nat) (xX_draft : Nat) (xX_im0 : Nat) (xX_im1 : Nat) (xX_im2 : Nat) (sz : Nat) (mX : Mem) (mL : Mem) (v1 : Int32) (res : Int32) (hM : mX7_lastNightBack mX mL v1 = some res) : Met l yX7_lastNightBack wsX7_lastNightBack rmX7_lastNightBack (va_Pc [.ref (aX 0), .int v1] (PB (dC, dI) ct E0 sz (wX ct aX xX_text xX_reader xX_sowing xX_market xX_book xX_ways (aL 0) xX_draft xX_im0 xX_im1 xX_im2 mX ++ wL ct aL mL))) (Qi (dC, dI) ct (va_A (wX ct aX xX_text xX_reader xX_sowing xX_market xX_book xX_ways (aL 0) xX_draft xX_im0 xX_im1 xX_im2 mX ++ wL ct aL mL) sz) res (wX ct aX xX_text xX_reader xX_sowing xX_market xX_book xX_ways (aL 0) xX_draft xX_im0 xX_im1 xX_im2 mX ++ wL ct aL mL)) 0 0 (va_A (wX ct aX xX_text xX_reader xX_sowing xX_market xX_book xX_ways (aL 0) xX_draft xX_im0 xX_im1 xX_im2 mX ++ wL ct aL mL) sz) := by
  refine Met.ofW (cc := cX7_lastNightBack) (maxL := 2) (ret := (some .int)) (by decide) rfl ?_
  intro p e s m args below meth c s₁ B hml hv
  obtain ⟨hargs, hsz, hP, hK, hD0, hE⟩ := hv
  have hx := B.exec
  have hb := B.bytes
  have hr := B.returns
  have hts := atoms_spec (ws := wsX7_lastNightBack) B.pre
  have hown : s.vm.findClass RX7 = some m.cls := findClass_of_methodNamed B.named
  have hlocks := B.notSynchronized
  clear B s₁
  subst hsz
  have hD := hD0.self (sz := s.heap.size)
  clear hD0
  generalize hAe : va_A (wX ct aX xX_text xX_reader xX_sowing xX_market xX_book xX_ways (aL 0) xX_draft xX_im0 xX_im1 xX_im2 mX ++ wL ct aL mL) s.heap.size = A at hD hE ⊢
  have hA : ∀ q : Nat, s.heap.size ≤ q → A q := fun q h => by rw [← hAe]; exact Or.inr h
  clear hAe
  have hS : va_S A s.heap s.heap [] := va_S.rf
  refine cutQ (fun Q hQ => ?_)
  refine entryW (vs := [.ref (aX 0), .int v1]) hargs (Nat.le_of_ble_eq_true rfl) (fun ls hl => ?_)
  replace hl : lv_has ls 2 [(0, .ref (aX 0)), (1, .int v1)] := hl
  unfold mX7_lastNightBack at hM
  refine lv_aload_n hx hb dX7_lastNightBack_0 rfl (lv_at hl 0 rfl) ?_
  refine va_get (D := (dC, dI)) (ci := 7) (v := .ref (aL 0)) (C := RX7) (T := TX7) (N := 11) hx hb hts iwX7_lastNightBack_X7 hown hK hP 0 rfl rfl 8 (by decide) (hts _ (List.mem_of_getElem? (i := 1) rfl)) (fun _ h9 => h9) rfl dX7_lastNightBack_1 ?_
  refine lv_iload_n hx hb dX7_lastNightBack_4 rfl (lv_at hl 1 rfl) ?_
  refine lv_aload_n hx hb dX7_lastNightBack_5 rfl (lv_at hl 0 rfl) ?_
  refine va_get (D := (dC, dI)) (ci := 7) (v := .ref (aL 0)) (C := RX7) (T := TX7) (N := 11) hx hb hts iwX7_lastNightBack_X7 hown hK hP 0 rfl rfl 8 (by decide) (hts _ (List.mem_of_getElem? (i := 1) rfl)) (fun _ h9 => h9) rfl dX7_lastNightBack_6 ?_
  refine va_get (D := (dC, dI)) (ci := 1) (v := .int (mL 0 0)) (C := RX1) (T := TX1) (N := 17) hx hb hts iwX7_lastNightBack_X1 hown hK hP 3 rfl rfl 0 (by decide) (hts _ (List.mem_of_getElem? (i := 2) rfl)) (fun _ h9 => h9) rfl dX7_lastNightBack_9 ?_
  refine lv_iconst (v := 1) hx hb dX7_lastNightBack_12 (by decide) ?_
  refine lv_isub hx hb dX7_lastNightBack_13 ?_
  refine lv_aload_n hx hb dX7_lastNightBack_14 rfl (lv_at hl 0 rfl) ?_
  refine va_get (D := (dC, dI)) (ci := 7) (v := .ref (aL 0)) (C := RX7) (T := TX7) (N := 11) hx hb hts iwX7_lastNightBack_X7 hown hK hP 0 rfl rfl 8 (by decide) (hts _ (List.mem_of_getElem? (i := 1) rfl)) (fun _ h9 => h9) rfl dX7_lastNightBack_15 ?_
  refine va_get (D := (dC, dI)) (ci := 1) (v := .int (mL 0 2)) (C := RX1) (T := TX1) (N := 17) hx hb hts iwX7_lastNightBack_X1 hown hK hP 3 rfl rfl 2 (by decide) (hts _ (List.mem_of_getElem? (i := 3) rfl)) (fun _ h9 => h9) rfl dX7_lastNightBack_18 ?_
  refine lv_aload_n hx hb dX7_lastNightBack_21 rfl (lv_at hl 0 rfl) ?_
  refine va_get (D := (dC, dI)) (ci := 7) (v := .ref (aL 0)) (C := RX7) (T := TX7) (N := 11) hx hb hts iwX7_lastNightBack_X7 hown hK hP 0 rfl rfl 8 (by decide) (hts _ (List.mem_of_getElem? (i := 1) rfl)) (fun _ h9 => h9) rfl dX7_lastNightBack_22 ?_
  refine va_get (D := (dC, dI)) (ci := 1) (v := .int (mL 0 3)) (C := RX1) (T := TX1) (N := 17) hx hb hts iwX7_lastNightBack_X1 hown hK hP 3 rfl rfl 3 (by decide) (hts _ (List.mem_of_getElem? (i := 4) rfl)) (fun _ h9 => h9) rfl dX7_lastNightBack_25 ?_
  obtain ⟨x_1, hr_2, hM⟩ := bn_some hM
  refine gv_i (r0 := x_1) (wn := (wX ct aX xX_text xX_reader xX_sowing xX_market xX_book xX_ways (aL 0) xX_draft xX_im0 xX_im1 xX_im2 mX ++ wL ct aL mL)) (va_runS (As := [.ref (aL 0), .int v1, .int ((mL 0 0) - (1 : Int32)), .int (mL 0 2), .int (mL 0 3)]) (rest := []) ⟨hx, hb, hml, hown, hts⟩ (kX4_backOf l dC dI ct aL _ mL v1 ((mL 0 0) - (1 : Int32)) (mL 0 2) (mL 0 3) _ hr_2) (va_cwS 5 hts gX7_lastNightBack_X4_backOf rfl rfl rfl hvX4_backOf.2 ⟨Nat.le_of_ble_eq_true rfl, Nat.le_of_ble_eq_true rfl⟩) (preS_of E0_ok hK hP hD (is := [3, 4, 5, 6, 7, 8, 9, 10, 11, 12]) rfl rfl e_0) rfl rfl hl.1 rfl (lv_room (Nat.le_of_ble_eq_true rfl)) dX7_lastNightBack_28 ⟨Nat.le_of_ble_eq_true rfl, Nat.le_of_ble_eq_true rfl⟩) hP hD hS hA [3, 4, 5, 6, 7, 8, 9, 10, 11, 12] [0, 1, 2] [0, 1, 2, 3, 4, 5, 6, 7, 8, 9, 10, 11, 12] rfl rfl rfl (by decide) rfl rfl (fun H locs hP hD hS => ?_)
  have hR := som hM
  rw [hR] at hQ
  exact ret_i hQ hx hb hr hlocks hP hK hD hS dX7_lastNightBack_31
abbrev rmX7_canBeLoan : Room := { frames := 2, cells := 0, slots := 0, locals := 42 }
set_option maxHeartbeats 4000000 in
set_option maxRecDepth 100000 in
theorem kX7_canBeLoan (l : Launch) (dC : Nat → ClassId) (dI : Nat → Nat → Nat) (ct : Nat → ClassId) (aX : Nat → Nat) (aL : Nat → Nat) (xX_text : Nat) (xX_reader : Nat) (xX_sowing : Nat) (xX_market : Nat) (xX_book : Nat) (xX_ways : Nat) (xX_draft : Nat) (xX_im0 : Nat) (xX_im1 : Nat) (xX_im2 : Nat) (sz : Nat) (mX : Mem) (mL : Mem) (v1 : Int32) (v2 : Int32) (v3 : Int32) (v4 : Int32) (res : Int32) (hM : mX7_canBeLoan mX mL v1 v2 v3 v4 = some res) : Met l yX7_canBeLoan wsX7_canBeLoan rmX7_canBeLoan (va_Pc [.ref (aX 0), .int v1, .int v2, .int v3, .int v4] (PB (dC, dI) ct E0 sz (wX ct aX xX_text xX_reader xX_sowing xX_market xX_book xX_ways (aL 0) xX_draft xX_im0 xX_im1 xX_im2 mX ++ wL ct aL mL))) (Qi (dC, dI) ct (va_A (wX ct aX xX_text xX_reader xX_sowing xX_market xX_book xX_ways (aL 0) xX_draft xX_im0 xX_im1 xX_im2 mX ++ wL ct aL mL) sz) res (wX ct aX xX_text xX_reader xX_sowing xX_market xX_book xX_ways (aL 0) xX_draft xX_im0 xX_im1 xX_im2 mX ++ wL ct aL mL)) 0 0 (va_A (wX ct aX xX_text xX_reader xX_sowing xX_market xX_book xX_ways (aL 0) xX_draft xX_im0 xX_im1 xX_im2 mX ++ wL ct aL mL) sz) := by
  refine Met.ofW (cc := cX7_canBeLoan) (maxL := 5) (ret := (some .boolean)) (by decide) rfl ?_
  intro p e s m args below meth c s₁ B hml hv
  obtain ⟨hargs, hsz, hP, hK, hD0, hE⟩ := hv
  have hx := B.exec
  have hb := B.bytes
  have hr := B.returns
  have hts := atoms_spec (ws := wsX7_canBeLoan) B.pre
  have hown : s.vm.findClass RX7 = some m.cls := findClass_of_methodNamed B.named
  have hlocks := B.notSynchronized
  clear B s₁
  subst hsz
  have hD := hD0.self (sz := s.heap.size)
  clear hD0
  generalize hAe : va_A (wX ct aX xX_text xX_reader xX_sowing xX_market xX_book xX_ways (aL 0) xX_draft xX_im0 xX_im1 xX_im2 mX ++ wL ct aL mL) s.heap.size = A at hD hE ⊢
  have hA : ∀ q : Nat, s.heap.size ≤ q → A q := fun q h => by rw [← hAe]; exact Or.inr h
  clear hAe
  have hS : va_S A s.heap s.heap [] := va_S.rf
  refine cutQ (fun Q hQ => ?_)
  refine entryW (vs := [.ref (aX 0), .int v1, .int v2, .int v3, .int v4]) hargs (Nat.le_of_ble_eq_true rfl) (fun ls hl => ?_)
  replace hl : lv_has ls 5 [(0, .ref (aX 0)), (1, .int v1), (2, .int v2), (3, .int v3), (4, .int v4)] := hl
  unfold mX7_canBeLoan at hM
  refine lv_iload_n hx hb dX7_canBeLoan_0 rfl (lv_at hl 1 rfl) ?_
  refine lv_if_lt (tgt := 37) hx hb dX7_canBeLoan_1 (by decide) (fun hc_1 => ?_) (fun hc_1 => ?_)
  · have hM := it_p hc_1 hM
    refine lv_iconst (v := 0) hx hb dX7_canBeLoan_37 (by decide) ?_
    have hR := som hM
    rw [hR] at hQ
    exact ret_z hQ hx hb hr hlocks rfl hP hK hD hS dX7_canBeLoan_38
  · have hM := it_n hc_1 hM
    refine lv_aload_n hx hb dX7_canBeLoan_4 rfl (lv_at hl 0 rfl) ?_
    refine lv_iload_n hx hb dX7_canBeLoan_5 rfl (lv_at hl 1 rfl) ?_
    refine lv_bipush (v := 10) hx hb dX7_canBeLoan_6 (by decide) ?_
    refine lv_idiv hx hb dX7_canBeLoan_8 (by decide) ?_
    obtain ⟨x_2, hr_3, hM⟩ := bn_some hM
    refine gv_i (r0 := x_2) (wn := (wX ct aX xX_text xX_reader xX_sowing xX_market xX_book xX_ways (aL 0) xX_draft xX_im0 xX_im1 xX_im2 mX ++ wL ct aL mL)) (va_runV (As := [.int (v1 / (10 : Int32))]) (rest := []) ⟨hx, hb, hml, hown, hts⟩ (kX7_isSort l dC dI ct aX aL xX_text xX_reader xX_sowing xX_market xX_book xX_ways xX_draft xX_im0 xX_im1 xX_im2 _ mX mL (v1 / (10 : Int32)) _ hr_3) (cwV 1 hts gX7_canBeLoan_X7_isSort rfl rfl rfl hvX7_isSort ⟨Nat.le_of_ble_eq_true rfl, Nat.le_of_ble_eq_true rfl⟩) (preV_of E0_ok hK hP hD (is := [0, 1, 2, 3, 4, 5, 6, 7, 8, 9, 10, 11, 12]) rfl rfl rfl (ci := 7) rfl 0 rfl e_0) rfl rfl hl.1 rfl (lv_room (Nat.le_of_ble_eq_true rfl)) dX7_canBeLoan_9 ⟨Nat.le_of_ble_eq_true rfl, Nat.le_of_ble_eq_true rfl⟩) hP hD hS hA [0, 1, 2, 3, 4, 5, 6, 7, 8, 9, 10, 11, 12] [] [0, 1, 2, 3, 4, 5, 6, 7, 8, 9, 10, 11, 12] rfl rfl rfl (by decide) rfl rfl (fun H locs hP hD hS => ?_)
    refine lv_if_eq (tgt := 37) hx hb dX7_canBeLoan_12 (by decide) (fun hc_5 => ?_) (fun hc_5 => ?_)
    · have hM := it_p hc_5 hM
      refine lv_iconst (v := 0) hx hb dX7_canBeLoan_37 (by decide) ?_
      have hR := som hM
      rw [hR] at hQ
      exact ret_z hQ hx hb hr hlocks rfl hP hK hD hS dX7_canBeLoan_38
    · have hM := it_n hc_5 hM
      refine lv_aload_n hx hb dX7_canBeLoan_15 rfl (lv_at hl 0 rfl) ?_
      refine lv_iload_n hx hb dX7_canBeLoan_16 rfl (lv_at hl 1 rfl) ?_
      refine lv_bipush (v := 10) hx hb dX7_canBeLoan_17 (by decide) ?_
      refine lv_irem hx hb dX7_canBeLoan_19 (by decide) ?_
      obtain ⟨x_6, hr_7, hM⟩ := bn_some hM
      refine gv_i (r0 := x_6) (wn := (wX ct aX xX_text xX_reader xX_sowing xX_market xX_book xX_ways (aL 0) xX_draft xX_im0 xX_im1 xX_im2 mX ++ wL ct aL mL)) (va_runV (As := [.int (v1 - v1 / (10 : Int32) * (10 : Int32))]) (rest := []) ⟨hx, hb, hml, hown, hts⟩ (kX7_isSort l dC dI ct aX aL xX_text xX_reader xX_sowing xX_market xX_book xX_ways xX_draft xX_im0 xX_im1 xX_im2 _ mX mL (v1 - v1 / (10 : Int32) * (10 : Int32)) _ hr_7) (cwV 1 hts gX7_canBeLoan_X7_isSort rfl rfl rfl hvX7_isSort ⟨Nat.le_of_ble_eq_true rfl, Nat.le_of_ble_eq_true rfl⟩) (preV_of E0_ok hK hP hD (is := [0, 1, 2, 3, 4, 5, 6, 7, 8, 9, 10, 11, 12]) rfl rfl rfl (ci := 7) rfl 0 rfl e_0) rfl rfl hl.1 rfl (lv_room (Nat.le_of_ble_eq_true rfl)) dX7_canBeLoan_20 ⟨Nat.le_of_ble_eq_true rfl, Nat.le_of_ble_eq_true rfl⟩) hP hD hS hA [0, 1, 2, 3, 4, 5, 6, 7, 8, 9, 10, 11, 12] [] [0, 1, 2, 3, 4, 5, 6, 7, 8, 9, 10, 11, 12] rfl rfl rfl (by decide) rfl rfl (fun H locs hP hD hS => ?_)
      refine lv_if_eq (tgt := 37) hx hb dX7_canBeLoan_23 (by decide) (fun hc_9 => ?_) (fun hc_9 => ?_)
      · have hM := it_p hc_9 hM
        refine lv_iconst (v := 0) hx hb dX7_canBeLoan_37 (by decide) ?_
        have hR := som hM
        rw [hR] at hQ
        exact ret_z hQ hx hb hr hlocks rfl hP hK hD hS dX7_canBeLoan_38
      · have hM := it_n hc_9 hM
        refine lv_iload_n hx hb dX7_canBeLoan_26 rfl (lv_at hl 1 rfl) ?_
        refine lv_bipush (v := 10) hx hb dX7_canBeLoan_27 (by decide) ?_
        refine lv_idiv hx hb dX7_canBeLoan_29 (by decide) ?_
        refine lv_iload_n hx hb dX7_canBeLoan_30 rfl (lv_at hl 1 rfl) ?_
        refine lv_bipush (v := 10) hx hb dX7_canBeLoan_31 (by decide) ?_
        refine lv_irem hx hb dX7_canBeLoan_33 (by decide) ?_
        refine lv_icmp_ne (tgt := 39) hx hb dX7_canBeLoan_34 (by decide) (fun hc_10 => ?_) (fun hc_10 => ?_)
        · have hM := it_p hc_10 hM
          refine lv_iload_n hx hb dX7_canBeLoan_39 rfl (lv_at hl 2 rfl) ?_
          refine lv_iconst (v := 0) hx hb dX7_canBeLoan_40 (by decide) ?_
          refine lv_iconst (v := 4) hx hb dX7_canBeLoan_41 (by decide) ?_
          obtain ⟨x_11, hr_12, hM⟩ := bn_some hM
          refine gv_i (r0 := x_11) (wn := (wX ct aX xX_text xX_reader xX_sowing xX_market xX_book xX_ways (aL 0) xX_draft xX_im0 xX_im1 xX_im2 mX ++ wL ct aL mL)) (va_runS (As := [.int v2, .int (0 : Int32), .int (4 : Int32)]) (rest := []) ⟨hx, hb, hml, hown, hts⟩ (kX7_isIn l dC dI ct _ v2 (0 : Int32) (4 : Int32) _ hr_12) (va_cwS 3 hts gX7_canBeLoan_X7_isIn rfl rfl rfl hvX7_isIn.2 ⟨Nat.le_of_ble_eq_true rfl, Nat.le_of_ble_eq_true rfl⟩) (preS_of E0_ok hK hP hD (is := []) rfl rfl e_0) rfl rfl hl.1 rfl (lv_room (Nat.le_of_ble_eq_true rfl)) dX7_canBeLoan_42 ⟨Nat.le_of_ble_eq_true rfl, Nat.le_of_ble_eq_true rfl⟩) hP hD hS hA [] [0, 1, 2, 3, 4, 5, 6, 7, 8, 9, 10, 11, 12] [0, 1, 2, 3, 4, 5, 6, 7, 8, 9, 10, 11, 12] rfl rfl rfl (by decide) rfl rfl (fun H locs hP hD hS => ?_)
          refine lv_if_eq (tgt := 75) hx hb dX7_canBeLoan_45 (by decide) (fun hc_14 => ?_) (fun hc_14 => ?_)
          · have hM := it_p hc_14 hM
            refine lv_iconst (v := 0) hx hb dX7_canBeLoan_75 (by decide) ?_
            have hR := som hM
            rw [hR] at hQ
            exact ret_z hQ hx hb hr hlocks rfl hP hK hD hS dX7_canBeLoan_76
          · have hM := it_n hc_14 hM
            refine lv_iload_n hx hb dX7_canBeLoan_48 rfl (lv_at hl 3 rfl) ?_
            refine lv_iconst (v := 1) hx hb dX7_canBeLoan_49 (by decide) ?_
            refine lv_sipush (v := 9999) hx hb dX7_canBeLoan_50 (by decide) ?_
            obtain ⟨x_15, hr_16, hM⟩ := bn_some hM
            refine gv_i (r0 := x_15) (wn := (wX ct aX xX_text xX_reader xX_sowing xX_market xX_book xX_ways (aL 0) xX_draft xX_im0 xX_im1 xX_im2 mX ++ wL ct aL mL)) (va_runS (As := [.int v3, .int (1 : Int32), .int (9999 : Int32)]) (rest := []) ⟨hx, hb, hml, hown, hts⟩ (kX7_isIn l dC dI ct _ v3 (1 : Int32) (9999 : Int32) _ hr_16) (va_cwS 3 hts gX7_canBeLoan_X7_isIn rfl rfl rfl hvX7_isIn.2 ⟨Nat.le_of_ble_eq_true rfl, Nat.le_of_ble_eq_true rfl⟩) (preS_of E0_ok hK hP hD (is := []) rfl rfl e_0) rfl rfl hl.1 rfl (lv_room (Nat.le_of_ble_eq_true rfl)) dX7_canBeLoan_53 ⟨Nat.le_of_ble_eq_true rfl, Nat.le_of_ble_eq_true rfl⟩) hP hD hS hA [] [0, 1, 2, 3, 4, 5, 6, 7, 8, 9, 10, 11, 12] [0, 1, 2, 3, 4, 5, 6, 7, 8, 9, 10, 11, 12] rfl rfl rfl (by decide) rfl rfl (fun H locs hP hD hS => ?_)
            refine lv_if_eq (tgt := 75) hx hb dX7_canBeLoan_56 (by decide) (fun hc_18 => ?_) (fun hc_18 => ?_)
            · have hM := it_p hc_18 hM
              refine lv_iconst (v := 0) hx hb dX7_canBeLoan_75 (by decide) ?_
              have hR := som hM
              rw [hR] at hQ
              exact ret_z hQ hx hb hr hlocks rfl hP hK hD hS dX7_canBeLoan_76
            · have hM := it_n hc_18 hM
              refine lv_iload hx hb dX7_canBeLoan_59 (lv_at hl 4 rfl) ?_
              refine lv_iconst (v := 0) hx hb dX7_canBeLoan_61 (by decide) ?_
              refine lv_sipush (v := 400) hx hb dX7_canBeLoan_62 (by decide) ?_
              obtain ⟨x_19, hr_20, hM⟩ := bn_some hM
              refine gv_i (r0 := x_19) (wn := (wX ct aX xX_text xX_reader xX_sowing xX_market xX_book xX_ways (aL 0) xX_draft xX_im0 xX_im1 xX_im2 mX ++ wL ct aL mL)) (va_runS (As := [.int v4, .int (0 : Int32), .int (400 : Int32)]) (rest := []) ⟨hx, hb, hml, hown, hts⟩ (kX7_isIn l dC dI ct _ v4 (0 : Int32) (400 : Int32) _ hr_20) (va_cwS 3 hts gX7_canBeLoan_X7_isIn rfl rfl rfl hvX7_isIn.2 ⟨Nat.le_of_ble_eq_true rfl, Nat.le_of_ble_eq_true rfl⟩) (preS_of E0_ok hK hP hD (is := []) rfl rfl e_0) rfl rfl hl.1 rfl (lv_room (Nat.le_of_ble_eq_true rfl)) dX7_canBeLoan_65 ⟨Nat.le_of_ble_eq_true rfl, Nat.le_of_ble_eq_true rfl⟩) hP hD hS hA [] [0, 1, 2, 3, 4, 5, 6, 7, 8, 9, 10, 11, 12] [0, 1, 2, 3, 4, 5, 6, 7, 8, 9, 10, 11, 12] rfl rfl rfl (by decide) rfl rfl (fun H locs hP hD hS => ?_)
              refine lv_if_eq (tgt := 75) hx hb dX7_canBeLoan_68 (by decide) (fun hc_22 => ?_) (fun hc_22 => ?_)
              · have hM := it_p hc_22 hM
                refine lv_iconst (v := 0) hx hb dX7_canBeLoan_75 (by decide) ?_
                have hR := som hM
                rw [hR] at hQ
                exact ret_z hQ hx hb hr hlocks rfl hP hK hD hS dX7_canBeLoan_76
              · have hM := it_n hc_22 hM
                refine lv_iconst (v := 1) hx hb dX7_canBeLoan_71 (by decide) ?_
                refine lv_goto (tgt := 76) hx hb dX7_canBeLoan_72 (by decide) ?_
                have hR := som hM
                rw [hR] at hQ
                exact ret_z hQ hx hb hr hlocks rfl hP hK hD hS dX7_canBeLoan_76
        · have hM := it_nn hc_10 hM
          refine lv_iconst (v := 0) hx hb dX7_canBeLoan_37 (by decide) ?_
          have hR := som hM
          rw [hR] at hQ
          exact ret_z hQ hx hb hr hlocks rfl hP hK hD hS dX7_canBeLoan_38
abbrev rmX7_lent : Room := { frames := 4, cells := 0, slots := 0, locals := 95 }
theorem iwX7_lent_X1 : ∀ w ∈ wsX10, w ∈ wsX7_lent := fun _ h => List.mem_cons_of_mem _ (List.mem_append_left _ (List.mem_append_right _ (h)))
theorem iwX7_lent_X4 : ∀ w ∈ wsX40, w ∈ wsX7_lent := fun _ h => List.mem_cons_of_mem _ (List.mem_append_right _ (h))
theorem iwX7_lent_X7 : ∀ w ∈ wsX70, w ∈ wsX7_lent := fun _ h => List.mem_cons_of_mem _ (List.mem_append_left _ (List.mem_append_left _ (List.mem_append_right _ (h))))
set_option maxHeartbeats 4000000 in
set_option maxRecDepth 100000 in
theorem kX7_lent (l : Launch) (dC : Nat → ClassId) (dI : Nat → Nat → Nat) (ct : Nat → ClassId) (aX : Nat → Nat) (aS : Nat → Nat) (aL : Nat → Nat) (xX_text : Nat) (xX_reader : Nat) (xX_market : Nat) (xX_book : Nat) (xX_ways : Nat) (xX_draft : Nat) (xX_im0 : Nat) (xX_im1 : Nat) (xX_im2 : Nat) (sz : Nat) (mX : Mem) (mS : Mem) (mL : Mem) (v1 : Int32) (v2 : Int32) (res : (Int32 × Mem)) (hM : mX7_lent mX mS mL v1 v2 = some res) : Met l yX7_lent wsX7_lent rmX7_lent (va_Pc [.ref (aX 0), .int v1, .int v2] (PB (dC, dI) ct E0 sz (wX ct aX xX_text xX_reader (aS 0) xX_market xX_book xX_ways (aL 0) xX_draft xX_im0 xX_im1 xX_im2 mX ++ wS ct aS mS ++ wL ct aL mL))) (Qi (dC, dI) ct (va_A (wX ct aX xX_text xX_reader (aS 0) xX_market xX_book xX_ways (aL 0) xX_draft xX_im0 xX_im1 xX_im2 mX ++ wS ct aS mS ++ wL ct aL mL) sz) res.1 (wX ct aX xX_text xX_reader (aS 0) xX_market xX_book xX_ways (aL 0) xX_draft xX_im0 xX_im1 xX_im2 mX ++ wS ct aS res.2 ++ wL ct aL mL)) 0 0 (va_A (wX ct aX xX_text xX_reader (aS 0) xX_market xX_book xX_ways (aL 0) xX_draft xX_im0 xX_im1 xX_im2 mX ++ wS ct aS mS ++ wL ct aL mL) sz) := by
  refine Met.ofW (cc := cX7_lent) (maxL := 3) (ret := (some .int)) (by decide) rfl ?_
  intro p e s m args below meth c s₁ B hml hv
  obtain ⟨hargs, hsz, hP, hK, hD0, hE⟩ := hv
  have hx := B.exec
  have hb := B.bytes
  have hr := B.returns
  have hts := atoms_spec (ws := wsX7_lent) B.pre
  have hown : s.vm.findClass RX7 = some m.cls := findClass_of_methodNamed B.named
  have hlocks := B.notSynchronized
  clear B s₁
  subst hsz
  have hD := hD0.self (sz := s.heap.size)
  clear hD0
  generalize hAe : va_A (wX ct aX xX_text xX_reader (aS 0) xX_market xX_book xX_ways (aL 0) xX_draft xX_im0 xX_im1 xX_im2 mX ++ wS ct aS mS ++ wL ct aL mL) s.heap.size = A at hD hE ⊢
  have hA : ∀ q : Nat, s.heap.size ≤ q → A q := fun q h => by rw [← hAe]; exact Or.inr h
  clear hAe
  have hS : va_S A s.heap s.heap [] := va_S.rf
  refine cutQ (fun Q hQ => ?_)
  refine entryW (vs := [.ref (aX 0), .int v1, .int v2]) hargs (Nat.le_of_ble_eq_true rfl) (fun ls hl => ?_)
  replace hl : lv_has ls 3 [(0, .ref (aX 0)), (1, .int v1), (2, .int v2)] := hl
  unfold mX7_lent at hM
  have N29 : ∀ (v1 : Int32) (v2 : Int32) (mS : Mem), mX7_lent_j29 v1 v2 mX mS mL = some res → ∀ (H : Heap) (locs : List Loc), va_P (dC, dI) vwCl (wX ct aX xX_text xX_reader (aS 0) xX_market xX_book xX_ways (aL 0) xX_draft xX_im0 xX_im1 xX_im2 mX ++ wS ct aS mS ++ wL ct aL mL) H → va_D A (wX ct aX xX_text xX_reader (aS 0) xX_market xX_book xX_ways (aL 0) xX_draft xX_im0 xX_im1 xX_im2 mX ++ wS ct aS mS ++ wL ct aL mL) → va_S A s.heap H locs → ∀ ls : Array Slot, lv_has ls 3 [(0, .ref (aX 0)), (1, .int v1), (2, .int v2)] → W p l e (headSpec wsX7_lent rmX7_lent).room s m args below meth c H locs 0 0 Q (F0 m 29 ls []) := by
    intro v1 v2 mS hM H locs hP hD hS ls hl
    unfold mX7_lent_j29 at hM
    refine lv_aload_n hx hb dX7_lent_29 rfl (lv_at hl 0 rfl) ?_
    refine va_get (D := (dC, dI)) (ci := 7) (v := .ref (aS 0)) (C := RX7) (T := TX7) (N := 11) hx hb hts iwX7_lent_X7 hown hK hP 0 rfl rfl 2 (by decide) (hts _ (List.mem_of_getElem? (i := 2) rfl)) (fun _ h9 => h9) rfl dX7_lent_30 ?_
    refine lv_aload_n hx hb dX7_lent_33 rfl (lv_at hl 0 rfl) ?_
    refine va_get (D := (dC, dI)) (ci := 7) (v := .ref (aL 0)) (C := RX7) (T := TX7) (N := 11) hx hb hts iwX7_lent_X7 hown hK hP 0 rfl rfl 8 (by decide) (hts _ (List.mem_of_getElem? (i := 3) rfl)) (fun _ h9 => h9) rfl dX7_lent_34 ?_
    refine lv_iload_n hx hb dX7_lent_37 rfl (lv_at hl 2 rfl) ?_
    refine lv_aload_n hx hb dX7_lent_38 rfl (lv_at hl 0 rfl) ?_
    refine va_get (D := (dC, dI)) (ci := 7) (v := .ref (aL 0)) (C := RX7) (T := TX7) (N := 11) hx hb hts iwX7_lent_X7 hown hK hP 0 rfl rfl 8 (by decide) (hts _ (List.mem_of_getElem? (i := 3) rfl)) (fun _ h9 => h9) rfl dX7_lent_39 ?_
    refine va_get (D := (dC, dI)) (ci := 1) (v := .int (mL 0 2)) (C := RX1) (T := TX1) (N := 17) hx hb hts iwX7_lent_X1 hown hK hP 7 rfl rfl 2 (by decide) (hts _ (List.mem_of_getElem? (i := 4) rfl)) (fun _ h9 => h9) rfl dX7_lent_42 ?_
    refine lv_aload_n hx hb dX7_lent_45 rfl (lv_at hl 0 rfl) ?_
    refine va_get (D := (dC, dI)) (ci := 7) (v := .ref (aL 0)) (C := RX7) (T := TX7) (N := 11) hx hb hts iwX7_lent_X7 hown hK hP 0 rfl rfl 8 (by decide) (hts _ (List.mem_of_getElem? (i := 3) rfl)) (fun _ h9 => h9) rfl dX7_lent_46 ?_
    refine va_get (D := (dC, dI)) (ci := 1) (v := .int (mL 0 3)) (C := RX1) (T := TX1) (N := 17) hx hb hts iwX7_lent_X1 hown hK hP 7 rfl rfl 3 (by decide) (hts _ (List.mem_of_getElem? (i := 5) rfl)) (fun _ h9 => h9) rfl dX7_lent_49 ?_
    obtain ⟨mS_1, hr_2, hM⟩ := bn_some hM
    refine gv_v (wn := (wX ct aX xX_text xX_reader (aS 0) xX_market xX_book xX_ways (aL 0) xX_draft xX_im0 xX_im1 xX_im2 mX ++ wS ct aS mS_1 ++ wL ct aL mL)) (va_runV (As := [.ref (aL 0), .int v2, .int (mL 0 2), .int (mL 0 3)]) (rest := []) ⟨hx, hb, hml, hown, hts⟩ (kX4_shareNight l dC dI ct aS aL _ mS mL v2 (mL 0 2) (mL 0 3) _ hr_2) (cwV 4 hts gX7_lent_X4_shareNight rfl rfl rfl hvX4_shareNight ⟨Nat.le_of_ble_eq_true rfl, Nat.le_of_ble_eq_true rfl⟩) (preV_of E0_ok hK hP hD (is := [3, 4, 5, 6, 7, 8, 9, 10, 11, 12, 13, 14, 15, 16]) rfl rfl rfl (ci := 4) rfl 3 rfl e_0) rfl rfl hl.1 rfl (lv_room (Nat.le_of_ble_eq_true rfl)) dX7_lent_52 ⟨Nat.le_of_ble_eq_true rfl, Nat.le_of_ble_eq_true rfl⟩) hP hD hS hA [3, 4, 5, 6, 7, 8, 9, 10, 11, 12, 13, 14, 15, 16] [0, 1, 2] [0, 1, 2, 3, 4, 5, 6, 7, 8, 9, 10, 11, 12, 13, 14, 15, 16] rfl rfl rfl (by decide) rfl rfl (fun H locs hP hD hS => ?_)
    refine lv_iload_n hx hb dX7_lent_55 rfl (lv_at hl 1 rfl) ?_
    refine lv_iconst (v := -1) hx hb dX7_lent_56 (by decide) ?_
    refine lv_icmp_ne (tgt := 74) hx hb dX7_lent_57 (by decide) (fun hc_4 => ?_) (fun hc_4 => ?_)
    · have hM := it_p hc_4 hM
      refine lv_aload_n hx hb dX7_lent_74 rfl (lv_at hl 0 rfl) ?_
      refine va_get (D := (dC, dI)) (ci := 7) (v := .ref (aS 0)) (C := RX7) (T := TX7) (N := 11) hx hb hts iwX7_lent_X7 hown hK hP 0 rfl rfl 2 (by decide) (hts _ (List.mem_of_getElem? (i := 2) rfl)) (fun _ h9 => h9) rfl dX7_lent_75 ?_
      refine va_get (D := (dC, dI)) (ci := 4) (v := .ref (aS 1)) (C := RX4) (T := TX4) (N := 8) hx hb hts iwX7_lent_X4 hown hK hP 3 rfl rfl 0 (by decide) (hts _ (List.mem_of_getElem? (i := 6) rfl)) (fun _ h9 => h9) rfl dX7_lent_78 ?_
      refine lv_iload_n hx hb dX7_lent_81 rfl (lv_at hl 1 rfl) ?_
      obtain ⟨hi, hM⟩ := gi_some hM
      refine va_iald hx hb hK hP 4 0 rfl rfl hi dX7_lent_82 ?_
      refine lv_topi (fun x_5 ex_5 => ?_)
      have hM := nm_at ex_5 hM
      have hR := som hM
      rw [hR] at hQ
      exact ret_i hQ hx hb hr hlocks hP hK hD hS dX7_lent_83
    · have hM := it_nn hc_4 hM
      refine lv_aload_n hx hb dX7_lent_60 rfl (lv_at hl 0 rfl) ?_
      refine va_get (D := (dC, dI)) (ci := 7) (v := .ref (aS 0)) (C := RX7) (T := TX7) (N := 11) hx hb hts iwX7_lent_X7 hown hK hP 0 rfl rfl 2 (by decide) (hts _ (List.mem_of_getElem? (i := 2) rfl)) (fun _ h9 => h9) rfl dX7_lent_61 ?_
      refine lv_aload_n hx hb dX7_lent_64 rfl (lv_at hl 0 rfl) ?_
      refine va_get (D := (dC, dI)) (ci := 7) (v := .ref (aL 0)) (C := RX7) (T := TX7) (N := 11) hx hb hts iwX7_lent_X7 hown hK hP 0 rfl rfl 8 (by decide) (hts _ (List.mem_of_getElem? (i := 3) rfl)) (fun _ h9 => h9) rfl dX7_lent_65 ?_
      obtain ⟨x_6, hr_7, hM⟩ := bn_some hM
      refine gv_i (r0 := x_6) (wn := (wX ct aX xX_text xX_reader (aS 0) xX_market xX_book xX_ways (aL 0) xX_draft xX_im0 xX_im1 xX_im2 mX ++ wS ct aS mS_1 ++ wL ct aL mL)) (va_runV (As := [.ref (aL 0)]) (rest := []) ⟨hx, hb, hml, hown, hts⟩ (kX4_sownTonight l dC dI ct aS aL _ mS_1 mL _ hr_7) (cwV 1 hts gX7_lent_X4_sownTonight rfl rfl rfl hvX4_sownTonight ⟨Nat.le_of_ble_eq_true rfl, Nat.le_of_ble_eq_true rfl⟩) (preV_of E0_ok hK hP hD (is := [3, 4, 5, 6, 7, 8, 9, 10, 11, 12, 13, 14, 15, 16]) rfl rfl rfl (ci := 4) rfl 3 rfl e_0) rfl rfl hl.1 rfl (lv_room (Nat.le_of_ble_eq_true rfl)) dX7_lent_68 ⟨Nat.le_of_ble_eq_true rfl, Nat.le_of_ble_eq_true rfl⟩) hP hD hS hA [3, 4, 5, 6, 7, 8, 9, 10, 11, 12, 13, 14, 15, 16] [0, 1, 2] [0, 1, 2, 3, 4, 5, 6, 7, 8, 9, 10, 11, 12, 13, 14, 15, 16] rfl rfl rfl (by decide) rfl rfl (fun H locs hP hD hS => ?_)
      refine lv_goto (tgt := 83) hx hb dX7_lent_71 (by decide) ?_
      have hR := som hM
      rw [hR] at hQ
      exact ret_i hQ hx hb hr hlocks hP hK hD hS dX7_lent_83
  refine lv_aload_n hx hb dX7_lent_0 rfl (lv_at hl 0 rfl) ?_
  refine va_get (D := (dC, dI)) (ci := 7) (v := .int (mX 0 10)) (C := RX7) (T := TX7) (N := 11) hx hb hts iwX7_lent_X7 hown hK hP 0 rfl rfl 10 (by decide) (hts _ (List.mem_of_getElem? (i := 1) rfl)) (fun _ h9 => h9) rfl dX7_lent_1 ?_
  refine lv_if_eq (tgt := 27) hx hb dX7_lent_4 (by decide) (fun hc_9 => ?_) (fun hc_9 => ?_)
  · have hM := it_p hc_9 hM
    refine lv_iconst (v := -1) hx hb dX7_lent_27 (by decide) ?_
    have hR := som hM
    rw [hR] at hQ
    exact ret_i hQ hx hb hr hlocks hP hK hD hS dX7_lent_28
  · have hM := it_n hc_9 hM
    refine lv_iload_n hx hb dX7_lent_7 rfl (lv_at hl 2 rfl) ?_
    obtain ⟨x_10, hr_11, hM⟩ := bn_some hM
    refine gv_i (r0 := x_10) (wn := (wX ct aX xX_text xX_reader (aS 0) xX_market xX_book xX_ways (aL 0) xX_draft xX_im0 xX_im1 xX_im2 mX ++ wS ct aS mS ++ wL ct aL mL)) (va_runS (As := [.int v2]) (rest := []) ⟨hx, hb, hml, hown, hts⟩ (kX7_isNight l dC dI ct _ v2 _ hr_11) (va_cwS 1 hts gX7_lent_X7_isNight rfl rfl rfl hvX7_isNight.2 ⟨Nat.le_of_ble_eq_true rfl, Nat.le_of_ble_eq_true rfl⟩) (preS_of E0_ok hK hP hD (is := []) rfl rfl e_0) rfl rfl hl.1 rfl (lv_room (Nat.le_of_ble_eq_true rfl)) dX7_lent_8 ⟨Nat.le_of_ble_eq_true rfl, Nat.le_of_ble_eq_true rfl⟩) hP hD hS hA [] [0, 1, 2, 3, 4, 5, 6, 7, 8, 9, 10, 11, 12, 13, 14, 15, 16] [0, 1, 2, 3, 4, 5, 6, 7, 8, 9, 10, 11, 12, 13, 14, 15, 16] rfl rfl rfl (by decide) rfl rfl (fun H locs hP hD hS => ?_)
    refine lv_if_eq (tgt := 27) hx hb dX7_lent_11 (by decide) (fun hc_13 => ?_) (fun hc_13 => ?_)
    · have hM := it_p hc_13 hM
      refine lv_iconst (v := -1) hx hb dX7_lent_27 (by decide) ?_
      have hR := som hM
      rw [hR] at hQ
      exact ret_i hQ hx hb hr hlocks hP hK hD hS dX7_lent_28
    · have hM := it_n hc_13 hM
      refine lv_iload_n hx hb dX7_lent_14 rfl (lv_at hl 1 rfl) ?_
      refine lv_iconst (v := -1) hx hb dX7_lent_15 (by decide) ?_
      refine lv_icmp_eq (tgt := 29) hx hb dX7_lent_16 (by decide) (fun hc_14 => ?_) (fun hc_14 => ?_)
      · have hM := it_p hc_14 hM
        exact N29 v1 v2 mS hM _ _ hP hD hS _ (lv_sub hl [0, 1, 2] rfl)
      · have hM := it_n hc_14 hM
        refine lv_aload_n hx hb dX7_lent_19 rfl (lv_at hl 0 rfl) ?_
        refine lv_iload_n hx hb dX7_lent_20 rfl (lv_at hl 1 rfl) ?_
        obtain ⟨x_15, hr_16, hM⟩ := bn_some hM
        refine gv_i (r0 := x_15) (wn := (wX ct aX xX_text xX_reader (aS 0) xX_market xX_book xX_ways (aL 0) xX_draft xX_im0 xX_im1 xX_im2 mX ++ wS ct aS mS ++ wL ct aL mL)) (va_runV (As := [.int v1]) (rest := []) ⟨hx, hb, hml, hown, hts⟩ (kX7_isSort l dC dI ct aX aL xX_text xX_reader (aS 0) xX_market xX_book xX_ways xX_draft xX_im0 xX_im1 xX_im2 _ mX mL v1 _ hr_16) (cwV 1 hts gX7_lent_X7_isSort rfl rfl rfl hvX7_isSort ⟨Nat.le_of_ble_eq_true rfl, Nat.le_of_ble_eq_true rfl⟩) (preV_of E0_ok hK hP hD (is := [0, 1, 2, 7, 8, 9, 10, 11, 12, 13, 14, 15, 16]) rfl rfl rfl (ci := 7) rfl 0 rfl e_0) rfl rfl hl.1 rfl (lv_room (Nat.le_of_ble_eq_true rfl)) dX7_lent_21 ⟨Nat.le_of_ble_eq_true rfl, Nat.le_of_ble_eq_true rfl⟩) hP hD hS hA [0, 1, 2, 7, 8, 9, 10, 11, 12, 13, 14, 15, 16] [3, 4, 5, 6] [4, 5, 6, 0, 1, 2, 3, 7, 8, 9, 10, 11, 12, 13, 14, 15, 16] rfl rfl rfl (by decide) rfl rfl (fun H locs hP hD hS => ?_)
        refine lv_if_ne (tgt := 29) hx hb dX7_lent_24 (by decide) (fun hc_18 => ?_) (fun hc_18 => ?_)
        · have hM := it_p hc_18 hM
          exact N29 v1 v2 mS hM _ _ hP hD hS _ (lv_sub hl [0, 1, 2] rfl)
        · have hM := it_nn hc_18 hM
          refine lv_iconst (v := -1) hx hb dX7_lent_27 (by decide) ?_
          have hR := som hM
          rw [hR] at hQ
          exact ret_i hQ hx hb hr hlocks hP hK hD hS dX7_lent_28
abbrev rmX7_brought : Room := { frames := 4, cells := 0, slots := 0, locals := 95 }
theorem iwX7_brought_X1 : ∀ w ∈ wsX10, w ∈ wsX7_brought := fun _ h => List.mem_cons_of_mem _ (List.mem_append_left _ (List.mem_append_right _ (h)))
theorem iwX7_brought_X7 : ∀ w ∈ wsX70, w ∈ wsX7_brought := fun _ h => List.mem_cons_of_mem _ (List.mem_append_left _ (List.mem_append_left _ (List.mem_append_right _ (h))))
set_option maxHeartbeats 4000000 in
set_option maxRecDepth 100000 in
theorem kX7_brought (l : Launch) (dC : Nat → ClassId) (dI : Nat → Nat → Nat) (ct : Nat → ClassId) (aX : Nat → Nat) (aS : Nat → Nat) (aL : Nat → Nat) (xX_text : Nat) (xX_reader : Nat) (xX_market : Nat) (xX_book : Nat) (xX_ways : Nat) (xX_draft : Nat) (xX_im0 : Nat) (xX_im1 : Nat) (xX_im2 : Nat) (sz : Nat) (mX : Mem) (mS : Mem) (mL : Mem) (v1 : Int32) (res : (Int32 × Mem)) (hM : mX7_brought mX mS mL v1 = some res) : Met l yX7_brought wsX7_brought rmX7_brought (va_Pc [.ref (aX 0), .int v1] (PB (dC, dI) ct E0 sz (wX ct aX xX_text xX_reader (aS 0) xX_market xX_book xX_ways (aL 0) xX_draft xX_im0 xX_im1 xX_im2 mX ++ wS ct aS mS ++ wL ct aL mL))) (Qi (dC, dI) ct (va_A (wX ct aX xX_text xX_reader (aS 0) xX_market xX_book xX_ways (aL 0) xX_draft xX_im0 xX_im1 xX_im2 mX ++ wS ct aS mS ++ wL ct aL mL) sz) res.1 (wX ct aX xX_text xX_reader (aS 0) xX_market xX_book xX_ways (aL 0) xX_draft xX_im0 xX_im1 xX_im2 mX ++ wS ct aS res.2 ++ wL ct aL mL)) 0 0 (va_A (wX ct aX xX_text xX_reader (aS 0) xX_market xX_book xX_ways (aL 0) xX_draft xX_im0 xX_im1 xX_im2 mX ++ wS ct aS mS ++ wL ct aL mL) sz) := by
  refine Met.ofW (cc := cX7_brought) (maxL := 2) (ret := (some .int)) (by decide) rfl ?_
  intro p e s m args below meth c s₁ B hml hv
  obtain ⟨hargs, hsz, hP, hK, hD0, hE⟩ := hv
  have hx := B.exec
  have hb := B.bytes
  have hr := B.returns
  have hts := atoms_spec (ws := wsX7_brought) B.pre
  have hown : s.vm.findClass RX7 = some m.cls := findClass_of_methodNamed B.named
  have hlocks := B.notSynchronized
  clear B s₁
  subst hsz
  have hD := hD0.self (sz := s.heap.size)
  clear hD0
  generalize hAe : va_A (wX ct aX xX_text xX_reader (aS 0) xX_market xX_book xX_ways (aL 0) xX_draft xX_im0 xX_im1 xX_im2 mX ++ wS ct aS mS ++ wL ct aL mL) s.heap.size = A at hD hE ⊢
  have hA : ∀ q : Nat, s.heap.size ≤ q → A q := fun q h => by rw [← hAe]; exact Or.inr h
  clear hAe
  have hS : va_S A s.heap s.heap [] := va_S.rf
  refine cutQ (fun Q hQ => ?_)
  refine entryW (vs := [.ref (aX 0), .int v1]) hargs (Nat.le_of_ble_eq_true rfl) (fun ls hl => ?_)
  replace hl : lv_has ls 2 [(0, .ref (aX 0)), (1, .int v1)] := hl
  unfold mX7_brought at hM
  refine lv_aload_n hx hb dX7_brought_0 rfl (lv_at hl 0 rfl) ?_
  refine va_get (D := (dC, dI)) (ci := 7) (v := .int (mX 0 10)) (C := RX7) (T := TX7) (N := 11) hx hb hts iwX7_brought_X7 hown hK hP 0 rfl rfl 10 (by decide) (hts _ (List.mem_of_getElem? (i := 1) rfl)) (fun _ h9 => h9) rfl dX7_brought_1 ?_
  refine lv_if_eq (tgt := 14) hx hb dX7_brought_4 (by decide) (fun hc_1 => ?_) (fun hc_1 => ?_)
  · have hM := it_p hc_1 hM
    refine lv_iconst (v := -1) hx hb dX7_brought_14 (by decide) ?_
    have hR := som hM
    rw [hR] at hQ
    exact ret_i hQ hx hb hr hlocks hP hK hD hS dX7_brought_15
  · have hM := it_n hc_1 hM
    refine lv_iload_n hx hb dX7_brought_7 rfl (lv_at hl 1 rfl) ?_
    obtain ⟨x_2, hr_3, hM⟩ := bn_some hM
    refine gv_i (r0 := x_2) (wn := (wX ct aX xX_text xX_reader (aS 0) xX_market xX_book xX_ways (aL 0) xX_draft xX_im0 xX_im1 xX_im2 mX ++ wS ct aS mS ++ wL ct aL mL)) (va_runS (As := [.int v1]) (rest := []) ⟨hx, hb, hml, hown, hts⟩ (kX7_isNight l dC dI ct _ v1 _ hr_3) (va_cwS 1 hts gX7_brought_X7_isNight rfl rfl rfl hvX7_isNight.2 ⟨Nat.le_of_ble_eq_true rfl, Nat.le_of_ble_eq_true rfl⟩) (preS_of E0_ok hK hP hD (is := []) rfl rfl e_0) rfl rfl hl.1 rfl (lv_room (Nat.le_of_ble_eq_true rfl)) dX7_brought_8 ⟨Nat.le_of_ble_eq_true rfl, Nat.le_of_ble_eq_true rfl⟩) hP hD hS hA [] [0, 1, 2, 3, 4, 5, 6, 7, 8, 9, 10, 11, 12, 13, 14, 15, 16] [0, 1, 2, 3, 4, 5, 6, 7, 8, 9, 10, 11, 12, 13, 14, 15, 16] rfl rfl rfl (by decide) rfl rfl (fun H locs hP hD hS => ?_)
    refine lv_if_ne (tgt := 16) hx hb dX7_brought_11 (by decide) (fun hc_5 => ?_) (fun hc_5 => ?_)
    · have hM := it_p hc_5 hM
      refine lv_aload_n hx hb dX7_brought_16 rfl (lv_at hl 0 rfl) ?_
      refine va_get (D := (dC, dI)) (ci := 7) (v := .ref (aS 0)) (C := RX7) (T := TX7) (N := 11) hx hb hts iwX7_brought_X7 hown hK hP 0 rfl rfl 2 (by decide) (hts _ (List.mem_of_getElem? (i := 2) rfl)) (fun _ h9 => h9) rfl dX7_brought_17 ?_
      refine lv_aload_n hx hb dX7_brought_20 rfl (lv_at hl 0 rfl) ?_
      refine va_get (D := (dC, dI)) (ci := 7) (v := .ref (aL 0)) (C := RX7) (T := TX7) (N := 11) hx hb hts iwX7_brought_X7 hown hK hP 0 rfl rfl 8 (by decide) (hts _ (List.mem_of_getElem? (i := 3) rfl)) (fun _ h9 => h9) rfl dX7_brought_21 ?_
      refine lv_iload_n hx hb dX7_brought_24 rfl (lv_at hl 1 rfl) ?_
      refine lv_aload_n hx hb dX7_brought_25 rfl (lv_at hl 0 rfl) ?_
      refine va_get (D := (dC, dI)) (ci := 7) (v := .ref (aL 0)) (C := RX7) (T := TX7) (N := 11) hx hb hts iwX7_brought_X7 hown hK hP 0 rfl rfl 8 (by decide) (hts _ (List.mem_of_getElem? (i := 3) rfl)) (fun _ h9 => h9) rfl dX7_brought_26 ?_
      refine va_get (D := (dC, dI)) (ci := 1) (v := .int (mL 0 2)) (C := RX1) (T := TX1) (N := 17) hx hb hts iwX7_brought_X1 hown hK hP 7 rfl rfl 2 (by decide) (hts _ (List.mem_of_getElem? (i := 4) rfl)) (fun _ h9 => h9) rfl dX7_brought_29 ?_
      refine lv_aload_n hx hb dX7_brought_32 rfl (lv_at hl 0 rfl) ?_
      refine va_get (D := (dC, dI)) (ci := 7) (v := .ref (aL 0)) (C := RX7) (T := TX7) (N := 11) hx hb hts iwX7_brought_X7 hown hK hP 0 rfl rfl 8 (by decide) (hts _ (List.mem_of_getElem? (i := 3) rfl)) (fun _ h9 => h9) rfl dX7_brought_33 ?_
      refine va_get (D := (dC, dI)) (ci := 1) (v := .int (mL 0 3)) (C := RX1) (T := TX1) (N := 17) hx hb hts iwX7_brought_X1 hown hK hP 7 rfl rfl 3 (by decide) (hts _ (List.mem_of_getElem? (i := 5) rfl)) (fun _ h9 => h9) rfl dX7_brought_36 ?_
      obtain ⟨mS_6, hr_7, hM⟩ := bn_some hM
      refine gv_v (wn := (wX ct aX xX_text xX_reader (aS 0) xX_market xX_book xX_ways (aL 0) xX_draft xX_im0 xX_im1 xX_im2 mX ++ wS ct aS mS_6 ++ wL ct aL mL)) (va_runV (As := [.ref (aL 0), .int v1, .int (mL 0 2), .int (mL 0 3)]) (rest := []) ⟨hx, hb, hml, hown, hts⟩ (kX4_shareNight l dC dI ct aS aL _ mS mL v1 (mL 0 2) (mL 0 3) _ hr_7) (cwV 4 hts gX7_brought_X4_shareNight rfl rfl rfl hvX4_shareNight ⟨Nat.le_of_ble_eq_true rfl, Nat.le_of_ble_eq_true rfl⟩) (preV_of E0_ok hK hP hD (is := [3, 4, 5, 6, 7, 8, 9, 10, 11, 12, 13, 14, 15, 16]) rfl rfl rfl (ci := 4) rfl 3 rfl e_0) rfl rfl hl.1 rfl (lv_room (Nat.le_of_ble_eq_true rfl)) dX7_brought_39 ⟨Nat.le_of_ble_eq_true rfl, Nat.le_of_ble_eq_true rfl⟩) hP hD hS hA [3, 4, 5, 6, 7, 8, 9, 10, 11, 12, 13, 14, 15, 16] [0, 1, 2] [0, 1, 2, 3, 4, 5, 6, 7, 8, 9, 10, 11, 12, 13, 14, 15, 16] rfl rfl rfl (by decide) rfl rfl (fun H locs hP hD hS => ?_)
      refine lv_aload_n hx hb dX7_brought_42 rfl (lv_at hl 0 rfl) ?_
      refine va_get (D := (dC, dI)) (ci := 7) (v := .ref (aS 0)) (C := RX7) (T := TX7) (N := 11) hx hb hts iwX7_brought_X7 hown hK hP 0 rfl rfl 2 (by decide) (hts _ (List.mem_of_getElem? (i := 2) rfl)) (fun _ h9 => h9) rfl dX7_brought_43 ?_
      refine lv_aload_n hx hb dX7_brought_46 rfl (lv_at hl 0 rfl) ?_
      refine va_get (D := (dC, dI)) (ci := 7) (v := .ref (aL 0)) (C := RX7) (T := TX7) (N := 11) hx hb hts iwX7_brought_X7 hown hK hP 0 rfl rfl 8 (by decide) (hts _ (List.mem_of_getElem? (i := 3) rfl)) (fun _ h9 => h9) rfl dX7_brought_47 ?_
      obtain ⟨x_9, hr_10, hM⟩ := bn_some hM
      refine gv_i (r0 := x_9) (wn := (wX ct aX xX_text xX_reader (aS 0) xX_market xX_book xX_ways (aL 0) xX_draft xX_im0 xX_im1 xX_im2 mX ++ wS ct aS mS_6 ++ wL ct aL mL)) (va_runV (As := [.ref (aL 0)]) (rest := []) ⟨hx, hb, hml, hown, hts⟩ (kX4_yieldTonight l dC dI ct aS aL _ mS_6 mL _ hr_10) (cwV 1 hts gX7_brought_X4_yieldTonight rfl rfl rfl hvX4_yieldTonight ⟨Nat.le_of_ble_eq_true rfl, Nat.le_of_ble_eq_true rfl⟩) (preV_of E0_ok hK hP hD (is := [3, 4, 5, 6, 7, 8, 9, 10, 11, 12, 13, 14, 15, 16]) rfl rfl rfl (ci := 4) rfl 3 rfl e_0) rfl rfl hl.1 rfl (lv_room (Nat.le_of_ble_eq_true rfl)) dX7_brought_50 ⟨Nat.le_of_ble_eq_true rfl, Nat.le_of_ble_eq_true rfl⟩) hP hD hS hA [3, 4, 5, 6, 7, 8, 9, 10, 11, 12, 13, 14, 15, 16] [0, 1, 2] [0, 1, 2, 3, 4, 5, 6, 7, 8, 9, 10, 11, 12, 13, 14, 15, 16] rfl rfl rfl (by decide) rfl rfl (fun H locs hP hD hS => ?_)
      have hR := som hM
      rw [hR] at hQ
      exact ret_i hQ hx hb hr hlocks hP hK hD hS dX7_brought_53
    · have hM := it_nn hc_5 hM
      refine lv_iconst (v := -1) hx hb dX7_brought_14 (by decide) ?_
      have hR := som hM
      rw [hR] at hQ
      exact ret_i hQ hx hb hr hlocks hP hK hD hS dX7_brought_15
abbrev rmX7_moon : Room := { frames := 5, cells := 0, slots := 0, locals := 120 }
theorem iwX7_moon_X4 : ∀ w ∈ wsX40, w ∈ wsX7_moon := fun _ h => List.mem_cons_of_mem _ (List.mem_append_left _ (List.mem_append_right _ (h)))
theorem iwX7_moon_X7 : ∀ w ∈ wsX70, w ∈ wsX7_moon := fun _ h => List.mem_cons_of_mem _ (List.mem_append_left _ (List.mem_append_left _ (List.mem_append_right _ (h))))
set_option maxHeartbeats 4000000 in
set_option maxRecDepth 100000 in
theorem kX7_moon (l : Launch) (dC : Nat → ClassId) (dI : Nat → Nat → Nat) (ct : Nat → ClassId) (aX : Nat → Nat) (aS : Nat → Nat) (aL : Nat → Nat) (xX_text : Nat) (xX_reader : Nat) (xX_market : Nat) (xX_book : Nat) (xX_ways : Nat) (xX_draft : Nat) (xX_im0 : Nat) (xX_im1 : Nat) (xX_im2 : Nat) (sz : Nat) (mX : Mem) (mS : Mem) (mL : Mem) (v1 : Int32) (v2 : Int32) (v3 : Int32) (res : (Int32 × Mem)) (hM : mX7_moon mX mS mL v1 v2 v3 = some res) : Met l yX7_moon wsX7_moon rmX7_moon (va_Pc [.ref (aX 0), .int v1, .int v2, .int v3] (PB (dC, dI) ct E0 sz (wX ct aX xX_text xX_reader (aS 0) xX_market xX_book xX_ways (aL 0) xX_draft xX_im0 xX_im1 xX_im2 mX ++ wS ct aS mS ++ wL ct aL mL))) (Qi (dC, dI) ct (va_A (wX ct aX xX_text xX_reader (aS 0) xX_market xX_book xX_ways (aL 0) xX_draft xX_im0 xX_im1 xX_im2 mX ++ wS ct aS mS ++ wL ct aL mL) sz) res.1 (wX ct aX xX_text xX_reader (aS 0) xX_market xX_book xX_ways (aL 0) xX_draft xX_im0 xX_im1 xX_im2 mX ++ wS ct aS res.2 ++ wL ct aL mL)) 0 0 (va_A (wX ct aX xX_text xX_reader (aS 0) xX_market xX_book xX_ways (aL 0) xX_draft xX_im0 xX_im1 xX_im2 mX ++ wS ct aS mS ++ wL ct aL mL) sz) := by
  refine Met.ofW (cc := cX7_moon) (maxL := 4) (ret := (some .int)) (by decide) rfl ?_
  intro p e s m args below meth c s₁ B hml hv
  obtain ⟨hargs, hsz, hP, hK, hD0, hE⟩ := hv
  have hx := B.exec
  have hb := B.bytes
  have hr := B.returns
  have hts := atoms_spec (ws := wsX7_moon) B.pre
  have hown : s.vm.findClass RX7 = some m.cls := findClass_of_methodNamed B.named
  have hlocks := B.notSynchronized
  clear B s₁
  subst hsz
  have hD := hD0.self (sz := s.heap.size)
  clear hD0
  generalize hAe : va_A (wX ct aX xX_text xX_reader (aS 0) xX_market xX_book xX_ways (aL 0) xX_draft xX_im0 xX_im1 xX_im2 mX ++ wS ct aS mS ++ wL ct aL mL) s.heap.size = A at hD hE ⊢
  have hA : ∀ q : Nat, s.heap.size ≤ q → A q := fun q h => by rw [← hAe]; exact Or.inr h
  clear hAe
  have hS : va_S A s.heap s.heap [] := va_S.rf
  refine cutQ (fun Q hQ => ?_)
  refine entryW (vs := [.ref (aX 0), .int v1, .int v2, .int v3]) hargs (Nat.le_of_ble_eq_true rfl) (fun ls hl => ?_)
  replace hl : lv_has ls 4 [(0, .ref (aX 0)), (1, .int v1), (2, .int v2), (3, .int v3)] := hl
  unfold mX7_moon at hM
  refine lv_aload_n hx hb dX7_moon_0 rfl (lv_at hl 0 rfl) ?_
  refine va_get (D := (dC, dI)) (ci := 7) (v := .int (mX 0 10)) (C := RX7) (T := TX7) (N := 11) hx hb hts iwX7_moon_X7 hown hK hP 0 rfl rfl 10 (by decide) (hts _ (List.mem_of_getElem? (i := 1) rfl)) (fun _ h9 => h9) rfl dX7_moon_1 ?_
  refine lv_if_eq (tgt := 36) hx hb dX7_moon_4 (by decide) (fun hc_1 => ?_) (fun hc_1 => ?_)
  · have hM := it_p hc_1 hM
    refine lv_iconst (v := -1) hx hb dX7_moon_36 (by decide) ?_
    have hR := som hM
    rw [hR] at hQ
    exact ret_i hQ hx hb hr hlocks hP hK hD hS dX7_moon_37
  · have hM := it_n hc_1 hM
    refine lv_iload_n hx hb dX7_moon_7 rfl (lv_at hl 1 rfl) ?_
    refine lv_iconst (v := 0) hx hb dX7_moon_8 (by decide) ?_
    refine lv_bipush (v := 16) hx hb dX7_moon_9 (by decide) ?_
    obtain ⟨x_2, hr_3, hM⟩ := bn_some hM
    refine gv_i (r0 := x_2) (wn := (wX ct aX xX_text xX_reader (aS 0) xX_market xX_book xX_ways (aL 0) xX_draft xX_im0 xX_im1 xX_im2 mX ++ wS ct aS mS ++ wL ct aL mL)) (va_runS (As := [.int v1, .int (0 : Int32), .int (16 : Int32)]) (rest := []) ⟨hx, hb, hml, hown, hts⟩ (kX7_isIn l dC dI ct _ v1 (0 : Int32) (16 : Int32) _ hr_3) (va_cwS 3 hts gX7_moon_X7_isIn rfl rfl rfl hvX7_isIn.2 ⟨Nat.le_of_ble_eq_true rfl, Nat.le_of_ble_eq_true rfl⟩) (preS_of E0_ok hK hP hD (is := []) rfl rfl e_0) rfl rfl hl.1 rfl (lv_room (Nat.le_of_ble_eq_true rfl)) dX7_moon_11 ⟨Nat.le_of_ble_eq_true rfl, Nat.le_of_ble_eq_true rfl⟩) hP hD hS hA [] [0, 1, 2, 3, 4, 5, 6, 7, 8, 9, 10, 11, 12, 13, 14, 15, 16] [0, 1, 2, 3, 4, 5, 6, 7, 8, 9, 10, 11, 12, 13, 14, 15, 16] rfl rfl rfl (by decide) rfl rfl (fun H locs hP hD hS => ?_)
    refine lv_if_eq (tgt := 36) hx hb dX7_moon_14 (by decide) (fun hc_5 => ?_) (fun hc_5 => ?_)
    · have hM := it_p hc_5 hM
      refine lv_iconst (v := -1) hx hb dX7_moon_36 (by decide) ?_
      have hR := som hM
      rw [hR] at hQ
      exact ret_i hQ hx hb hr hlocks hP hK hD hS dX7_moon_37
    · have hM := it_n hc_5 hM
      refine lv_iload_n hx hb dX7_moon_17 rfl (lv_at hl 2 rfl) ?_
      refine lv_iconst (v := 1) hx hb dX7_moon_18 (by decide) ?_
      refine lv_bipush (v := 9) hx hb dX7_moon_19 (by decide) ?_
      obtain ⟨x_6, hr_7, hM⟩ := bn_some hM
      refine gv_i (r0 := x_6) (wn := (wX ct aX xX_text xX_reader (aS 0) xX_market xX_book xX_ways (aL 0) xX_draft xX_im0 xX_im1 xX_im2 mX ++ wS ct aS mS ++ wL ct aL mL)) (va_runS (As := [.int v2, .int (1 : Int32), .int (9 : Int32)]) (rest := []) ⟨hx, hb, hml, hown, hts⟩ (kX7_isIn l dC dI ct _ v2 (1 : Int32) (9 : Int32) _ hr_7) (va_cwS 3 hts gX7_moon_X7_isIn rfl rfl rfl hvX7_isIn.2 ⟨Nat.le_of_ble_eq_true rfl, Nat.le_of_ble_eq_true rfl⟩) (preS_of E0_ok hK hP hD (is := []) rfl rfl e_0) rfl rfl hl.1 rfl (lv_room (Nat.le_of_ble_eq_true rfl)) dX7_moon_21 ⟨Nat.le_of_ble_eq_true rfl, Nat.le_of_ble_eq_true rfl⟩) hP hD hS hA [] [0, 1, 2, 3, 4, 5, 6, 7, 8, 9, 10, 11, 12, 13, 14, 15, 16] [0, 1, 2, 3, 4, 5, 6, 7, 8, 9, 10, 11, 12, 13, 14, 15, 16] rfl rfl rfl (by decide) rfl rfl (fun H locs hP hD hS => ?_)
      refine lv_if_eq (tgt := 36) hx hb dX7_moon_24 (by decide) (fun hc_9 => ?_) (fun hc_9 => ?_)
      · have hM := it_p hc_9 hM
        refine lv_iconst (v := -1) hx hb dX7_moon_36 (by decide) ?_
        have hR := som hM
        rw [hR] at hQ
        exact ret_i hQ hx hb hr hlocks hP hK hD hS dX7_moon_37
      · have hM := it_n hc_9 hM
        refine lv_iload_n hx hb dX7_moon_27 rfl (lv_at hl 3 rfl) ?_
        refine lv_iconst (v := 0) hx hb dX7_moon_28 (by decide) ?_
        refine lv_iconst (v := 1) hx hb dX7_moon_29 (by decide) ?_
        obtain ⟨x_10, hr_11, hM⟩ := bn_some hM
        refine gv_i (r0 := x_10) (wn := (wX ct aX xX_text xX_reader (aS 0) xX_market xX_book xX_ways (aL 0) xX_draft xX_im0 xX_im1 xX_im2 mX ++ wS ct aS mS ++ wL ct aL mL)) (va_runS (As := [.int v3, .int (0 : Int32), .int (1 : Int32)]) (rest := []) ⟨hx, hb, hml, hown, hts⟩ (kX7_isIn l dC dI ct _ v3 (0 : Int32) (1 : Int32) _ hr_11) (va_cwS 3 hts gX7_moon_X7_isIn rfl rfl rfl hvX7_isIn.2 ⟨Nat.le_of_ble_eq_true rfl, Nat.le_of_ble_eq_true rfl⟩) (preS_of E0_ok hK hP hD (is := []) rfl rfl e_0) rfl rfl hl.1 rfl (lv_room (Nat.le_of_ble_eq_true rfl)) dX7_moon_30 ⟨Nat.le_of_ble_eq_true rfl, Nat.le_of_ble_eq_true rfl⟩) hP hD hS hA [] [0, 1, 2, 3, 4, 5, 6, 7, 8, 9, 10, 11, 12, 13, 14, 15, 16] [0, 1, 2, 3, 4, 5, 6, 7, 8, 9, 10, 11, 12, 13, 14, 15, 16] rfl rfl rfl (by decide) rfl rfl (fun H locs hP hD hS => ?_)
        refine lv_if_ne (tgt := 38) hx hb dX7_moon_33 (by decide) (fun hc_13 => ?_) (fun hc_13 => ?_)
        · have hM := it_p hc_13 hM
          refine lv_aload_n hx hb dX7_moon_38 rfl (lv_at hl 0 rfl) ?_
          refine va_get (D := (dC, dI)) (ci := 7) (v := .ref (aS 0)) (C := RX7) (T := TX7) (N := 11) hx hb hts iwX7_moon_X7 hown hK hP 0 rfl rfl 2 (by decide) (hts _ (List.mem_of_getElem? (i := 2) rfl)) (fun _ h9 => h9) rfl dX7_moon_39 ?_
          refine lv_aload_n hx hb dX7_moon_42 rfl (lv_at hl 0 rfl) ?_
          refine va_get (D := (dC, dI)) (ci := 7) (v := .ref (aL 0)) (C := RX7) (T := TX7) (N := 11) hx hb hts iwX7_moon_X7 hown hK hP 0 rfl rfl 8 (by decide) (hts _ (List.mem_of_getElem? (i := 3) rfl)) (fun _ h9 => h9) rfl dX7_moon_43 ?_
          refine lv_iload_n hx hb dX7_moon_46 rfl (lv_at hl 1 rfl) ?_
          refine lv_iload_n hx hb dX7_moon_47 rfl (lv_at hl 2 rfl) ?_
          obtain ⟨mS_14, hr_15, hM⟩ := bn_some hM
          refine gv_v (wn := (wX ct aX xX_text xX_reader (aS 0) xX_market xX_book xX_ways (aL 0) xX_draft xX_im0 xX_im1 xX_im2 mX ++ wS ct aS mS_14 ++ wL ct aL mL)) (va_runV (As := [.ref (aL 0), .int v1, .int v2]) (rest := []) ⟨hx, hb, hml, hown, hts⟩ (kX4_shareMoon l dC dI ct aS aL _ mS mL v1 v2 _ hr_15) (cwV 3 hts gX7_moon_X4_shareMoon rfl rfl rfl hvX4_shareMoon ⟨Nat.le_of_ble_eq_true rfl, Nat.le_of_ble_eq_true rfl⟩) (preV_of E0_ok hK hP hD (is := [3, 4, 5, 6, 7, 8, 9, 10, 11, 12, 13, 14, 15, 16]) rfl rfl rfl (ci := 4) rfl 3 rfl e_0) rfl rfl hl.1 rfl (lv_room (Nat.le_of_ble_eq_true rfl)) dX7_moon_48 ⟨Nat.le_of_ble_eq_true rfl, Nat.le_of_ble_eq_true rfl⟩) hP hD hS hA [3, 4, 5, 6, 7, 8, 9, 10, 11, 12, 13, 14, 15, 16] [0, 1, 2] [0, 1, 2, 3, 4, 5, 6, 7, 8, 9, 10, 11, 12, 13, 14, 15, 16] rfl rfl rfl (by decide) rfl rfl (fun H locs hP hD hS => ?_)
          refine lv_iload_n hx hb dX7_moon_51 rfl (lv_at hl 3 rfl) ?_
          refine lv_if_ne (tgt := 65) hx hb dX7_moon_52 (by decide) (fun hc_17 => ?_) (fun hc_17 => ?_)
          · have hM := it_p hc_17 hM
            refine lv_aload_n hx hb dX7_moon_65 rfl (lv_at hl 0 rfl) ?_
            refine va_get (D := (dC, dI)) (ci := 7) (v := .ref (aS 0)) (C := RX7) (T := TX7) (N := 11) hx hb hts iwX7_moon_X7 hown hK hP 0 rfl rfl 2 (by decide) (hts _ (List.mem_of_getElem? (i := 2) rfl)) (fun _ h9 => h9) rfl dX7_moon_66 ?_
            refine va_get (D := (dC, dI)) (ci := 4) (v := .int (mS_14 0 3)) (C := RX4) (T := TX4) (N := 8) hx hb hts iwX7_moon_X4 hown hK hP 3 rfl rfl 3 (by decide) (hts _ (List.mem_of_getElem? (i := 5) rfl)) (fun _ h9 => h9) rfl dX7_moon_69 ?_
            refine lv_topi (fun x_18 ex_18 => ?_)
            have hM := nm_at ex_18 hM
            have hR := som hM
            rw [hR] at hQ
            exact ret_i hQ hx hb hr hlocks hP hK hD hS dX7_moon_72
          · have hM := it_nn hc_17 hM
            refine lv_aload_n hx hb dX7_moon_55 rfl (lv_at hl 0 rfl) ?_
            refine va_get (D := (dC, dI)) (ci := 7) (v := .ref (aS 0)) (C := RX7) (T := TX7) (N := 11) hx hb hts iwX7_moon_X7 hown hK hP 0 rfl rfl 2 (by decide) (hts _ (List.mem_of_getElem? (i := 2) rfl)) (fun _ h9 => h9) rfl dX7_moon_56 ?_
            refine va_get (D := (dC, dI)) (ci := 4) (v := .int (mS_14 0 2)) (C := RX4) (T := TX4) (N := 8) hx hb hts iwX7_moon_X4 hown hK hP 3 rfl rfl 2 (by decide) (hts _ (List.mem_of_getElem? (i := 4) rfl)) (fun _ h9 => h9) rfl dX7_moon_59 ?_
            refine lv_goto (tgt := 72) hx hb dX7_moon_62 (by decide) ?_
            refine lv_topi (fun x_19 ex_19 => ?_)
            have hM := nm_at ex_19 hM
            have hR := som hM
            rw [hR] at hQ
            exact ret_i hQ hx hb hr hlocks hP hK hD hS dX7_moon_72
        · have hM := it_nn hc_13 hM
          refine lv_iconst (v := -1) hx hb dX7_moon_36 (by decide) ?_
          have hR := som hM
          rw [hR] at hQ
          exact ret_i hQ hx hb hr hlocks hP hK hD hS dX7_moon_37
abbrev rmX7_best : Room := { frames := 7, cells := 0, slots := 0, locals := 166 }
theorem iwX7_best_X4 : ∀ w ∈ wsX40, w ∈ wsX7_best := fun _ h => List.mem_cons_of_mem _ (List.mem_append_left _ (List.mem_append_right _ (h)))
theorem iwX7_best_X7 : ∀ w ∈ wsX70, w ∈ wsX7_best := fun _ h => List.mem_cons_of_mem _ (List.mem_append_left _ (List.mem_append_left _ (List.mem_append_right _ (h))))
set_option maxHeartbeats 4000000 in
set_option maxRecDepth 100000 in
theorem kX7_best (l : Launch) (dC : Nat → ClassId) (dI : Nat → Nat → Nat) (ct : Nat → ClassId) (aX : Nat → Nat) (aS : Nat → Nat) (aL : Nat → Nat) (xX_text : Nat) (xX_reader : Nat) (xX_market : Nat) (xX_book : Nat) (xX_ways : Nat) (xX_draft : Nat) (xX_im0 : Nat) (xX_im1 : Nat) (xX_im2 : Nat) (sz : Nat) (mX : Mem) (mS : Mem) (mL : Mem) (v1 : Int32) (res : (Int32 × Mem)) (hM : mX7_best mX mS mL v1 = some res) : Met l yX7_best wsX7_best rmX7_best (va_Pc [.ref (aX 0), .int v1] (PB (dC, dI) ct E0 sz (wX ct aX xX_text xX_reader (aS 0) xX_market xX_book xX_ways (aL 0) xX_draft xX_im0 xX_im1 xX_im2 mX ++ wS ct aS mS ++ wL ct aL mL))) (Qi (dC, dI) ct (va_A (wX ct aX xX_text xX_reader (aS 0) xX_market xX_book xX_ways (aL 0) xX_draft xX_im0 xX_im1 xX_im2 mX ++ wS ct aS mS ++ wL ct aL mL) sz) res.1 (wX ct aX xX_text xX_reader (aS 0) xX_market xX_book xX_ways (aL 0) xX_draft xX_im0 xX_im1 xX_im2 mX ++ wS ct aS res.2 ++ wL ct aL mL)) 0 0 (va_A (wX ct aX xX_text xX_reader (aS 0) xX_market xX_book xX_ways (aL 0) xX_draft xX_im0 xX_im1 xX_im2 mX ++ wS ct aS mS ++ wL ct aL mL) sz) := by
  refine Met.ofW (cc := cX7_best) (maxL := 2) (ret := (some .int)) (by decide) rfl ?_
  intro p e s m args below meth c s₁ B hml hv
  obtain ⟨hargs, hsz, hP, hK, hD0, hE⟩ := hv
  have hx := B.exec
  have hb := B.bytes
  have hr := B.returns
  have hts := atoms_spec (ws := wsX7_best) B.pre
  have hown : s.vm.findClass RX7 = some m.cls := findClass_of_methodNamed B.named
  have hlocks := B.notSynchronized
  clear B s₁
  subst hsz
  have hD := hD0.self (sz := s.heap.size)
  clear hD0
  generalize hAe : va_A (wX ct aX xX_text xX_reader (aS 0) xX_market xX_book xX_ways (aL 0) xX_draft xX_im0 xX_im1 xX_im2 mX ++ wS ct aS mS ++ wL ct aL mL) s.heap.size = A at hD hE ⊢
  have hA : ∀ q : Nat, s.heap.size ≤ q → A q := fun q h => by rw [← hAe]; exact Or.inr h
  clear hAe
  have hS : va_S A s.heap s.heap [] := va_S.rf
  refine cutQ (fun Q hQ => ?_)
  refine entryW (vs := [.ref (aX 0), .int v1]) hargs (Nat.le_of_ble_eq_true rfl) (fun ls hl => ?_)
  replace hl : lv_has ls 2 [(0, .ref (aX 0)), (1, .int v1)] := hl
  unfold mX7_best at hM
  refine lv_aload_n hx hb dX7_best_0 rfl (lv_at hl 0 rfl) ?_
  refine va_get (D := (dC, dI)) (ci := 7) (v := .int (mX 0 10)) (C := RX7) (T := TX7) (N := 11) hx hb hts iwX7_best_X7 hown hK hP 0 rfl rfl 10 (by decide) (hts _ (List.mem_of_getElem? (i := 1) rfl)) (fun _ h9 => h9) rfl dX7_best_1 ?_
  refine lv_if_eq (tgt := 16) hx hb dX7_best_4 (by decide) (fun hc_1 => ?_) (fun hc_1 => ?_)
  · have hM := it_p hc_1 hM
    refine lv_iconst (v := -1) hx hb dX7_best_16 (by decide) ?_
    have hR := som hM
    rw [hR] at hQ
    exact ret_i hQ hx hb hr hlocks hP hK hD hS dX7_best_17
  · have hM := it_n hc_1 hM
    refine lv_iload_n hx hb dX7_best_7 rfl (lv_at hl 1 rfl) ?_
    refine lv_iconst (v := 0) hx hb dX7_best_8 (by decide) ?_
    refine lv_iconst (v := 2) hx hb dX7_best_9 (by decide) ?_
    obtain ⟨x_2, hr_3, hM⟩ := bn_some hM
    refine gv_i (r0 := x_2) (wn := (wX ct aX xX_text xX_reader (aS 0) xX_market xX_book xX_ways (aL 0) xX_draft xX_im0 xX_im1 xX_im2 mX ++ wS ct aS mS ++ wL ct aL mL)) (va_runS (As := [.int v1, .int (0 : Int32), .int (2 : Int32)]) (rest := []) ⟨hx, hb, hml, hown, hts⟩ (kX7_isIn l dC dI ct _ v1 (0 : Int32) (2 : Int32) _ hr_3) (va_cwS 3 hts gX7_best_X7_isIn rfl rfl rfl hvX7_isIn.2 ⟨Nat.le_of_ble_eq_true rfl, Nat.le_of_ble_eq_true rfl⟩) (preS_of E0_ok hK hP hD (is := []) rfl rfl e_0) rfl rfl hl.1 rfl (lv_room (Nat.le_of_ble_eq_true rfl)) dX7_best_10 ⟨Nat.le_of_ble_eq_true rfl, Nat.le_of_ble_eq_true rfl⟩) hP hD hS hA [] [0, 1, 2, 3, 4, 5, 6, 7, 8, 9, 10, 11, 12, 13, 14, 15, 16] [0, 1, 2, 3, 4, 5, 6, 7, 8, 9, 10, 11, 12, 13, 14, 15, 16] rfl rfl rfl (by decide) rfl rfl (fun H locs hP hD hS => ?_)
    refine lv_if_ne (tgt := 18) hx hb dX7_best_13 (by decide) (fun hc_5 => ?_) (fun hc_5 => ?_)
    · have hM := it_p hc_5 hM
      refine lv_aload_n hx hb dX7_best_18 rfl (lv_at hl 0 rfl) ?_
      refine va_get (D := (dC, dI)) (ci := 7) (v := .ref (aS 0)) (C := RX7) (T := TX7) (N := 11) hx hb hts iwX7_best_X7 hown hK hP 0 rfl rfl 2 (by decide) (hts _ (List.mem_of_getElem? (i := 2) rfl)) (fun _ h9 => h9) rfl dX7_best_19 ?_
      refine lv_aload_n hx hb dX7_best_22 rfl (lv_at hl 0 rfl) ?_
      refine va_get (D := (dC, dI)) (ci := 7) (v := .ref (aL 0)) (C := RX7) (T := TX7) (N := 11) hx hb hts iwX7_best_X7 hown hK hP 0 rfl rfl 8 (by decide) (hts _ (List.mem_of_getElem? (i := 3) rfl)) (fun _ h9 => h9) rfl dX7_best_23 ?_
      obtain ⟨mS_6, hr_7, hM⟩ := bn_some hM
      refine gv_v (wn := (wX ct aX xX_text xX_reader (aS 0) xX_market xX_book xX_ways (aL 0) xX_draft xX_im0 xX_im1 xX_im2 mX ++ wS ct aS mS_6 ++ wL ct aL mL)) (va_runV (As := [.ref (aL 0)]) (rest := []) ⟨hx, hb, hml, hown, hts⟩ (kX4_seekBest l dC dI ct aS aL _ mS mL _ hr_7) (cwV 1 hts gX7_best_X4_seekBest rfl rfl rfl hvX4_seekBest ⟨Nat.le_of_ble_eq_true rfl, Nat.le_of_ble_eq_true rfl⟩) (preV_of E0_ok hK hP hD (is := [3, 4, 5, 6, 7, 8, 9, 10, 11, 12, 13, 14, 15, 16]) rfl rfl rfl (ci := 4) rfl 3 rfl e_0) rfl rfl hl.1 rfl (lv_room (Nat.le_of_ble_eq_true rfl)) dX7_best_26 ⟨Nat.le_of_ble_eq_true rfl, Nat.le_of_ble_eq_true rfl⟩) hP hD hS hA [3, 4, 5, 6, 7, 8, 9, 10, 11, 12, 13, 14, 15, 16] [0, 1, 2] [0, 1, 2, 3, 4, 5, 6, 7, 8, 9, 10, 11, 12, 13, 14, 15, 16] rfl rfl rfl (by decide) rfl rfl (fun H locs hP hD hS => ?_)
      refine lv_iload_n hx hb dX7_best_29 rfl (lv_at hl 1 rfl) ?_
      refine lv_if_ne (tgt := 41) hx hb dX7_best_30 (by decide) (fun hc_9 => ?_) (fun hc_9 => ?_)
      · have hM := it_p hc_9 hM
        refine lv_iload_n hx hb dX7_best_41 rfl (lv_at hl 1 rfl) ?_
        refine lv_iconst (v := 1) hx hb dX7_best_42 (by decide) ?_
        refine lv_icmp_ne (tgt := 56) hx hb dX7_best_43 (by decide) (fun hc_10 => ?_) (fun hc_10 => ?_)
        · have hM := it_p hc_10 hM
          refine lv_aload_n hx hb dX7_best_56 rfl (lv_at hl 0 rfl) ?_
          refine va_get (D := (dC, dI)) (ci := 7) (v := .ref (aS 0)) (C := RX7) (T := TX7) (N := 11) hx hb hts iwX7_best_X7 hown hK hP 0 rfl rfl 2 (by decide) (hts _ (List.mem_of_getElem? (i := 2) rfl)) (fun _ h9 => h9) rfl dX7_best_57 ?_
          refine va_get (D := (dC, dI)) (ci := 4) (v := .int (mS_6 0 6)) (C := RX4) (T := TX4) (N := 8) hx hb hts iwX7_best_X4 hown hK hP 3 rfl rfl 6 (by decide) (hts _ (List.mem_of_getElem? (i := 6) rfl)) (fun _ h9 => h9) rfl dX7_best_60 ?_
          refine lv_topi (fun x_11 ex_11 => ?_)
          have hM := nm_at ex_11 hM
          have hR := som hM
          rw [hR] at hQ
          exact ret_i hQ hx hb hr hlocks hP hK hD hS dX7_best_63
        · have hM := it_nn hc_10 hM
          refine lv_aload_n hx hb dX7_best_46 rfl (lv_at hl 0 rfl) ?_
          refine va_get (D := (dC, dI)) (ci := 7) (v := .ref (aS 0)) (C := RX7) (T := TX7) (N := 11) hx hb hts iwX7_best_X7 hown hK hP 0 rfl rfl 2 (by decide) (hts _ (List.mem_of_getElem? (i := 2) rfl)) (fun _ h9 => h9) rfl dX7_best_47 ?_
          refine va_get (D := (dC, dI)) (ci := 4) (v := .int (mS_6 0 5)) (C := RX4) (T := TX4) (N := 8) hx hb hts iwX7_best_X4 hown hK hP 3 rfl rfl 5 (by decide) (hts _ (List.mem_of_getElem? (i := 5) rfl)) (fun _ h9 => h9) rfl dX7_best_50 ?_
          refine lv_goto (tgt := 63) hx hb dX7_best_53 (by decide) ?_
          refine lv_topi (fun x_12 ex_12 => ?_)
          have hM := nm_at ex_12 hM
          have hR := som hM
          rw [hR] at hQ
          exact ret_i hQ hx hb hr hlocks hP hK hD hS dX7_best_63
      · have hM := it_nn hc_9 hM
        refine lv_aload_n hx hb dX7_best_33 rfl (lv_at hl 0 rfl) ?_
        refine va_get (D := (dC, dI)) (ci := 7) (v := .ref (aS 0)) (C := RX7) (T := TX7) (N := 11) hx hb hts iwX7_best_X7 hown hK hP 0 rfl rfl 2 (by decide) (hts _ (List.mem_of_getElem? (i := 2) rfl)) (fun _ h9 => h9) rfl dX7_best_34 ?_
        refine va_get (D := (dC, dI)) (ci := 4) (v := .int (mS_6 0 4)) (C := RX4) (T := TX4) (N := 8) hx hb hts iwX7_best_X4 hown hK hP 3 rfl rfl 4 (by decide) (hts _ (List.mem_of_getElem? (i := 4) rfl)) (fun _ h9 => h9) rfl dX7_best_37 ?_
        refine lv_topi (fun x_13 ex_13 => ?_)
        have hM := nm_at ex_13 hM
        have hR := som hM
        rw [hR] at hQ
        exact ret_i hQ hx hb hr hlocks hP hK hD hS dX7_best_40
    · have hM := it_nn hc_5 hM
      refine lv_iconst (v := -1) hx hb dX7_best_16 (by decide) ?_
      have hR := som hM
      rw [hR] at hQ
      exact ret_i hQ hx hb hr hlocks hP hK hD hS dX7_best_17
abbrev rmX7_gains : Room := { frames := 5, cells := 0, slots := 0, locals := 120 }
theorem iwX7_gains_X1 : ∀ w ∈ wsX10, w ∈ wsX7_gains := fun _ h => List.mem_cons_of_mem _ (List.mem_append_left _ (List.mem_append_right _ (h)))
theorem iwX7_gains_X4 : ∀ w ∈ wsX40, w ∈ wsX7_gains := fun _ h => List.mem_cons_of_mem _ (List.mem_append_right _ (h))
theorem iwX7_gains_X7 : ∀ w ∈ wsX70, w ∈ wsX7_gains := fun _ h => List.mem_cons_of_mem _ (List.mem_append_left _ (List.mem_append_left _ (List.mem_append_right _ (h))))
set_option maxHeartbeats 4000000 in
set_option maxRecDepth 100000 in
theorem kX7_gains (l : Launch) (dC : Nat → ClassId) (dI : Nat → Nat → Nat) (ct : Nat → ClassId) (aX : Nat → Nat) (aS : Nat → Nat) (aL : Nat → Nat) (xX_text : Nat) (xX_reader : Nat) (xX_market : Nat) (xX_book : Nat) (xX_ways : Nat) (xX_draft : Nat) (xX_im0 : Nat) (xX_im1 : Nat) (xX_im2 : Nat) (sz : Nat) (mX : Mem) (mS : Mem) (mL : Mem) (v1 : Int32) (res : (Int32 × Mem)) (hM : mX7_gains mX mS mL v1 = some res) : Met l yX7_gains wsX7_gains rmX7_gains (va_Pc [.ref (aX 0), .int v1] (PB (dC, dI) ct E0 sz (wX ct aX xX_text xX_reader (aS 0) xX_market xX_book xX_ways (aL 0) xX_draft xX_im0 xX_im1 xX_im2 mX ++ wS ct aS mS ++ wL ct aL mL))) (Qi (dC, dI) ct (va_A (wX ct aX xX_text xX_reader (aS 0) xX_market xX_book xX_ways (aL 0) xX_draft xX_im0 xX_im1 xX_im2 mX ++ wS ct aS mS ++ wL ct aL mL) sz) res.1 (wX ct aX xX_text xX_reader (aS 0) xX_market xX_book xX_ways (aL 0) xX_draft xX_im0 xX_im1 xX_im2 mX ++ wS ct aS res.2 ++ wL ct aL mL)) 0 0 (va_A (wX ct aX xX_text xX_reader (aS 0) xX_market xX_book xX_ways (aL 0) xX_draft xX_im0 xX_im1 xX_im2 mX ++ wS ct aS mS ++ wL ct aL mL) sz) := by
  refine Met.ofW (cc := cX7_gains) (maxL := 3) (ret := (some .int)) (by decide) rfl ?_
  intro p e s m args below meth c s₁ B hml hv
  obtain ⟨hargs, hsz, hP, hK, hD0, hE⟩ := hv
  have hx := B.exec
  have hb := B.bytes
  have hr := B.returns
  have hts := atoms_spec (ws := wsX7_gains) B.pre
  have hown : s.vm.findClass RX7 = some m.cls := findClass_of_methodNamed B.named
  have hlocks := B.notSynchronized
  clear B s₁
  subst hsz
  have hD := hD0.self (sz := s.heap.size)
  clear hD0
  generalize hAe : va_A (wX ct aX xX_text xX_reader (aS 0) xX_market xX_book xX_ways (aL 0) xX_draft xX_im0 xX_im1 xX_im2 mX ++ wS ct aS mS ++ wL ct aL mL) s.heap.size = A at hD hE ⊢
  have hA : ∀ q : Nat, s.heap.size ≤ q → A q := fun q h => by rw [← hAe]; exact Or.inr h
  clear hAe
  have hS : va_S A s.heap s.heap [] := va_S.rf
  refine cutQ (fun Q hQ => ?_)
  refine entryW (vs := [.ref (aX 0), .int v1]) hargs (Nat.le_of_ble_eq_true rfl) (fun ls hl => ?_)
  replace hl : lv_has ls 3 [(0, .ref (aX 0)), (1, .int v1)] := hl
  unfold mX7_gains at hM
  refine lv_aload_n hx hb dX7_gains_0 rfl (lv_at hl 0 rfl) ?_
  refine lv_iload_n hx hb dX7_gains_1 rfl (lv_at hl 1 rfl) ?_
  obtain ⟨x_1, hr_2, hM⟩ := bn_some hM
  refine gv_i (r0 := x_1) (wn := (wX ct aX xX_text xX_reader (aS 0) xX_market xX_book xX_ways (aL 0) xX_draft xX_im0 xX_im1 xX_im2 mX ++ wS ct aS mS ++ wL ct aL mL)) (va_runV (As := [.int v1]) (rest := []) ⟨hx, hb, hml, hown, hts⟩ (kX7_isSort l dC dI ct aX aL xX_text xX_reader (aS 0) xX_market xX_book xX_ways xX_draft xX_im0 xX_im1 xX_im2 _ mX mL v1 _ hr_2) (cwV 1 hts gX7_gains_X7_isSort rfl rfl rfl hvX7_isSort ⟨Nat.le_of_ble_eq_true rfl, Nat.le_of_ble_eq_true rfl⟩) (preV_of E0_ok hK hP hD (is := [0, 1, 2, 7, 8, 9, 10, 11, 12, 13, 14, 15, 16]) rfl rfl rfl (ci := 7) rfl 0 rfl e_0) rfl rfl hl.1 rfl (lv_room (Nat.le_of_ble_eq_true rfl)) dX7_gains_2 ⟨Nat.le_of_ble_eq_true rfl, Nat.le_of_ble_eq_true rfl⟩) hP hD hS hA [0, 1, 2, 7, 8, 9, 10, 11, 12, 13, 14, 15, 16] [3, 4, 5, 6] [4, 5, 6, 0, 1, 2, 3, 7, 8, 9, 10, 11, 12, 13, 14, 15, 16] rfl rfl rfl (by decide) rfl rfl (fun H locs hP hD hS => ?_)
  refine lv_if_ne (tgt := 11) hx hb dX7_gains_5 (by decide) (fun hc_4 => ?_) (fun hc_4 => ?_)
  · have hM := it_p hc_4 hM
    refine lv_aload_n hx hb dX7_gains_11 rfl (lv_at hl 0 rfl) ?_
    refine va_get (D := (dC, dI)) (ci := 7) (v := .ref (aS 0)) (C := RX7) (T := TX7) (N := 11) hx hb hts iwX7_gains_X7 hown hK hP 0 rfl rfl 2 (by decide) (hts _ (List.mem_of_getElem? (i := 2) rfl)) (fun _ h9 => h9) rfl dX7_gains_12 ?_
    refine lv_aload_n hx hb dX7_gains_15 rfl (lv_at hl 0 rfl) ?_
    refine va_get (D := (dC, dI)) (ci := 7) (v := .ref (aL 0)) (C := RX7) (T := TX7) (N := 11) hx hb hts iwX7_gains_X7 hown hK hP 0 rfl rfl 8 (by decide) (hts _ (List.mem_of_getElem? (i := 3) rfl)) (fun _ h9 => h9) rfl dX7_gains_16 ?_
    refine lv_aload_n hx hb dX7_gains_19 rfl (lv_at hl 0 rfl) ?_
    refine va_get (D := (dC, dI)) (ci := 7) (v := .ref (aL 0)) (C := RX7) (T := TX7) (N := 11) hx hb hts iwX7_gains_X7 hown hK hP 0 rfl rfl 8 (by decide) (hts _ (List.mem_of_getElem? (i := 3) rfl)) (fun _ h9 => h9) rfl dX7_gains_20 ?_
    refine va_get (D := (dC, dI)) (ci := 1) (v := .int (mL 0 2)) (C := RX1) (T := TX1) (N := 17) hx hb hts iwX7_gains_X1 hown hK hP 7 rfl rfl 2 (by decide) (hts _ (List.mem_of_getElem? (i := 4) rfl)) (fun _ h9 => h9) rfl dX7_gains_23 ?_
    refine lv_aload_n hx hb dX7_gains_26 rfl (lv_at hl 0 rfl) ?_
    refine va_get (D := (dC, dI)) (ci := 7) (v := .ref (aL 0)) (C := RX7) (T := TX7) (N := 11) hx hb hts iwX7_gains_X7 hown hK hP 0 rfl rfl 8 (by decide) (hts _ (List.mem_of_getElem? (i := 3) rfl)) (fun _ h9 => h9) rfl dX7_gains_27 ?_
    refine va_get (D := (dC, dI)) (ci := 1) (v := .int (mL 0 3)) (C := RX1) (T := TX1) (N := 17) hx hb hts iwX7_gains_X1 hown hK hP 7 rfl rfl 3 (by decide) (hts _ (List.mem_of_getElem? (i := 5) rfl)) (fun _ h9 => h9) rfl dX7_gains_30 ?_
    obtain ⟨mS_5, hr_6, hM⟩ := bn_some hM
    refine gv_v (wn := (wX ct aX xX_text xX_reader (aS 0) xX_market xX_book xX_ways (aL 0) xX_draft xX_im0 xX_im1 xX_im2 mX ++ wS ct aS mS_5 ++ wL ct aL mL)) (va_runV (As := [.ref (aL 0), .int (mL 0 2), .int (mL 0 3)]) (rest := []) ⟨hx, hb, hml, hown, hts⟩ (kX4_shareMoon l dC dI ct aS aL _ mS mL (mL 0 2) (mL 0 3) _ hr_6) (cwV 3 hts gX7_gains_X4_shareMoon rfl rfl rfl hvX4_shareMoon ⟨Nat.le_of_ble_eq_true rfl, Nat.le_of_ble_eq_true rfl⟩) (preV_of E0_ok hK hP hD (is := [3, 4, 5, 6, 7, 8, 9, 10, 11, 12, 13, 14, 15, 16]) rfl rfl rfl (ci := 4) rfl 3 rfl e_0) rfl rfl hl.1 rfl (lv_room (Nat.le_of_ble_eq_true rfl)) dX7_gains_33 ⟨Nat.le_of_ble_eq_true rfl, Nat.le_of_ble_eq_true rfl⟩) hP hD hS hA [3, 4, 5, 6, 7, 8, 9, 10, 11, 12, 13, 14, 15, 16] [0, 1, 2] [0, 1, 2, 3, 4, 5, 6, 7, 8, 9, 10, 11, 12, 13, 14, 15, 16] rfl rfl rfl (by decide) rfl rfl (fun H locs hP hD hS => ?_)
    refine lv_aload_n hx hb dX7_gains_36 rfl (lv_at hl 0 rfl) ?_
    refine va_get (D := (dC, dI)) (ci := 7) (v := .ref (aS 0)) (C := RX7) (T := TX7) (N := 11) hx hb hts iwX7_gains_X7 hown hK hP 0 rfl rfl 2 (by decide) (hts _ (List.mem_of_getElem? (i := 2) rfl)) (fun _ h9 => h9) rfl dX7_gains_37 ?_
    refine va_get (D := (dC, dI)) (ci := 4) (v := .ref (aS 2)) (C := RX4) (T := TX4) (N := 8) hx hb hts iwX7_gains_X4 hown hK hP 3 rfl rfl 1 (by decide) (hts _ (List.mem_of_getElem? (i := 6) rfl)) (fun _ h9 => h9) rfl dX7_gains_40 ?_
    refine lv_iload_n hx hb dX7_gains_43 rfl (lv_at hl 1 rfl) ?_
    obtain ⟨hi, hM⟩ := gi_some hM
    refine va_iald hx hb hK hP 5 0 rfl rfl hi dX7_gains_44 ?_
    refine lv_topi (fun x_8 ex_8 => ?_)
    have hM := nm_at ex_8 hM
    refine lv_istore_n (lv' := [(2, .int x_8), (0, .ref (aX 0)), (1, .int v1)]) hx hb dX7_gains_45 rfl hl (by decide) rfl (fun ls hl => ?_)
    refine lv_aload_n hx hb dX7_gains_46 rfl (lv_at hl 1 rfl) ?_
    refine va_get (D := (dC, dI)) (ci := 7) (v := .ref (aS 0)) (C := RX7) (T := TX7) (N := 11) hx hb hts iwX7_gains_X7 hown hK hP 0 rfl rfl 2 (by decide) (hts _ (List.mem_of_getElem? (i := 2) rfl)) (fun _ h9 => h9) rfl dX7_gains_47 ?_
    refine lv_aload_n hx hb dX7_gains_50 rfl (lv_at hl 1 rfl) ?_
    refine va_get (D := (dC, dI)) (ci := 7) (v := .ref (aL 0)) (C := RX7) (T := TX7) (N := 11) hx hb hts iwX7_gains_X7 hown hK hP 0 rfl rfl 8 (by decide) (hts _ (List.mem_of_getElem? (i := 3) rfl)) (fun _ h9 => h9) rfl dX7_gains_51 ?_
    refine lv_iconst (v := 0) hx hb dX7_gains_54 (by decide) ?_
    refine lv_aload_n hx hb dX7_gains_55 rfl (lv_at hl 1 rfl) ?_
    refine va_get (D := (dC, dI)) (ci := 7) (v := .ref (aL 0)) (C := RX7) (T := TX7) (N := 11) hx hb hts iwX7_gains_X7 hown hK hP 0 rfl rfl 8 (by decide) (hts _ (List.mem_of_getElem? (i := 3) rfl)) (fun _ h9 => h9) rfl dX7_gains_56 ?_
    refine va_get (D := (dC, dI)) (ci := 1) (v := .int (mL 0 3)) (C := RX1) (T := TX1) (N := 17) hx hb hts iwX7_gains_X1 hown hK hP 7 rfl rfl 3 (by decide) (hts _ (List.mem_of_getElem? (i := 5) rfl)) (fun _ h9 => h9) rfl dX7_gains_59 ?_
    obtain ⟨mS_9, hr_10, hM⟩ := bn_some hM
    refine gv_v (wn := (wX ct aX xX_text xX_reader (aS 0) xX_market xX_book xX_ways (aL 0) xX_draft xX_im0 xX_im1 xX_im2 mX ++ wS ct aS mS_9 ++ wL ct aL mL)) (va_runV (As := [.ref (aL 0), .int (0 : Int32), .int (mL 0 3)]) (rest := []) ⟨hx, hb, hml, hown, hts⟩ (kX4_shareMoon l dC dI ct aS aL _ mS_5 mL (0 : Int32) (mL 0 3) _ hr_10) (cwV 3 hts gX7_gains_X4_shareMoon rfl rfl rfl hvX4_shareMoon ⟨Nat.le_of_ble_eq_true rfl, Nat.le_of_ble_eq_true rfl⟩) (preV_of E0_ok hK hP hD (is := [3, 4, 5, 6, 7, 8, 9, 10, 11, 12, 13, 14, 15, 16]) rfl rfl rfl (ci := 4) rfl 3 rfl e_0) rfl rfl hl.1 rfl (lv_room (Nat.le_of_ble_eq_true rfl)) dX7_gains_62 ⟨Nat.le_of_ble_eq_true rfl, Nat.le_of_ble_eq_true rfl⟩) hP hD hS hA [3, 4, 5, 6, 7, 8, 9, 10, 11, 12, 13, 14, 15, 16] [0, 1, 2] [0, 1, 2, 3, 4, 5, 6, 7, 8, 9, 10, 11, 12, 13, 14, 15, 16] rfl rfl rfl (by decide) rfl rfl (fun H locs hP hD hS => ?_)
    refine lv_iload_n hx hb dX7_gains_65 rfl (lv_at hl 0 rfl) ?_
    refine lv_aload_n hx hb dX7_gains_66 rfl (lv_at hl 1 rfl) ?_
    refine va_get (D := (dC, dI)) (ci := 7) (v := .ref (aS 0)) (C := RX7) (T := TX7) (N := 11) hx hb hts iwX7_gains_X7 hown hK hP 0 rfl rfl 2 (by decide) (hts _ (List.mem_of_getElem? (i := 2) rfl)) (fun _ h9 => h9) rfl dX7_gains_67 ?_
    refine va_get (D := (dC, dI)) (ci := 4) (v := .ref (aS 2)) (C := RX4) (T := TX4) (N := 8) hx hb hts iwX7_gains_X4 hown hK hP 3 rfl rfl 1 (by decide) (hts _ (List.mem_of_getElem? (i := 6) rfl)) (fun _ h9 => h9) rfl dX7_gains_70 ?_
    refine lv_iload_n hx hb dX7_gains_73 rfl (lv_at hl 2 rfl) ?_
    obtain ⟨hi, hM⟩ := gi_some hM
    refine va_iald hx hb hK hP 5 0 rfl rfl hi dX7_gains_74 ?_
    refine lv_isub hx hb dX7_gains_75 ?_
    refine lv_topi (fun x_12 ex_12 => ?_)
    have hM := nm_at ex_12 hM
    have hR := som hM
    rw [hR] at hQ
    exact ret_i hQ hx hb hr hlocks hP hK hD hS dX7_gains_76
  · have hM := it_nn hc_4 hM
    refine lv_ldc (v := -999999) hx hb hown (hts _ (List.mem_of_getElem? (i := 1) rfl)) dX7_gains_8 ?_
    have hR := som hM
    rw [hR] at hQ
    exact ret_i hQ hx hb hr hlocks hP hK hD hS dX7_gains_10
abbrev rmX7_seed : Room := { frames := 1, cells := 0, slots := 0, locals := 22 }
theorem iwX7_seed_X2 : ∀ w ∈ wsX20, w ∈ wsX7_seed := fun _ h => List.mem_cons_of_mem _ (List.mem_append_right _ (h))
theorem iwX7_seed_X7 : ∀ w ∈ wsX70, w ∈ wsX7_seed := fun _ h => List.mem_cons_of_mem _ (List.mem_append_left _ (List.mem_append_right _ (h)))
set_option maxHeartbeats 4000000 in
set_option maxRecDepth 100000 in
theorem kX7_seed (l : Launch) (dC : Nat → ClassId) (dI : Nat → Nat → Nat) (ct : Nat → ClassId) (aX : Nat → Nat) (aM : Nat → Nat) (xX_text : Nat) (xX_reader : Nat) (xX_sowing : Nat) (xX_book : Nat) (xX_ways : Nat) (xX_land : Nat) (xX_draft : Nat) (xX_im0 : Nat) (xX_im1 : Nat) (xX_im2 : Nat) (sz : Nat) (mX : Mem) (mM : Mem) (v1 : Int32) (res : (Int32 × Mem)) (hM : mX7_seed mX mM v1 = some res) : Met l yX7_seed wsX7_seed rmX7_seed (va_Pc [.ref (aX 0), .int v1] (PB (dC, dI) ct E0 sz (wX ct aX xX_text xX_reader xX_sowing (aM 0) xX_book xX_ways xX_land xX_draft xX_im0 xX_im1 xX_im2 mX ++ wM ct aM mM))) (Qi (dC, dI) ct (va_A (wX ct aX xX_text xX_reader xX_sowing (aM 0) xX_book xX_ways xX_land xX_draft xX_im0 xX_im1 xX_im2 mX ++ wM ct aM mM) sz) res.1 (wX ct aX xX_text xX_reader xX_sowing (aM 0) xX_book xX_ways xX_land xX_draft xX_im0 xX_im1 xX_im2 mX ++ wM ct aM res.2)) 0 0 (va_A (wX ct aX xX_text xX_reader xX_sowing (aM 0) xX_book xX_ways xX_land xX_draft xX_im0 xX_im1 xX_im2 mX ++ wM ct aM mM) sz) := by
  refine Met.ofW (cc := cX7_seed) (maxL := 2) (ret := (some .boolean)) (by decide) rfl ?_
  intro p e s m args below meth c s₁ B hml hv
  obtain ⟨hargs, hsz, hP, hK, hD0, hE⟩ := hv
  have hx := B.exec
  have hb := B.bytes
  have hr := B.returns
  have hts := atoms_spec (ws := wsX7_seed) B.pre
  have hown : s.vm.findClass RX7 = some m.cls := findClass_of_methodNamed B.named
  have hlocks := B.notSynchronized
  clear B s₁
  subst hsz
  have hD := hD0.self (sz := s.heap.size)
  clear hD0
  generalize hAe : va_A (wX ct aX xX_text xX_reader xX_sowing (aM 0) xX_book xX_ways xX_land xX_draft xX_im0 xX_im1 xX_im2 mX ++ wM ct aM mM) s.heap.size = A at hD hE ⊢
  have hA : ∀ q : Nat, s.heap.size ≤ q → A q := fun q h => by rw [← hAe]; exact Or.inr h
  clear hAe
  have hS : va_S A s.heap s.heap [] := va_S.rf
  refine cutQ (fun Q hQ => ?_)
  refine entryW (vs := [.ref (aX 0), .int v1]) hargs (Nat.le_of_ble_eq_true rfl) (fun ls hl => ?_)
  replace hl : lv_has ls 2 [(0, .ref (aX 0)), (1, .int v1)] := hl
  unfold mX7_seed at hM
  refine lv_iload_n hx hb dX7_seed_0 rfl (lv_at hl 1 rfl) ?_
  refine lv_iconst (v := 0) hx hb dX7_seed_1 (by decide) ?_
  refine lv_ldc (v := 1000000) hx hb hown (hts _ (List.mem_of_getElem? (i := 1) rfl)) dX7_seed_2 ?_
  obtain ⟨x_1, hr_2, hM⟩ := bn_some hM
  refine gv_i (r0 := x_1) (wn := (wX ct aX xX_text xX_reader xX_sowing (aM 0) xX_book xX_ways xX_land xX_draft xX_im0 xX_im1 xX_im2 mX ++ wM ct aM mM)) (va_runS (As := [.int v1, .int (0 : Int32), .int (1000000 : Int32)]) (rest := []) ⟨hx, hb, hml, hown, hts⟩ (kX7_isIn l dC dI ct _ v1 (0 : Int32) (1000000 : Int32) _ hr_2) (va_cwS 3 hts gX7_seed_X7_isIn rfl rfl rfl hvX7_isIn.2 ⟨Nat.le_of_ble_eq_true rfl, Nat.le_of_ble_eq_true rfl⟩) (preS_of E0_ok hK hP hD (is := []) rfl rfl e_0) rfl rfl hl.1 rfl (lv_room (Nat.le_of_ble_eq_true rfl)) dX7_seed_4 ⟨Nat.le_of_ble_eq_true rfl, Nat.le_of_ble_eq_true rfl⟩) hP hD hS hA [] [0, 1, 2, 3, 4, 5, 6, 7, 8, 9, 10, 11] [0, 1, 2, 3, 4, 5, 6, 7, 8, 9, 10, 11] rfl rfl rfl (by decide) rfl rfl (fun H locs hP hD hS => ?_)
  refine lv_if_ne (tgt := 12) hx hb dX7_seed_7 (by decide) (fun hc_4 => ?_) (fun hc_4 => ?_)
  · have hM := it_p hc_4 hM
    refine lv_aload_n hx hb dX7_seed_12 rfl (lv_at hl 0 rfl) ?_
    refine va_get (D := (dC, dI)) (ci := 7) (v := .ref (aM 0)) (C := RX7) (T := TX7) (N := 11) hx hb hts iwX7_seed_X7 hown hK hP 0 rfl rfl 3 (by decide) (hts _ (List.mem_of_getElem? (i := 2) rfl)) (fun _ h9 => h9) rfl dX7_seed_13 ?_
    refine lv_iload_n hx hb dX7_seed_16 rfl (lv_at hl 1 rfl) ?_
    refine pf_i (wf := fun z => (wX ct aX xX_text xX_reader xX_sowing (aM 0) xX_book xX_ways xX_land xX_draft xX_im0 xX_im1 xX_im2 mX ++ wM ct aM z)) (m1 := upf mM 1 v1) hx hb hts iwX7_seed_X2 tyX2 tyX2_ok nmX2 hown hK hP hD hS 3 rfl rfl 1 (by decide) (hts _ (List.mem_of_getElem? (i := 3) rfl)) (fun _ h9 => h9) rfl rfl rfl (Nat.le_of_ble_eq_true rfl) dX7_seed_17 rfl (fun mM_5 emM_5 H locs hP hD hS => ?_)
    have hM := nm_at emM_5 hM
    refine lv_iconst (v := 1) hx hb dX7_seed_20 (by decide) ?_
    have hR := som hM
    rw [hR] at hQ
    exact ret_z hQ hx hb hr hlocks rfl hP hK hD hS dX7_seed_21
  · have hM := it_nn hc_4 hM
    refine lv_iconst (v := 0) hx hb dX7_seed_10 (by decide) ?_
    have hR := som hM
    rw [hR] at hQ
    exact ret_z hQ hx hb hr hlocks rfl hP hK hD hS dX7_seed_11
