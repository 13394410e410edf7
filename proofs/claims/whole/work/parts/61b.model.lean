abbrev rmX8_isLaw : Room := { frames := 1, cells := 0, slots := 0, locals := 22 }
set_option maxHeartbeats 4000000 in
set_option maxRecDepth 100000 in
theorem kX8_isLaw (l : Launch) (dC : Nat → ClassId) (dI : Nat → Nat → Nat) (ct : Nat → ClassId) (sz : Nat) (v0 : Int32) (v1 : Int32) (res : Int32) (hM : mX8_isLaw v0 v1 = some res) : Met l yX8_isLaw wsX8_isLaw rmX8_isLaw (va_Pc [.int v0, .int v1] (PB (dC, dI) ct E0 sz ([] : va_W))) (Qi (dC, dI) ct (va_A ([] : va_W) sz) res ([] : va_W)) 0 0 (va_A ([] : va_W) sz) := by
  refine Met.ofW (cc := cX8_isLaw) (maxL := 2) (ret := (some .boolean)) (by decide) rfl ?_
  intro p e s m args below meth c s₁ B hml hv
  obtain ⟨hargs, hsz, hP, hK, hD0, hE⟩ := hv
  have hx := B.exec
  have hb := B.bytes
  have hr := B.returns
  have hts := atoms_spec (ws := wsX8_isLaw) B.pre
  have hown : s.vm.findClass RX8 = some m.cls := findClass_of_methodNamed B.named
  have hlocks := B.notSynchronized
  clear B s₁
  subst hsz
  have hD := hD0.self (sz := s.heap.size)
  clear hD0
  generalize hAe : va_A ([] : va_W) s.heap.size = A at hD hE ⊢
  have hA : ∀ q : Nat, s.heap.size ≤ q → A q := fun q h => by rw [← hAe]; exact Or.inr h
  clear hAe
  have hS : va_S A s.heap s.heap [] := va_S.rf
  refine cutQ (fun Q hQ => ?_)
  refine entryW (vs := [.int v0, .int v1]) hargs (Nat.le_of_ble_eq_true rfl) (fun ls hl => ?_)
  replace hl : lv_has ls 2 [(0, .int v0), (1, .int v1)] := hl
  unfold mX8_isLaw at hM
  refine lv_iload_n hx hb dX8_isLaw_0 rfl (lv_at hl 0 rfl) ?_
  refine lv_iconst (v := 0) hx hb dX8_isLaw_1 (by decide) ?_
  refine lv_bipush (v := 16) hx hb dX8_isLaw_2 (by decide) ?_
  obtain ⟨x_1, hr_2, hM⟩ := bn_some hM
  refine gv_i (r0 := x_1) (wn := ([] : va_W)) (va_runS (As := [.int v0, .int (0 : Int32), .int (16 : Int32)]) (rest := []) ⟨hx, hb, hml, hown, hts⟩ (kX8_in l dC dI ct _ v0 (0 : Int32) (16 : Int32) _ hr_2) (va_cwS 3 hts gX8_isLaw_X8_in rfl rfl rfl hvX8_in.2 ⟨Nat.le_of_ble_eq_true rfl, Nat.le_of_ble_eq_true rfl⟩) (preS_of E0_ok hK hP hD (is := []) rfl rfl e_0) rfl rfl hl.1 rfl (lv_room (Nat.le_of_ble_eq_true rfl)) dX8_isLaw_4 ⟨Nat.le_of_ble_eq_true rfl, Nat.le_of_ble_eq_true rfl⟩) hP hD hS hA [] [] [] rfl rfl rfl (by decide) rfl rfl (fun H locs hP hD hS => ?_)
  refine lv_if_eq (tgt := 24) hx hb dX8_isLaw_7 (by decide) (fun hc_4 => ?_) (fun hc_4 => ?_)
  · have hM := it_p hc_4 hM
    refine lv_iconst (v := 0) hx hb dX8_isLaw_24 (by decide) ?_
    have hR := som hM
    rw [hR] at hQ
    exact ret_z hQ hx hb hr hlocks rfl hP hK hD hS dX8_isLaw_25
  · have hM := it_n hc_4 hM
    refine lv_iload_n hx hb dX8_isLaw_10 rfl (lv_at hl 1 rfl) ?_
    refine lv_iconst (v := 1) hx hb dX8_isLaw_11 (by decide) ?_
    refine lv_bipush (v := 9) hx hb dX8_isLaw_12 (by decide) ?_
    obtain ⟨x_5, hr_6, hM⟩ := bn_some hM
    refine gv_i (r0 := x_5) (wn := ([] : va_W)) (va_runS (As := [.int v1, .int (1 : Int32), .int (9 : Int32)]) (rest := []) ⟨hx, hb, hml, hown, hts⟩ (kX8_in l dC dI ct _ v1 (1 : Int32) (9 : Int32) _ hr_6) (va_cwS 3 hts gX8_isLaw_X8_in rfl rfl rfl hvX8_in.2 ⟨Nat.le_of_ble_eq_true rfl, Nat.le_of_ble_eq_true rfl⟩) (preS_of E0_ok hK hP hD (is := []) rfl rfl e_0) rfl rfl hl.1 rfl (lv_room (Nat.le_of_ble_eq_true rfl)) dX8_isLaw_14 ⟨Nat.le_of_ble_eq_true rfl, Nat.le_of_ble_eq_true rfl⟩) hP hD hS hA [] [] [] rfl rfl rfl (by decide) rfl rfl (fun H locs hP hD hS => ?_)
    refine lv_if_eq (tgt := 24) hx hb dX8_isLaw_17 (by decide) (fun hc_8 => ?_) (fun hc_8 => ?_)
    · have hM := it_p hc_8 hM
      refine lv_iconst (v := 0) hx hb dX8_isLaw_24 (by decide) ?_
      have hR := som hM
      rw [hR] at hQ
      exact ret_z hQ hx hb hr hlocks rfl hP hK hD hS dX8_isLaw_25
    · have hM := it_n hc_8 hM
      refine lv_iconst (v := 1) hx hb dX8_isLaw_20 (by decide) ?_
      refine lv_goto (tgt := 25) hx hb dX8_isLaw_21 (by decide) ?_
      have hR := som hM
      rw [hR] at hQ
      exact ret_z hQ hx hb hr hlocks rfl hP hK hD hS dX8_isLaw_25
abbrev rmX8_isSort : Room := { frames := 1, cells := 0, slots := 0, locals := 22 }
theorem iwX8_isSort_X8 : ∀ w ∈ wsX80, w ∈ wsX8_isSort := fun _ h => List.mem_cons_of_mem _ (List.mem_append_right _ (h))
set_option maxHeartbeats 4000000 in
set_option maxRecDepth 100000 in
theorem kX8_isSort (l : Launch) (dC : Nat → ClassId) (dI : Nat → Nat → Nat) (ct : Nat → ClassId) (aO : Nat → Nat) (sz : Nat) (mO : Mem) (mO64 : Lem) (v1 : Int32) (res : Int32) (hM : mX8_isSort mO mO64 v1 = some res) : Met l yX8_isSort wsX8_isSort rmX8_isSort (va_Pc [.ref (aO 0), .int v1] (PB (dC, dI) ct E0 sz (wO ct aO mO mO64))) (Qi (dC, dI) ct (va_A (wO ct aO mO mO64) sz) res (wO ct aO mO mO64)) 0 0 (va_A (wO ct aO mO mO64) sz) := by
  refine Met.ofW (cc := cX8_isSort) (maxL := 2) (ret := (some .boolean)) (by decide) rfl ?_
  intro p e s m args below meth c s₁ B hml hv
  obtain ⟨hargs, hsz, hP, hK, hD0, hE⟩ := hv
  have hx := B.exec
  have hb := B.bytes
  have hr := B.returns
  have hts := atoms_spec (ws := wsX8_isSort) B.pre
  have hown : s.vm.findClass RX8 = some m.cls := findClass_of_methodNamed B.named
  have hlocks := B.notSynchronized
  clear B s₁
  subst hsz
  have hD := hD0.self (sz := s.heap.size)
  clear hD0
  generalize hAe : va_A (wO ct aO mO mO64) s.heap.size = A at hD hE ⊢
  have hA : ∀ q : Nat, s.heap.size ≤ q → A q := fun q h => by rw [← hAe]; exact Or.inr h
  clear hAe
  have hS : va_S A s.heap s.heap [] := va_S.rf
  refine cutQ (fun Q hQ => ?_)
  refine entryW (vs := [.ref (aO 0), .int v1]) hargs (Nat.le_of_ble_eq_true rfl) (fun ls hl => ?_)
  replace hl : lv_has ls 2 [(0, .ref (aO 0)), (1, .int v1)] := hl
  unfold mX8_isSort at hM
  refine lv_iload_n hx hb dX8_isSort_0 rfl (lv_at hl 1 rfl) ?_
  refine lv_iconst (v := 0) hx hb dX8_isSort_1 (by decide) ?_
  refine lv_aload_n hx hb dX8_isSort_2 rfl (lv_at hl 0 rfl) ?_
  refine va_get (D := (dC, dI)) (ci := 8) (v := .int (mO 0 18)) (C := RX8) (T := TX8) (N := 45) hx hb hts iwX8_isSort_X8 hown hK hP 0 rfl rfl 18 (by decide) (hts _ (List.mem_of_getElem? (i := 1) rfl)) (fun _ h9 => h9) rfl dX8_isSort_3 ?_
  refine lv_iconst (v := 1) hx hb dX8_isSort_6 (by decide) ?_
  refine lv_isub hx hb dX8_isSort_7 ?_
  obtain ⟨x_1, hr_2, hM⟩ := bn_some hM
  refine gv_i (r0 := x_1) (wn := (wO ct aO mO mO64)) (va_runS (As := [.int v1, .int (0 : Int32), .int ((mO 0 18) - (1 : Int32))]) (rest := []) ⟨hx, hb, hml, hown, hts⟩ (kX8_in l dC dI ct _ v1 (0 : Int32) ((mO 0 18) - (1 : Int32)) _ hr_2) (va_cwS 3 hts gX8_isSort_X8_in rfl rfl rfl hvX8_in.2 ⟨Nat.le_of_ble_eq_true rfl, Nat.le_of_ble_eq_true rfl⟩) (preS_of E0_ok hK hP hD (is := []) rfl rfl e_0) rfl rfl hl.1 rfl (lv_room (Nat.le_of_ble_eq_true rfl)) dX8_isSort_8 ⟨Nat.le_of_ble_eq_true rfl, Nat.le_of_ble_eq_true rfl⟩) hP hD hS hA [] [0, 1, 2, 3, 4, 5, 6, 7, 8, 9, 10, 11, 12, 13, 14, 15, 16, 17, 18, 19, 20, 21, 22, 23, 24, 25] [0, 1, 2, 3, 4, 5, 6, 7, 8, 9, 10, 11, 12, 13, 14, 15, 16, 17, 18, 19, 20, 21, 22, 23, 24, 25] rfl rfl rfl (by decide) rfl rfl (fun H locs hP hD hS => ?_)
  obtain ⟨hbz, hM⟩ := gb_some hM
  have hR := som hM
  rw [hR] at hQ
  exact ret_z hQ hx hb hr hlocks hbz hP hK hD hS dX8_isSort_11
abbrev rmX8_isNight : Room := { frames := 1, cells := 0, slots := 0, locals := 22 }
theorem iwX8_isNight_X8 : ∀ w ∈ wsX80, w ∈ wsX8_isNight := fun _ h => List.mem_cons_of_mem _ (List.mem_append_right _ (h))
set_option maxHeartbeats 4000000 in
set_option maxRecDepth 100000 in
theorem kX8_isNight (l : Launch) (dC : Nat → ClassId) (dI : Nat → Nat → Nat) (ct : Nat → ClassId) (aO : Nat → Nat) (sz : Nat) (mO : Mem) (mO64 : Lem) (v1 : Int32) (res : Int32) (hM : mX8_isNight mO mO64 v1 = some res) : Met l yX8_isNight wsX8_isNight rmX8_isNight (va_Pc [.ref (aO 0), .int v1] (PB (dC, dI) ct E0 sz (wO ct aO mO mO64))) (Qi (dC, dI) ct (va_A (wO ct aO mO mO64) sz) res (wO ct aO mO mO64)) 0 0 (va_A (wO ct aO mO mO64) sz) := by
  refine Met.ofW (cc := cX8_isNight) (maxL := 2) (ret := (some .boolean)) (by decide) rfl ?_
  intro p e s m args below meth c s₁ B hml hv
  obtain ⟨hargs, hsz, hP, hK, hD0, hE⟩ := hv
  have hx := B.exec
  have hb := B.bytes
  have hr := B.returns
  have hts := atoms_spec (ws := wsX8_isNight) B.pre
  have hown : s.vm.findClass RX8 = some m.cls := findClass_of_methodNamed B.named
  have hlocks := B.notSynchronized
  clear B s₁
  subst hsz
  have hD := hD0.self (sz := s.heap.size)
  clear hD0
  generalize hAe : va_A (wO ct aO mO mO64) s.heap.size = A at hD hE ⊢
  have hA : ∀ q : Nat, s.heap.size ≤ q → A q := fun q h => by rw [← hAe]; exact Or.inr h
  clear hAe
  have hS : va_S A s.heap s.heap [] := va_S.rf
  refine cutQ (fun Q hQ => ?_)
  refine entryW (vs := [.ref (aO 0), .int v1]) hargs (Nat.le_of_ble_eq_true rfl) (fun ls hl => ?_)
  replace hl : lv_has ls 2 [(0, .ref (aO 0)), (1, .int v1)] := hl
  unfold mX8_isNight at hM
  refine lv_aload_n hx hb dX8_isNight_0 rfl (lv_at hl 0 rfl) ?_
  refine va_get (D := (dC, dI)) (ci := 8) (v := .int (mO 0 18)) (C := RX8) (T := TX8) (N := 45) hx hb hts iwX8_isNight_X8 hown hK hP 0 rfl rfl 18 (by decide) (hts _ (List.mem_of_getElem? (i := 1) rfl)) (fun _ h9 => h9) rfl dX8_isNight_1 ?_
  refine lv_if_le (tgt := 22) hx hb dX8_isNight_4 (by decide) (fun hc_1 => ?_) (fun hc_1 => ?_)
  · have hM := it_p hc_1 hM
    refine lv_iconst (v := 0) hx hb dX8_isNight_22 (by decide) ?_
    have hR := som hM
    rw [hR] at hQ
    exact ret_z hQ hx hb hr hlocks rfl hP hK hD hS dX8_isNight_23
  · have hM := it_n hc_1 hM
    refine lv_iload_n hx hb dX8_isNight_7 rfl (lv_at hl 1 rfl) ?_
    refine lv_iconst (v := 0) hx hb dX8_isNight_8 (by decide) ?_
    refine lv_sipush (v := 500) hx hb dX8_isNight_9 (by decide) ?_
    obtain ⟨x_2, hr_3, hM⟩ := bn_some hM
    refine gv_i (r0 := x_2) (wn := (wO ct aO mO mO64)) (va_runS (As := [.int v1, .int (0 : Int32), .int (500 : Int32)]) (rest := []) ⟨hx, hb, hml, hown, hts⟩ (kX8_in l dC dI ct _ v1 (0 : Int32) (500 : Int32) _ hr_3) (va_cwS 3 hts gX8_isNight_X8_in rfl rfl rfl hvX8_in.2 ⟨Nat.le_of_ble_eq_true rfl, Nat.le_of_ble_eq_true rfl⟩) (preS_of E0_ok hK hP hD (is := []) rfl rfl e_0) rfl rfl hl.1 rfl (lv_room (Nat.le_of_ble_eq_true rfl)) dX8_isNight_12 ⟨Nat.le_of_ble_eq_true rfl, Nat.le_of_ble_eq_true rfl⟩) hP hD hS hA [] [0, 1, 2, 3, 4, 5, 6, 7, 8, 9, 10, 11, 12, 13, 14, 15, 16, 17, 18, 19, 20, 21, 22, 23, 24, 25] [0, 1, 2, 3, 4, 5, 6, 7, 8, 9, 10, 11, 12, 13, 14, 15, 16, 17, 18, 19, 20, 21, 22, 23, 24, 25] rfl rfl rfl (by decide) rfl rfl (fun H locs hP hD hS => ?_)
    refine lv_if_eq (tgt := 22) hx hb dX8_isNight_15 (by decide) (fun hc_5 => ?_) (fun hc_5 => ?_)
    · have hM := it_p hc_5 hM
      refine lv_iconst (v := 0) hx hb dX8_isNight_22 (by decide) ?_
      have hR := som hM
      rw [hR] at hQ
      exact ret_z hQ hx hb hr hlocks rfl hP hK hD hS dX8_isNight_23
    · have hM := it_n hc_5 hM
      refine lv_iconst (v := 1) hx hb dX8_isNight_18 (by decide) ?_
      refine lv_goto (tgt := 23) hx hb dX8_isNight_19 (by decide) ?_
      have hR := som hM
      rw [hR] at hQ
      exact ret_z hQ hx hb hr hlocks rfl hP hK hD hS dX8_isNight_23
abbrev rmX8_sort : Room := { frames := 2, cells := 0, slots := 0, locals := 43 }
set_option maxHeartbeats 4000000 in
set_option maxRecDepth 100000 in
theorem kX8_sort (l : Launch) (dC : Nat → ClassId) (dI : Nat → Nat → Nat) (ct : Nat → ClassId) (aO : Nat → Nat) (sz : Nat) (mO : Mem) (mO64 : Lem) (v1 : Int32) (v2 : Int32) (res : Int32) (hM : mX8_sort mO mO64 v1 v2 = some res) : Met l yX8_sort wsX8_sort rmX8_sort (va_Pc [.ref (aO 0), .int v1, .int v2] (PB (dC, dI) ct E0 sz (wO ct aO mO mO64))) (Qi (dC, dI) ct (va_A (wO ct aO mO mO64) sz) res (wO ct aO mO mO64)) 0 0 (va_A (wO ct aO mO mO64) sz) := by
  refine Met.ofW (cc := cX8_sort) (maxL := 3) (ret := (some .int)) (by decide) rfl ?_
  intro p e s m args below meth c s₁ B hml hv
  obtain ⟨hargs, hsz, hP, hK, hD0, hE⟩ := hv
  have hx := B.exec
  have hb := B.bytes
  have hr := B.returns
  have hts := atoms_spec (ws := wsX8_sort) B.pre
  have hown : s.vm.findClass RX8 = some m.cls := findClass_of_methodNamed B.named
  have hlocks := B.notSynchronized
  clear B s₁
  subst hsz
  have hD := hD0.self (sz := s.heap.size)
  clear hD0
  generalize hAe : va_A (wO ct aO mO mO64) s.heap.size = A at hD hE ⊢
  have hA : ∀ q : Nat, s.heap.size ≤ q → A q := fun q h => by rw [← hAe]; exact Or.inr h
  clear hAe
  have hS : va_S A s.heap s.heap [] := va_S.rf
  refine cutQ (fun Q hQ => ?_)
  refine entryW (vs := [.ref (aO 0), .int v1, .int v2]) hargs (Nat.le_of_ble_eq_true rfl) (fun ls hl => ?_)
  replace hl : lv_has ls 3 [(0, .ref (aO 0)), (1, .int v1), (2, .int v2)] := hl
  unfold mX8_sort at hM
  refine lv_aload_n hx hb dX8_sort_0 rfl (lv_at hl 0 rfl) ?_
  refine lv_iload_n hx hb dX8_sort_1 rfl (lv_at hl 1 rfl) ?_
  obtain ⟨x_1, hr_2, hM⟩ := bn_some hM
  refine gv_i (r0 := x_1) (wn := (wO ct aO mO mO64)) (va_runV (As := [.int v1]) (rest := []) ⟨hx, hb, hml, hown, hts⟩ (kX8_isSort l dC dI ct aO _ mO mO64 v1 _ hr_2) (cwV 1 hts gX8_sort_X8_isSort rfl rfl rfl hvX8_isSort ⟨Nat.le_of_ble_eq_true rfl, Nat.le_of_ble_eq_true rfl⟩) (preV_of E0_ok hK hP hD (is := [0, 1, 2, 3, 4, 5, 6, 7, 8, 9, 10, 11, 12, 13, 14, 15, 16, 17, 18, 19, 20, 21, 22, 23, 24, 25]) rfl rfl rfl (ci := 8) rfl 0 rfl e_0) rfl rfl hl.1 rfl (lv_room (Nat.le_of_ble_eq_true rfl)) dX8_sort_2 ⟨Nat.le_of_ble_eq_true rfl, Nat.le_of_ble_eq_true rfl⟩) hP hD hS hA [0, 1, 2, 3, 4, 5, 6, 7, 8, 9, 10, 11, 12, 13, 14, 15, 16, 17, 18, 19, 20, 21, 22, 23, 24, 25] [] [0, 1, 2, 3, 4, 5, 6, 7, 8, 9, 10, 11, 12, 13, 14, 15, 16, 17, 18, 19, 20, 21, 22, 23, 24, 25] rfl rfl rfl (by decide) rfl rfl (fun H locs hP hD hS => ?_)
  refine lv_if_eq (tgt := 26) hx hb dX8_sort_5 (by decide) (fun hc_4 => ?_) (fun hc_4 => ?_)
  · have hM := it_p hc_4 hM
    refine lv_iconst (v := -1) hx hb dX8_sort_26 (by decide) ?_
    have hR := som hM
    rw [hR] at hQ
    exact ret_i hQ hx hb hr hlocks hP hK hD hS dX8_sort_27
  · have hM := it_n hc_4 hM
    refine lv_iload_n hx hb dX8_sort_8 rfl (lv_at hl 2 rfl) ?_
    refine lv_iconst (v := 0) hx hb dX8_sort_9 (by decide) ?_
    refine lv_iconst (v := 5) hx hb dX8_sort_10 (by decide) ?_
    obtain ⟨x_5, hr_6, hM⟩ := bn_some hM
    refine gv_i (r0 := x_5) (wn := (wO ct aO mO mO64)) (va_runS (As := [.int v2, .int (0 : Int32), .int (5 : Int32)]) (rest := []) ⟨hx, hb, hml, hown, hts⟩ (kX8_in l dC dI ct _ v2 (0 : Int32) (5 : Int32) _ hr_6) (va_cwS 3 hts gX8_sort_X8_in rfl rfl rfl hvX8_in.2 ⟨Nat.le_of_ble_eq_true rfl, Nat.le_of_ble_eq_true rfl⟩) (preS_of E0_ok hK hP hD (is := []) rfl rfl e_0) rfl rfl hl.1 rfl (lv_room (Nat.le_of_ble_eq_true rfl)) dX8_sort_11 ⟨Nat.le_of_ble_eq_true rfl, Nat.le_of_ble_eq_true rfl⟩) hP hD hS hA [] [0, 1, 2, 3, 4, 5, 6, 7, 8, 9, 10, 11, 12, 13, 14, 15, 16, 17, 18, 19, 20, 21, 22, 23, 24, 25] [0, 1, 2, 3, 4, 5, 6, 7, 8, 9, 10, 11, 12, 13, 14, 15, 16, 17, 18, 19, 20, 21, 22, 23, 24, 25] rfl rfl rfl (by decide) rfl rfl (fun H locs hP hD hS => ?_)
    refine lv_if_eq (tgt := 26) hx hb dX8_sort_14 (by decide) (fun hc_8 => ?_) (fun hc_8 => ?_)
    · have hM := it_p hc_8 hM
      refine lv_iconst (v := -1) hx hb dX8_sort_26 (by decide) ?_
      have hR := som hM
      rw [hR] at hQ
      exact ret_i hQ hx hb hr hlocks hP hK hD hS dX8_sort_27
    · have hM := it_n hc_8 hM
      refine lv_aload_n hx hb dX8_sort_17 rfl (lv_at hl 0 rfl) ?_
      refine lv_iload_n hx hb dX8_sort_18 rfl (lv_at hl 1 rfl) ?_
      refine lv_iload_n hx hb dX8_sort_19 rfl (lv_at hl 2 rfl) ?_
      obtain ⟨x_9, hr_10, hM⟩ := bn_some hM
      refine gv_i (r0 := x_9) (wn := (wO ct aO mO mO64)) (va_runV (As := [.int v1, .int v2]) (rest := []) ⟨hx, hb, hml, hown, hts⟩ (kX8_of l dC dI ct aO _ mO mO64 v1 v2 _ hr_10) (cwV 2 hts gX8_sort_X8_of rfl rfl rfl hvX8_of ⟨Nat.le_of_ble_eq_true rfl, Nat.le_of_ble_eq_true rfl⟩) (preV_of E0_ok hK hP hD (is := [0, 1, 2, 3, 4, 5, 6, 7, 8, 9, 10, 11, 12, 13, 14, 15, 16, 17, 18, 19, 20, 21, 22, 23, 24, 25]) rfl rfl rfl (ci := 8) rfl 0 rfl e_0) rfl rfl hl.1 rfl (lv_room (Nat.le_of_ble_eq_true rfl)) dX8_sort_20 ⟨Nat.le_of_ble_eq_true rfl, Nat.le_of_ble_eq_true rfl⟩) hP hD hS hA [0, 1, 2, 3, 4, 5, 6, 7, 8, 9, 10, 11, 12, 13, 14, 15, 16, 17, 18, 19, 20, 21, 22, 23, 24, 25] [] [0, 1, 2, 3, 4, 5, 6, 7, 8, 9, 10, 11, 12, 13, 14, 15, 16, 17, 18, 19, 20, 21, 22, 23, 24, 25] rfl rfl rfl (by decide) rfl rfl (fun H locs hP hD hS => ?_)
      refine lv_goto (tgt := 27) hx hb dX8_sort_23 (by decide) ?_
      have hR := som hM
      rw [hR] at hQ
      exact ret_i hQ hx hb hr hlocks hP hK hD hS dX8_sort_27
abbrev rmX8_isStruck : Room := { frames := 0, cells := 0, slots := 0, locals := 0 }
theorem iwX8_isStruck_X8 : ∀ w ∈ wsX80, w ∈ wsX8_isStruck := fun _ h => List.mem_cons_of_mem _ (List.mem_append_right _ (h))
set_option maxHeartbeats 4000000 in
set_option maxRecDepth 100000 in
theorem kX8_isStruck (l : Launch) (dC : Nat → ClassId) (dI : Nat → Nat → Nat) (ct : Nat → ClassId) (aO : Nat → Nat) (sz : Nat) (mO : Mem) (mO64 : Lem) (v1 : Int32) (v2 : Int32) (res : Int32) (hM : mX8_isStruck mO mO64 v1 v2 = some res) : Met l yX8_isStruck wsX8_isStruck rmX8_isStruck (va_Pc [.ref (aO 0), .int v1, .int v2] (PB (dC, dI) ct E0 sz (wO ct aO mO mO64))) (Qi (dC, dI) ct (va_A (wO ct aO mO mO64) sz) res (wO ct aO mO mO64)) 0 0 (va_A (wO ct aO mO mO64) sz) := by
  refine Met.ofW (cc := cX8_isStruck) (maxL := 3) (ret := (some .boolean)) (by decide) rfl ?_
  intro p e s m args below meth c s₁ B hml hv
  obtain ⟨hargs, hsz, hP, hK, hD0, hE⟩ := hv
  have hx := B.exec
  have hb := B.bytes
  have hr := B.returns
  have hts := atoms_spec (ws := wsX8_isStruck) B.pre
  have hown : s.vm.findClass RX8 = some m.cls := findClass_of_methodNamed B.named
  have hlocks := B.notSynchronized
  clear B s₁
  subst hsz
  have hD := hD0.self (sz := s.heap.size)
  clear hD0
  generalize hAe : va_A (wO ct aO mO mO64) s.heap.size = A at hD hE ⊢
  have hA : ∀ q : Nat, s.heap.size ≤ q → A q := fun q h => by rw [← hAe]; exact Or.inr h
  clear hAe
  have hS : va_S A s.heap s.heap [] := va_S.rf
  refine cutQ (fun Q hQ => ?_)
  refine entryW (vs := [.ref (aO 0), .int v1, .int v2]) hargs (Nat.le_of_ble_eq_true rfl) (fun ls hl => ?_)
  replace hl : lv_has ls 3 [(0, .ref (aO 0)), (1, .int v1), (2, .int v2)] := hl
  unfold mX8_isStruck at hM
  refine lv_iload_n hx hb dX8_isStruck_0 rfl (lv_at hl 1 rfl) ?_
  refine lv_if_le (tgt := 28) hx hb dX8_isStruck_1 (by decide) (fun hc_1 => ?_) (fun hc_1 => ?_)
  · have hM := it_p hc_1 hM
    refine lv_iconst (v := 0) hx hb dX8_isStruck_28 (by decide) ?_
    have hR := som hM
    rw [hR] at hQ
    exact ret_z hQ hx hb hr hlocks rfl hP hK hD hS dX8_isStruck_29
  · have hM := it_n hc_1 hM
    refine lv_iload_n hx hb dX8_isStruck_4 rfl (lv_at hl 1 rfl) ?_
    refine lv_aload_n hx hb dX8_isStruck_5 rfl (lv_at hl 0 rfl) ?_
    refine va_get (D := (dC, dI)) (ci := 8) (v := .int (mO 0 13)) (C := RX8) (T := TX8) (N := 45) hx hb hts iwX8_isStruck_X8 hown hK hP 0 rfl rfl 13 (by decide) (hts _ (List.mem_of_getElem? (i := 1) rfl)) (fun _ h9 => h9) rfl dX8_isStruck_6 ?_
    obtain ⟨hz, hM⟩ := gz_some hM
    refine lv_irem hx hb dX8_isStruck_9 hz ?_
    refine lv_if_ne (tgt := 28) hx hb dX8_isStruck_10 (by decide) (fun hc_2 => ?_) (fun hc_2 => ?_)
    · have hM := it_p hc_2 hM
      refine lv_iconst (v := 0) hx hb dX8_isStruck_28 (by decide) ?_
      have hR := som hM
      rw [hR] at hQ
      exact ret_z hQ hx hb hr hlocks rfl hP hK hD hS dX8_isStruck_29
    · have hM := it_nn hc_2 hM
      refine lv_iload_n hx hb dX8_isStruck_13 rfl (lv_at hl 1 rfl) ?_
      refine lv_aload_n hx hb dX8_isStruck_14 rfl (lv_at hl 0 rfl) ?_
      refine va_get (D := (dC, dI)) (ci := 8) (v := .int (mO 0 13)) (C := RX8) (T := TX8) (N := 45) hx hb hts iwX8_isStruck_X8 hown hK hP 0 rfl rfl 13 (by decide) (hts _ (List.mem_of_getElem? (i := 1) rfl)) (fun _ h9 => h9) rfl dX8_isStruck_15 ?_
      obtain ⟨hz, hM⟩ := gz_some hM
      refine lv_idiv hx hb dX8_isStruck_18 hz ?_
      refine lv_iload_n hx hb dX8_isStruck_19 rfl (lv_at hl 2 rfl) ?_
      obtain ⟨hz, hM⟩ := gz_some hM
      refine lv_irem hx hb dX8_isStruck_20 hz ?_
      refine lv_if_ne (tgt := 28) hx hb dX8_isStruck_21 (by decide) (fun hc_3 => ?_) (fun hc_3 => ?_)
      · have hM := it_p hc_3 hM
        refine lv_iconst (v := 0) hx hb dX8_isStruck_28 (by decide) ?_
        have hR := som hM
        rw [hR] at hQ
        exact ret_z hQ hx hb hr hlocks rfl hP hK hD hS dX8_isStruck_29
      · have hM := it_nn hc_3 hM
        refine lv_iconst (v := 1) hx hb dX8_isStruck_24 (by decide) ?_
        refine lv_goto (tgt := 29) hx hb dX8_isStruck_25 (by decide) ?_
        have hR := som hM
        rw [hR] at hQ
        exact ret_z hQ hx hb hr hlocks rfl hP hK hD hS dX8_isStruck_29
abbrev rmX8_backOf : Room := { frames := 1, cells := 0, slots := 0, locals := 22 }
theorem iwX8_backOf_X8 : ∀ w ∈ wsX80, w ∈ wsX8_backOf := fun _ h => List.mem_cons_of_mem _ (List.mem_append_right _ (h))
set_option maxHeartbeats 4000000 in
set_option maxRecDepth 100000 in
theorem kX8_backOf (l : Launch) (dC : Nat → ClassId) (dI : Nat → Nat → Nat) (ct : Nat → ClassId) (aO : Nat → Nat) (sz : Nat) (mO : Mem) (mO64 : Lem) (v1 : Int32) (v2 : Int32) (v3 : Int32) (v4 : Int32) (res : Int32) (hM : mX8_backOf mO mO64 v1 v2 v3 v4 = some res) : Met l yX8_backOf wsX8_backOf rmX8_backOf (va_Pc [.ref (aO 0), .int v1, .int v2, .int v3, .int v4] (PB (dC, dI) ct E0 sz (wO ct aO mO mO64))) (Qi (dC, dI) ct (va_A (wO ct aO mO mO64) sz) res (wO ct aO mO mO64)) 0 0 (va_A (wO ct aO mO mO64) sz) := by
  refine Met.ofW (cc := cX8_backOf) (maxL := 7) (ret := (some .int)) (by decide) rfl ?_
  intro p e s m args below meth c s₁ B hml hv
  obtain ⟨hargs, hsz, hP, hK, hD0, hE⟩ := hv
  have hx := B.exec
  have hb := B.bytes
  have hr := B.returns
  have hts := atoms_spec (ws := wsX8_backOf) B.pre
  have hown : s.vm.findClass RX8 = some m.cls := findClass_of_methodNamed B.named
  have hlocks := B.notSynchronized
  clear B s₁
  subst hsz
  have hD := hD0.self (sz := s.heap.size)
  clear hD0
  generalize hAe : va_A (wO ct aO mO mO64) s.heap.size = A at hD hE ⊢
  have hA : ∀ q : Nat, s.heap.size ≤ q → A q := fun q h => by rw [← hAe]; exact Or.inr h
  clear hAe
  have hS : va_S A s.heap s.heap [] := va_S.rf
  refine cutQ (fun Q hQ => ?_)
  refine entryW (vs := [.ref (aO 0), .int v1, .int v2, .int v3, .int v4]) hargs (Nat.le_of_ble_eq_true rfl) (fun ls hl => ?_)
  replace hl : lv_has ls 7 [(0, .ref (aO 0)), (1, .int v1), (2, .int v2), (3, .int v3), (4, .int v4)] := hl
  unfold mX8_backOf at hM
  have N10 : ∀ (v1 : Int32) (v2 : Int32) (v3 : Int32) (v4 : Int32) (v5 : Int32) (v6 : Int32), mX8_backOf_L10 v1 v2 v3 v4 v5 v6 mO mO64 = some res → ∀ (H : Heap) (locs : List Loc), va_P (dC, dI) vwCl (wO ct aO mO mO64) H → va_D A (wO ct aO mO mO64) → va_S A s.heap H locs → ∀ ls : Array Slot, lv_has ls 7 [(0, .ref (aO 0)), (1, .int v1), (2, .int v2), (3, .int v3), (4, .int v4), (5, .int v5), (6, .int v6)] → W p l e (headSpec wsX8_backOf rmX8_backOf).room s m args below meth c H locs 0 0 Q (F0 m 10 ls []) := by
    intro v1 v2 v3 v4 v5 v6 hM H locs hP hD hS ls hl
    unfold mX8_backOf_L10 at hM
    obtain ⟨ex10, hit10, hM⟩ := bn_some hM
    have X10_0 : ∀ (v5 : Int32), ex10 = v5 → ∀ (H : Heap) (locs : List Loc), va_P (dC, dI) vwCl (wO ct aO mO mO64) H → va_D A (wO ct aO mO mO64) → va_S A s.heap H locs → ∀ ls : Array Slot, lv_has ls 7 [(0, .ref (aO 0)), (1, .int v1), (5, .int v5)] → W p l e (headSpec wsX8_backOf rmX8_backOf).room s m args below meth c H locs 0 0 Q (F0 m 62 ls []) := by
      intro v5 hex H locs hP hD hS ls hl
      rw [hex] at hM
      have hM := nm_at (y := v5) rfl hM
      refine lv_iload hx hb dX8_backOf_62 (lv_at hl 2 rfl) ?_
      refine lv_sipush (v := 1000) hx hb dX8_backOf_64 (by decide) ?_
      refine lv_iload hx hb dX8_backOf_67 (lv_at hl 2 rfl) ?_
      refine lv_isub hx hb dX8_backOf_69 ?_
      refine lv_aload_n hx hb dX8_backOf_70 rfl (lv_at hl 0 rfl) ?_
      refine lv_iload_n hx hb dX8_backOf_71 rfl (lv_at hl 1 rfl) ?_
      refine lv_iconst (v := 5) hx hb dX8_backOf_72 (by decide) ?_
      obtain ⟨x_1, hr_2, hM⟩ := bn_some hM
      refine gv_i (r0 := x_1) (wn := (wO ct aO mO mO64)) (va_runV (As := [.int v1, .int (5 : Int32)]) (rest := [.int ((1000 : Int32) - v5), .int v5]) ⟨hx, hb, hml, hown, hts⟩ (kX8_of l dC dI ct aO _ mO mO64 v1 (5 : Int32) _ hr_2) (cwV 2 hts gX8_backOf_X8_of rfl rfl rfl hvX8_of ⟨Nat.le_of_ble_eq_true rfl, Nat.le_of_ble_eq_true rfl⟩) (preV_of E0_ok hK hP hD (is := [0, 1, 2, 3, 4, 5, 6, 7, 8, 9, 10, 11, 12, 13, 14, 15, 16, 17, 18, 19, 20, 21, 22, 23, 24, 25]) rfl rfl rfl (ci := 8) rfl 0 rfl e_0) rfl rfl hl.1 rfl (lv_room (Nat.le_of_ble_eq_true rfl)) dX8_backOf_73 ⟨Nat.le_of_ble_eq_true rfl, Nat.le_of_ble_eq_true rfl⟩) hP hD hS hA [0, 1, 2, 3, 4, 5, 6, 7, 8, 9, 10, 11, 12, 13, 14, 15, 16, 17, 18, 19, 20, 21, 22, 23, 24, 25] [] [0, 1, 2, 3, 4, 5, 6, 7, 8, 9, 10, 11, 12, 13, 14, 15, 16, 17, 18, 19, 20, 21, 22, 23, 24, 25] rfl rfl rfl (by decide) rfl rfl (fun H locs hP hD hS => ?_)
      refine lv_imul hx hb dX8_backOf_76 ?_
      refine lv_bipush (v := 16) hx hb dX8_backOf_77 (by decide) ?_
      refine lv_idiv hx hb dX8_backOf_79 (by decide) ?_
      refine lv_iadd hx hb dX8_backOf_80 ?_
      refine lv_topi (fun x_4 ex_4 => ?_)
      have hM := nm_at ex_4 hM
      have hR := som hM
      rw [hR] at hQ
      exact ret_i hQ hx hb hr hlocks hP hK hD hS dX8_backOf_81
    have I10 : ∀ (n : Nat) (v5 : Int32) (v6 : Int32), itr (fun q => mX8_backOf_s10 v1 v2 v3 v4 mO mO64 q.1 q.2) n (v5, v6) = some ex10 → ∀ (H : Heap) (locs : List Loc), va_P (dC, dI) vwCl (wO ct aO mO mO64) H → va_D A (wO ct aO mO mO64) → va_S A s.heap H locs → ∀ ls : Array Slot, lv_has ls 7 [(0, .ref (aO 0)), (1, .int v1), (2, .int v2), (3, .int v3), (4, .int v4), (5, .int v5), (6, .int v6)] → W p l e (headSpec wsX8_backOf rmX8_backOf).room s m args below meth c H locs 0 0 Q (F0 m 10 ls []) := by
      intro n
      induction n with
      | zero => intro v5 v6 hit; exact (itr_zero hit).elim
      | succ n ih10 =>
        intro v5 v6 hit H locs hP hD hS ls hl
        obtain ⟨o10, hM, hbk10, hex10⟩ := itr_succ hit
        replace hM : mX8_backOf_s10 v1 v2 v3 v4 mO mO64 v5 v6 = some o10 := hM
        unfold mX8_backOf_s10 at hM
        refine lv_iload hx hb dX8_backOf_10 (lv_at hl 6 rfl) ?_
        refine lv_iload_n hx hb dX8_backOf_12 rfl (lv_at hl 2 rfl) ?_
        refine lv_aload_n hx hb dX8_backOf_13 rfl (lv_at hl 0 rfl) ?_
        refine lv_iload_n hx hb dX8_backOf_14 rfl (lv_at hl 1 rfl) ?_
        refine lv_iconst (v := 3) hx hb dX8_backOf_15 (by decide) ?_
        obtain ⟨x_5, hr_6, hM⟩ := bn_some hM
        refine gv_i (r0 := x_5) (wn := (wO ct aO mO mO64)) (va_runV (As := [.int v1, .int (3 : Int32)]) (rest := [.int v2, .int v6]) ⟨hx, hb, hml, hown, hts⟩ (kX8_of l dC dI ct aO _ mO mO64 v1 (3 : Int32) _ hr_6) (cwV 2 hts gX8_backOf_X8_of rfl rfl rfl hvX8_of ⟨Nat.le_of_ble_eq_true rfl, Nat.le_of_ble_eq_true rfl⟩) (preV_of E0_ok hK hP hD (is := [0, 1, 2, 3, 4, 5, 6, 7, 8, 9, 10, 11, 12, 13, 14, 15, 16, 17, 18, 19, 20, 21, 22, 23, 24, 25]) rfl rfl rfl (ci := 8) rfl 0 rfl e_0) rfl rfl hl.1 rfl (lv_room (Nat.le_of_ble_eq_true rfl)) dX8_backOf_16 ⟨Nat.le_of_ble_eq_true rfl, Nat.le_of_ble_eq_true rfl⟩) hP hD hS hA [0, 1, 2, 3, 4, 5, 6, 7, 8, 9, 10, 11, 12, 13, 14, 15, 16, 17, 18, 19, 20, 21, 22, 23, 24, 25] [] [0, 1, 2, 3, 4, 5, 6, 7, 8, 9, 10, 11, 12, 13, 14, 15, 16, 17, 18, 19, 20, 21, 22, 23, 24, 25] rfl rfl rfl (by decide) rfl rfl (fun H locs hP hD hS => ?_)
        refine lv_iadd hx hb dX8_backOf_19 ?_
        refine lv_icmp_ge (tgt := 62) hx hb dX8_backOf_20 (by decide) (fun hc_8 => ?_) (fun hc_8 => ?_)
        · have hM := it_p hc_8 hM
          have hR := som hM
          exact X10_0 v5 (hex10 _ hR).symm _ _ hP hD hS _ (lv_sub hl [0, 1, 5] rfl)
        · have hM := it_n hc_8 hM
          refine lv_aload_n hx hb dX8_backOf_23 rfl (lv_at hl 0 rfl) ?_
          refine lv_iload hx hb dX8_backOf_24 (lv_at hl 6 rfl) ?_
          refine lv_iload hx hb dX8_backOf_26 (lv_at hl 4 rfl) ?_
          obtain ⟨x_9, hr_10, hM⟩ := bn_some hM
          refine gv_i (r0 := x_9) (wn := (wO ct aO mO mO64)) (va_runV (As := [.int v6, .int v4]) (rest := []) ⟨hx, hb, hml, hown, hts⟩ (kX8_isStruck l dC dI ct aO _ mO mO64 v6 v4 _ hr_10) (cwV 2 hts gX8_backOf_X8_isStruck rfl rfl rfl hvX8_isStruck ⟨Nat.le_of_ble_eq_true rfl, Nat.le_of_ble_eq_true rfl⟩) (preV_of E0_ok hK hP hD (is := [0, 1, 2, 3, 4, 5, 6, 7, 8, 9, 10, 11, 12, 13, 14, 15, 16, 17, 18, 19, 20, 21, 22, 23, 24, 25]) rfl rfl rfl (ci := 8) rfl 0 rfl e_0) rfl rfl hl.1 rfl (lv_room (Nat.le_of_ble_eq_true rfl)) dX8_backOf_28 ⟨Nat.le_of_ble_eq_true rfl, Nat.le_of_ble_eq_true rfl⟩) hP hD hS hA [0, 1, 2, 3, 4, 5, 6, 7, 8, 9, 10, 11, 12, 13, 14, 15, 16, 17, 18, 19, 20, 21, 22, 23, 24, 25] [] [0, 1, 2, 3, 4, 5, 6, 7, 8, 9, 10, 11, 12, 13, 14, 15, 16, 17, 18, 19, 20, 21, 22, 23, 24, 25] rfl rfl rfl (by decide) rfl rfl (fun H locs hP hD hS => ?_)
          refine lv_if_eq (tgt := 56) hx hb dX8_backOf_31 (by decide) (fun hc_12 => ?_) (fun hc_12 => ?_)
          · have hM := it_p hc_12 hM
            obtain ⟨x_13, ex_13⟩ : ∃ y : Int32, y = (v6 + (1 : Int32)) := ⟨_, rfl⟩
            have hM := nm_at ex_13 hM
            refine lv_iinc (v := x_13) (lv' := [(6, .int x_13), (0, .ref (aO 0)), (1, .int v1), (2, .int v2), (3, .int v3), (4, .int v4), (5, .int v5)]) hx hb dX8_backOf_56 hl (k := 6) rfl (by rw [ex_13]; rfl) (by decide) rfl (fun ls hl => ?_)
            refine lv_goto (tgt := 10) hx hb dX8_backOf_59 (by decide) ?_
            have hR := som hM
            exact ih10 v5 x_13 (hbk10 _ hR) _ _ hP hD hS _ (lv_sub hl [1, 2, 3, 4, 5, 6, 0] rfl)
          · have hM := it_n hc_12 hM
            refine lv_iload hx hb dX8_backOf_34 (lv_at hl 5 rfl) ?_
            refine lv_sipush (v := 256) hx hb dX8_backOf_36 (by decide) ?_
            refine lv_iload_n hx hb dX8_backOf_39 rfl (lv_at hl 3 rfl) ?_
            refine lv_bipush (v := 16) hx hb dX8_backOf_40 (by decide) ?_
            refine lv_aload_n hx hb dX8_backOf_42 rfl (lv_at hl 0 rfl) ?_
            refine va_get (D := (dC, dI)) (ci := 8) (v := .int (mO 0 14)) (C := RX8) (T := TX8) (N := 45) hx hb hts iwX8_backOf_X8 hown hK hP 0 rfl rfl 14 (by decide) (hts _ (List.mem_of_getElem? (i := 1) rfl)) (fun _ h9 => h9) rfl dX8_backOf_43 ?_
            refine lv_isub hx hb dX8_backOf_46 ?_
            refine lv_imul hx hb dX8_backOf_47 ?_
            refine lv_isub hx hb dX8_backOf_48 ?_
            refine lv_imul hx hb dX8_backOf_49 ?_
            refine lv_sipush (v := 256) hx hb dX8_backOf_50 (by decide) ?_
            refine lv_idiv hx hb dX8_backOf_53 (by decide) ?_
            refine lv_topi (fun x_14 ex_14 => ?_)
            have hM := nm_at ex_14 hM
            refine lv_istore (lv' := [(5, .int x_14), (0, .ref (aO 0)), (1, .int v1), (2, .int v2), (3, .int v3), (4, .int v4), (6, .int v6)]) hx hb dX8_backOf_54 hl (by decide) rfl (fun ls hl => ?_)
            obtain ⟨x_15, ex_15⟩ : ∃ y : Int32, y = (v6 + (1 : Int32)) := ⟨_, rfl⟩
            have hM := nm_at ex_15 hM
            refine lv_iinc (v := x_15) (lv' := [(6, .int x_15), (5, .int x_14), (0, .ref (aO 0)), (1, .int v1), (2, .int v2), (3, .int v3), (4, .int v4)]) hx hb dX8_backOf_56 hl (k := 6) rfl (by rw [ex_15]; rfl) (by decide) rfl (fun ls hl => ?_)
            refine lv_goto (tgt := 10) hx hb dX8_backOf_59 (by decide) ?_
            have hR := som hM
            exact ih10 x_14 x_15 (hbk10 _ hR) _ _ hP hD hS _ (lv_sub hl [2, 3, 4, 5, 6, 1, 0] rfl)
    exact I10 FU v5 v6 hit10 _ _ hP hD hS _ hl
  refine lv_sipush (v := 1000) hx hb dX8_backOf_0 (by decide) ?_
  refine lv_istore (lv' := [(5, .int (1000 : Int32)), (0, .ref (aO 0)), (1, .int v1), (2, .int v2), (3, .int v3), (4, .int v4)]) hx hb dX8_backOf_3 hl (by decide) rfl (fun ls hl => ?_)
  refine lv_iload_n hx hb dX8_backOf_5 rfl (lv_at hl 3 rfl) ?_
  refine lv_iconst (v := 1) hx hb dX8_backOf_6 (by decide) ?_
  refine lv_iadd hx hb dX8_backOf_7 ?_
  refine lv_topi (fun x_16 ex_16 => ?_)
  have hM := nm_at ex_16 hM
  refine lv_istore (lv' := [(6, .int x_16), (5, .int (1000 : Int32)), (0, .ref (aO 0)), (1, .int v1), (2, .int v2), (3, .int v3), (4, .int v4)]) hx hb dX8_backOf_8 hl (by decide) rfl (fun ls hl => ?_)
  exact N10 v1 v2 v3 v4 (1000 : Int32) x_16 hM _ _ hP hD hS _ (lv_sub hl [2, 3, 4, 5, 6, 1, 0] rfl)
abbrev rmX8_leastOf : Room := { frames := 1, cells := 0, slots := 0, locals := 22 }
theorem iwX8_leastOf_X8 : ∀ w ∈ wsX80, w ∈ wsX8_leastOf := fun _ h => List.mem_cons_of_mem _ (List.mem_append_right _ (h))
set_option maxHeartbeats 4000000 in
set_option maxRecDepth 100000 in
theorem kX8_leastOf (l : Launch) (dC : Nat → ClassId) (dI : Nat → Nat → Nat) (ct : Nat → ClassId) (aO : Nat → Nat) (sz : Nat) (mO : Mem) (mO64 : Lem) (v1 : Int32) (v2 : Int32) (res : Int32) (hM : mX8_leastOf mO mO64 v1 v2 = some res) : Met l yX8_leastOf wsX8_leastOf rmX8_leastOf (va_Pc [.ref (aO 0), .int v1, .int v2] (PB (dC, dI) ct E0 sz (wO ct aO mO mO64))) (Qi (dC, dI) ct (va_A (wO ct aO mO mO64) sz) res (wO ct aO mO mO64)) 0 0 (va_A (wO ct aO mO mO64) sz) := by
  refine Met.ofW (cc := cX8_leastOf) (maxL := 4) (ret := (some .int)) (by decide) rfl ?_
  intro p e s m args below meth c s₁ B hml hv
  obtain ⟨hargs, hsz, hP, hK, hD0, hE⟩ := hv
  have hx := B.exec
  have hb := B.bytes
  have hr := B.returns
  have hts := atoms_spec (ws := wsX8_leastOf) B.pre
  have hown : s.vm.findClass RX8 = some m.cls := findClass_of_methodNamed B.named
  have hlocks := B.notSynchronized
  clear B s₁
  subst hsz
  have hD := hD0.self (sz := s.heap.size)
  clear hD0
  generalize hAe : va_A (wO ct aO mO mO64) s.heap.size = A at hD hE ⊢
  have hA : ∀ q : Nat, s.heap.size ≤ q → A q := fun q h => by rw [← hAe]; exact Or.inr h
  clear hAe
  have hS : va_S A s.heap s.heap [] := va_S.rf
  refine cutQ (fun Q hQ => ?_)
  refine entryW (vs := [.ref (aO 0), .int v1, .int v2]) hargs (Nat.le_of_ble_eq_true rfl) (fun ls hl => ?_)
  replace hl : lv_has ls 4 [(0, .ref (aO 0)), (1, .int v1), (2, .int v2)] := hl
  unfold mX8_leastOf at hM
  have N2 : ∀ (v1 : Int32) (v2 : Int32) (v3 : Int32), mX8_leastOf_L2 v1 v2 v3 mO mO64 = some res → ∀ (H : Heap) (locs : List Loc), va_P (dC, dI) vwCl (wO ct aO mO mO64) H → va_D A (wO ct aO mO mO64) → va_S A s.heap H locs → ∀ ls : Array Slot, lv_has ls 4 [(0, .ref (aO 0)), (1, .int v1), (2, .int v2), (3, .int v3)] → W p l e (headSpec wsX8_leastOf rmX8_leastOf).room s m args below meth c H locs 0 0 Q (F0 m 2 ls []) := by
    intro v1 v2 v3 hM H locs hP hD hS ls hl
    unfold mX8_leastOf_L2 at hM
    obtain ⟨ex2, hit2, hM⟩ := bn_some hM
    have X2_0 : ∀ (v3 : Int32), ex2 = v3 → ∀ (H : Heap) (locs : List Loc), va_P (dC, dI) vwCl (wO ct aO mO mO64) H → va_D A (wO ct aO mO mO64) → va_S A s.heap H locs → ∀ ls : Array Slot, lv_has ls 4 [(3, .int v3)] → W p l e (headSpec wsX8_leastOf rmX8_leastOf).room s m args below meth c H locs 0 0 Q (F0 m 45 ls []) := by
      intro v3 hex H locs hP hD hS ls hl
      rw [hex] at hM
      have hM := nm_at (y := v3) rfl hM
      refine lv_iload_n hx hb dX8_leastOf_45 rfl (lv_at hl 0 rfl) ?_
      refine lv_sipush (v := 400) hx hb dX8_leastOf_46 (by decide) ?_
      refine lv_icmp_le (tgt := 56) hx hb dX8_leastOf_49 (by decide) (fun hc_1 => ?_) (fun hc_1 => ?_)
      · have hM := it_p hc_1 hM
        refine lv_iload_n hx hb dX8_leastOf_56 rfl (lv_at hl 0 rfl) ?_
        have hR := som hM
        rw [hR] at hQ
        exact ret_i hQ hx hb hr hlocks hP hK hD hS dX8_leastOf_57
      · have hM := it_n hc_1 hM
        refine lv_iconst (v := -1) hx hb dX8_leastOf_52 (by decide) ?_
        refine lv_goto (tgt := 57) hx hb dX8_leastOf_53 (by decide) ?_
        have hR := som hM
        rw [hR] at hQ
        exact ret_i hQ hx hb hr hlocks hP hK hD hS dX8_leastOf_57
    have I2 : ∀ (n : Nat) (v3 : Int32), itr (fun q => mX8_leastOf_s2 v1 v2 mO mO64 q) n v3 = some ex2 → ∀ (H : Heap) (locs : List Loc), va_P (dC, dI) vwCl (wO ct aO mO mO64) H → va_D A (wO ct aO mO mO64) → va_S A s.heap H locs → ∀ ls : Array Slot, lv_has ls 4 [(0, .ref (aO 0)), (1, .int v1), (2, .int v2), (3, .int v3)] → W p l e (headSpec wsX8_leastOf rmX8_leastOf).room s m args below meth c H locs 0 0 Q (F0 m 2 ls []) := by
      intro n
      induction n with
      | zero => intro v3 hit; exact (itr_zero hit).elim
      | succ n ih2 =>
        intro v3 hit H locs hP hD hS ls hl
        obtain ⟨o2, hM, hbk2, hex2⟩ := itr_succ hit
        replace hM : mX8_leastOf_s2 v1 v2 mO mO64 v3 = some o2 := hM
        unfold mX8_leastOf_s2 at hM
        refine lv_iload_n hx hb dX8_leastOf_2 rfl (lv_at hl 3 rfl) ?_
        refine lv_sipush (v := 400) hx hb dX8_leastOf_3 (by decide) ?_
        refine lv_icmp_gt (tgt := 45) hx hb dX8_leastOf_6 (by decide) (fun hc_2 => ?_) (fun hc_2 => ?_)
        · have hM := it_p hc_2 hM
          have hR := som hM
          exact X2_0 v3 (hex2 _ hR).symm _ _ hP hD hS _ (lv_sub hl [3] rfl)
        · have hM := it_n hc_2 hM
          refine lv_bipush (v := 100) hx hb dX8_leastOf_9 (by decide) ?_
          refine lv_iload_n hx hb dX8_leastOf_11 rfl (lv_at hl 3 rfl) ?_
          refine lv_iadd hx hb dX8_leastOf_12 ?_
          refine lv_iload_n hx hb dX8_leastOf_13 rfl (lv_at hl 2 rfl) ?_
          refine lv_imul hx hb dX8_leastOf_14 ?_
          refine lv_sipush (v := 1000) hx hb dX8_leastOf_15 (by decide) ?_
          refine lv_idiv hx hb dX8_leastOf_18 (by decide) ?_
          refine lv_bipush (v := 100) hx hb dX8_leastOf_19 (by decide) ?_
          refine lv_aload_n hx hb dX8_leastOf_21 rfl (lv_at hl 0 rfl) ?_
          refine va_get (D := (dC, dI)) (ci := 8) (v := .int (mO 0 17)) (C := RX8) (T := TX8) (N := 45) hx hb hts iwX8_leastOf_X8 hown hK hP 0 rfl rfl 17 (by decide) (hts _ (List.mem_of_getElem? (i := 1) rfl)) (fun _ h9 => h9) rfl dX8_leastOf_22 ?_
          refine lv_aload_n hx hb dX8_leastOf_25 rfl (lv_at hl 0 rfl) ?_
          refine lv_iload_n hx hb dX8_leastOf_26 rfl (lv_at hl 1 rfl) ?_
          refine lv_iconst (v := 3) hx hb dX8_leastOf_27 (by decide) ?_
          obtain ⟨x_3, hr_4, hM⟩ := bn_some hM
          refine gv_i (r0 := x_3) (wn := (wO ct aO mO mO64)) (va_runV (As := [.int v1, .int (3 : Int32)]) (rest := [.int (mO 0 17), .int (100 : Int32), .int ((((100 : Int32) + v3) * v2) / (1000 : Int32))]) ⟨hx, hb, hml, hown, hts⟩ (kX8_of l dC dI ct aO _ mO mO64 v1 (3 : Int32) _ hr_4) (cwV 2 hts gX8_leastOf_X8_of rfl rfl rfl hvX8_of ⟨Nat.le_of_ble_eq_true rfl, Nat.le_of_ble_eq_true rfl⟩) (preV_of E0_ok hK hP hD (is := [0, 1, 2, 3, 4, 5, 6, 7, 8, 9, 10, 11, 12, 13, 14, 15, 16, 17, 18, 19, 20, 21, 22, 23, 24, 25]) rfl rfl rfl (ci := 8) rfl 0 rfl e_0) rfl rfl hl.1 rfl (lv_room (Nat.le_of_ble_eq_true rfl)) dX8_leastOf_28 ⟨Nat.le_of_ble_eq_true rfl, Nat.le_of_ble_eq_true rfl⟩) hP hD hS hA [0, 1, 2, 3, 4, 5, 6, 7, 8, 9, 10, 11, 12, 13, 14, 15, 16, 17, 18, 19, 20, 21, 22, 23, 24, 25] [] [0, 1, 2, 3, 4, 5, 6, 7, 8, 9, 10, 11, 12, 13, 14, 15, 16, 17, 18, 19, 20, 21, 22, 23, 24, 25] rfl rfl rfl (by decide) rfl rfl (fun H locs hP hD hS => ?_)
          refine lv_imul hx hb dX8_leastOf_31 ?_
          refine lv_bipush (v := 10) hx hb dX8_leastOf_32 (by decide) ?_
          refine lv_idiv hx hb dX8_leastOf_34 (by decide) ?_
          refine lv_iadd hx hb dX8_leastOf_35 ?_
          refine lv_icmp_ge (tgt := 45) hx hb dX8_leastOf_36 (by decide) (fun hc_6 => ?_) (fun hc_6 => ?_)
          · have hM := it_p hc_6 hM
            have hR := som hM
            exact X2_0 v3 (hex2 _ hR).symm _ _ hP hD hS _ (lv_sub hl [3] rfl)
          · have hM := it_n hc_6 hM
            obtain ⟨x_7, ex_7⟩ : ∃ y : Int32, y = (v3 + (1 : Int32)) := ⟨_, rfl⟩
            have hM := nm_at ex_7 hM
            refine lv_iinc (v := x_7) (lv' := [(3, .int x_7), (0, .ref (aO 0)), (1, .int v1), (2, .int v2)]) hx hb dX8_leastOf_39 hl (k := 3) rfl (by rw [ex_7]; rfl) (by decide) rfl (fun ls hl => ?_)
            refine lv_goto (tgt := 2) hx hb dX8_leastOf_42 (by decide) ?_
            have hR := som hM
            exact ih2 x_7 (hbk2 _ hR) _ _ hP hD hS _ (lv_sub hl [1, 2, 3, 0] rfl)
    exact I2 FU v3 hit2 _ _ hP hD hS _ hl
  refine lv_iconst (v := 0) hx hb dX8_leastOf_0 (by decide) ?_
  refine lv_istore_n (lv' := [(3, .int (0 : Int32)), (0, .ref (aO 0)), (1, .int v1), (2, .int v2)]) hx hb dX8_leastOf_1 rfl hl (by decide) rfl (fun ls hl => ?_)
  exact N2 v1 v2 (0 : Int32) hM _ _ hP hD hS _ (lv_sub hl [1, 2, 3, 0] rfl)
abbrev rmX8_mostPrice : Room := { frames := 1, cells := 0, slots := 0, locals := 22 }
set_option maxHeartbeats 4000000 in
set_option maxRecDepth 100000 in
theorem kX8_mostPrice (l : Launch) (dC : Nat → ClassId) (dI : Nat → Nat → Nat) (ct : Nat → ClassId) (aO : Nat → Nat) (sz : Nat) (mO : Mem) (mO64 : Lem) (v1 : Int32) (res : Int32) (hM : mX8_mostPrice mO mO64 v1 = some res) : Met l yX8_mostPrice wsX8_mostPrice rmX8_mostPrice (va_Pc [.ref (aO 0), .int v1] (PB (dC, dI) ct E0 sz (wO ct aO mO mO64))) (Qi (dC, dI) ct (va_A (wO ct aO mO mO64) sz) res (wO ct aO mO mO64)) 0 0 (va_A (wO ct aO mO mO64) sz) := by
  refine Met.ofW (cc := cX8_mostPrice) (maxL := 3) (ret := (some .int)) (by decide) rfl ?_
  intro p e s m args below meth c s₁ B hml hv
  obtain ⟨hargs, hsz, hP, hK, hD0, hE⟩ := hv
  have hx := B.exec
  have hb := B.bytes
  have hr := B.returns
  have hts := atoms_spec (ws := wsX8_mostPrice) B.pre
  have hown : s.vm.findClass RX8 = some m.cls := findClass_of_methodNamed B.named
  have hlocks := B.notSynchronized
  clear B s₁
  subst hsz
  have hD := hD0.self (sz := s.heap.size)
  clear hD0
  generalize hAe : va_A (wO ct aO mO mO64) s.heap.size = A at hD hE ⊢
  have hA : ∀ q : Nat, s.heap.size ≤ q → A q := fun q h => by rw [← hAe]; exact Or.inr h
  clear hAe
  have hS : va_S A s.heap s.heap [] := va_S.rf
  refine cutQ (fun Q hQ => ?_)
  refine entryW (vs := [.ref (aO 0), .int v1]) hargs (Nat.le_of_ble_eq_true rfl) (fun ls hl => ?_)
  replace hl : lv_has ls 3 [(0, .ref (aO 0)), (1, .int v1)] := hl
  unfold mX8_mostPrice at hM
  refine lv_aload_n hx hb dX8_mostPrice_0 rfl (lv_at hl 0 rfl) ?_
  refine lv_iload_n hx hb dX8_mostPrice_1 rfl (lv_at hl 1 rfl) ?_
  refine lv_iconst (v := 2) hx hb dX8_mostPrice_2 (by decide) ?_
  obtain ⟨x_1, hr_2, hM⟩ := bn_some hM
  refine gv_i (r0 := x_1) (wn := (wO ct aO mO mO64)) (va_runV (As := [.int v1, .int (2 : Int32)]) (rest := []) ⟨hx, hb, hml, hown, hts⟩ (kX8_of l dC dI ct aO _ mO mO64 v1 (2 : Int32) _ hr_2) (cwV 2 hts gX8_mostPrice_X8_of rfl rfl rfl hvX8_of ⟨Nat.le_of_ble_eq_true rfl, Nat.le_of_ble_eq_true rfl⟩) (preV_of E0_ok hK hP hD (is := [0, 1, 2, 3, 4, 5, 6, 7, 8, 9, 10, 11, 12, 13, 14, 15, 16, 17, 18, 19, 20, 21, 22, 23, 24, 25]) rfl rfl rfl (ci := 8) rfl 0 rfl e_0) rfl rfl hl.1 rfl (lv_room (Nat.le_of_ble_eq_true rfl)) dX8_mostPrice_3 ⟨Nat.le_of_ble_eq_true rfl, Nat.le_of_ble_eq_true rfl⟩) hP hD hS hA [0, 1, 2, 3, 4, 5, 6, 7, 8, 9, 10, 11, 12, 13, 14, 15, 16, 17, 18, 19, 20, 21, 22, 23, 24, 25] [] [0, 1, 2, 3, 4, 5, 6, 7, 8, 9, 10, 11, 12, 13, 14, 15, 16, 17, 18, 19, 20, 21, 22, 23, 24, 25] rfl rfl rfl (by decide) rfl rfl (fun H locs hP hD hS => ?_)
  refine lv_istore_n (lv' := [(2, .int x_1), (0, .ref (aO 0)), (1, .int v1)]) hx hb dX8_mostPrice_6 rfl hl (by decide) rfl (fun ls hl => ?_)
  refine lv_iload_n hx hb dX8_mostPrice_7 rfl (lv_at hl 0 rfl) ?_
  refine lv_if_ne (tgt := 15) hx hb dX8_mostPrice_8 (by decide) (fun hc_4 => ?_) (fun hc_4 => ?_)
  · have hM := it_p hc_4 hM
    refine lv_sipush (v := 400) hx hb dX8_mostPrice_15 (by decide) ?_
    refine lv_aload_n hx hb dX8_mostPrice_18 rfl (lv_at hl 1 rfl) ?_
    refine lv_iload_n hx hb dX8_mostPrice_19 rfl (lv_at hl 2 rfl) ?_
    refine lv_iconst (v := 4) hx hb dX8_mostPrice_20 (by decide) ?_
    obtain ⟨x_5, hr_6, hM⟩ := bn_some hM
    refine gv_i (r0 := x_5) (wn := (wO ct aO mO mO64)) (va_runV (As := [.int v1, .int (4 : Int32)]) (rest := [.int (400 : Int32)]) ⟨hx, hb, hml, hown, hts⟩ (kX8_of l dC dI ct aO _ mO mO64 v1 (4 : Int32) _ hr_6) (cwV 2 hts gX8_mostPrice_X8_of rfl rfl rfl hvX8_of ⟨Nat.le_of_ble_eq_true rfl, Nat.le_of_ble_eq_true rfl⟩) (preV_of E0_ok hK hP hD (is := [0, 1, 2, 3, 4, 5, 6, 7, 8, 9, 10, 11, 12, 13, 14, 15, 16, 17, 18, 19, 20, 21, 22, 23, 24, 25]) rfl rfl rfl (ci := 8) rfl 0 rfl e_0) rfl rfl hl.1 rfl (lv_room (Nat.le_of_ble_eq_true rfl)) dX8_mostPrice_21 ⟨Nat.le_of_ble_eq_true rfl, Nat.le_of_ble_eq_true rfl⟩) hP hD hS hA [0, 1, 2, 3, 4, 5, 6, 7, 8, 9, 10, 11, 12, 13, 14, 15, 16, 17, 18, 19, 20, 21, 22, 23, 24, 25] [] [0, 1, 2, 3, 4, 5, 6, 7, 8, 9, 10, 11, 12, 13, 14, 15, 16, 17, 18, 19, 20, 21, 22, 23, 24, 25] rfl rfl rfl (by decide) rfl rfl (fun H locs hP hD hS => ?_)
    refine lv_bipush (v := 100) hx hb dX8_mostPrice_24 (by decide) ?_
    refine lv_imul hx hb dX8_mostPrice_26 ?_
    refine lv_iload_n hx hb dX8_mostPrice_27 rfl (lv_at hl 0 rfl) ?_
    obtain ⟨hz, hM⟩ := gz_some hM
    refine lv_idiv hx hb dX8_mostPrice_28 hz ?_
    refine va_mmin hx hb (hml.trans hl.1.symm) hown (hts _ (List.mem_of_getElem? (i := 1) rfl)) (hts _ (List.mem_of_getElem? (i := 2) rfl)) (hts _ (List.mem_of_getElem? (i := 3) rfl)) (hts _ (List.mem_of_getElem? (i := 4) rfl)) (Nat.le_of_ble_eq_true rfl) (Nat.le_of_ble_eq_true rfl) (Nat.le_of_ble_eq_true rfl) (Nat.le_of_ble_eq_true rfl) dX8_mostPrice_29 ?_
    refine lv_topi (fun x_8 ex_8 => ?_)
    have hM := nm_at ex_8 hM
    have hR := som hM
    rw [hR] at hQ
    exact ret_i hQ hx hb hr hlocks hP hK hD hS dX8_mostPrice_32
  · have hM := it_nn hc_4 hM
    refine lv_iconst (v := -1) hx hb dX8_mostPrice_11 (by decide) ?_
    refine lv_goto (tgt := 32) hx hb dX8_mostPrice_12 (by decide) ?_
    have hR := som hM
    rw [hR] at hQ
    exact ret_i hQ hx hb hr hlocks hP hK hD hS dX8_mostPrice_32
abbrev rmX8_back : Room := { frames := 2, cells := 0, slots := 0, locals := 48 }
theorem iwX8_back_X8 : ∀ w ∈ wsX80, w ∈ wsX8_back := fun _ h => List.mem_cons_of_mem _ (List.mem_append_right _ (h))
set_option maxHeartbeats 4000000 in
set_option maxRecDepth 100000 in
theorem kX8_back (l : Launch) (dC : Nat → ClassId) (dI : Nat → Nat → Nat) (ct : Nat → ClassId) (aO : Nat → Nat) (sz : Nat) (mO : Mem) (mO64 : Lem) (v1 : Int32) (v2 : Int32) (v3 : Int32) (res : Int32) (hM : mX8_back mO mO64 v1 v2 v3 = some res) : Met l yX8_back wsX8_back rmX8_back (va_Pc [.ref (aO 0), .int v1, .int v2, .int v3] (PB (dC, dI) ct E0 sz (wO ct aO mO mO64))) (Qi (dC, dI) ct (va_A (wO ct aO mO mO64) sz) res (wO ct aO mO mO64)) 0 0 (va_A (wO ct aO mO mO64) sz) := by
  refine Met.ofW (cc := cX8_back) (maxL := 5) (ret := (some .int)) (by decide) rfl ?_
  intro p e s m args below meth c s₁ B hml hv
  obtain ⟨hargs, hsz, hP, hK, hD0, hE⟩ := hv
  have hx := B.exec
  have hb := B.bytes
  have hr := B.returns
  have hts := atoms_spec (ws := wsX8_back) B.pre
  have hown : s.vm.findClass RX8 = some m.cls := findClass_of_methodNamed B.named
  have hlocks := B.notSynchronized
  clear B s₁
  subst hsz
  have hD := hD0.self (sz := s.heap.size)
  clear hD0
  generalize hAe : va_A (wO ct aO mO mO64) s.heap.size = A at hD hE ⊢
  have hA : ∀ q : Nat, s.heap.size ≤ q → A q := fun q h => by rw [← hAe]; exact Or.inr h
  clear hAe
  have hS : va_S A s.heap s.heap [] := va_S.rf
  refine cutQ (fun Q hQ => ?_)
  refine entryW (vs := [.ref (aO 0), .int v1, .int v2, .int v3]) hargs (Nat.le_of_ble_eq_true rfl) (fun ls hl => ?_)
  replace hl : lv_has ls 5 [(0, .ref (aO 0)), (1, .int v1), (2, .int v2), (3, .int v3)] := hl
  unfold mX8_back at hM
  refine lv_aload_n hx hb dX8_back_0 rfl (lv_at hl 0 rfl) ?_
  refine lv_iload_n hx hb dX8_back_1 rfl (lv_at hl 1 rfl) ?_
  obtain ⟨x_1, hr_2, hM⟩ := bn_some hM
  refine gv_i (r0 := x_1) (wn := (wO ct aO mO mO64)) (va_runV (As := [.int v1]) (rest := []) ⟨hx, hb, hml, hown, hts⟩ (kX8_isSort l dC dI ct aO _ mO mO64 v1 _ hr_2) (cwV 1 hts gX8_back_X8_isSort rfl rfl rfl hvX8_isSort ⟨Nat.le_of_ble_eq_true rfl, Nat.le_of_ble_eq_true rfl⟩) (preV_of E0_ok hK hP hD (is := [0, 1, 2, 3, 4, 5, 6, 7, 8, 9, 10, 11, 12, 13, 14, 15, 16, 17, 18, 19, 20, 21, 22, 23, 24, 25]) rfl rfl rfl (ci := 8) rfl 0 rfl e_0) rfl rfl hl.1 rfl (lv_room (Nat.le_of_ble_eq_true rfl)) dX8_back_2 ⟨Nat.le_of_ble_eq_true rfl, Nat.le_of_ble_eq_true rfl⟩) hP hD hS hA [0, 1, 2, 3, 4, 5, 6, 7, 8, 9, 10, 11, 12, 13, 14, 15, 16, 17, 18, 19, 20, 21, 22, 23, 24, 25] [] [0, 1, 2, 3, 4, 5, 6, 7, 8, 9, 10, 11, 12, 13, 14, 15, 16, 17, 18, 19, 20, 21, 22, 23, 24, 25] rfl rfl rfl (by decide) rfl rfl (fun H locs hP hD hS => ?_)
  refine lv_if_eq (tgt := 25) hx hb dX8_back_5 (by decide) (fun hc_4 => ?_) (fun hc_4 => ?_)
  · have hM := it_p hc_4 hM
    refine lv_iconst (v := -1) hx hb dX8_back_25 (by decide) ?_
    have hR := som hM
    rw [hR] at hQ
    exact ret_i hQ hx hb hr hlocks hP hK hD hS dX8_back_26
  · have hM := it_n hc_4 hM
    refine lv_aload_n hx hb dX8_back_8 rfl (lv_at hl 0 rfl) ?_
    refine lv_iload_n hx hb dX8_back_9 rfl (lv_at hl 2 rfl) ?_
    obtain ⟨x_5, hr_6, hM⟩ := bn_some hM
    refine gv_i (r0 := x_5) (wn := (wO ct aO mO mO64)) (va_runV (As := [.int v2]) (rest := []) ⟨hx, hb, hml, hown, hts⟩ (kX8_isNight l dC dI ct aO _ mO mO64 v2 _ hr_6) (cwV 1 hts gX8_back_X8_isNight rfl rfl rfl hvX8_isNight ⟨Nat.le_of_ble_eq_true rfl, Nat.le_of_ble_eq_true rfl⟩) (preV_of E0_ok hK hP hD (is := [0, 1, 2, 3, 4, 5, 6, 7, 8, 9, 10, 11, 12, 13, 14, 15, 16, 17, 18, 19, 20, 21, 22, 23, 24, 25]) rfl rfl rfl (ci := 8) rfl 0 rfl e_0) rfl rfl hl.1 rfl (lv_room (Nat.le_of_ble_eq_true rfl)) dX8_back_10 ⟨Nat.le_of_ble_eq_true rfl, Nat.le_of_ble_eq_true rfl⟩) hP hD hS hA [0, 1, 2, 3, 4, 5, 6, 7, 8, 9, 10, 11, 12, 13, 14, 15, 16, 17, 18, 19, 20, 21, 22, 23, 24, 25] [] [0, 1, 2, 3, 4, 5, 6, 7, 8, 9, 10, 11, 12, 13, 14, 15, 16, 17, 18, 19, 20, 21, 22, 23, 24, 25] rfl rfl rfl (by decide) rfl rfl (fun H locs hP hD hS => ?_)
    refine lv_if_eq (tgt := 25) hx hb dX8_back_13 (by decide) (fun hc_8 => ?_) (fun hc_8 => ?_)
    · have hM := it_p hc_8 hM
      refine lv_iconst (v := -1) hx hb dX8_back_25 (by decide) ?_
      have hR := som hM
      rw [hR] at hQ
      exact ret_i hQ hx hb hr hlocks hP hK hD hS dX8_back_26
    · have hM := it_n hc_8 hM
      refine lv_iload_n hx hb dX8_back_16 rfl (lv_at hl 3 rfl) ?_
      refine lv_iconst (v := 0) hx hb dX8_back_17 (by decide) ?_
      refine lv_iconst (v := 2) hx hb dX8_back_18 (by decide) ?_
      obtain ⟨x_9, hr_10, hM⟩ := bn_some hM
      refine gv_i (r0 := x_9) (wn := (wO ct aO mO mO64)) (va_runS (As := [.int v3, .int (0 : Int32), .int (2 : Int32)]) (rest := []) ⟨hx, hb, hml, hown, hts⟩ (kX8_in l dC dI ct _ v3 (0 : Int32) (2 : Int32) _ hr_10) (va_cwS 3 hts gX8_back_X8_in rfl rfl rfl hvX8_in.2 ⟨Nat.le_of_ble_eq_true rfl, Nat.le_of_ble_eq_true rfl⟩) (preS_of E0_ok hK hP hD (is := []) rfl rfl e_0) rfl rfl hl.1 rfl (lv_room (Nat.le_of_ble_eq_true rfl)) dX8_back_19 ⟨Nat.le_of_ble_eq_true rfl, Nat.le_of_ble_eq_true rfl⟩) hP hD hS hA [] [0, 1, 2, 3, 4, 5, 6, 7, 8, 9, 10, 11, 12, 13, 14, 15, 16, 17, 18, 19, 20, 21, 22, 23, 24, 25] [0, 1, 2, 3, 4, 5, 6, 7, 8, 9, 10, 11, 12, 13, 14, 15, 16, 17, 18, 19, 20, 21, 22, 23, 24, 25] rfl rfl rfl (by decide) rfl rfl (fun H locs hP hD hS => ?_)
      refine lv_if_ne (tgt := 27) hx hb dX8_back_22 (by decide) (fun hc_12 => ?_) (fun hc_12 => ?_)
      · have hM := it_p hc_12 hM
        refine lv_aload_n hx hb dX8_back_27 rfl (lv_at hl 0 rfl) ?_
        refine lv_iload_n hx hb dX8_back_28 rfl (lv_at hl 1 rfl) ?_
        refine lv_iload_n hx hb dX8_back_29 rfl (lv_at hl 2 rfl) ?_
        refine lv_aload_n hx hb dX8_back_30 rfl (lv_at hl 0 rfl) ?_
        refine va_get (D := (dC, dI)) (ci := 8) (v := .int (mO 0 15)) (C := RX8) (T := TX8) (N := 45) hx hb hts iwX8_back_X8 hown hK hP 0 rfl rfl 15 (by decide) (hts _ (List.mem_of_getElem? (i := 1) rfl)) (fun _ h9 => h9) rfl dX8_back_31 ?_
        refine lv_aload_n hx hb dX8_back_34 rfl (lv_at hl 0 rfl) ?_
        refine va_get (D := (dC, dI)) (ci := 8) (v := .int (mO 0 16)) (C := RX8) (T := TX8) (N := 45) hx hb hts iwX8_back_X8 hown hK hP 0 rfl rfl 16 (by decide) (hts _ (List.mem_of_getElem? (i := 2) rfl)) (fun _ h9 => h9) rfl dX8_back_35 ?_
        obtain ⟨x_13, hr_14, hM⟩ := bn_some hM
        refine gv_i (r0 := x_13) (wn := (wO ct aO mO mO64)) (va_runV (As := [.int v1, .int v2, .int (mO 0 15), .int (mO 0 16)]) (rest := []) ⟨hx, hb, hml, hown, hts⟩ (kX8_backOf l dC dI ct aO _ mO mO64 v1 v2 (mO 0 15) (mO 0 16) _ hr_14) (cwV 4 hts gX8_back_X8_backOf rfl rfl rfl hvX8_backOf ⟨Nat.le_of_ble_eq_true rfl, Nat.le_of_ble_eq_true rfl⟩) (preV_of E0_ok hK hP hD (is := [0, 1, 2, 3, 4, 5, 6, 7, 8, 9, 10, 11, 12, 13, 14, 15, 16, 17, 18, 19, 20, 21, 22, 23, 24, 25]) rfl rfl rfl (ci := 8) rfl 0 rfl e_0) rfl rfl hl.1 rfl (lv_room (Nat.le_of_ble_eq_true rfl)) dX8_back_38 ⟨Nat.le_of_ble_eq_true rfl, Nat.le_of_ble_eq_true rfl⟩) hP hD hS hA [0, 1, 2, 3, 4, 5, 6, 7, 8, 9, 10, 11, 12, 13, 14, 15, 16, 17, 18, 19, 20, 21, 22, 23, 24, 25] [] [0, 1, 2, 3, 4, 5, 6, 7, 8, 9, 10, 11, 12, 13, 14, 15, 16, 17, 18, 19, 20, 21, 22, 23, 24, 25] rfl rfl rfl (by decide) rfl rfl (fun H locs hP hD hS => ?_)
        refine lv_istore (lv' := [(4, .int x_13), (0, .ref (aO 0)), (1, .int v1), (2, .int v2), (3, .int v3)]) hx hb dX8_back_41 hl (by decide) rfl (fun ls hl => ?_)
        refine lv_iload_n hx hb dX8_back_43 rfl (lv_at hl 4 rfl) ?_
        refine lv_if_ne (tgt := 52) hx hb dX8_back_44 (by decide) (fun hc_16 => ?_) (fun hc_16 => ?_)
        · have hM := it_p hc_16 hM
          refine lv_iload_n hx hb dX8_back_52 rfl (lv_at hl 4 rfl) ?_
          refine lv_iconst (v := 1) hx hb dX8_back_53 (by decide) ?_
          refine lv_icmp_ne (tgt := 67) hx hb dX8_back_54 (by decide) (fun hc_17 => ?_) (fun hc_17 => ?_)
          · have hM := it_p hc_17 hM
            refine lv_aload_n hx hb dX8_back_67 rfl (lv_at hl 1 rfl) ?_
            refine lv_iload_n hx hb dX8_back_68 rfl (lv_at hl 2 rfl) ?_
            obtain ⟨x_18, hr_19, hM⟩ := bn_some hM
            refine gv_i (r0 := x_18) (wn := (wO ct aO mO mO64)) (va_runV (As := [.int v1]) (rest := []) ⟨hx, hb, hml, hown, hts⟩ (kX8_mostPrice l dC dI ct aO _ mO mO64 v1 _ hr_19) (cwV 1 hts gX8_back_X8_mostPrice rfl rfl rfl hvX8_mostPrice ⟨Nat.le_of_ble_eq_true rfl, Nat.le_of_ble_eq_true rfl⟩) (preV_of E0_ok hK hP hD (is := [0, 1, 2, 3, 4, 5, 6, 7, 8, 9, 10, 11, 12, 13, 14, 15, 16, 17, 18, 19, 20, 21, 22, 23, 24, 25]) rfl rfl rfl (ci := 8) rfl 0 rfl e_0) rfl rfl hl.1 rfl (lv_room (Nat.le_of_ble_eq_true rfl)) dX8_back_69 ⟨Nat.le_of_ble_eq_true rfl, Nat.le_of_ble_eq_true rfl⟩) hP hD hS hA [0, 1, 2, 3, 4, 5, 6, 7, 8, 9, 10, 11, 12, 13, 14, 15, 16, 17, 18, 19, 20, 21, 22, 23, 24, 25] [] [0, 1, 2, 3, 4, 5, 6, 7, 8, 9, 10, 11, 12, 13, 14, 15, 16, 17, 18, 19, 20, 21, 22, 23, 24, 25] rfl rfl rfl (by decide) rfl rfl (fun H locs hP hD hS => ?_)
            have hR := som hM
            rw [hR] at hQ
            exact ret_i hQ hx hb hr hlocks hP hK hD hS dX8_back_72
          · have hM := it_nn hc_17 hM
            refine lv_aload_n hx hb dX8_back_57 rfl (lv_at hl 1 rfl) ?_
            refine lv_iload_n hx hb dX8_back_58 rfl (lv_at hl 2 rfl) ?_
            refine lv_iload hx hb dX8_back_59 (lv_at hl 0 rfl) ?_
            obtain ⟨x_21, hr_22, hM⟩ := bn_some hM
            refine gv_i (r0 := x_21) (wn := (wO ct aO mO mO64)) (va_runV (As := [.int v1, .int x_13]) (rest := []) ⟨hx, hb, hml, hown, hts⟩ (kX8_leastOf l dC dI ct aO _ mO mO64 v1 x_13 _ hr_22) (cwV 2 hts gX8_back_X8_leastOf rfl rfl rfl hvX8_leastOf ⟨Nat.le_of_ble_eq_true rfl, Nat.le_of_ble_eq_true rfl⟩) (preV_of E0_ok hK hP hD (is := [0, 1, 2, 3, 4, 5, 6, 7, 8, 9, 10, 11, 12, 13, 14, 15, 16, 17, 18, 19, 20, 21, 22, 23, 24, 25]) rfl rfl rfl (ci := 8) rfl 0 rfl e_0) rfl rfl hl.1 rfl (lv_room (Nat.le_of_ble_eq_true rfl)) dX8_back_61 ⟨Nat.le_of_ble_eq_true rfl, Nat.le_of_ble_eq_true rfl⟩) hP hD hS hA [0, 1, 2, 3, 4, 5, 6, 7, 8, 9, 10, 11, 12, 13, 14, 15, 16, 17, 18, 19, 20, 21, 22, 23, 24, 25] [] [0, 1, 2, 3, 4, 5, 6, 7, 8, 9, 10, 11, 12, 13, 14, 15, 16, 17, 18, 19, 20, 21, 22, 23, 24, 25] rfl rfl rfl (by decide) rfl rfl (fun H locs hP hD hS => ?_)
            refine lv_goto (tgt := 72) hx hb dX8_back_64 (by decide) ?_
            have hR := som hM
            rw [hR] at hQ
            exact ret_i hQ hx hb hr hlocks hP hK hD hS dX8_back_72
        · have hM := it_nn hc_16 hM
          refine lv_iload hx hb dX8_back_47 (lv_at hl 0 rfl) ?_
          refine lv_goto (tgt := 72) hx hb dX8_back_49 (by decide) ?_
          have hR := som hM
          rw [hR] at hQ
          exact ret_i hQ hx hb hr hlocks hP hK hD hS dX8_back_72
      · have hM := it_nn hc_12 hM
        refine lv_iconst (v := -1) hx hb dX8_back_25 (by decide) ?_
        have hR := som hM
        rw [hR] at hQ
        exact ret_i hQ hx hb hr hlocks hP hK hD hS dX8_back_26
abbrev rmX8_lends : Room := { frames := 2, cells := 0, slots := 0, locals := 48 }
theorem iwX8_lends_X8 : ∀ w ∈ wsX80, w ∈ wsX8_lends := fun _ h => List.mem_cons_of_mem _ (List.mem_append_right _ (h))
set_option maxHeartbeats 4000000 in
set_option maxRecDepth 100000 in
theorem kX8_lends (l : Launch) (dC : Nat → ClassId) (dI : Nat → Nat → Nat) (ct : Nat → ClassId) (aO : Nat → Nat) (sz : Nat) (mO : Mem) (mO64 : Lem) (v1 : Int32) (v2 : Int32) (v3 : Int32) (res : Mem) (hM : mX8_lends mO mO64 v1 v2 v3 = some res) : Met l yX8_lends wsX8_lends rmX8_lends (va_Pc [.ref (aO 0), .int v1, .int v2, .int v3] (PB (dC, dI) ct E0 sz (wO ct aO mO mO64))) (Qv (dC, dI) ct (va_A (wO ct aO mO mO64) sz) (wO ct aO res mO64)) 0 0 (va_A (wO ct aO mO mO64) sz) := by
  refine Met.ofW (cc := cX8_lends) (maxL := 8) (ret := none) (by decide) rfl ?_
  intro p e s m args below meth c s₁ B hml hv
  obtain ⟨hargs, hsz, hP, hK, hD0, hE⟩ := hv
  have hx := B.exec
  have hb := B.bytes
  have hr := B.returns
  have hts := atoms_spec (ws := wsX8_lends) B.pre
  have hown : s.vm.findClass RX8 = some m.cls := findClass_of_methodNamed B.named
  have hlocks := B.notSynchronized
  clear B s₁
  subst hsz
  have hD := hD0.self (sz := s.heap.size)
  clear hD0
  generalize hAe : va_A (wO ct aO mO mO64) s.heap.size = A at hD hE ⊢
  have hA : ∀ q : Nat, s.heap.size ≤ q → A q := fun q h => by rw [← hAe]; exact Or.inr h
  clear hAe
  have hS : va_S A s.heap s.heap [] := va_S.rf
  refine cutQ (fun Q hQ => ?_)
  refine entryW (vs := [.ref (aO 0), .int v1, .int v2, .int v3]) hargs (Nat.le_of_ble_eq_true rfl) (fun ls hl => ?_)
  replace hl : lv_has ls 8 [(0, .ref (aO 0)), (1, .int v1), (2, .int v2), (3, .int v3)] := hl
  unfold mX8_lends at hM
  have N105 : ∀ (v4 : Int32) (v5 : Int32) (mO : Mem), mX8_lends_L105 v4 v5 mO mO64 = some res → ∀ (H : Heap) (locs : List Loc), va_P (dC, dI) vwCl (wO ct aO mO mO64) H → va_D A (wO ct aO mO mO64) → va_S A s.heap H locs → ∀ ls : Array Slot, lv_has ls 8 [(0, .ref (aO 0)), (4, .int v4), (5, .int v5)] → W p l e (headSpec wsX8_lends rmX8_lends).room s m args below meth c H locs 0 0 Q (F0 m 105 ls []) := by
    intro v4 v5 mO hM H locs hP hD hS ls hl
    unfold mX8_lends_L105 at hM
    obtain ⟨ex105, hit105, hM⟩ := bn_some hM
    have X105_0 : ∀ (mO : Mem), ex105 = (Sum.inl mO) → ∀ (H : Heap) (locs : List Loc), va_P (dC, dI) vwCl (wO ct aO mO mO64) H → va_D A (wO ct aO mO mO64) → va_S A s.heap H locs → ∀ ls : Array Slot, lv_has ls 8 [] → W p l e (headSpec wsX8_lends rmX8_lends).room s m args below meth c H locs 0 0 Q (F0 m 178 ls []) := by
      intro mO hex H locs hP hD hS ls hl
      have hM := el_l hex hM
      have hR := som hM
      rw [hR] at hQ
      exact ret_v hQ hx hb hr hlocks hP hK hD hS dX8_lends_178
    have X105_1 : ∀ (mO : Mem), ex105 = (Sum.inr mO) → ∀ (H : Heap) (locs : List Loc), va_P (dC, dI) vwCl (wO ct aO mO mO64) H → va_D A (wO ct aO mO mO64) → va_S A s.heap H locs → ∀ ls : Array Slot, lv_has ls 8 [] → W p l e (headSpec wsX8_lends rmX8_lends).room s m args below meth c H locs 0 0 Q (F0 m 232 ls []) := by
      intro mO hex H locs hP hD hS ls hl
      have hM := el_r hex hM
      have hR := som hM
      rw [hR] at hQ
      exact ret_v hQ hx hb hr hlocks hP hK hD hS dX8_lends_232
    have I105 : ∀ (n : Nat) (v4 : Int32) (v5 : Int32) (mO : Mem), itr (fun q => mX8_lends_s105 mO64 q.1 q.2.1 q.2.2) n (v4, v5, mO) = some ex105 → ∀ (H : Heap) (locs : List Loc), va_P (dC, dI) vwCl (wO ct aO mO mO64) H → va_D A (wO ct aO mO mO64) → va_S A s.heap H locs → ∀ ls : Array Slot, lv_has ls 8 [(0, .ref (aO 0)), (4, .int v4), (5, .int v5)] → W p l e (headSpec wsX8_lends rmX8_lends).room s m args below meth c H locs 0 0 Q (F0 m 105 ls []) := by
      intro n
      induction n with
      | zero => intro v4 v5 mO hit; exact (itr_zero hit).elim
      | succ n ih105 =>
        intro v4 v5 mO hit H locs hP hD hS ls hl
        obtain ⟨o105, hM, hbk105, hex105⟩ := itr_succ hit
        replace hM : mX8_lends_s105 mO64 v4 v5 mO = some o105 := hM
        have N120 : ∀ (v4 : Int32) (v5 : Int32) (v6 : Int32) (v7 : Int32) (mO : Mem), mX8_lends_L120 v4 v5 v6 v7 mO mO64 = some o105 → ∀ (H : Heap) (locs : List Loc), va_P (dC, dI) vwCl (wO ct aO mO mO64) H → va_D A (wO ct aO mO mO64) → va_S A s.heap H locs → ∀ ls : Array Slot, lv_has ls 8 [(0, .ref (aO 0)), (4, .int v4), (5, .int v5), (6, .int v6), (7, .int v7)] → W p l e (headSpec wsX8_lends rmX8_lends).room s m args below meth c H locs 0 0 Q (F0 m 120 ls []) := by
          intro v4 v5 v6 v7 mO hM H locs hP hD hS ls hl
          unfold mX8_lends_L120 at hM
          obtain ⟨ex120, hit120, hM⟩ := bn_some hM
          have X120_0 : ∀ (v6 : Int32), ex120 = v6 → ∀ (H : Heap) (locs : List Loc), va_P (dC, dI) vwCl (wO ct aO mO mO64) H → va_D A (wO ct aO mO mO64) → va_S A s.heap H locs → ∀ ls : Array Slot, lv_has ls 8 [(0, .ref (aO 0)), (4, .int v4), (5, .int v5), (6, .int v6)] → W p l e (headSpec wsX8_lends rmX8_lends).room s m args below meth c H locs 0 0 Q (F0 m 172 ls []) := by
            intro v6 hex H locs hP hD hS ls hl
            rw [hex] at hM
            have hM := nm_at (y := v6) rfl hM
            refine lv_iload hx hb dX8_lends_172 (lv_at hl 3 rfl) ?_
            refine lv_iconst (v := -1) hx hb dX8_lends_174 (by decide) ?_
            refine lv_icmp_ne (tgt := 179) hx hb dX8_lends_175 (by decide) (fun hc_1 => ?_) (fun hc_1 => ?_)
            · have hM := it_p hc_1 hM
              refine lv_aload_n hx hb dX8_lends_179 rfl (lv_at hl 0 rfl) ?_
              refine va_get (D := (dC, dI)) (ci := 8) (v := .ref (aO 18)) (C := RX8) (T := TX8) (N := 45) hx hb hts iwX8_lends_X8 hown hK hP 0 rfl rfl 37 (by decide) (hts _ (List.mem_of_getElem? (i := 2) rfl)) (fun _ h9 => h9) rfl dX8_lends_180 ?_
              refine lv_iload hx hb dX8_lends_183 (lv_at hl 3 rfl) ?_
              refine lv_iload hx hb dX8_lends_185 (lv_at hl 1 rfl) ?_
              refine lv_aload_n hx hb dX8_lends_187 rfl (lv_at hl 0 rfl) ?_
              refine lv_iload hx hb dX8_lends_188 (lv_at hl 3 rfl) ?_
              refine lv_iconst (v := 0) hx hb dX8_lends_190 (by decide) ?_
              obtain ⟨x_2, hr_3, hM⟩ := bn_some hM
              refine gv_i (r0 := x_2) (wn := (wO ct aO mO mO64)) (va_runV (As := [.int v6, .int (0 : Int32)]) (rest := [.int v4, .int v6, .ref (aO 18)]) ⟨hx, hb, hml, hown, hts⟩ (kX8_of l dC dI ct aO _ mO mO64 v6 (0 : Int32) _ hr_3) (cwV 2 hts gX8_lends_X8_of rfl rfl rfl hvX8_of ⟨Nat.le_of_ble_eq_true rfl, Nat.le_of_ble_eq_true rfl⟩) (preV_of E0_ok hK hP hD (is := [0, 1, 2, 3, 4, 5, 6, 7, 8, 9, 10, 11, 12, 13, 14, 15, 16, 17, 18, 19, 20, 21, 22, 23, 24, 25]) rfl rfl rfl (ci := 8) rfl 0 rfl e_0) rfl rfl hl.1 rfl (lv_room (Nat.le_of_ble_eq_true rfl)) dX8_lends_191 ⟨Nat.le_of_ble_eq_true rfl, Nat.le_of_ble_eq_true rfl⟩) hP hD hS hA [0, 1, 2, 3, 4, 5, 6, 7, 8, 9, 10, 11, 12, 13, 14, 15, 16, 17, 18, 19, 20, 21, 22, 23, 24, 25] [] [0, 1, 2, 3, 4, 5, 6, 7, 8, 9, 10, 11, 12, 13, 14, 15, 16, 17, 18, 19, 20, 21, 22, 23, 24, 25] rfl rfl rfl (by decide) rfl rfl (fun H locs hP hD hS => ?_)
              refine lv_aload_n hx hb dX8_lends_194 rfl (lv_at hl 0 rfl) ?_
              refine lv_iload hx hb dX8_lends_195 (lv_at hl 3 rfl) ?_
              refine lv_iconst (v := 2) hx hb dX8_lends_197 (by decide) ?_
              obtain ⟨x_5, hr_6, hM⟩ := bn_some hM
              refine gv_i (r0 := x_5) (wn := (wO ct aO mO mO64)) (va_runV (As := [.int v6, .int (2 : Int32)]) (rest := [.int x_2, .int v4, .int v6, .ref (aO 18)]) ⟨hx, hb, hml, hown, hts⟩ (kX8_of l dC dI ct aO _ mO mO64 v6 (2 : Int32) _ hr_6) (cwV 2 hts gX8_lends_X8_of rfl rfl rfl hvX8_of ⟨Nat.le_of_ble_eq_true rfl, Nat.le_of_ble_eq_true rfl⟩) (preV_of E0_ok hK hP hD (is := [0, 1, 2, 3, 4, 5, 6, 7, 8, 9, 10, 11, 12, 13, 14, 15, 16, 17, 18, 19, 20, 21, 22, 23, 24, 25]) rfl rfl rfl (ci := 8) rfl 0 rfl e_0) rfl rfl hl.1 rfl (lv_room (Nat.le_of_ble_eq_true rfl)) dX8_lends_198 ⟨Nat.le_of_ble_eq_true rfl, Nat.le_of_ble_eq_true rfl⟩) hP hD hS hA [0, 1, 2, 3, 4, 5, 6, 7, 8, 9, 10, 11, 12, 13, 14, 15, 16, 17, 18, 19, 20, 21, 22, 23, 24, 25] [] [0, 1, 2, 3, 4, 5, 6, 7, 8, 9, 10, 11, 12, 13, 14, 15, 16, 17, 18, 19, 20, 21, 22, 23, 24, 25] rfl rfl rfl (by decide) rfl rfl (fun H locs hP hD hS => ?_)
              refine lv_imul hx hb dX8_lends_201 ?_
              refine va_mmin hx hb (hml.trans hl.1.symm) hown (hts _ (List.mem_of_getElem? (i := 4) rfl)) (hts _ (List.mem_of_getElem? (i := 5) rfl)) (hts _ (List.mem_of_getElem? (i := 6) rfl)) (hts _ (List.mem_of_getElem? (i := 7) rfl)) (Nat.le_of_ble_eq_true rfl) (Nat.le_of_ble_eq_true rfl) (Nat.le_of_ble_eq_true rfl) (Nat.le_of_ble_eq_true rfl) dX8_lends_202 ?_
              refine lv_topi (fun x_8 ex_8 => ?_)
              have hM := nm_at ex_8 hM
              obtain ⟨hi, hM⟩ := gi_some hM
              refine st_i (wf := fun z => (wO ct aO z mO64)) (m1 := upi mO 18 v6.toNatClampNeg x_8) hx hb hK hP hD hS 18 rfl hi dX8_lends_205 rfl (fun mO_9 emO_9 H locs hP hD hS => ?_)
              have hM := nm_at emO_9 hM
              refine lv_iload hx hb dX8_lends_206 (lv_at hl 1 rfl) ?_
              refine lv_aload_n hx hb dX8_lends_208 rfl (lv_at hl 0 rfl) ?_
              refine va_get (D := (dC, dI)) (ci := 8) (v := .ref (aO 18)) (C := RX8) (T := TX8) (N := 45) hx hb hts iwX8_lends_X8 hown hK hP 0 rfl rfl 37 (by decide) (hts _ (List.mem_of_getElem? (i := 2) rfl)) (fun _ h9 => h9) rfl dX8_lends_209 ?_
              refine lv_iload hx hb dX8_lends_212 (lv_at hl 3 rfl) ?_
              obtain ⟨hi, hM⟩ := gi_some hM
              refine va_iald hx hb hK hP 18 0 rfl rfl hi dX8_lends_214 ?_
              refine lv_isub hx hb dX8_lends_215 ?_
              refine lv_topi (fun x_10 ex_10 => ?_)
              have hM := nm_at ex_10 hM
              refine lv_istore (lv' := [(4, .int x_10), (0, .ref (aO 0)), (5, .int v5), (6, .int v6)]) hx hb dX8_lends_216 hl (by decide) rfl (fun ls hl => ?_)
              refine lv_aload_n hx hb dX8_lends_218 rfl (lv_at hl 1 rfl) ?_
              refine va_get (D := (dC, dI)) (ci := 8) (v := .ref (aO 19)) (C := RX8) (T := TX8) (N := 45) hx hb hts iwX8_lends_X8 hown hK hP 0 rfl rfl 38 (by decide) (hts _ (List.mem_of_getElem? (i := 3) rfl)) (fun _ h9 => h9) rfl dX8_lends_219 ?_
              refine lv_iload hx hb dX8_lends_222 (lv_at hl 3 rfl) ?_
              refine lv_iconst (v := -1) hx hb dX8_lends_224 (by decide) ?_
              obtain ⟨hi, hM⟩ := gi_some hM
              refine st_i (wf := fun z => (wO ct aO z mO64)) (m1 := upi mO_9 19 v6.toNatClampNeg (-1 : Int32)) hx hb hK hP hD hS 19 rfl hi dX8_lends_225 rfl (fun mO_11 emO_11 H locs hP hD hS => ?_)
              have hM := nm_at emO_11 hM
              obtain ⟨x_12, ex_12⟩ : ∃ y : Int32, y = (v5 + (1 : Int32)) := ⟨_, rfl⟩
              have hM := nm_at ex_12 hM
              refine lv_iinc (v := x_12) (lv' := [(5, .int x_12), (4, .int x_10), (0, .ref (aO 0)), (6, .int v6)]) hx hb dX8_lends_226 hl (k := 2) rfl (by rw [ex_12]; rfl) (by decide) rfl (fun ls hl => ?_)
              refine lv_goto (tgt := 105) hx hb dX8_lends_229 (by decide) ?_
              have hR := som hM
              exact ih105 x_10 x_12 mO_11 (hbk105 _ hR) _ _ hP hD hS _ (lv_sub hl [2, 1, 0] rfl)
            · have hM := it_nn hc_1 hM
              have hR := som hM
              exact X105_0 mO (hex105 _ hR).symm _ _ hP hD hS _ (lv_sub hl [] rfl)
          have I120 : ∀ (n : Nat) (v6 : Int32) (v7 : Int32), itr (fun q => mX8_lends_s120 v4 v5 mO mO64 q.1 q.2) n (v6, v7) = some ex120 → ∀ (H : Heap) (locs : List Loc), va_P (dC, dI) vwCl (wO ct aO mO mO64) H → va_D A (wO ct aO mO mO64) → va_S A s.heap H locs → ∀ ls : Array Slot, lv_has ls 8 [(0, .ref (aO 0)), (4, .int v4), (5, .int v5), (6, .int v6), (7, .int v7)] → W p l e (headSpec wsX8_lends rmX8_lends).room s m args below meth c H locs 0 0 Q (F0 m 120 ls []) := by
            intro n
            induction n with
            | zero => intro v6 v7 hit; exact (itr_zero hit).elim
            | succ n ih120 =>
              intro v6 v7 hit H locs hP hD hS ls hl
              obtain ⟨o120, hM, hbk120, hex120⟩ := itr_succ hit
              replace hM : mX8_lends_s120 v4 v5 mO mO64 v6 v7 = some o120 := hM
              have N162 : ∀ (v7 : Int32), mX8_lends_j162 v4 v5 v7 mO mO64 = some o120 → ∀ (H : Heap) (locs : List Loc), va_P (dC, dI) vwCl (wO ct aO mO mO64) H → va_D A (wO ct aO mO mO64) → va_S A s.heap H locs → ∀ ls : Array Slot, lv_has ls 8 [(0, .ref (aO 0)), (4, .int v4), (5, .int v5), (7, .int v7)] → W p l e (headSpec wsX8_lends rmX8_lends).room s m args below meth c H locs 0 0 Q (F0 m 162 ls []) := by
                intro v7 hM H locs hP hD hS ls hl
                unfold mX8_lends_j162 at hM
                refine lv_iload hx hb dX8_lends_162 (lv_at hl 3 rfl) ?_
                refine lv_istore (lv' := [(6, .int v7), (0, .ref (aO 0)), (4, .int v4), (5, .int v5), (7, .int v7)]) hx hb dX8_lends_164 hl (by decide) rfl (fun ls hl => ?_)
                obtain ⟨x_13, ex_13⟩ : ∃ y : Int32, y = (v7 + (1 : Int32)) := ⟨_, rfl⟩
                have hM := nm_at ex_13 hM
                refine lv_iinc (v := x_13) (lv' := [(7, .int x_13), (6, .int v7), (0, .ref (aO 0)), (4, .int v4), (5, .int v5)]) hx hb dX8_lends_166 hl (k := 4) rfl (by rw [ex_13]; rfl) (by decide) rfl (fun ls hl => ?_)
                refine lv_goto (tgt := 120) hx hb dX8_lends_169 (by decide) ?_
                have hR := som hM
                exact ih120 v7 x_13 (hbk120 _ hR) _ _ hP hD hS _ (lv_sub hl [2, 3, 4, 1, 0] rfl)
              unfold mX8_lends_s120 at hM
              refine lv_iload hx hb dX8_lends_120 (lv_at hl 4 rfl) ?_
              refine lv_aload_n hx hb dX8_lends_122 rfl (lv_at hl 0 rfl) ?_
              refine va_get (D := (dC, dI)) (ci := 8) (v := .int (mO 0 18)) (C := RX8) (T := TX8) (N := 45) hx hb hts iwX8_lends_X8 hown hK hP 0 rfl rfl 18 (by decide) (hts _ (List.mem_of_getElem? (i := 1) rfl)) (fun _ h9 => h9) rfl dX8_lends_123 ?_
              refine lv_icmp_ge (tgt := 172) hx hb dX8_lends_126 (by decide) (fun hc_14 => ?_) (fun hc_14 => ?_)
              · have hM := it_p hc_14 hM
                have hR := som hM
                exact X120_0 v6 (hex120 _ hR).symm _ _ hP hD hS _ (lv_sub hl [0, 1, 2, 3] rfl)
              · have hM := it_n hc_14 hM
                refine lv_aload_n hx hb dX8_lends_129 rfl (lv_at hl 0 rfl) ?_
                refine va_get (D := (dC, dI)) (ci := 8) (v := .ref (aO 19)) (C := RX8) (T := TX8) (N := 45) hx hb hts iwX8_lends_X8 hown hK hP 0 rfl rfl 38 (by decide) (hts _ (List.mem_of_getElem? (i := 3) rfl)) (fun _ h9 => h9) rfl dX8_lends_130 ?_
                refine lv_iload hx hb dX8_lends_133 (lv_at hl 4 rfl) ?_
                obtain ⟨hi, hM⟩ := gi_some hM
                refine va_iald hx hb hK hP 19 0 rfl rfl hi dX8_lends_135 ?_
                refine lv_if_lt (tgt := 166) hx hb dX8_lends_136 (by decide) (fun hc_15 => ?_) (fun hc_15 => ?_)
                · have hM := it_p hc_15 hM
                  obtain ⟨x_16, ex_16⟩ : ∃ y : Int32, y = (v7 + (1 : Int32)) := ⟨_, rfl⟩
                  have hM := nm_at ex_16 hM
                  refine lv_iinc (v := x_16) (lv' := [(7, .int x_16), (0, .ref (aO 0)), (4, .int v4), (5, .int v5), (6, .int v6)]) hx hb dX8_lends_166 hl (k := 4) rfl (by rw [ex_16]; rfl) (by decide) rfl (fun ls hl => ?_)
                  refine lv_goto (tgt := 120) hx hb dX8_lends_169 (by decide) ?_
                  have hR := som hM
                  exact ih120 v6 x_16 (hbk120 _ hR) _ _ hP hD hS _ (lv_sub hl [1, 2, 3, 4, 0] rfl)
                · have hM := it_n hc_15 hM
                  refine lv_iload hx hb dX8_lends_139 (lv_at hl 3 rfl) ?_
                  refine lv_iconst (v := -1) hx hb dX8_lends_141 (by decide) ?_
                  refine lv_icmp_eq (tgt := 162) hx hb dX8_lends_142 (by decide) (fun hc_17 => ?_) (fun hc_17 => ?_)
                  · have hM := it_p hc_17 hM
                    exact N162 v7 hM _ _ hP hD hS _ (lv_sub hl [0, 1, 2, 4] rfl)
                  · have hM := it_n hc_17 hM
                    refine lv_aload_n hx hb dX8_lends_145 rfl (lv_at hl 0 rfl) ?_
                    refine va_get (D := (dC, dI)) (ci := 8) (v := .ref (aO 19)) (C := RX8) (T := TX8) (N := 45) hx hb hts iwX8_lends_X8 hown hK hP 0 rfl rfl 38 (by decide) (hts _ (List.mem_of_getElem? (i := 3) rfl)) (fun _ h9 => h9) rfl dX8_lends_146 ?_
                    refine lv_iload hx hb dX8_lends_149 (lv_at hl 4 rfl) ?_
                    obtain ⟨hi, hM⟩ := gi_some hM
                    refine va_iald hx hb hK hP 19 0 rfl rfl hi dX8_lends_151 ?_
                    refine lv_aload_n hx hb dX8_lends_152 rfl (lv_at hl 0 rfl) ?_
                    refine va_get (D := (dC, dI)) (ci := 8) (v := .ref (aO 19)) (C := RX8) (T := TX8) (N := 45) hx hb hts iwX8_lends_X8 hown hK hP 0 rfl rfl 38 (by decide) (hts _ (List.mem_of_getElem? (i := 3) rfl)) (fun _ h9 => h9) rfl dX8_lends_153 ?_
                    refine lv_iload hx hb dX8_lends_156 (lv_at hl 3 rfl) ?_
                    obtain ⟨hi, hM⟩ := gi_some hM
                    refine va_iald hx hb hK hP 19 0 rfl rfl hi dX8_lends_158 ?_
                    refine lv_icmp_le (tgt := 166) hx hb dX8_lends_159 (by decide) (fun hc_18 => ?_) (fun hc_18 => ?_)
                    · have hM := it_p hc_18 hM
                      obtain ⟨x_19, ex_19⟩ : ∃ y : Int32, y = (v7 + (1 : Int32)) := ⟨_, rfl⟩
                      have hM := nm_at ex_19 hM
                      refine lv_iinc (v := x_19) (lv' := [(7, .int x_19), (0, .ref (aO 0)), (4, .int v4), (5, .int v5), (6, .int v6)]) hx hb dX8_lends_166 hl (k := 4) rfl (by rw [ex_19]; rfl) (by decide) rfl (fun ls hl => ?_)
                      refine lv_goto (tgt := 120) hx hb dX8_lends_169 (by decide) ?_
                      have hR := som hM
                      exact ih120 v6 x_19 (hbk120 _ hR) _ _ hP hD hS _ (lv_sub hl [1, 2, 3, 4, 0] rfl)
                    · have hM := it_n hc_18 hM
                      exact N162 v7 hM _ _ hP hD hS _ (lv_sub hl [0, 1, 2, 4] rfl)
          exact I120 FU v6 v7 hit120 _ _ hP hD hS _ hl
        unfold mX8_lends_s105 at hM
        refine lv_iload hx hb dX8_lends_105 (lv_at hl 2 rfl) ?_
        refine lv_aload_n hx hb dX8_lends_107 rfl (lv_at hl 0 rfl) ?_
        refine va_get (D := (dC, dI)) (ci := 8) (v := .int (mO 0 18)) (C := RX8) (T := TX8) (N := 45) hx hb hts iwX8_lends_X8 hown hK hP 0 rfl rfl 18 (by decide) (hts _ (List.mem_of_getElem? (i := 1) rfl)) (fun _ h9 => h9) rfl dX8_lends_108 ?_
        refine lv_icmp_ge (tgt := 232) hx hb dX8_lends_111 (by decide) (fun hc_20 => ?_) (fun hc_20 => ?_)
        · have hM := it_p hc_20 hM
          have hR := som hM
          exact X105_1 mO (hex105 _ hR).symm _ _ hP hD hS _ (lv_sub hl [] rfl)
        · have hM := it_n hc_20 hM
          refine lv_iconst (v := -1) hx hb dX8_lends_114 (by decide) ?_
          refine lv_istore (lv' := [(6, .int (-1 : Int32)), (0, .ref (aO 0)), (4, .int v4), (5, .int v5)]) hx hb dX8_lends_115 hl (by decide) rfl (fun ls hl => ?_)
          refine lv_iconst (v := 0) hx hb dX8_lends_117 (by decide) ?_
          refine lv_istore (lv' := [(7, .int (0 : Int32)), (6, .int (-1 : Int32)), (0, .ref (aO 0)), (4, .int v4), (5, .int v5)]) hx hb dX8_lends_118 hl (by decide) rfl (fun ls hl => ?_)
          exact N120 v4 v5 (-1 : Int32) (0 : Int32) mO hM _ _ hP hD hS _ (lv_sub hl [2, 3, 4, 1, 0] rfl)
    exact I105 FU v4 v5 mO hit105 _ _ hP hD hS _ hl
  have N6 : ∀ (v1 : Int32) (v2 : Int32) (v3 : Int32) (v4 : Int32) (v5 : Int32) (mO : Mem), mX8_lends_L6 v1 v2 v3 v4 v5 mO mO64 = some res → ∀ (H : Heap) (locs : List Loc), va_P (dC, dI) vwCl (wO ct aO mO mO64) H → va_D A (wO ct aO mO mO64) → va_S A s.heap H locs → ∀ ls : Array Slot, lv_has ls 8 [(0, .ref (aO 0)), (1, .int v1), (2, .int v2), (3, .int v3), (4, .int v4), (5, .int v5)] → W p l e (headSpec wsX8_lends rmX8_lends).room s m args below meth c H locs 0 0 Q (F0 m 6 ls []) := by
    intro v1 v2 v3 v4 v5 mO hM H locs hP hD hS ls hl
    unfold mX8_lends_L6 at hM
    obtain ⟨ex6, hit6, hM⟩ := bn_some hM
    have X6_0 : ∀ (v4 : Int32) (mO : Mem), ex6 = (v4, mO) → ∀ (H : Heap) (locs : List Loc), va_P (dC, dI) vwCl (wO ct aO mO mO64) H → va_D A (wO ct aO mO mO64) → va_S A s.heap H locs → ∀ ls : Array Slot, lv_has ls 8 [(0, .ref (aO 0)), (4, .int v4)] → W p l e (headSpec wsX8_lends rmX8_lends).room s m args below meth c H locs 0 0 Q (F0 m 102 ls []) := by
      intro v4 mO hex H locs hP hD hS ls hl
      rw [hex] at hM
      have hM := nm_at (y := v4) rfl hM
      have hM := nm_at (y := mO) rfl hM
      refine lv_iconst (v := 0) hx hb dX8_lends_102 (by decide) ?_
      refine lv_istore (lv' := [(5, .int (0 : Int32)), (0, .ref (aO 0)), (4, .int v4)]) hx hb dX8_lends_103 hl (by decide) rfl (fun ls hl => ?_)
      exact N105 v4 (0 : Int32) mO hM _ _ hP hD hS _ (lv_sub hl [1, 2, 0] rfl)
    have I6 : ∀ (n : Nat) (v4 : Int32) (v5 : Int32) (mO : Mem), itr (fun q => mX8_lends_s6 v1 v2 v3 mO64 q.1 q.2.1 q.2.2) n (v4, v5, mO) = some ex6 → ∀ (H : Heap) (locs : List Loc), va_P (dC, dI) vwCl (wO ct aO mO mO64) H → va_D A (wO ct aO mO mO64) → va_S A s.heap H locs → ∀ ls : Array Slot, lv_has ls 8 [(0, .ref (aO 0)), (1, .int v1), (2, .int v2), (3, .int v3), (4, .int v4), (5, .int v5)] → W p l e (headSpec wsX8_lends rmX8_lends).room s m args below meth c H locs 0 0 Q (F0 m 6 ls []) := by
      intro n
      induction n with
      | zero => intro v4 v5 mO hit; exact (itr_zero hit).elim
      | succ n ih6 =>
        intro v4 v5 mO hit H locs hP hD hS ls hl
        obtain ⟨o6, hM, hbk6, hex6⟩ := itr_succ hit
        replace hM : mX8_lends_s6 v1 v2 v3 mO64 v4 v5 mO = some o6 := hM
        have N95 : ∀ (v4 : Int32) (v5 : Int32) (t1 : Int32) (t2 : Int32) (mO : Mem), mX8_lends_j95 v1 v2 v3 v4 v5 t1 t2 mO mO64 = some o6 → ∀ (H : Heap) (locs : List Loc), va_P (dC, dI) vwCl (wO ct aO mO mO64) H → va_D A (wO ct aO mO mO64) → va_S A s.heap H locs → ∀ ls : Array Slot, lv_has ls 8 [(0, .ref (aO 0)), (1, .int v1), (2, .int v2), (3, .int v3), (4, .int v4), (5, .int v5)] → W p l e (headSpec wsX8_lends rmX8_lends).room s m args below meth c H locs 0 0 Q (F0 m 95 ls [.int t2, .int t1, .ref (aO 19)]) := by
          intro v4 v5 t1 t2 mO hM H locs hP hD hS ls hl
          unfold mX8_lends_j95 at hM
          obtain ⟨hi, hM⟩ := gi_some hM
          refine st_i (wf := fun z => (wO ct aO z mO64)) (m1 := upi mO 19 t1.toNatClampNeg t2) hx hb hK hP hD hS 19 rfl hi dX8_lends_95 rfl (fun mO_21 emO_21 H locs hP hD hS => ?_)
          have hM := nm_at emO_21 hM
          obtain ⟨x_22, ex_22⟩ : ∃ y : Int32, y = (v5 + (1 : Int32)) := ⟨_, rfl⟩
          have hM := nm_at ex_22 hM
          refine lv_iinc (v := x_22) (lv' := [(5, .int x_22), (0, .ref (aO 0)), (1, .int v1), (2, .int v2), (3, .int v3), (4, .int v4)]) hx hb dX8_lends_96 hl (k := 5) rfl (by rw [ex_22]; rfl) (by decide) rfl (fun ls hl => ?_)
          refine lv_goto (tgt := 6) hx hb dX8_lends_99 (by decide) ?_
          have hR := som hM
          exact ih6 v4 x_22 mO_21 (hbk6 _ hR) _ _ hP hD hS _ (lv_sub hl [1, 2, 3, 4, 5, 0] rfl)
        have N82 : ∀ (v4 : Int32) (v5 : Int32) (t1 : Int32) (mO : Mem), mX8_lends_j82 v1 v2 v3 v4 v5 t1 mO mO64 = some o6 → ∀ (H : Heap) (locs : List Loc), va_P (dC, dI) vwCl (wO ct aO mO mO64) H → va_D A (wO ct aO mO mO64) → va_S A s.heap H locs → ∀ ls : Array Slot, lv_has ls 8 [(0, .ref (aO 0)), (1, .int v1), (2, .int v2), (3, .int v3), (4, .int v4), (5, .int v5)] → W p l e (headSpec wsX8_lends rmX8_lends).room s m args below meth c H locs 0 0 Q (F0 m 82 ls [.int t1, .ref (aO 19)]) := by
          intro v4 v5 t1 mO hM H locs hP hD hS ls hl
          unfold mX8_lends_j82 at hM
          refine lv_iconst (v := -1) hx hb dX8_lends_82 (by decide) ?_
          refine lv_goto (tgt := 95) hx hb dX8_lends_83 (by decide) ?_
          exact N95 v4 v5 t1 (-1 : Int32) mO hM _ _ hP hD hS _ (lv_sub hl [0, 1, 2, 3, 4, 5] rfl)
        unfold mX8_lends_s6 at hM
        refine lv_iload hx hb dX8_lends_6 (lv_at hl 5 rfl) ?_
        refine lv_aload_n hx hb dX8_lends_8 rfl (lv_at hl 0 rfl) ?_
        refine va_get (D := (dC, dI)) (ci := 8) (v := .int (mO 0 18)) (C := RX8) (T := TX8) (N := 45) hx hb hts iwX8_lends_X8 hown hK hP 0 rfl rfl 18 (by decide) (hts _ (List.mem_of_getElem? (i := 1) rfl)) (fun _ h9 => h9) rfl dX8_lends_9 ?_
        refine lv_icmp_ge (tgt := 102) hx hb dX8_lends_12 (by decide) (fun hc_23 => ?_) (fun hc_23 => ?_)
        · have hM := it_p hc_23 hM
          have hR := som hM
          exact X6_0 v4 mO (hex6 _ hR).symm _ _ hP hD hS _ (lv_sub hl [0, 4] rfl)
        · have hM := it_n hc_23 hM
          refine lv_iload hx hb dX8_lends_15 (lv_at hl 4 rfl) ?_
          refine lv_aload_n hx hb dX8_lends_17 rfl (lv_at hl 0 rfl) ?_
          refine lv_iload hx hb dX8_lends_18 (lv_at hl 5 rfl) ?_
          refine lv_iconst (v := 0) hx hb dX8_lends_20 (by decide) ?_
          obtain ⟨x_24, hr_25, hM⟩ := bn_some hM
          refine gv_i (r0 := x_24) (wn := (wO ct aO mO mO64)) (va_runV (As := [.int v5, .int (0 : Int32)]) (rest := [.int v4]) ⟨hx, hb, hml, hown, hts⟩ (kX8_of l dC dI ct aO _ mO mO64 v5 (0 : Int32) _ hr_25) (cwV 2 hts gX8_lends_X8_of rfl rfl rfl hvX8_of ⟨Nat.le_of_ble_eq_true rfl, Nat.le_of_ble_eq_true rfl⟩) (preV_of E0_ok hK hP hD (is := [0, 1, 2, 3, 4, 5, 6, 7, 8, 9, 10, 11, 12, 13, 14, 15, 16, 17, 18, 19, 20, 21, 22, 23, 24, 25]) rfl rfl rfl (ci := 8) rfl 0 rfl e_0) rfl rfl hl.1 rfl (lv_room (Nat.le_of_ble_eq_true rfl)) dX8_lends_21 ⟨Nat.le_of_ble_eq_true rfl, Nat.le_of_ble_eq_true rfl⟩) hP hD hS hA [0, 1, 2, 3, 4, 5, 6, 7, 8, 9, 10, 11, 12, 13, 14, 15, 16, 17, 18, 19, 20, 21, 22, 23, 24, 25] [] [0, 1, 2, 3, 4, 5, 6, 7, 8, 9, 10, 11, 12, 13, 14, 15, 16, 17, 18, 19, 20, 21, 22, 23, 24, 25] rfl rfl rfl (by decide) rfl rfl (fun H locs hP hD hS => ?_)
          refine lv_aload_n hx hb dX8_lends_24 rfl (lv_at hl 0 rfl) ?_
          refine lv_iload hx hb dX8_lends_25 (lv_at hl 5 rfl) ?_
          refine lv_iconst (v := 1) hx hb dX8_lends_27 (by decide) ?_
          obtain ⟨x_27, hr_28, hM⟩ := bn_some hM
          refine gv_i (r0 := x_27) (wn := (wO ct aO mO mO64)) (va_runV (As := [.int v5, .int (1 : Int32)]) (rest := [.int x_24, .int v4]) ⟨hx, hb, hml, hown, hts⟩ (kX8_of l dC dI ct aO _ mO mO64 v5 (1 : Int32) _ hr_28) (cwV 2 hts gX8_lends_X8_of rfl rfl rfl hvX8_of ⟨Nat.le_of_ble_eq_true rfl, Nat.le_of_ble_eq_true rfl⟩) (preV_of E0_ok hK hP hD (is := [0, 1, 2, 3, 4, 5, 6, 7, 8, 9, 10, 11, 12, 13, 14, 15, 16, 17, 18, 19, 20, 21, 22, 23, 24, 25]) rfl rfl rfl (ci := 8) rfl 0 rfl e_0) rfl rfl hl.1 rfl (lv_room (Nat.le_of_ble_eq_true rfl)) dX8_lends_28 ⟨Nat.le_of_ble_eq_true rfl, Nat.le_of_ble_eq_true rfl⟩) hP hD hS hA [0, 1, 2, 3, 4, 5, 6, 7, 8, 9, 10, 11, 12, 13, 14, 15, 16, 17, 18, 19, 20, 21, 22, 23, 24, 25] [] [0, 1, 2, 3, 4, 5, 6, 7, 8, 9, 10, 11, 12, 13, 14, 15, 16, 17, 18, 19, 20, 21, 22, 23, 24, 25] rfl rfl rfl (by decide) rfl rfl (fun H locs hP hD hS => ?_)
          refine lv_imul hx hb dX8_lends_31 ?_
          refine lv_iadd hx hb dX8_lends_32 ?_
          refine lv_topi (fun x_30 ex_30 => ?_)
          have hM := nm_at ex_30 hM
          refine lv_istore (lv' := [(4, .int x_30), (0, .ref (aO 0)), (1, .int v1), (2, .int v2), (3, .int v3), (5, .int v5)]) hx hb dX8_lends_33 hl (by decide) rfl (fun ls hl => ?_)
          refine lv_aload_n hx hb dX8_lends_35 rfl (lv_at hl 1 rfl) ?_
          refine va_get (D := (dC, dI)) (ci := 8) (v := .ref (aO 18)) (C := RX8) (T := TX8) (N := 45) hx hb hts iwX8_lends_X8 hown hK hP 0 rfl rfl 37 (by decide) (hts _ (List.mem_of_getElem? (i := 2) rfl)) (fun _ h9 => h9) rfl dX8_lends_36 ?_
          refine lv_iload hx hb dX8_lends_39 (lv_at hl 5 rfl) ?_
          refine lv_iconst (v := 0) hx hb dX8_lends_41 (by decide) ?_
          obtain ⟨hi, hM⟩ := gi_some hM
          refine st_i (wf := fun z => (wO ct aO z mO64)) (m1 := upi mO 18 v5.toNatClampNeg (0 : Int32)) hx hb hK hP hD hS 18 rfl hi dX8_lends_42 rfl (fun mO_31 emO_31 H locs hP hD hS => ?_)
          have hM := nm_at emO_31 hM
          refine lv_aload_n hx hb dX8_lends_43 rfl (lv_at hl 1 rfl) ?_
          refine lv_iload hx hb dX8_lends_44 (lv_at hl 5 rfl) ?_
          refine lv_aload_n hx hb dX8_lends_46 rfl (lv_at hl 1 rfl) ?_
          refine lv_iload hx hb dX8_lends_47 (lv_at hl 5 rfl) ?_
          refine lv_iload_n hx hb dX8_lends_49 rfl (lv_at hl 2 rfl) ?_
          refine lv_iload_n hx hb dX8_lends_50 rfl (lv_at hl 3 rfl) ?_
          refine lv_iload_n hx hb dX8_lends_51 rfl (lv_at hl 4 rfl) ?_
          obtain ⟨x_32, hr_33, hM⟩ := bn_some hM
          refine gv_i (r0 := x_32) (wn := (wO ct aO mO_31 mO64)) (va_runV (As := [.int v5, .int v1, .int v2, .int v3]) (rest := [.int v5, .ref (aO 0)]) ⟨hx, hb, hml, hown, hts⟩ (kX8_backOf l dC dI ct aO _ mO_31 mO64 v5 v1 v2 v3 _ hr_33) (cwV 4 hts gX8_lends_X8_backOf rfl rfl rfl hvX8_backOf ⟨Nat.le_of_ble_eq_true rfl, Nat.le_of_ble_eq_true rfl⟩) (preV_of E0_ok hK hP hD (is := [0, 1, 2, 3, 4, 5, 6, 7, 8, 9, 10, 11, 12, 13, 14, 15, 16, 17, 18, 19, 20, 21, 22, 23, 24, 25]) rfl rfl rfl (ci := 8) rfl 0 rfl e_0) rfl rfl hl.1 rfl (lv_room (Nat.le_of_ble_eq_true rfl)) dX8_lends_52 ⟨Nat.le_of_ble_eq_true rfl, Nat.le_of_ble_eq_true rfl⟩) hP hD hS hA [0, 1, 2, 3, 4, 5, 6, 7, 8, 9, 10, 11, 12, 13, 14, 15, 16, 17, 18, 19, 20, 21, 22, 23, 24, 25] [] [0, 1, 2, 3, 4, 5, 6, 7, 8, 9, 10, 11, 12, 13, 14, 15, 16, 17, 18, 19, 20, 21, 22, 23, 24, 25] rfl rfl rfl (by decide) rfl rfl (fun H locs hP hD hS => ?_)
          obtain ⟨x_35, hr_36, hM⟩ := bn_some hM
          refine gv_i (r0 := x_35) (wn := (wO ct aO mO_31 mO64)) (va_runV (As := [.int v5, .int x_32]) (rest := []) ⟨hx, hb, hml, hown, hts⟩ (kX8_leastOf l dC dI ct aO _ mO_31 mO64 v5 x_32 _ hr_36) (cwV 2 hts gX8_lends_X8_leastOf rfl rfl rfl hvX8_leastOf ⟨Nat.le_of_ble_eq_true rfl, Nat.le_of_ble_eq_true rfl⟩) (preV_of E0_ok hK hP hD (is := [0, 1, 2, 3, 4, 5, 6, 7, 8, 9, 10, 11, 12, 13, 14, 15, 16, 17, 18, 19, 20, 21, 22, 23, 24, 25]) rfl rfl rfl (ci := 8) rfl 0 rfl e_0) rfl rfl hl.1 rfl (lv_room (Nat.le_of_ble_eq_true rfl)) dX8_lends_55 ⟨Nat.le_of_ble_eq_true rfl, Nat.le_of_ble_eq_true rfl⟩) hP hD hS hA [0, 1, 2, 3, 4, 5, 6, 7, 8, 9, 10, 11, 12, 13, 14, 15, 16, 17, 18, 19, 20, 21, 22, 23, 24, 25] [] [0, 1, 2, 3, 4, 5, 6, 7, 8, 9, 10, 11, 12, 13, 14, 15, 16, 17, 18, 19, 20, 21, 22, 23, 24, 25] rfl rfl rfl (by decide) rfl rfl (fun H locs hP hD hS => ?_)
          refine lv_istore (lv' := [(6, .int x_35), (4, .int x_30), (0, .ref (aO 0)), (1, .int v1), (2, .int v2), (3, .int v3), (5, .int v5)]) hx hb dX8_lends_58 hl (by decide) rfl (fun ls hl => ?_)
          refine lv_aload_n hx hb dX8_lends_60 rfl (lv_at hl 2 rfl) ?_
          refine va_get (D := (dC, dI)) (ci := 8) (v := .ref (aO 19)) (C := RX8) (T := TX8) (N := 45) hx hb hts iwX8_lends_X8 hown hK hP 0 rfl rfl 38 (by decide) (hts _ (List.mem_of_getElem? (i := 3) rfl)) (fun _ h9 => h9) rfl dX8_lends_61 ?_
          refine lv_iload hx hb dX8_lends_64 (lv_at hl 6 rfl) ?_
          refine lv_iload hx hb dX8_lends_66 (lv_at hl 0 rfl) ?_
          refine lv_iconst (v := -1) hx hb dX8_lends_68 (by decide) ?_
          refine lv_icmp_eq (tgt := 82) hx hb dX8_lends_69 (by decide) (fun hc_38 => ?_) (fun hc_38 => ?_)
          · have hM := it_p hc_38 hM
            exact N82 x_30 v5 v5 mO_31 hM _ _ hP hD hS _ (lv_sub hl [2, 3, 4, 5, 1, 6] rfl)
          · have hM := it_n hc_38 hM
            refine lv_aload_n hx hb dX8_lends_72 rfl (lv_at hl 2 rfl) ?_
            refine lv_iload hx hb dX8_lends_73 (lv_at hl 6 rfl) ?_
            refine lv_iconst (v := 2) hx hb dX8_lends_75 (by decide) ?_
            obtain ⟨x_39, hr_40, hM⟩ := bn_some hM
            refine gv_i (r0 := x_39) (wn := (wO ct aO mO_31 mO64)) (va_runV (As := [.int v5, .int (2 : Int32)]) (rest := [.int v5, .ref (aO 19)]) ⟨hx, hb, hml, hown, hts⟩ (kX8_of l dC dI ct aO _ mO_31 mO64 v5 (2 : Int32) _ hr_40) (cwV 2 hts gX8_lends_X8_of rfl rfl rfl hvX8_of ⟨Nat.le_of_ble_eq_true rfl, Nat.le_of_ble_eq_true rfl⟩) (preV_of E0_ok hK hP hD (is := [0, 1, 2, 3, 4, 5, 6, 7, 8, 9, 10, 11, 12, 13, 14, 15, 16, 17, 18, 19, 20, 21, 22, 23, 24, 25]) rfl rfl rfl (ci := 8) rfl 0 rfl e_0) rfl rfl hl.1 rfl (lv_room (Nat.le_of_ble_eq_true rfl)) dX8_lends_76 ⟨Nat.le_of_ble_eq_true rfl, Nat.le_of_ble_eq_true rfl⟩) hP hD hS hA [0, 1, 2, 3, 4, 5, 6, 7, 8, 9, 10, 11, 12, 13, 14, 15, 16, 17, 18, 19, 20, 21, 22, 23, 24, 25] [] [0, 1, 2, 3, 4, 5, 6, 7, 8, 9, 10, 11, 12, 13, 14, 15, 16, 17, 18, 19, 20, 21, 22, 23, 24, 25] rfl rfl rfl (by decide) rfl rfl (fun H locs hP hD hS => ?_)
            refine lv_if_ne (tgt := 86) hx hb dX8_lends_79 (by decide) (fun hc_42 => ?_) (fun hc_42 => ?_)
            · have hM := it_p hc_42 hM
              refine lv_aload_n hx hb dX8_lends_86 rfl (lv_at hl 2 rfl) ?_
              refine lv_iload hx hb dX8_lends_87 (lv_at hl 6 rfl) ?_
              obtain ⟨x_43, hr_44, hM⟩ := bn_some hM
              refine gv_i (r0 := x_43) (wn := (wO ct aO mO_31 mO64)) (va_runV (As := [.int v5]) (rest := [.int v5, .ref (aO 19)]) ⟨hx, hb, hml, hown, hts⟩ (kX8_mostPrice l dC dI ct aO _ mO_31 mO64 v5 _ hr_44) (cwV 1 hts gX8_lends_X8_mostPrice rfl rfl rfl hvX8_mostPrice ⟨Nat.le_of_ble_eq_true rfl, Nat.le_of_ble_eq_true rfl⟩) (preV_of E0_ok hK hP hD (is := [0, 1, 2, 3, 4, 5, 6, 7, 8, 9, 10, 11, 12, 13, 14, 15, 16, 17, 18, 19, 20, 21, 22, 23, 24, 25]) rfl rfl rfl (ci := 8) rfl 0 rfl e_0) rfl rfl hl.1 rfl (lv_room (Nat.le_of_ble_eq_true rfl)) dX8_lends_89 ⟨Nat.le_of_ble_eq_true rfl, Nat.le_of_ble_eq_true rfl⟩) hP hD hS hA [0, 1, 2, 3, 4, 5, 6, 7, 8, 9, 10, 11, 12, 13, 14, 15, 16, 17, 18, 19, 20, 21, 22, 23, 24, 25] [] [0, 1, 2, 3, 4, 5, 6, 7, 8, 9, 10, 11, 12, 13, 14, 15, 16, 17, 18, 19, 20, 21, 22, 23, 24, 25] rfl rfl rfl (by decide) rfl rfl (fun H locs hP hD hS => ?_)
              refine lv_iload hx hb dX8_lends_92 (lv_at hl 0 rfl) ?_
              refine lv_isub hx hb dX8_lends_94 ?_
              exact N95 x_30 v5 v5 (x_43 - x_35) mO_31 hM _ _ hP hD hS _ (lv_sub hl [2, 3, 4, 5, 1, 6] rfl)
            · have hM := it_nn hc_42 hM
              exact N82 x_30 v5 v5 mO_31 hM _ _ hP hD hS _ (lv_sub hl [2, 3, 4, 5, 1, 6] rfl)
    exact I6 FU v4 v5 mO hit6 _ _ hP hD hS _ hl
  refine lv_iconst (v := 0) hx hb dX8_lends_0 (by decide) ?_
  refine lv_istore (lv' := [(4, .int (0 : Int32)), (0, .ref (aO 0)), (1, .int v1), (2, .int v2), (3, .int v3)]) hx hb dX8_lends_1 hl (by decide) rfl (fun ls hl => ?_)
  refine lv_iconst (v := 0) hx hb dX8_lends_3 (by decide) ?_
  refine lv_istore (lv' := [(5, .int (0 : Int32)), (4, .int (0 : Int32)), (0, .ref (aO 0)), (1, .int v1), (2, .int v2), (3, .int v3)]) hx hb dX8_lends_4 hl (by decide) rfl (fun ls hl => ?_)
  exact N6 v1 v2 v3 (0 : Int32) (0 : Int32) mO hM _ _ hP hD hS _ (lv_sub hl [2, 3, 4, 5, 1, 0] rfl)
abbrev rmX8_sown : Room := { frames := 0, cells := 0, slots := 0, locals := 0 }
theorem iwX8_sown_X8 : ∀ w ∈ wsX80, w ∈ wsX8_sown := fun _ h => List.mem_cons_of_mem _ (List.mem_append_right _ (h))
set_option maxHeartbeats 4000000 in
set_option maxRecDepth 100000 in
theorem kX8_sown (l : Launch) (dC : Nat → ClassId) (dI : Nat → Nat → Nat) (ct : Nat → ClassId) (aO : Nat → Nat) (sz : Nat) (mO : Mem) (mO64 : Lem) (res : Int32) (hM : mX8_sown mO mO64 = some res) : Met l yX8_sown wsX8_sown rmX8_sown (va_Pc [.ref (aO 0)] (PB (dC, dI) ct E0 sz (wO ct aO mO mO64))) (Qi (dC, dI) ct (va_A (wO ct aO mO mO64) sz) res (wO ct aO mO mO64)) 0 0 (va_A (wO ct aO mO mO64) sz) := by
  refine Met.ofW (cc := cX8_sown) (maxL := 3) (ret := (some .int)) (by decide) rfl ?_
  intro p e s m args below meth c s₁ B hml hv
  obtain ⟨hargs, hsz, hP, hK, hD0, hE⟩ := hv
  have hx := B.exec
  have hb := B.bytes
  have hr := B.returns
  have hts := atoms_spec (ws := wsX8_sown) B.pre
  have hown : s.vm.findClass RX8 = some m.cls := findClass_of_methodNamed B.named
  have hlocks := B.notSynchronized
  clear B s₁
  subst hsz
  have hD := hD0.self (sz := s.heap.size)
  clear hD0
  generalize hAe : va_A (wO ct aO mO mO64) s.heap.size = A at hD hE ⊢
  have hA : ∀ q : Nat, s.heap.size ≤ q → A q := fun q h => by rw [← hAe]; exact Or.inr h
  clear hAe
  have hS : va_S A s.heap s.heap [] := va_S.rf
  refine cutQ (fun Q hQ => ?_)
  refine entryW (vs := [.ref (aO 0)]) hargs (Nat.le_of_ble_eq_true rfl) (fun ls hl => ?_)
  replace hl : lv_has ls 3 [(0, .ref (aO 0))] := hl
  unfold mX8_sown at hM
  have N4 : ∀ (v1 : Int32) (v2 : Int32), mX8_sown_L4 v1 v2 mO mO64 = some res → ∀ (H : Heap) (locs : List Loc), va_P (dC, dI) vwCl (wO ct aO mO mO64) H → va_D A (wO ct aO mO mO64) → va_S A s.heap H locs → ∀ ls : Array Slot, lv_has ls 3 [(0, .ref (aO 0)), (1, .int v1), (2, .int v2)] → W p l e (headSpec wsX8_sown rmX8_sown).room s m args below meth c H locs 0 0 Q (F0 m 4 ls []) := by
    intro v1 v2 hM H locs hP hD hS ls hl
    unfold mX8_sown_L4 at hM
    obtain ⟨ex4, hit4, hM⟩ := bn_some hM
    have X4_0 : ∀ (v1 : Int32), ex4 = v1 → ∀ (H : Heap) (locs : List Loc), va_P (dC, dI) vwCl (wO ct aO mO mO64) H → va_D A (wO ct aO mO mO64) → va_S A s.heap H locs → ∀ ls : Array Slot, lv_has ls 3 [(1, .int v1)] → W p l e (headSpec wsX8_sown rmX8_sown).room s m args below meth c H locs 0 0 Q (F0 m 27 ls []) := by
      intro v1 hex H locs hP hD hS ls hl
      rw [hex] at hM
      have hM := nm_at (y := v1) rfl hM
      refine lv_iload_n hx hb dX8_sown_27 rfl (lv_at hl 0 rfl) ?_
      have hR := som hM
      rw [hR] at hQ
      exact ret_i hQ hx hb hr hlocks hP hK hD hS dX8_sown_28
    have I4 : ∀ (n : Nat) (v1 : Int32) (v2 : Int32), itr (fun q => mX8_sown_s4 mO mO64 q.1 q.2) n (v1, v2) = some ex4 → ∀ (H : Heap) (locs : List Loc), va_P (dC, dI) vwCl (wO ct aO mO mO64) H → va_D A (wO ct aO mO mO64) → va_S A s.heap H locs → ∀ ls : Array Slot, lv_has ls 3 [(0, .ref (aO 0)), (1, .int v1), (2, .int v2)] → W p l e (headSpec wsX8_sown rmX8_sown).room s m args below meth c H locs 0 0 Q (F0 m 4 ls []) := by
      intro n
      induction n with
      | zero => intro v1 v2 hit; exact (itr_zero hit).elim
      | succ n ih4 =>
        intro v1 v2 hit H locs hP hD hS ls hl
        obtain ⟨o4, hM, hbk4, hex4⟩ := itr_succ hit
        replace hM : mX8_sown_s4 mO mO64 v1 v2 = some o4 := hM
        unfold mX8_sown_s4 at hM
        refine lv_iload_n hx hb dX8_sown_4 rfl (lv_at hl 2 rfl) ?_
        refine lv_aload_n hx hb dX8_sown_5 rfl (lv_at hl 0 rfl) ?_
        refine va_get (D := (dC, dI)) (ci := 8) (v := .int (mO 0 18)) (C := RX8) (T := TX8) (N := 45) hx hb hts iwX8_sown_X8 hown hK hP 0 rfl rfl 18 (by decide) (hts _ (List.mem_of_getElem? (i := 1) rfl)) (fun _ h9 => h9) rfl dX8_sown_6 ?_
        refine lv_icmp_ge (tgt := 27) hx hb dX8_sown_9 (by decide) (fun hc_1 => ?_) (fun hc_1 => ?_)
        · have hM := it_p hc_1 hM
          have hR := som hM
          exact X4_0 v1 (hex4 _ hR).symm _ _ hP hD hS _ (lv_sub hl [1] rfl)
        · have hM := it_n hc_1 hM
          refine lv_iload_n hx hb dX8_sown_12 rfl (lv_at hl 1 rfl) ?_
          refine lv_aload_n hx hb dX8_sown_13 rfl (lv_at hl 0 rfl) ?_
          refine va_get (D := (dC, dI)) (ci := 8) (v := .ref (aO 18)) (C := RX8) (T := TX8) (N := 45) hx hb hts iwX8_sown_X8 hown hK hP 0 rfl rfl 37 (by decide) (hts _ (List.mem_of_getElem? (i := 2) rfl)) (fun _ h9 => h9) rfl dX8_sown_14 ?_
          refine lv_iload_n hx hb dX8_sown_17 rfl (lv_at hl 2 rfl) ?_
          obtain ⟨hi, hM⟩ := gi_some hM
          refine va_iald hx hb hK hP 18 0 rfl rfl hi dX8_sown_18 ?_
          refine lv_iadd hx hb dX8_sown_19 ?_
          refine lv_topi (fun x_2 ex_2 => ?_)
          have hM := nm_at ex_2 hM
          refine lv_istore_n (lv' := [(1, .int x_2), (0, .ref (aO 0)), (2, .int v2)]) hx hb dX8_sown_20 rfl hl (by decide) rfl (fun ls hl => ?_)
          obtain ⟨x_3, ex_3⟩ : ∃ y : Int32, y = (v2 + (1 : Int32)) := ⟨_, rfl⟩
          have hM := nm_at ex_3 hM
          refine lv_iinc (v := x_3) (lv' := [(2, .int x_3), (1, .int x_2), (0, .ref (aO 0))]) hx hb dX8_sown_21 hl (k := 2) rfl (by rw [ex_3]; rfl) (by decide) rfl (fun ls hl => ?_)
          refine lv_goto (tgt := 4) hx hb dX8_sown_24 (by decide) ?_
          have hR := som hM
          exact ih4 x_2 x_3 (hbk4 _ hR) _ _ hP hD hS _ (lv_sub hl [2, 1, 0] rfl)
    exact I4 FU v1 v2 hit4 _ _ hP hD hS _ hl
  refine lv_iconst (v := 0) hx hb dX8_sown_0 (by decide) ?_
  refine lv_istore_n (lv' := [(1, .int (0 : Int32)), (0, .ref (aO 0))]) hx hb dX8_sown_1 rfl hl (by decide) rfl (fun ls hl => ?_)
  refine lv_iconst (v := 0) hx hb dX8_sown_2 (by decide) ?_
  refine lv_istore_n (lv' := [(2, .int (0 : Int32)), (1, .int (0 : Int32)), (0, .ref (aO 0))]) hx hb dX8_sown_3 rfl hl (by decide) rfl (fun ls hl => ?_)
  exact N4 (0 : Int32) (0 : Int32) hM _ _ hP hD hS _ (lv_sub hl [2, 1, 0] rfl)
abbrev rmX8_yields : Room := { frames := 1, cells := 0, slots := 0, locals := 22 }
theorem iwX8_yields_X8 : ∀ w ∈ wsX80, w ∈ wsX8_yields := fun _ h => List.mem_cons_of_mem _ (List.mem_append_right _ (h))
set_option maxHeartbeats 4000000 in
set_option maxRecDepth 100000 in
theorem kX8_yields (l : Launch) (dC : Nat → ClassId) (dI : Nat → Nat → Nat) (ct : Nat → ClassId) (aO : Nat → Nat) (sz : Nat) (mO : Mem) (mO64 : Lem) (res : Int32) (hM : mX8_yields mO mO64 = some res) : Met l yX8_yields wsX8_yields rmX8_yields (va_Pc [.ref (aO 0)] (PB (dC, dI) ct E0 sz (wO ct aO mO mO64))) (Qi (dC, dI) ct (va_A (wO ct aO mO mO64) sz) res (wO ct aO mO mO64)) 0 0 (va_A (wO ct aO mO mO64) sz) := by
  refine Met.ofW (cc := cX8_yields) (maxL := 3) (ret := (some .int)) (by decide) rfl ?_
  intro p e s m args below meth c s₁ B hml hv
  obtain ⟨hargs, hsz, hP, hK, hD0, hE⟩ := hv
  have hx := B.exec
  have hb := B.bytes
  have hr := B.returns
  have hts := atoms_spec (ws := wsX8_yields) B.pre
  have hown : s.vm.findClass RX8 = some m.cls := findClass_of_methodNamed B.named
  have hlocks := B.notSynchronized
  clear B s₁
  subst hsz
  have hD := hD0.self (sz := s.heap.size)
  clear hD0
  generalize hAe : va_A (wO ct aO mO mO64) s.heap.size = A at hD hE ⊢
  have hA : ∀ q : Nat, s.heap.size ≤ q → A q := fun q h => by rw [← hAe]; exact Or.inr h
  clear hAe
  have hS : va_S A s.heap s.heap [] := va_S.rf
  refine cutQ (fun Q hQ => ?_)
  refine entryW (vs := [.ref (aO 0)]) hargs (Nat.le_of_ble_eq_true rfl) (fun ls hl => ?_)
  replace hl : lv_has ls 3 [(0, .ref (aO 0))] := hl
  unfold mX8_yields at hM
  have N4 : ∀ (v1 : Int32) (v2 : Int32), mX8_yields_L4 v1 v2 mO mO64 = some res → ∀ (H : Heap) (locs : List Loc), va_P (dC, dI) vwCl (wO ct aO mO mO64) H → va_D A (wO ct aO mO mO64) → va_S A s.heap H locs → ∀ ls : Array Slot, lv_has ls 3 [(0, .ref (aO 0)), (1, .int v1), (2, .int v2)] → W p l e (headSpec wsX8_yields rmX8_yields).room s m args below meth c H locs 0 0 Q (F0 m 4 ls []) := by
    intro v1 v2 hM H locs hP hD hS ls hl
    unfold mX8_yields_L4 at hM
    obtain ⟨ex4, hit4, hM⟩ := bn_some hM
    have X4_0 : ∀ (v1 : Int32), ex4 = v1 → ∀ (H : Heap) (locs : List Loc), va_P (dC, dI) vwCl (wO ct aO mO mO64) H → va_D A (wO ct aO mO mO64) → va_S A s.heap H locs → ∀ ls : Array Slot, lv_has ls 3 [(1, .int v1)] → W p l e (headSpec wsX8_yields rmX8_yields).room s m args below meth c H locs 0 0 Q (F0 m 54 ls []) := by
      intro v1 hex H locs hP hD hS ls hl
      rw [hex] at hM
      have hM := nm_at (y := v1) rfl hM
      refine lv_iload_n hx hb dX8_yields_54 rfl (lv_at hl 0 rfl) ?_
      have hR := som hM
      rw [hR] at hQ
      exact ret_i hQ hx hb hr hlocks hP hK hD hS dX8_yields_55
    have I4 : ∀ (n : Nat) (v1 : Int32) (v2 : Int32), itr (fun q => mX8_yields_s4 mO mO64 q.1 q.2) n (v1, v2) = some ex4 → ∀ (H : Heap) (locs : List Loc), va_P (dC, dI) vwCl (wO ct aO mO mO64) H → va_D A (wO ct aO mO mO64) → va_S A s.heap H locs → ∀ ls : Array Slot, lv_has ls 3 [(0, .ref (aO 0)), (1, .int v1), (2, .int v2)] → W p l e (headSpec wsX8_yields rmX8_yields).room s m args below meth c H locs 0 0 Q (F0 m 4 ls []) := by
      intro n
      induction n with
      | zero => intro v1 v2 hit; exact (itr_zero hit).elim
      | succ n ih4 =>
        intro v1 v2 hit H locs hP hD hS ls hl
        obtain ⟨o4, hM, hbk4, hex4⟩ := itr_succ hit
        replace hM : mX8_yields_s4 mO mO64 v1 v2 = some o4 := hM
        have N46 : ∀ (v2 : Int32) (t0 : Int32) (t1 : Int32), mX8_yields_j46 v2 t0 t1 mO mO64 = some o4 → ∀ (H : Heap) (locs : List Loc), va_P (dC, dI) vwCl (wO ct aO mO mO64) H → va_D A (wO ct aO mO mO64) → va_S A s.heap H locs → ∀ ls : Array Slot, lv_has ls 3 [(0, .ref (aO 0)), (2, .int v2)] → W p l e (headSpec wsX8_yields rmX8_yields).room s m args below meth c H locs 0 0 Q (F0 m 46 ls [.int t1, .int t0]) := by
          intro v2 t0 t1 hM H locs hP hD hS ls hl
          unfold mX8_yields_j46 at hM
          refine lv_iadd hx hb dX8_yields_46 ?_
          refine lv_topi (fun x_1 ex_1 => ?_)
          have hM := nm_at ex_1 hM
          refine lv_istore_n (lv' := [(1, .int x_1), (0, .ref (aO 0)), (2, .int v2)]) hx hb dX8_yields_47 rfl hl (by decide) rfl (fun ls hl => ?_)
          obtain ⟨x_2, ex_2⟩ : ∃ y : Int32, y = (v2 + (1 : Int32)) := ⟨_, rfl⟩
          have hM := nm_at ex_2 hM
          refine lv_iinc (v := x_2) (lv' := [(2, .int x_2), (1, .int x_1), (0, .ref (aO 0))]) hx hb dX8_yields_48 hl (k := 2) rfl (by rw [ex_2]; rfl) (by decide) rfl (fun ls hl => ?_)
          refine lv_goto (tgt := 4) hx hb dX8_yields_51 (by decide) ?_
          have hR := som hM
          exact ih4 x_1 x_2 (hbk4 _ hR) _ _ hP hD hS _ (lv_sub hl [2, 1, 0] rfl)
        unfold mX8_yields_s4 at hM
        refine lv_iload_n hx hb dX8_yields_4 rfl (lv_at hl 2 rfl) ?_
        refine lv_aload_n hx hb dX8_yields_5 rfl (lv_at hl 0 rfl) ?_
        refine va_get (D := (dC, dI)) (ci := 8) (v := .int (mO 0 18)) (C := RX8) (T := TX8) (N := 45) hx hb hts iwX8_yields_X8 hown hK hP 0 rfl rfl 18 (by decide) (hts _ (List.mem_of_getElem? (i := 1) rfl)) (fun _ h9 => h9) rfl dX8_yields_6 ?_
        refine lv_icmp_ge (tgt := 54) hx hb dX8_yields_9 (by decide) (fun hc_3 => ?_) (fun hc_3 => ?_)
        · have hM := it_p hc_3 hM
          have hR := som hM
          exact X4_0 v1 (hex4 _ hR).symm _ _ hP hD hS _ (lv_sub hl [1] rfl)
        · have hM := it_n hc_3 hM
          refine lv_iload_n hx hb dX8_yields_12 rfl (lv_at hl 1 rfl) ?_
          refine lv_aload_n hx hb dX8_yields_13 rfl (lv_at hl 0 rfl) ?_
          refine va_get (D := (dC, dI)) (ci := 8) (v := .ref (aO 18)) (C := RX8) (T := TX8) (N := 45) hx hb hts iwX8_yields_X8 hown hK hP 0 rfl rfl 37 (by decide) (hts _ (List.mem_of_getElem? (i := 2) rfl)) (fun _ h9 => h9) rfl dX8_yields_14 ?_
          refine lv_iload_n hx hb dX8_yields_17 rfl (lv_at hl 2 rfl) ?_
          obtain ⟨hi, hM⟩ := gi_some hM
          refine va_iald hx hb hK hP 18 0 rfl rfl hi dX8_yields_18 ?_
          refine lv_if_ne (tgt := 26) hx hb dX8_yields_19 (by decide) (fun hc_4 => ?_) (fun hc_4 => ?_)
          · have hM := it_p hc_4 hM
            refine lv_aload_n hx hb dX8_yields_26 rfl (lv_at hl 0 rfl) ?_
            refine va_get (D := (dC, dI)) (ci := 8) (v := .ref (aO 18)) (C := RX8) (T := TX8) (N := 45) hx hb hts iwX8_yields_X8 hown hK hP 0 rfl rfl 37 (by decide) (hts _ (List.mem_of_getElem? (i := 2) rfl)) (fun _ h9 => h9) rfl dX8_yields_27 ?_
            refine lv_iload_n hx hb dX8_yields_30 rfl (lv_at hl 2 rfl) ?_
            obtain ⟨hi, hM⟩ := gi_some hM
            refine va_iald hx hb hK hP 18 0 rfl rfl hi dX8_yields_31 ?_
            refine lv_aload_n hx hb dX8_yields_32 rfl (lv_at hl 0 rfl) ?_
            refine lv_iload_n hx hb dX8_yields_33 rfl (lv_at hl 2 rfl) ?_
            refine lv_iconst (v := 4) hx hb dX8_yields_34 (by decide) ?_
            obtain ⟨x_5, hr_6, hM⟩ := bn_some hM
            refine gv_i (r0 := x_5) (wn := (wO ct aO mO mO64)) (va_runV (As := [.int v2, .int (4 : Int32)]) (rest := [.int (mO 18 v2.toNatClampNeg), .int v1]) ⟨hx, hb, hml, hown, hts⟩ (kX8_of l dC dI ct aO _ mO mO64 v2 (4 : Int32) _ hr_6) (cwV 2 hts gX8_yields_X8_of rfl rfl rfl hvX8_of ⟨Nat.le_of_ble_eq_true rfl, Nat.le_of_ble_eq_true rfl⟩) (preV_of E0_ok hK hP hD (is := [0, 1, 2, 3, 4, 5, 6, 7, 8, 9, 10, 11, 12, 13, 14, 15, 16, 17, 18, 19, 20, 21, 22, 23, 24, 25]) rfl rfl rfl (ci := 8) rfl 0 rfl e_0) rfl rfl hl.1 rfl (lv_room (Nat.le_of_ble_eq_true rfl)) dX8_yields_35 ⟨Nat.le_of_ble_eq_true rfl, Nat.le_of_ble_eq_true rfl⟩) hP hD hS hA [0, 1, 2, 3, 4, 5, 6, 7, 8, 9, 10, 11, 12, 13, 14, 15, 16, 17, 18, 19, 20, 21, 22, 23, 24, 25] [] [0, 1, 2, 3, 4, 5, 6, 7, 8, 9, 10, 11, 12, 13, 14, 15, 16, 17, 18, 19, 20, 21, 22, 23, 24, 25] rfl rfl rfl (by decide) rfl rfl (fun H locs hP hD hS => ?_)
            refine lv_imul hx hb dX8_yields_38 ?_
            refine lv_aload_n hx hb dX8_yields_39 rfl (lv_at hl 0 rfl) ?_
            refine lv_iload_n hx hb dX8_yields_40 rfl (lv_at hl 2 rfl) ?_
            refine lv_iconst (v := 2) hx hb dX8_yields_41 (by decide) ?_
            obtain ⟨x_8, hr_9, hM⟩ := bn_some hM
            refine gv_i (r0 := x_8) (wn := (wO ct aO mO mO64)) (va_runV (As := [.int v2, .int (2 : Int32)]) (rest := [.int ((mO 18 v2.toNatClampNeg) * x_5), .int v1]) ⟨hx, hb, hml, hown, hts⟩ (kX8_of l dC dI ct aO _ mO mO64 v2 (2 : Int32) _ hr_9) (cwV 2 hts gX8_yields_X8_of rfl rfl rfl hvX8_of ⟨Nat.le_of_ble_eq_true rfl, Nat.le_of_ble_eq_true rfl⟩) (preV_of E0_ok hK hP hD (is := [0, 1, 2, 3, 4, 5, 6, 7, 8, 9, 10, 11, 12, 13, 14, 15, 16, 17, 18, 19, 20, 21, 22, 23, 24, 25]) rfl rfl rfl (ci := 8) rfl 0 rfl e_0) rfl rfl hl.1 rfl (lv_room (Nat.le_of_ble_eq_true rfl)) dX8_yields_42 ⟨Nat.le_of_ble_eq_true rfl, Nat.le_of_ble_eq_true rfl⟩) hP hD hS hA [0, 1, 2, 3, 4, 5, 6, 7, 8, 9, 10, 11, 12, 13, 14, 15, 16, 17, 18, 19, 20, 21, 22, 23, 24, 25] [] [0, 1, 2, 3, 4, 5, 6, 7, 8, 9, 10, 11, 12, 13, 14, 15, 16, 17, 18, 19, 20, 21, 22, 23, 24, 25] rfl rfl rfl (by decide) rfl rfl (fun H locs hP hD hS => ?_)
            obtain ⟨hz, hM⟩ := gz_some hM
            refine lv_idiv hx hb dX8_yields_45 hz ?_
            exact N46 v2 v1 (((mO 18 v2.toNatClampNeg) * x_5) / x_8) hM _ _ hP hD hS _ (lv_sub hl [0, 2] rfl)
          · have hM := it_nn hc_4 hM
            refine lv_iconst (v := 0) hx hb dX8_yields_22 (by decide) ?_
            refine lv_goto (tgt := 46) hx hb dX8_yields_23 (by decide) ?_
            exact N46 v2 v1 (0 : Int32) hM _ _ hP hD hS _ (lv_sub hl [0, 2] rfl)
    exact I4 FU v1 v2 hit4 _ _ hP hD hS _ hl
  refine lv_iconst (v := 0) hx hb dX8_yields_0 (by decide) ?_
  refine lv_istore_n (lv' := [(1, .int (0 : Int32)), (0, .ref (aO 0))]) hx hb dX8_yields_1 rfl hl (by decide) rfl (fun ls hl => ?_)
  refine lv_iconst (v := 0) hx hb dX8_yields_2 (by decide) ?_
  refine lv_istore_n (lv' := [(2, .int (0 : Int32)), (1, .int (0 : Int32)), (0, .ref (aO 0))]) hx hb dX8_yields_3 rfl hl (by decide) rfl (fun ls hl => ?_)
  exact N4 (0 : Int32) (0 : Int32) hM _ _ hP hD hS _ (lv_sub hl [2, 1, 0] rfl)
abbrev rmX8_lent : Room := { frames := 3, cells := 0, slots := 0, locals := 75 }
theorem iwX8_lent_X8 : ∀ w ∈ wsX80, w ∈ wsX8_lent := fun _ h => List.mem_cons_of_mem _ (List.mem_append_right _ (h))
set_option maxHeartbeats 4000000 in
set_option maxRecDepth 100000 in
theorem kX8_lent (l : Launch) (dC : Nat → ClassId) (dI : Nat → Nat → Nat) (ct : Nat → ClassId) (aO : Nat → Nat) (sz : Nat) (mO : Mem) (mO64 : Lem) (v1 : Int32) (v2 : Int32) (res : (Int32 × Mem)) (hM : mX8_lent mO mO64 v1 v2 = some res) : Met l yX8_lent wsX8_lent rmX8_lent (va_Pc [.ref (aO 0), .int v1, .int v2] (PB (dC, dI) ct E0 sz (wO ct aO mO mO64))) (Qi (dC, dI) ct (va_A (wO ct aO mO mO64) sz) res.1 (wO ct aO res.2 mO64)) 0 0 (va_A (wO ct aO mO mO64) sz) := by
  refine Met.ofW (cc := cX8_lent) (maxL := 3) (ret := (some .int)) (by decide) rfl ?_
  intro p e s m args below meth c s₁ B hml hv
  obtain ⟨hargs, hsz, hP, hK, hD0, hE⟩ := hv
  have hx := B.exec
  have hb := B.bytes
  have hr := B.returns
  have hts := atoms_spec (ws := wsX8_lent) B.pre
  have hown : s.vm.findClass RX8 = some m.cls := findClass_of_methodNamed B.named
  have hlocks := B.notSynchronized
  clear B s₁
  subst hsz
  have hD := hD0.self (sz := s.heap.size)
  clear hD0
  generalize hAe : va_A (wO ct aO mO mO64) s.heap.size = A at hD hE ⊢
  have hA : ∀ q : Nat, s.heap.size ≤ q → A q := fun q h => by rw [← hAe]; exact Or.inr h
  clear hAe
  have hS : va_S A s.heap s.heap [] := va_S.rf
  refine cutQ (fun Q hQ => ?_)
  refine entryW (vs := [.ref (aO 0), .int v1, .int v2]) hargs (Nat.le_of_ble_eq_true rfl) (fun ls hl => ?_)
  replace hl : lv_has ls 3 [(0, .ref (aO 0)), (1, .int v1), (2, .int v2)] := hl
  unfold mX8_lent at hM
  have N23 : ∀ (v1 : Int32) (v2 : Int32) (mO : Mem), mX8_lent_j23 v1 v2 mO mO64 = some res → ∀ (H : Heap) (locs : List Loc), va_P (dC, dI) vwCl (wO ct aO mO mO64) H → va_D A (wO ct aO mO mO64) → va_S A s.heap H locs → ∀ ls : Array Slot, lv_has ls 3 [(0, .ref (aO 0)), (1, .int v1), (2, .int v2)] → W p l e (headSpec wsX8_lent rmX8_lent).room s m args below meth c H locs 0 0 Q (F0 m 23 ls []) := by
    intro v1 v2 mO hM H locs hP hD hS ls hl
    unfold mX8_lent_j23 at hM
    refine lv_aload_n hx hb dX8_lent_23 rfl (lv_at hl 0 rfl) ?_
    refine lv_iload_n hx hb dX8_lent_24 rfl (lv_at hl 2 rfl) ?_
    refine lv_aload_n hx hb dX8_lent_25 rfl (lv_at hl 0 rfl) ?_
    refine va_get (D := (dC, dI)) (ci := 8) (v := .int (mO 0 15)) (C := RX8) (T := TX8) (N := 45) hx hb hts iwX8_lent_X8 hown hK hP 0 rfl rfl 15 (by decide) (hts _ (List.mem_of_getElem? (i := 1) rfl)) (fun _ h9 => h9) rfl dX8_lent_26 ?_
    refine lv_aload_n hx hb dX8_lent_29 rfl (lv_at hl 0 rfl) ?_
    refine va_get (D := (dC, dI)) (ci := 8) (v := .int (mO 0 16)) (C := RX8) (T := TX8) (N := 45) hx hb hts iwX8_lent_X8 hown hK hP 0 rfl rfl 16 (by decide) (hts _ (List.mem_of_getElem? (i := 2) rfl)) (fun _ h9 => h9) rfl dX8_lent_30 ?_
    obtain ⟨mO_1, hr_2, hM⟩ := bn_some hM
    refine gv_v (wn := (wO ct aO mO_1 mO64)) (va_runV (As := [.int v2, .int (mO 0 15), .int (mO 0 16)]) (rest := []) ⟨hx, hb, hml, hown, hts⟩ (kX8_lends l dC dI ct aO _ mO mO64 v2 (mO 0 15) (mO 0 16) _ hr_2) (cwV 3 hts gX8_lent_X8_lends rfl rfl rfl hvX8_lends ⟨Nat.le_of_ble_eq_true rfl, Nat.le_of_ble_eq_true rfl⟩) (preV_of E0_ok hK hP hD (is := [0, 1, 2, 3, 4, 5, 6, 7, 8, 9, 10, 11, 12, 13, 14, 15, 16, 17, 18, 19, 20, 21, 22, 23, 24, 25]) rfl rfl rfl (ci := 8) rfl 0 rfl e_0) rfl rfl hl.1 rfl (lv_room (Nat.le_of_ble_eq_true rfl)) dX8_lent_33 ⟨Nat.le_of_ble_eq_true rfl, Nat.le_of_ble_eq_true rfl⟩) hP hD hS hA [0, 1, 2, 3, 4, 5, 6, 7, 8, 9, 10, 11, 12, 13, 14, 15, 16, 17, 18, 19, 20, 21, 22, 23, 24, 25] [] [0, 1, 2, 3, 4, 5, 6, 7, 8, 9, 10, 11, 12, 13, 14, 15, 16, 17, 18, 19, 20, 21, 22, 23, 24, 25] rfl rfl rfl (by decide) rfl rfl (fun H locs hP hD hS => ?_)
    refine lv_iload_n hx hb dX8_lent_36 rfl (lv_at hl 1 rfl) ?_
    refine lv_iconst (v := -1) hx hb dX8_lent_37 (by decide) ?_
    refine lv_icmp_ne (tgt := 48) hx hb dX8_lent_38 (by decide) (fun hc_4 => ?_) (fun hc_4 => ?_)
    · have hM := it_p hc_4 hM
      refine lv_aload_n hx hb dX8_lent_48 rfl (lv_at hl 0 rfl) ?_
      refine va_get (D := (dC, dI)) (ci := 8) (v := .ref (aO 18)) (C := RX8) (T := TX8) (N := 45) hx hb hts iwX8_lent_X8 hown hK hP 0 rfl rfl 37 (by decide) (hts _ (List.mem_of_getElem? (i := 3) rfl)) (fun _ h9 => h9) rfl dX8_lent_49 ?_
      refine lv_iload_n hx hb dX8_lent_52 rfl (lv_at hl 1 rfl) ?_
      obtain ⟨hi, hM⟩ := gi_some hM
      refine va_iald hx hb hK hP 18 0 rfl rfl hi dX8_lent_53 ?_
      refine lv_topi (fun x_5 ex_5 => ?_)
      have hM := nm_at ex_5 hM
      have hR := som hM
      rw [hR] at hQ
      exact ret_i hQ hx hb hr hlocks hP hK hD hS dX8_lent_54
    · have hM := it_nn hc_4 hM
      refine lv_aload_n hx hb dX8_lent_41 rfl (lv_at hl 0 rfl) ?_
      obtain ⟨x_6, hr_7, hM⟩ := bn_some hM
      refine gv_i (r0 := x_6) (wn := (wO ct aO mO_1 mO64)) (va_runV (As := []) (rest := []) ⟨hx, hb, hml, hown, hts⟩ (kX8_sown l dC dI ct aO _ mO_1 mO64 _ hr_7) (cwV 0 hts gX8_lent_X8_sown rfl rfl rfl hvX8_sown ⟨Nat.le_of_ble_eq_true rfl, Nat.le_of_ble_eq_true rfl⟩) (preV_of E0_ok hK hP hD (is := [0, 1, 2, 3, 4, 5, 6, 7, 8, 9, 10, 11, 12, 13, 14, 15, 16, 17, 18, 19, 20, 21, 22, 23, 24, 25]) rfl rfl rfl (ci := 8) rfl 0 rfl e_0) rfl rfl hl.1 rfl (lv_room (Nat.le_of_ble_eq_true rfl)) dX8_lent_42 ⟨Nat.le_of_ble_eq_true rfl, Nat.le_of_ble_eq_true rfl⟩) hP hD hS hA [0, 1, 2, 3, 4, 5, 6, 7, 8, 9, 10, 11, 12, 13, 14, 15, 16, 17, 18, 19, 20, 21, 22, 23, 24, 25] [] [0, 1, 2, 3, 4, 5, 6, 7, 8, 9, 10, 11, 12, 13, 14, 15, 16, 17, 18, 19, 20, 21, 22, 23, 24, 25] rfl rfl rfl (by decide) rfl rfl (fun H locs hP hD hS => ?_)
      refine lv_goto (tgt := 54) hx hb dX8_lent_45 (by decide) ?_
      have hR := som hM
      rw [hR] at hQ
      exact ret_i hQ hx hb hr hlocks hP hK hD hS dX8_lent_54
  refine lv_aload_n hx hb dX8_lent_0 rfl (lv_at hl 0 rfl) ?_
  refine lv_iload_n hx hb dX8_lent_1 rfl (lv_at hl 2 rfl) ?_
  obtain ⟨x_9, hr_10, hM⟩ := bn_some hM
  refine gv_i (r0 := x_9) (wn := (wO ct aO mO mO64)) (va_runV (As := [.int v2]) (rest := []) ⟨hx, hb, hml, hown, hts⟩ (kX8_isNight l dC dI ct aO _ mO mO64 v2 _ hr_10) (cwV 1 hts gX8_lent_X8_isNight rfl rfl rfl hvX8_isNight ⟨Nat.le_of_ble_eq_true rfl, Nat.le_of_ble_eq_true rfl⟩) (preV_of E0_ok hK hP hD (is := [0, 1, 2, 3, 4, 5, 6, 7, 8, 9, 10, 11, 12, 13, 14, 15, 16, 17, 18, 19, 20, 21, 22, 23, 24, 25]) rfl rfl rfl (ci := 8) rfl 0 rfl e_0) rfl rfl hl.1 rfl (lv_room (Nat.le_of_ble_eq_true rfl)) dX8_lent_2 ⟨Nat.le_of_ble_eq_true rfl, Nat.le_of_ble_eq_true rfl⟩) hP hD hS hA [0, 1, 2, 3, 4, 5, 6, 7, 8, 9, 10, 11, 12, 13, 14, 15, 16, 17, 18, 19, 20, 21, 22, 23, 24, 25] [] [0, 1, 2, 3, 4, 5, 6, 7, 8, 9, 10, 11, 12, 13, 14, 15, 16, 17, 18, 19, 20, 21, 22, 23, 24, 25] rfl rfl rfl (by decide) rfl rfl (fun H locs hP hD hS => ?_)
  refine lv_if_eq (tgt := 21) hx hb dX8_lent_5 (by decide) (fun hc_12 => ?_) (fun hc_12 => ?_)
  · have hM := it_p hc_12 hM
    refine lv_iconst (v := -1) hx hb dX8_lent_21 (by decide) ?_
    have hR := som hM
    rw [hR] at hQ
    exact ret_i hQ hx hb hr hlocks hP hK hD hS dX8_lent_22
  · have hM := it_n hc_12 hM
    refine lv_iload_n hx hb dX8_lent_8 rfl (lv_at hl 1 rfl) ?_
    refine lv_iconst (v := -1) hx hb dX8_lent_9 (by decide) ?_
    refine lv_icmp_eq (tgt := 23) hx hb dX8_lent_10 (by decide) (fun hc_13 => ?_) (fun hc_13 => ?_)
    · have hM := it_p hc_13 hM
      exact N23 v1 v2 mO hM _ _ hP hD hS _ (lv_sub hl [0, 1, 2] rfl)
    · have hM := it_n hc_13 hM
      refine lv_aload_n hx hb dX8_lent_13 rfl (lv_at hl 0 rfl) ?_
      refine lv_iload_n hx hb dX8_lent_14 rfl (lv_at hl 1 rfl) ?_
      obtain ⟨x_14, hr_15, hM⟩ := bn_some hM
      refine gv_i (r0 := x_14) (wn := (wO ct aO mO mO64)) (va_runV (As := [.int v1]) (rest := []) ⟨hx, hb, hml, hown, hts⟩ (kX8_isSort l dC dI ct aO _ mO mO64 v1 _ hr_15) (cwV 1 hts gX8_lent_X8_isSort rfl rfl rfl hvX8_isSort ⟨Nat.le_of_ble_eq_true rfl, Nat.le_of_ble_eq_true rfl⟩) (preV_of E0_ok hK hP hD (is := [0, 1, 2, 3, 4, 5, 6, 7, 8, 9, 10, 11, 12, 13, 14, 15, 16, 17, 18, 19, 20, 21, 22, 23, 24, 25]) rfl rfl rfl (ci := 8) rfl 0 rfl e_0) rfl rfl hl.1 rfl (lv_room (Nat.le_of_ble_eq_true rfl)) dX8_lent_15 ⟨Nat.le_of_ble_eq_true rfl, Nat.le_of_ble_eq_true rfl⟩) hP hD hS hA [0, 1, 2, 3, 4, 5, 6, 7, 8, 9, 10, 11, 12, 13, 14, 15, 16, 17, 18, 19, 20, 21, 22, 23, 24, 25] [] [0, 1, 2, 3, 4, 5, 6, 7, 8, 9, 10, 11, 12, 13, 14, 15, 16, 17, 18, 19, 20, 21, 22, 23, 24, 25] rfl rfl rfl (by decide) rfl rfl (fun H locs hP hD hS => ?_)
      refine lv_if_ne (tgt := 23) hx hb dX8_lent_18 (by decide) (fun hc_17 => ?_) (fun hc_17 => ?_)
      · have hM := it_p hc_17 hM
        exact N23 v1 v2 mO hM _ _ hP hD hS _ (lv_sub hl [0, 1, 2] rfl)
      · have hM := it_nn hc_17 hM
        refine lv_iconst (v := -1) hx hb dX8_lent_21 (by decide) ?_
        have hR := som hM
        rw [hR] at hQ
        exact ret_i hQ hx hb hr hlocks hP hK hD hS dX8_lent_22
abbrev rmX8_brought : Room := { frames := 3, cells := 0, slots := 0, locals := 75 }
theorem iwX8_brought_X8 : ∀ w ∈ wsX80, w ∈ wsX8_brought := fun _ h => List.mem_cons_of_mem _ (List.mem_append_right _ (h))
set_option maxHeartbeats 4000000 in
set_option maxRecDepth 100000 in
theorem kX8_brought (l : Launch) (dC : Nat → ClassId) (dI : Nat → Nat → Nat) (ct : Nat → ClassId) (aO : Nat → Nat) (sz : Nat) (mO : Mem) (mO64 : Lem) (v1 : Int32) (res : (Int32 × Mem)) (hM : mX8_brought mO mO64 v1 = some res) : Met l yX8_brought wsX8_brought rmX8_brought (va_Pc [.ref (aO 0), .int v1] (PB (dC, dI) ct E0 sz (wO ct aO mO mO64))) (Qi (dC, dI) ct (va_A (wO ct aO mO mO64) sz) res.1 (wO ct aO res.2 mO64)) 0 0 (va_A (wO ct aO mO mO64) sz) := by
  refine Met.ofW (cc := cX8_brought) (maxL := 2) (ret := (some .int)) (by decide) rfl ?_
  intro p e s m args below meth c s₁ B hml hv
  obtain ⟨hargs, hsz, hP, hK, hD0, hE⟩ := hv
  have hx := B.exec
  have hb := B.bytes
  have hr := B.returns
  have hts := atoms_spec (ws := wsX8_brought) B.pre
  have hown : s.vm.findClass RX8 = some m.cls := findClass_of_methodNamed B.named
  have hlocks := B.notSynchronized
  clear B s₁
  subst hsz
  have hD := hD0.self (sz := s.heap.size)
  clear hD0
  generalize hAe : va_A (wO ct aO mO mO64) s.heap.size = A at hD hE ⊢
  have hA : ∀ q : Nat, s.heap.size ≤ q → A q := fun q h => by rw [← hAe]; exact Or.inr h
  clear hAe
  have hS : va_S A s.heap s.heap [] := va_S.rf
  refine cutQ (fun Q hQ => ?_)
  refine entryW (vs := [.ref (aO 0), .int v1]) hargs (Nat.le_of_ble_eq_true rfl) (fun ls hl => ?_)
  replace hl : lv_has ls 2 [(0, .ref (aO 0)), (1, .int v1)] := hl
  unfold mX8_brought at hM
  refine lv_aload_n hx hb dX8_brought_0 rfl (lv_at hl 0 rfl) ?_
  refine lv_iload_n hx hb dX8_brought_1 rfl (lv_at hl 1 rfl) ?_
  obtain ⟨x_1, hr_2, hM⟩ := bn_some hM
  refine gv_i (r0 := x_1) (wn := (wO ct aO mO mO64)) (va_runV (As := [.int v1]) (rest := []) ⟨hx, hb, hml, hown, hts⟩ (kX8_isNight l dC dI ct aO _ mO mO64 v1 _ hr_2) (cwV 1 hts gX8_brought_X8_isNight rfl rfl rfl hvX8_isNight ⟨Nat.le_of_ble_eq_true rfl, Nat.le_of_ble_eq_true rfl⟩) (preV_of E0_ok hK hP hD (is := [0, 1, 2, 3, 4, 5, 6, 7, 8, 9, 10, 11, 12, 13, 14, 15, 16, 17, 18, 19, 20, 21, 22, 23, 24, 25]) rfl rfl rfl (ci := 8) rfl 0 rfl e_0) rfl rfl hl.1 rfl (lv_room (Nat.le_of_ble_eq_true rfl)) dX8_brought_2 ⟨Nat.le_of_ble_eq_true rfl, Nat.le_of_ble_eq_true rfl⟩) hP hD hS hA [0, 1, 2, 3, 4, 5, 6, 7, 8, 9, 10, 11, 12, 13, 14, 15, 16, 17, 18, 19, 20, 21, 22, 23, 24, 25] [] [0, 1, 2, 3, 4, 5, 6, 7, 8, 9, 10, 11, 12, 13, 14, 15, 16, 17, 18, 19, 20, 21, 22, 23, 24, 25] rfl rfl rfl (by decide) rfl rfl (fun H locs hP hD hS => ?_)
  refine lv_if_ne (tgt := 10) hx hb dX8_brought_5 (by decide) (fun hc_4 => ?_) (fun hc_4 => ?_)
  · have hM := it_p hc_4 hM
    refine lv_aload_n hx hb dX8_brought_10 rfl (lv_at hl 0 rfl) ?_
    refine lv_iload_n hx hb dX8_brought_11 rfl (lv_at hl 1 rfl) ?_
    refine lv_aload_n hx hb dX8_brought_12 rfl (lv_at hl 0 rfl) ?_
    refine va_get (D := (dC, dI)) (ci := 8) (v := .int (mO 0 15)) (C := RX8) (T := TX8) (N := 45) hx hb hts iwX8_brought_X8 hown hK hP 0 rfl rfl 15 (by decide) (hts _ (List.mem_of_getElem? (i := 1) rfl)) (fun _ h9 => h9) rfl dX8_brought_13 ?_
    refine lv_aload_n hx hb dX8_brought_16 rfl (lv_at hl 0 rfl) ?_
    refine va_get (D := (dC, dI)) (ci := 8) (v := .int (mO 0 16)) (C := RX8) (T := TX8) (N := 45) hx hb hts iwX8_brought_X8 hown hK hP 0 rfl rfl 16 (by decide) (hts _ (List.mem_of_getElem? (i := 2) rfl)) (fun _ h9 => h9) rfl dX8_brought_17 ?_
    obtain ⟨mO_5, hr_6, hM⟩ := bn_some hM
    refine gv_v (wn := (wO ct aO mO_5 mO64)) (va_runV (As := [.int v1, .int (mO 0 15), .int (mO 0 16)]) (rest := []) ⟨hx, hb, hml, hown, hts⟩ (kX8_lends l dC dI ct aO _ mO mO64 v1 (mO 0 15) (mO 0 16) _ hr_6) (cwV 3 hts gX8_brought_X8_lends rfl rfl rfl hvX8_lends ⟨Nat.le_of_ble_eq_true rfl, Nat.le_of_ble_eq_true rfl⟩) (preV_of E0_ok hK hP hD (is := [0, 1, 2, 3, 4, 5, 6, 7, 8, 9, 10, 11, 12, 13, 14, 15, 16, 17, 18, 19, 20, 21, 22, 23, 24, 25]) rfl rfl rfl (ci := 8) rfl 0 rfl e_0) rfl rfl hl.1 rfl (lv_room (Nat.le_of_ble_eq_true rfl)) dX8_brought_20 ⟨Nat.le_of_ble_eq_true rfl, Nat.le_of_ble_eq_true rfl⟩) hP hD hS hA [0, 1, 2, 3, 4, 5, 6, 7, 8, 9, 10, 11, 12, 13, 14, 15, 16, 17, 18, 19, 20, 21, 22, 23, 24, 25] [] [0, 1, 2, 3, 4, 5, 6, 7, 8, 9, 10, 11, 12, 13, 14, 15, 16, 17, 18, 19, 20, 21, 22, 23, 24, 25] rfl rfl rfl (by decide) rfl rfl (fun H locs hP hD hS => ?_)
    refine lv_aload_n hx hb dX8_brought_23 rfl (lv_at hl 0 rfl) ?_
    obtain ⟨x_8, hr_9, hM⟩ := bn_some hM
    refine gv_i (r0 := x_8) (wn := (wO ct aO mO_5 mO64)) (va_runV (As := []) (rest := []) ⟨hx, hb, hml, hown, hts⟩ (kX8_yields l dC dI ct aO _ mO_5 mO64 _ hr_9) (cwV 0 hts gX8_brought_X8_yields rfl rfl rfl hvX8_yields ⟨Nat.le_of_ble_eq_true rfl, Nat.le_of_ble_eq_true rfl⟩) (preV_of E0_ok hK hP hD (is := [0, 1, 2, 3, 4, 5, 6, 7, 8, 9, 10, 11, 12, 13, 14, 15, 16, 17, 18, 19, 20, 21, 22, 23, 24, 25]) rfl rfl rfl (ci := 8) rfl 0 rfl e_0) rfl rfl hl.1 rfl (lv_room (Nat.le_of_ble_eq_true rfl)) dX8_brought_24 ⟨Nat.le_of_ble_eq_true rfl, Nat.le_of_ble_eq_true rfl⟩) hP hD hS hA [0, 1, 2, 3, 4, 5, 6, 7, 8, 9, 10, 11, 12, 13, 14, 15, 16, 17, 18, 19, 20, 21, 22, 23, 24, 25] [] [0, 1, 2, 3, 4, 5, 6, 7, 8, 9, 10, 11, 12, 13, 14, 15, 16, 17, 18, 19, 20, 21, 22, 23, 24, 25] rfl rfl rfl (by decide) rfl rfl (fun H locs hP hD hS => ?_)
    have hR := som hM
    rw [hR] at hQ
    exact ret_i hQ hx hb hr hlocks hP hK hD hS dX8_brought_27
  · have hM := it_nn hc_4 hM
    refine lv_iconst (v := -1) hx hb dX8_brought_8 (by decide) ?_
    have hR := som hM
    rw [hR] at hQ
    exact ret_i hQ hx hb hr hlocks hP hK hD hS dX8_brought_9
abbrev rmX8_moonOf : Room := { frames := 3, cells := 0, slots := 0, locals := 75 }
theorem iwX8_moonOf_X8 : ∀ w ∈ wsX80, w ∈ wsX8_moonOf := fun _ h => List.mem_cons_of_mem _ (List.mem_append_right _ (h))
set_option maxHeartbeats 4000000 in
set_option maxRecDepth 100000 in
theorem kX8_moonOf (l : Launch) (dC : Nat → ClassId) (dI : Nat → Nat → Nat) (ct : Nat → ClassId) (aO : Nat → Nat) (sz : Nat) (mO : Mem) (mO64 : Lem) (v1 : Int32) (v2 : Int32) (v3 : Int32) (res : (Int32 × Mem)) (hM : mX8_moonOf mO mO64 v1 v2 v3 = some res) : Met l yX8_moonOf wsX8_moonOf rmX8_moonOf (va_Pc [.ref (aO 0), .int v1, .int v2, .int v3] (PB (dC, dI) ct E0 sz (wO ct aO mO mO64))) (Qi (dC, dI) ct (va_A (wO ct aO mO mO64) sz) res.1 (wO ct aO res.2 mO64)) 0 0 (va_A (wO ct aO mO mO64) sz) := by
  refine Met.ofW (cc := cX8_moonOf) (maxL := 6) (ret := (some .int)) (by decide) rfl ?_
  intro p e s m args below meth c s₁ B hml hv
  obtain ⟨hargs, hsz, hP, hK, hD0, hE⟩ := hv
  have hx := B.exec
  have hb := B.bytes
  have hr := B.returns
  have hts := atoms_spec (ws := wsX8_moonOf) B.pre
  have hown : s.vm.findClass RX8 = some m.cls := findClass_of_methodNamed B.named
  have hlocks := B.notSynchronized
  clear B s₁
  subst hsz
  have hD := hD0.self (sz := s.heap.size)
  clear hD0
  generalize hAe : va_A (wO ct aO mO mO64) s.heap.size = A at hD hE ⊢
  have hA : ∀ q : Nat, s.heap.size ≤ q → A q := fun q h => by rw [← hAe]; exact Or.inr h
  clear hAe
  have hS : va_S A s.heap s.heap [] := va_S.rf
  refine cutQ (fun Q hQ => ?_)
  refine entryW (vs := [.ref (aO 0), .int v1, .int v2, .int v3]) hargs (Nat.le_of_ble_eq_true rfl) (fun ls hl => ?_)
  replace hl : lv_has ls 6 [(0, .ref (aO 0)), (1, .int v1), (2, .int v2), (3, .int v3)] := hl
  unfold mX8_moonOf at hM
  have N6 : ∀ (v1 : Int32) (v2 : Int32) (v3 : Int32) (v4 : Int32) (v5 : Int32) (mO : Mem), mX8_moonOf_L6 v1 v2 v3 v4 v5 mO mO64 = some res → ∀ (H : Heap) (locs : List Loc), va_P (dC, dI) vwCl (wO ct aO mO mO64) H → va_D A (wO ct aO mO mO64) → va_S A s.heap H locs → ∀ ls : Array Slot, lv_has ls 6 [(0, .ref (aO 0)), (1, .int v1), (2, .int v2), (3, .int v3), (4, .int v4), (5, .int v5)] → W p l e (headSpec wsX8_moonOf rmX8_moonOf).room s m args below meth c H locs 0 0 Q (F0 m 6 ls []) := by
    intro v1 v2 v3 v4 v5 mO hM H locs hP hD hS ls hl
    unfold mX8_moonOf_L6 at hM
    obtain ⟨ex6, hit6, hM⟩ := bn_some hM
    have X6_0 : ∀ (v4 : Int32) (mO : Mem), ex6 = (v4, mO) → ∀ (H : Heap) (locs : List Loc), va_P (dC, dI) vwCl (wO ct aO mO mO64) H → va_D A (wO ct aO mO mO64) → va_S A s.heap H locs → ∀ ls : Array Slot, lv_has ls 6 [(4, .int v4)] → W p l e (headSpec wsX8_moonOf rmX8_moonOf).room s m args below meth c H locs 0 0 Q (F0 m 49 ls []) := by
      intro v4 mO hex H locs hP hD hS ls hl
      rw [hex] at hM
      have hM := nm_at (y := v4) rfl hM
      have hM := nm_at (y := mO) rfl hM
      refine lv_iload hx hb dX8_moonOf_49 (lv_at hl 0 rfl) ?_
      have hR := som hM
      rw [hR] at hQ
      exact ret_i hQ hx hb hr hlocks hP hK hD hS dX8_moonOf_51
    have I6 : ∀ (n : Nat) (v4 : Int32) (v5 : Int32) (mO : Mem), itr (fun q => mX8_moonOf_s6 v1 v2 v3 mO64 q.1 q.2.1 q.2.2) n (v4, v5, mO) = some ex6 → ∀ (H : Heap) (locs : List Loc), va_P (dC, dI) vwCl (wO ct aO mO mO64) H → va_D A (wO ct aO mO mO64) → va_S A s.heap H locs → ∀ ls : Array Slot, lv_has ls 6 [(0, .ref (aO 0)), (1, .int v1), (2, .int v2), (3, .int v3), (4, .int v4), (5, .int v5)] → W p l e (headSpec wsX8_moonOf rmX8_moonOf).room s m args below meth c H locs 0 0 Q (F0 m 6 ls []) := by
      intro n
      induction n with
      | zero => intro v4 v5 mO hit; exact (itr_zero hit).elim
      | succ n ih6 =>
        intro v4 v5 mO hit H locs hP hD hS ls hl
        obtain ⟨o6, hM, hbk6, hex6⟩ := itr_succ hit
        replace hM : mX8_moonOf_s6 v1 v2 v3 mO64 v4 v5 mO = some o6 := hM
        have N40 : ∀ (v5 : Int32) (t0 : Int32) (t1 : Int32) (mO : Mem), mX8_moonOf_j40 v1 v2 v3 v5 t0 t1 mO mO64 = some o6 → ∀ (H : Heap) (locs : List Loc), va_P (dC, dI) vwCl (wO ct aO mO mO64) H → va_D A (wO ct aO mO mO64) → va_S A s.heap H locs → ∀ ls : Array Slot, lv_has ls 6 [(0, .ref (aO 0)), (1, .int v1), (2, .int v2), (3, .int v3), (5, .int v5)] → W p l e (headSpec wsX8_moonOf rmX8_moonOf).room s m args below meth c H locs 0 0 Q (F0 m 40 ls [.int t1, .int t0]) := by
          intro v5 t0 t1 mO hM H locs hP hD hS ls hl
          unfold mX8_moonOf_j40 at hM
          refine lv_iadd hx hb dX8_moonOf_40 ?_
          refine lv_topi (fun x_1 ex_1 => ?_)
          have hM := nm_at ex_1 hM
          refine lv_istore (lv' := [(4, .int x_1), (0, .ref (aO 0)), (1, .int v1), (2, .int v2), (3, .int v3), (5, .int v5)]) hx hb dX8_moonOf_41 hl (by decide) rfl (fun ls hl => ?_)
          obtain ⟨x_2, ex_2⟩ : ∃ y : Int32, y = (v5 + (1 : Int32)) := ⟨_, rfl⟩
          have hM := nm_at ex_2 hM
          refine lv_iinc (v := x_2) (lv' := [(5, .int x_2), (4, .int x_1), (0, .ref (aO 0)), (1, .int v1), (2, .int v2), (3, .int v3)]) hx hb dX8_moonOf_43 hl (k := 5) rfl (by rw [ex_2]; rfl) (by decide) rfl (fun ls hl => ?_)
          refine lv_goto (tgt := 6) hx hb dX8_moonOf_46 (by decide) ?_
          have hR := som hM
          exact ih6 x_1 x_2 mO (hbk6 _ hR) _ _ hP hD hS _ (lv_sub hl [2, 3, 4, 5, 1, 0] rfl)
        unfold mX8_moonOf_s6 at hM
        refine lv_iload hx hb dX8_moonOf_6 (lv_at hl 5 rfl) ?_
        refine lv_aload_n hx hb dX8_moonOf_8 rfl (lv_at hl 0 rfl) ?_
        refine va_get (D := (dC, dI)) (ci := 8) (v := .int (mO 0 13)) (C := RX8) (T := TX8) (N := 45) hx hb hts iwX8_moonOf_X8 hown hK hP 0 rfl rfl 13 (by decide) (hts _ (List.mem_of_getElem? (i := 1) rfl)) (fun _ h9 => h9) rfl dX8_moonOf_9 ?_
        refine lv_icmp_ge (tgt := 49) hx hb dX8_moonOf_12 (by decide) (fun hc_3 => ?_) (fun hc_3 => ?_)
        · have hM := it_p hc_3 hM
          have hR := som hM
          exact X6_0 v4 mO (hex6 _ hR).symm _ _ hP hD hS _ (lv_sub hl [4] rfl)
        · have hM := it_n hc_3 hM
          refine lv_aload_n hx hb dX8_moonOf_15 rfl (lv_at hl 0 rfl) ?_
          refine lv_iload hx hb dX8_moonOf_16 (lv_at hl 5 rfl) ?_
          refine lv_iload_n hx hb dX8_moonOf_18 rfl (lv_at hl 1 rfl) ?_
          refine lv_iload_n hx hb dX8_moonOf_19 rfl (lv_at hl 2 rfl) ?_
          obtain ⟨mO_4, hr_5, hM⟩ := bn_some hM
          refine gv_v (wn := (wO ct aO mO_4 mO64)) (va_runV (As := [.int v5, .int v1, .int v2]) (rest := []) ⟨hx, hb, hml, hown, hts⟩ (kX8_lends l dC dI ct aO _ mO mO64 v5 v1 v2 _ hr_5) (cwV 3 hts gX8_moonOf_X8_lends rfl rfl rfl hvX8_lends ⟨Nat.le_of_ble_eq_true rfl, Nat.le_of_ble_eq_true rfl⟩) (preV_of E0_ok hK hP hD (is := [0, 1, 2, 3, 4, 5, 6, 7, 8, 9, 10, 11, 12, 13, 14, 15, 16, 17, 18, 19, 20, 21, 22, 23, 24, 25]) rfl rfl rfl (ci := 8) rfl 0 rfl e_0) rfl rfl hl.1 rfl (lv_room (Nat.le_of_ble_eq_true rfl)) dX8_moonOf_20 ⟨Nat.le_of_ble_eq_true rfl, Nat.le_of_ble_eq_true rfl⟩) hP hD hS hA [0, 1, 2, 3, 4, 5, 6, 7, 8, 9, 10, 11, 12, 13, 14, 15, 16, 17, 18, 19, 20, 21, 22, 23, 24, 25] [] [0, 1, 2, 3, 4, 5, 6, 7, 8, 9, 10, 11, 12, 13, 14, 15, 16, 17, 18, 19, 20, 21, 22, 23, 24, 25] rfl rfl rfl (by decide) rfl rfl (fun H locs hP hD hS => ?_)
          refine lv_iload hx hb dX8_moonOf_23 (lv_at hl 4 rfl) ?_
          refine lv_iload_n hx hb dX8_moonOf_25 rfl (lv_at hl 3 rfl) ?_
          refine lv_if_eq (tgt := 36) hx hb dX8_moonOf_26 (by decide) (fun hc_7 => ?_) (fun hc_7 => ?_)
          · have hM := it_p hc_7 hM
            refine lv_aload_n hx hb dX8_moonOf_36 rfl (lv_at hl 0 rfl) ?_
            obtain ⟨x_8, hr_9, hM⟩ := bn_some hM
            refine gv_i (r0 := x_8) (wn := (wO ct aO mO_4 mO64)) (va_runV (As := []) (rest := [.int v4]) ⟨hx, hb, hml, hown, hts⟩ (kX8_sown l dC dI ct aO _ mO_4 mO64 _ hr_9) (cwV 0 hts gX8_moonOf_X8_sown rfl rfl rfl hvX8_sown ⟨Nat.le_of_ble_eq_true rfl, Nat.le_of_ble_eq_true rfl⟩) (preV_of E0_ok hK hP hD (is := [0, 1, 2, 3, 4, 5, 6, 7, 8, 9, 10, 11, 12, 13, 14, 15, 16, 17, 18, 19, 20, 21, 22, 23, 24, 25]) rfl rfl rfl (ci := 8) rfl 0 rfl e_0) rfl rfl hl.1 rfl (lv_room (Nat.le_of_ble_eq_true rfl)) dX8_moonOf_37 ⟨Nat.le_of_ble_eq_true rfl, Nat.le_of_ble_eq_true rfl⟩) hP hD hS hA [0, 1, 2, 3, 4, 5, 6, 7, 8, 9, 10, 11, 12, 13, 14, 15, 16, 17, 18, 19, 20, 21, 22, 23, 24, 25] [] [0, 1, 2, 3, 4, 5, 6, 7, 8, 9, 10, 11, 12, 13, 14, 15, 16, 17, 18, 19, 20, 21, 22, 23, 24, 25] rfl rfl rfl (by decide) rfl rfl (fun H locs hP hD hS => ?_)
            exact N40 v5 v4 x_8 mO_4 hM _ _ hP hD hS _ (lv_sub hl [0, 1, 2, 3, 5] rfl)
          · have hM := it_n hc_7 hM
            refine lv_aload_n hx hb dX8_moonOf_29 rfl (lv_at hl 0 rfl) ?_
            obtain ⟨x_11, hr_12, hM⟩ := bn_some hM
            refine gv_i (r0 := x_11) (wn := (wO ct aO mO_4 mO64)) (va_runV (As := []) (rest := [.int v4]) ⟨hx, hb, hml, hown, hts⟩ (kX8_yields l dC dI ct aO _ mO_4 mO64 _ hr_12) (cwV 0 hts gX8_moonOf_X8_yields rfl rfl rfl hvX8_yields ⟨Nat.le_of_ble_eq_true rfl, Nat.le_of_ble_eq_true rfl⟩) (preV_of E0_ok hK hP hD (is := [0, 1, 2, 3, 4, 5, 6, 7, 8, 9, 10, 11, 12, 13, 14, 15, 16, 17, 18, 19, 20, 21, 22, 23, 24, 25]) rfl rfl rfl (ci := 8) rfl 0 rfl e_0) rfl rfl hl.1 rfl (lv_room (Nat.le_of_ble_eq_true rfl)) dX8_moonOf_30 ⟨Nat.le_of_ble_eq_true rfl, Nat.le_of_ble_eq_true rfl⟩) hP hD hS hA [0, 1, 2, 3, 4, 5, 6, 7, 8, 9, 10, 11, 12, 13, 14, 15, 16, 17, 18, 19, 20, 21, 22, 23, 24, 25] [] [0, 1, 2, 3, 4, 5, 6, 7, 8, 9, 10, 11, 12, 13, 14, 15, 16, 17, 18, 19, 20, 21, 22, 23, 24, 25] rfl rfl rfl (by decide) rfl rfl (fun H locs hP hD hS => ?_)
            refine lv_goto (tgt := 40) hx hb dX8_moonOf_33 (by decide) ?_
            exact N40 v5 v4 x_11 mO_4 hM _ _ hP hD hS _ (lv_sub hl [0, 1, 2, 3, 5] rfl)
    exact I6 FU v4 v5 mO hit6 _ _ hP hD hS _ hl
  refine lv_iconst (v := 0) hx hb dX8_moonOf_0 (by decide) ?_
  refine lv_istore (lv' := [(4, .int (0 : Int32)), (0, .ref (aO 0)), (1, .int v1), (2, .int v2), (3, .int v3)]) hx hb dX8_moonOf_1 hl (by decide) rfl (fun ls hl => ?_)
  refine lv_iconst (v := 0) hx hb dX8_moonOf_3 (by decide) ?_
  refine lv_istore (lv' := [(5, .int (0 : Int32)), (4, .int (0 : Int32)), (0, .ref (aO 0)), (1, .int v1), (2, .int v2), (3, .int v3)]) hx hb dX8_moonOf_4 hl (by decide) rfl (fun ls hl => ?_)
  exact N6 v1 v2 v3 (0 : Int32) (0 : Int32) mO hM _ _ hP hD hS _ (lv_sub hl [2, 3, 4, 5, 1, 0] rfl)
abbrev rmX8_moon : Room := { frames := 4, cells := 0, slots := 0, locals := 100 }
theorem iwX8_moon_X8 : ∀ w ∈ wsX80, w ∈ wsX8_moon := fun _ h => List.mem_cons_of_mem _ (List.mem_append_right _ (h))
set_option maxHeartbeats 4000000 in
set_option maxRecDepth 100000 in
theorem kX8_moon (l : Launch) (dC : Nat → ClassId) (dI : Nat → Nat → Nat) (ct : Nat → ClassId) (aO : Nat → Nat) (sz : Nat) (mO : Mem) (mO64 : Lem) (v1 : Int32) (v2 : Int32) (v3 : Int32) (res : (Int32 × Mem)) (hM : mX8_moon mO mO64 v1 v2 v3 = some res) : Met l yX8_moon wsX8_moon rmX8_moon (va_Pc [.ref (aO 0), .int v1, .int v2, .int v3] (PB (dC, dI) ct E0 sz (wO ct aO mO mO64))) (Qi (dC, dI) ct (va_A (wO ct aO mO mO64) sz) res.1 (wO ct aO res.2 mO64)) 0 0 (va_A (wO ct aO mO mO64) sz) := by
  refine Met.ofW (cc := cX8_moon) (maxL := 4) (ret := (some .int)) (by decide) rfl ?_
  intro p e s m args below meth c s₁ B hml hv
  obtain ⟨hargs, hsz, hP, hK, hD0, hE⟩ := hv
  have hx := B.exec
  have hb := B.bytes
  have hr := B.returns
  have hts := atoms_spec (ws := wsX8_moon) B.pre
  have hown : s.vm.findClass RX8 = some m.cls := findClass_of_methodNamed B.named
  have hlocks := B.notSynchronized
  clear B s₁
  subst hsz
  have hD := hD0.self (sz := s.heap.size)
  clear hD0
  generalize hAe : va_A (wO ct aO mO mO64) s.heap.size = A at hD hE ⊢
  have hA : ∀ q : Nat, s.heap.size ≤ q → A q := fun q h => by rw [← hAe]; exact Or.inr h
  clear hAe
  have hS : va_S A s.heap s.heap [] := va_S.rf
  refine cutQ (fun Q hQ => ?_)
  refine entryW (vs := [.ref (aO 0), .int v1, .int v2, .int v3]) hargs (Nat.le_of_ble_eq_true rfl) (fun ls hl => ?_)
  replace hl : lv_has ls 4 [(0, .ref (aO 0)), (1, .int v1), (2, .int v2), (3, .int v3)] := hl
  unfold mX8_moon at hM
  have N37 : ∀ (t1 : Int32) (t2 : Int32) (t3 : Int32) (mO : Mem), mX8_moon_j37 t1 t2 t3 mO mO64 = some res → ∀ (H : Heap) (locs : List Loc), va_P (dC, dI) vwCl (wO ct aO mO mO64) H → va_D A (wO ct aO mO mO64) → va_S A s.heap H locs → ∀ ls : Array Slot, lv_has ls 4 [] → W p l e (headSpec wsX8_moon rmX8_moon).room s m args below meth c H locs 0 0 Q (F0 m 37 ls [.int t3, .int t2, .int t1, .ref (aO 0)]) := by
    intro t1 t2 t3 mO hM H locs hP hD hS ls hl
    unfold mX8_moon_j37 at hM
    obtain ⟨q_4, hr_3, hM⟩ := bn_some hM
    obtain ⟨x_1, mO_2⟩ := q_4
    have hM := nm_at (y := x_1) rfl hM
    have hM := nm_at (y := mO_2) rfl hM
    refine gv_i (r0 := x_1) (wn := (wO ct aO mO_2 mO64)) (va_runV (As := [.int t1, .int t2, .int t3]) (rest := []) ⟨hx, hb, hml, hown, hts⟩ (kX8_moonOf l dC dI ct aO _ mO mO64 t1 t2 t3 _ hr_3) (cwV 3 hts gX8_moon_X8_moonOf rfl rfl rfl hvX8_moonOf ⟨Nat.le_of_ble_eq_true rfl, Nat.le_of_ble_eq_true rfl⟩) (preV_of E0_ok hK hP hD (is := [0, 1, 2, 3, 4, 5, 6, 7, 8, 9, 10, 11, 12, 13, 14, 15, 16, 17, 18, 19, 20, 21, 22, 23, 24, 25]) rfl rfl rfl (ci := 8) rfl 0 rfl e_0) rfl rfl hl.1 rfl (lv_room (Nat.le_of_ble_eq_true rfl)) dX8_moon_37 ⟨Nat.le_of_ble_eq_true rfl, Nat.le_of_ble_eq_true rfl⟩) hP hD hS hA [0, 1, 2, 3, 4, 5, 6, 7, 8, 9, 10, 11, 12, 13, 14, 15, 16, 17, 18, 19, 20, 21, 22, 23, 24, 25] [] [0, 1, 2, 3, 4, 5, 6, 7, 8, 9, 10, 11, 12, 13, 14, 15, 16, 17, 18, 19, 20, 21, 22, 23, 24, 25] rfl rfl rfl (by decide) rfl rfl (fun H locs hP hD hS => ?_)
    refine lv_goto (tgt := 44) hx hb dX8_moon_40 (by decide) ?_
    have hR := som hM
    rw [hR] at hQ
    exact ret_i hQ hx hb hr hlocks hP hK hD hS dX8_moon_44
  refine lv_aload_n hx hb dX8_moon_0 rfl (lv_at hl 0 rfl) ?_
  refine va_get (D := (dC, dI)) (ci := 8) (v := .int (mO 0 18)) (C := RX8) (T := TX8) (N := 45) hx hb hts iwX8_moon_X8 hown hK hP 0 rfl rfl 18 (by decide) (hts _ (List.mem_of_getElem? (i := 1) rfl)) (fun _ h9 => h9) rfl dX8_moon_1 ?_
  refine lv_if_le (tgt := 43) hx hb dX8_moon_4 (by decide) (fun hc_5 => ?_) (fun hc_5 => ?_)
  · have hM := it_p hc_5 hM
    refine lv_iconst (v := -1) hx hb dX8_moon_43 (by decide) ?_
    have hR := som hM
    rw [hR] at hQ
    exact ret_i hQ hx hb hr hlocks hP hK hD hS dX8_moon_44
  · have hM := it_n hc_5 hM
    refine lv_iload_n hx hb dX8_moon_7 rfl (lv_at hl 1 rfl) ?_
    refine lv_iload_n hx hb dX8_moon_8 rfl (lv_at hl 2 rfl) ?_
    obtain ⟨x_6, hr_7, hM⟩ := bn_some hM
    refine gv_i (r0 := x_6) (wn := (wO ct aO mO mO64)) (va_runS (As := [.int v1, .int v2]) (rest := []) ⟨hx, hb, hml, hown, hts⟩ (kX8_isLaw l dC dI ct _ v1 v2 _ hr_7) (va_cwS 2 hts gX8_moon_X8_isLaw rfl rfl rfl hvX8_isLaw.2 ⟨Nat.le_of_ble_eq_true rfl, Nat.le_of_ble_eq_true rfl⟩) (preS_of E0_ok hK hP hD (is := []) rfl rfl e_0) rfl rfl hl.1 rfl (lv_room (Nat.le_of_ble_eq_true rfl)) dX8_moon_9 ⟨Nat.le_of_ble_eq_true rfl, Nat.le_of_ble_eq_true rfl⟩) hP hD hS hA [] [0, 1, 2, 3, 4, 5, 6, 7, 8, 9, 10, 11, 12, 13, 14, 15, 16, 17, 18, 19, 20, 21, 22, 23, 24, 25] [0, 1, 2, 3, 4, 5, 6, 7, 8, 9, 10, 11, 12, 13, 14, 15, 16, 17, 18, 19, 20, 21, 22, 23, 24, 25] rfl rfl rfl (by decide) rfl rfl (fun H locs hP hD hS => ?_)
    refine lv_if_eq (tgt := 43) hx hb dX8_moon_12 (by decide) (fun hc_9 => ?_) (fun hc_9 => ?_)
    · have hM := it_p hc_9 hM
      refine lv_iconst (v := -1) hx hb dX8_moon_43 (by decide) ?_
      have hR := som hM
      rw [hR] at hQ
      exact ret_i hQ hx hb hr hlocks hP hK hD hS dX8_moon_44
    · have hM := it_n hc_9 hM
      refine lv_iload_n hx hb dX8_moon_15 rfl (lv_at hl 3 rfl) ?_
      refine lv_iconst (v := 0) hx hb dX8_moon_16 (by decide) ?_
      refine lv_iconst (v := 1) hx hb dX8_moon_17 (by decide) ?_
      obtain ⟨x_10, hr_11, hM⟩ := bn_some hM
      refine gv_i (r0 := x_10) (wn := (wO ct aO mO mO64)) (va_runS (As := [.int v3, .int (0 : Int32), .int (1 : Int32)]) (rest := []) ⟨hx, hb, hml, hown, hts⟩ (kX8_in l dC dI ct _ v3 (0 : Int32) (1 : Int32) _ hr_11) (va_cwS 3 hts gX8_moon_X8_in rfl rfl rfl hvX8_in.2 ⟨Nat.le_of_ble_eq_true rfl, Nat.le_of_ble_eq_true rfl⟩) (preS_of E0_ok hK hP hD (is := []) rfl rfl e_0) rfl rfl hl.1 rfl (lv_room (Nat.le_of_ble_eq_true rfl)) dX8_moon_18 ⟨Nat.le_of_ble_eq_true rfl, Nat.le_of_ble_eq_true rfl⟩) hP hD hS hA [] [0, 1, 2, 3, 4, 5, 6, 7, 8, 9, 10, 11, 12, 13, 14, 15, 16, 17, 18, 19, 20, 21, 22, 23, 24, 25] [0, 1, 2, 3, 4, 5, 6, 7, 8, 9, 10, 11, 12, 13, 14, 15, 16, 17, 18, 19, 20, 21, 22, 23, 24, 25] rfl rfl rfl (by decide) rfl rfl (fun H locs hP hD hS => ?_)
      refine lv_if_eq (tgt := 43) hx hb dX8_moon_21 (by decide) (fun hc_13 => ?_) (fun hc_13 => ?_)
      · have hM := it_p hc_13 hM
        refine lv_iconst (v := -1) hx hb dX8_moon_43 (by decide) ?_
        have hR := som hM
        rw [hR] at hQ
        exact ret_i hQ hx hb hr hlocks hP hK hD hS dX8_moon_44
      · have hM := it_n hc_13 hM
        refine lv_aload_n hx hb dX8_moon_24 rfl (lv_at hl 0 rfl) ?_
        refine lv_iload_n hx hb dX8_moon_25 rfl (lv_at hl 1 rfl) ?_
        refine lv_iload_n hx hb dX8_moon_26 rfl (lv_at hl 2 rfl) ?_
        refine lv_iload_n hx hb dX8_moon_27 rfl (lv_at hl 3 rfl) ?_
        refine lv_iconst (v := 1) hx hb dX8_moon_28 (by decide) ?_
        refine lv_icmp_ne (tgt := 36) hx hb dX8_moon_29 (by decide) (fun hc_14 => ?_) (fun hc_14 => ?_)
        · have hM := it_p hc_14 hM
          refine lv_iconst (v := 0) hx hb dX8_moon_36 (by decide) ?_
          exact N37 v1 v2 (0 : Int32) mO hM _ _ hP hD hS _ (lv_sub hl [] rfl)
        · have hM := it_nn hc_14 hM
          refine lv_iconst (v := 1) hx hb dX8_moon_32 (by decide) ?_
          refine lv_goto (tgt := 37) hx hb dX8_moon_33 (by decide) ?_
          exact N37 v1 v2 (1 : Int32) mO hM _ _ hP hD hS _ (lv_sub hl [] rfl)
abbrev rmX8_best : Room := { frames := 4, cells := 0, slots := 0, locals := 100 }
theorem iwX8_best_X8 : ∀ w ∈ wsX80, w ∈ wsX8_best := fun _ h => List.mem_cons_of_mem _ (List.mem_append_right _ (h))
set_option maxHeartbeats 4000000 in
set_option maxRecDepth 100000 in
theorem kX8_best (l : Launch) (dC : Nat → ClassId) (dI : Nat → Nat → Nat) (ct : Nat → ClassId) (aO : Nat → Nat) (sz : Nat) (mO : Mem) (mO64 : Lem) (v1 : Int32) (res : (Int32 × Mem)) (hM : mX8_best mO mO64 v1 = some res) : Met l yX8_best wsX8_best rmX8_best (va_Pc [.ref (aO 0), .int v1] (PB (dC, dI) ct E0 sz (wO ct aO mO mO64))) (Qi (dC, dI) ct (va_A (wO ct aO mO mO64) sz) res.1 (wO ct aO res.2 mO64)) 0 0 (va_A (wO ct aO mO mO64) sz) := by
  refine Met.ofW (cc := cX8_best) (maxL := 8) (ret := (some .int)) (by decide) rfl ?_
  intro p e s m args below meth c s₁ B hml hv
  obtain ⟨hargs, hsz, hP, hK, hD0, hE⟩ := hv
  have hx := B.exec
  have hb := B.bytes
  have hr := B.returns
  have hts := atoms_spec (ws := wsX8_best) B.pre
  have hown : s.vm.findClass RX8 = some m.cls := findClass_of_methodNamed B.named
  have hlocks := B.notSynchronized
  clear B s₁
  subst hsz
  have hD := hD0.self (sz := s.heap.size)
  clear hD0
  generalize hAe : va_A (wO ct aO mO mO64) s.heap.size = A at hD hE ⊢
  have hA : ∀ q : Nat, s.heap.size ≤ q → A q := fun q h => by rw [← hAe]; exact Or.inr h
  clear hAe
  have hS : va_S A s.heap s.heap [] := va_S.rf
  refine cutQ (fun Q hQ => ?_)
  refine entryW (vs := [.ref (aO 0), .int v1]) hargs (Nat.le_of_ble_eq_true rfl) (fun ls hl => ?_)
  replace hl : lv_has ls 8 [(0, .ref (aO 0)), (1, .int v1)] := hl
  unfold mX8_best at hM
  have N28 : ∀ (v1 : Int32) (v2 : Int32) (v3 : Int32) (v4 : Int32) (v5 : Int32) (mO : Mem), mX8_best_L28 v1 v2 v3 v4 v5 mO mO64 = some res → ∀ (H : Heap) (locs : List Loc), va_P (dC, dI) vwCl (wO ct aO mO mO64) H → va_D A (wO ct aO mO mO64) → va_S A s.heap H locs → ∀ ls : Array Slot, lv_has ls 8 [(0, .ref (aO 0)), (1, .int v1), (2, .int v2), (3, .int v3), (4, .int v4), (5, .int v5)] → W p l e (headSpec wsX8_best rmX8_best).room s m args below meth c H locs 0 0 Q (F0 m 28 ls []) := by
    intro v1 v2 v3 v4 v5 mO hM H locs hP hD hS ls hl
    unfold mX8_best_L28 at hM
    obtain ⟨ex28, hit28, hM⟩ := bn_some hM
    have X28_0 : ∀ (v2 : Int32) (v3 : Int32) (v4 : Int32) (mO : Mem), ex28 = (v2, v3, v4, mO) → ∀ (H : Heap) (locs : List Loc), va_P (dC, dI) vwCl (wO ct aO mO mO64) H → va_D A (wO ct aO mO mO64) → va_S A s.heap H locs → ∀ ls : Array Slot, lv_has ls 8 [(1, .int v1), (2, .int v2), (3, .int v3), (4, .int v4)] → W p l e (headSpec wsX8_best rmX8_best).room s m args below meth c H locs 0 0 Q (F0 m 88 ls []) := by
      intro v2 v3 v4 mO hex H locs hP hD hS ls hl
      rw [hex] at hM
      have hM := nm_at (y := v2) rfl hM
      have hM := nm_at (y := v3) rfl hM
      have hM := nm_at (y := v4) rfl hM
      have hM := nm_at (y := mO) rfl hM
      refine lv_iload_n hx hb dX8_best_88 rfl (lv_at hl 0 rfl) ?_
      refine lv_if_ne (tgt := 96) hx hb dX8_best_89 (by decide) (fun hc_1 => ?_) (fun hc_1 => ?_)
      · have hM := it_p hc_1 hM
        refine lv_iload_n hx hb dX8_best_96 rfl (lv_at hl 0 rfl) ?_
        refine lv_iconst (v := 1) hx hb dX8_best_97 (by decide) ?_
        refine lv_icmp_ne (tgt := 105) hx hb dX8_best_98 (by decide) (fun hc_2 => ?_) (fun hc_2 => ?_)
        · have hM := it_p hc_2 hM
          refine lv_iload hx hb dX8_best_105 (lv_at hl 3 rfl) ?_
          have hR := som hM
          rw [hR] at hQ
          exact ret_i hQ hx hb hr hlocks hP hK hD hS dX8_best_107
        · have hM := it_nn hc_2 hM
          refine lv_iload_n hx hb dX8_best_101 rfl (lv_at hl 2 rfl) ?_
          refine lv_goto (tgt := 107) hx hb dX8_best_102 (by decide) ?_
          have hR := som hM
          rw [hR] at hQ
          exact ret_i hQ hx hb hr hlocks hP hK hD hS dX8_best_107
      · have hM := it_nn hc_1 hM
        refine lv_iload_n hx hb dX8_best_92 rfl (lv_at hl 1 rfl) ?_
        refine lv_goto (tgt := 107) hx hb dX8_best_93 (by decide) ?_
        have hR := som hM
        rw [hR] at hQ
        exact ret_i hQ hx hb hr hlocks hP hK hD hS dX8_best_107
    have I28 : ∀ (n : Nat) (v2 : Int32) (v3 : Int32) (v4 : Int32) (v5 : Int32) (mO : Mem), itr (fun q => mX8_best_s28 v1 mO64 q.1 q.2.1 q.2.2.1 q.2.2.2.1 q.2.2.2.2) n (v2, v3, v4, v5, mO) = some ex28 → ∀ (H : Heap) (locs : List Loc), va_P (dC, dI) vwCl (wO ct aO mO mO64) H → va_D A (wO ct aO mO mO64) → va_S A s.heap H locs → ∀ ls : Array Slot, lv_has ls 8 [(0, .ref (aO 0)), (1, .int v1), (2, .int v2), (3, .int v3), (4, .int v4), (5, .int v5)] → W p l e (headSpec wsX8_best rmX8_best).room s m args below meth c H locs 0 0 Q (F0 m 28 ls []) := by
      intro n
      induction n with
      | zero => intro v2 v3 v4 v5 mO hit; exact (itr_zero hit).elim
      | succ n ih28 =>
        intro v2 v3 v4 v5 mO hit H locs hP hD hS ls hl
        obtain ⟨o28, hM, hbk28, hex28⟩ := itr_succ hit
        replace hM : mX8_best_s28 v1 mO64 v2 v3 v4 v5 mO = some o28 := hM
        have N38 : ∀ (v2 : Int32) (v3 : Int32) (v4 : Int32) (v5 : Int32) (v6 : Int32) (mO : Mem), mX8_best_L38 v1 v2 v3 v4 v5 v6 mO mO64 = some o28 → ∀ (H : Heap) (locs : List Loc), va_P (dC, dI) vwCl (wO ct aO mO mO64) H → va_D A (wO ct aO mO mO64) → va_S A s.heap H locs → ∀ ls : Array Slot, lv_has ls 8 [(0, .ref (aO 0)), (1, .int v1), (2, .int v2), (3, .int v3), (4, .int v4), (5, .int v5), (6, .int v6)] → W p l e (headSpec wsX8_best rmX8_best).room s m args below meth c H locs 0 0 Q (F0 m 38 ls []) := by
          intro v2 v3 v4 v5 v6 mO hM H locs hP hD hS ls hl
          unfold mX8_best_L38 at hM
          obtain ⟨ex38, hit38, hM⟩ := bn_some hM
          have X38_0 : ∀ (v2 : Int32) (v3 : Int32) (v4 : Int32) (mO : Mem), ex38 = (v2, v3, v4, mO) → ∀ (H : Heap) (locs : List Loc), va_P (dC, dI) vwCl (wO ct aO mO mO64) H → va_D A (wO ct aO mO mO64) → va_S A s.heap H locs → ∀ ls : Array Slot, lv_has ls 8 [(0, .ref (aO 0)), (1, .int v1), (2, .int v2), (3, .int v3), (4, .int v4), (5, .int v5)] → W p l e (headSpec wsX8_best rmX8_best).room s m args below meth c H locs 0 0 Q (F0 m 82 ls []) := by
            intro v2 v3 v4 mO hex H locs hP hD hS ls hl
            rw [hex] at hM
            have hM := nm_at (y := v2) rfl hM
            have hM := nm_at (y := v3) rfl hM
            have hM := nm_at (y := v4) rfl hM
            have hM := nm_at (y := mO) rfl hM
            obtain ⟨x_3, ex_3⟩ : ∃ y : Int32, y = (v5 + (1 : Int32)) := ⟨_, rfl⟩
            have hM := nm_at ex_3 hM
            refine lv_iinc (v := x_3) (lv' := [(5, .int x_3), (0, .ref (aO 0)), (1, .int v1), (2, .int v2), (3, .int v3), (4, .int v4)]) hx hb dX8_best_82 hl (k := 5) rfl (by rw [ex_3]; rfl) (by decide) rfl (fun ls hl => ?_)
            refine lv_goto (tgt := 28) hx hb dX8_best_85 (by decide) ?_
            have hR := som hM
            exact ih28 v2 v3 v4 x_3 mO (hbk28 _ hR) _ _ hP hD hS _ (lv_sub hl [1, 2, 3, 4, 5, 0] rfl)
          have I38 : ∀ (n : Nat) (v2 : Int32) (v3 : Int32) (v4 : Int32) (v6 : Int32) (mO : Mem), itr (fun q => mX8_best_s38 v1 v5 mO64 q.1 q.2.1 q.2.2.1 q.2.2.2.1 q.2.2.2.2) n (v2, v3, v4, v6, mO) = some ex38 → ∀ (H : Heap) (locs : List Loc), va_P (dC, dI) vwCl (wO ct aO mO mO64) H → va_D A (wO ct aO mO mO64) → va_S A s.heap H locs → ∀ ls : Array Slot, lv_has ls 8 [(0, .ref (aO 0)), (1, .int v1), (2, .int v2), (3, .int v3), (4, .int v4), (5, .int v5), (6, .int v6)] → W p l e (headSpec wsX8_best rmX8_best).room s m args below meth c H locs 0 0 Q (F0 m 38 ls []) := by
            intro n
            induction n with
            | zero => intro v2 v3 v4 v6 mO hit; exact (itr_zero hit).elim
            | succ n ih38 =>
              intro v2 v3 v4 v6 mO hit H locs hP hD hS ls hl
              obtain ⟨o38, hM, hbk38, hex38⟩ := itr_succ hit
              replace hM : mX8_best_s38 v1 v5 mO64 v2 v3 v4 v6 mO = some o38 := hM
              unfold mX8_best_s38 at hM
              refine lv_iload hx hb dX8_best_38 (lv_at hl 6 rfl) ?_
              refine lv_bipush (v := 9) hx hb dX8_best_40 (by decide) ?_
              refine lv_icmp_gt (tgt := 82) hx hb dX8_best_42 (by decide) (fun hc_4 => ?_) (fun hc_4 => ?_)
              · have hM := it_p hc_4 hM
                have hR := som hM
                exact X38_0 v2 v3 v4 mO (hex38 _ hR).symm _ _ hP hD hS _ (lv_sub hl [0, 1, 2, 3, 4, 5] rfl)
              · have hM := it_n hc_4 hM
                refine lv_aload_n hx hb dX8_best_45 rfl (lv_at hl 0 rfl) ?_
                refine lv_iload hx hb dX8_best_46 (lv_at hl 5 rfl) ?_
                refine lv_iload hx hb dX8_best_48 (lv_at hl 6 rfl) ?_
                refine lv_iconst (v := 1) hx hb dX8_best_50 (by decide) ?_
                obtain ⟨q_8, hr_7, hM⟩ := bn_some hM
                obtain ⟨x_5, mO_6⟩ := q_8
                have hM := nm_at (y := x_5) rfl hM
                have hM := nm_at (y := mO_6) rfl hM
                refine gv_i (r0 := x_5) (wn := (wO ct aO mO_6 mO64)) (va_runV (As := [.int v5, .int v6, .int (1 : Int32)]) (rest := []) ⟨hx, hb, hml, hown, hts⟩ (kX8_moonOf l dC dI ct aO _ mO mO64 v5 v6 (1 : Int32) _ hr_7) (cwV 3 hts gX8_best_X8_moonOf rfl rfl rfl hvX8_moonOf ⟨Nat.le_of_ble_eq_true rfl, Nat.le_of_ble_eq_true rfl⟩) (preV_of E0_ok hK hP hD (is := [0, 1, 2, 3, 4, 5, 6, 7, 8, 9, 10, 11, 12, 13, 14, 15, 16, 17, 18, 19, 20, 21, 22, 23, 24, 25]) rfl rfl rfl (ci := 8) rfl 0 rfl e_0) rfl rfl hl.1 rfl (lv_room (Nat.le_of_ble_eq_true rfl)) dX8_best_51 ⟨Nat.le_of_ble_eq_true rfl, Nat.le_of_ble_eq_true rfl⟩) hP hD hS hA [0, 1, 2, 3, 4, 5, 6, 7, 8, 9, 10, 11, 12, 13, 14, 15, 16, 17, 18, 19, 20, 21, 22, 23, 24, 25] [] [0, 1, 2, 3, 4, 5, 6, 7, 8, 9, 10, 11, 12, 13, 14, 15, 16, 17, 18, 19, 20, 21, 22, 23, 24, 25] rfl rfl rfl (by decide) rfl rfl (fun H locs hP hD hS => ?_)
                refine lv_istore (lv' := [(7, .int x_5), (0, .ref (aO 0)), (1, .int v1), (2, .int v2), (3, .int v3), (4, .int v4), (5, .int v5), (6, .int v6)]) hx hb dX8_best_54 hl (by decide) rfl (fun ls hl => ?_)
                refine lv_iload hx hb dX8_best_56 (lv_at hl 0 rfl) ?_
                refine lv_iload hx hb dX8_best_58 (lv_at hl 5 rfl) ?_
                refine lv_icmp_gt (tgt := 66) hx hb dX8_best_60 (by decide) (fun hc_9 => ?_) (fun hc_9 => ?_)
                · have hM := it_p hc_9 hM
                  refine lv_iload hx hb dX8_best_66 (lv_at hl 0 rfl) ?_
                  refine lv_istore (lv' := [(4, .int x_5), (7, .int x_5), (0, .ref (aO 0)), (1, .int v1), (2, .int v2), (3, .int v3), (5, .int v5), (6, .int v6)]) hx hb dX8_best_68 hl (by decide) rfl (fun ls hl => ?_)
                  refine lv_iload hx hb dX8_best_70 (lv_at hl 6 rfl) ?_
                  refine lv_istore_n (lv' := [(2, .int v5), (4, .int x_5), (7, .int x_5), (0, .ref (aO 0)), (1, .int v1), (3, .int v3), (5, .int v5), (6, .int v6)]) hx hb dX8_best_72 rfl hl (by decide) rfl (fun ls hl => ?_)
                  refine lv_iload hx hb dX8_best_73 (lv_at hl 7 rfl) ?_
                  refine lv_istore_n (lv' := [(3, .int v6), (2, .int v5), (4, .int x_5), (7, .int x_5), (0, .ref (aO 0)), (1, .int v1), (5, .int v5), (6, .int v6)]) hx hb dX8_best_75 rfl hl (by decide) rfl (fun ls hl => ?_)
                  obtain ⟨x_10, ex_10⟩ : ∃ y : Int32, y = (v6 + (1 : Int32)) := ⟨_, rfl⟩
                  have hM := nm_at ex_10 hM
                  refine lv_iinc (v := x_10) (lv' := [(6, .int x_10), (3, .int v6), (2, .int v5), (4, .int x_5), (7, .int x_5), (0, .ref (aO 0)), (1, .int v1), (5, .int v5)]) hx hb dX8_best_76 hl (k := 7) rfl (by rw [ex_10]; rfl) (by decide) rfl (fun ls hl => ?_)
                  refine lv_goto (tgt := 38) hx hb dX8_best_79 (by decide) ?_
                  have hR := som hM
                  exact ih38 v5 v6 x_5 x_10 mO_6 (hbk38 _ hR) _ _ hP hD hS _ (lv_sub hl [5, 6, 2, 1, 3, 7, 0] rfl)
                · have hM := it_n hc_9 hM
                  refine lv_goto (tgt := 76) hx hb dX8_best_63 (by decide) ?_
                  obtain ⟨x_11, ex_11⟩ : ∃ y : Int32, y = (v6 + (1 : Int32)) := ⟨_, rfl⟩
                  have hM := nm_at ex_11 hM
                  refine lv_iinc (v := x_11) (lv' := [(6, .int x_11), (7, .int x_5), (0, .ref (aO 0)), (1, .int v1), (2, .int v2), (3, .int v3), (4, .int v4), (5, .int v5)]) hx hb dX8_best_76 hl (k := 7) rfl (by rw [ex_11]; rfl) (by decide) rfl (fun ls hl => ?_)
                  refine lv_goto (tgt := 38) hx hb dX8_best_79 (by decide) ?_
                  have hR := som hM
                  exact ih38 v2 v3 v4 x_11 mO_6 (hbk38 _ hR) _ _ hP hD hS _ (lv_sub hl [2, 3, 4, 5, 6, 7, 0] rfl)
          exact I38 FU v2 v3 v4 v6 mO hit38 _ _ hP hD hS _ hl
        unfold mX8_best_s28 at hM
        refine lv_iload hx hb dX8_best_28 (lv_at hl 5 rfl) ?_
        refine lv_bipush (v := 16) hx hb dX8_best_30 (by decide) ?_
        refine lv_icmp_gt (tgt := 88) hx hb dX8_best_32 (by decide) (fun hc_12 => ?_) (fun hc_12 => ?_)
        · have hM := it_p hc_12 hM
          have hR := som hM
          exact X28_0 v2 v3 v4 mO (hex28 _ hR).symm _ _ hP hD hS _ (lv_sub hl [1, 2, 3, 4] rfl)
        · have hM := it_n hc_12 hM
          refine lv_iconst (v := 1) hx hb dX8_best_35 (by decide) ?_
          refine lv_istore (lv' := [(6, .int (1 : Int32)), (0, .ref (aO 0)), (1, .int v1), (2, .int v2), (3, .int v3), (4, .int v4), (5, .int v5)]) hx hb dX8_best_36 hl (by decide) rfl (fun ls hl => ?_)
          exact N38 v2 v3 v4 v5 (1 : Int32) mO hM _ _ hP hD hS _ (lv_sub hl [1, 2, 3, 4, 5, 6, 0] rfl)
    exact I28 FU v2 v3 v4 v5 mO hit28 _ _ hP hD hS _ hl
  refine lv_aload_n hx hb dX8_best_0 rfl (lv_at hl 0 rfl) ?_
  refine va_get (D := (dC, dI)) (ci := 8) (v := .int (mO 0 18)) (C := RX8) (T := TX8) (N := 45) hx hb hts iwX8_best_X8 hown hK hP 0 rfl rfl 18 (by decide) (hts _ (List.mem_of_getElem? (i := 1) rfl)) (fun _ h9 => h9) rfl dX8_best_1 ?_
  refine lv_if_eq (tgt := 16) hx hb dX8_best_4 (by decide) (fun hc_13 => ?_) (fun hc_13 => ?_)
  · have hM := it_p hc_13 hM
    refine lv_iconst (v := -1) hx hb dX8_best_16 (by decide) ?_
    have hR := som hM
    rw [hR] at hQ
    exact ret_i hQ hx hb hr hlocks hP hK hD hS dX8_best_17
  · have hM := it_n hc_13 hM
    refine lv_iload_n hx hb dX8_best_7 rfl (lv_at hl 1 rfl) ?_
    refine lv_iconst (v := 0) hx hb dX8_best_8 (by decide) ?_
    refine lv_iconst (v := 2) hx hb dX8_best_9 (by decide) ?_
    obtain ⟨x_14, hr_15, hM⟩ := bn_some hM
    refine gv_i (r0 := x_14) (wn := (wO ct aO mO mO64)) (va_runS (As := [.int v1, .int (0 : Int32), .int (2 : Int32)]) (rest := []) ⟨hx, hb, hml, hown, hts⟩ (kX8_in l dC dI ct _ v1 (0 : Int32) (2 : Int32) _ hr_15) (va_cwS 3 hts gX8_best_X8_in rfl rfl rfl hvX8_in.2 ⟨Nat.le_of_ble_eq_true rfl, Nat.le_of_ble_eq_true rfl⟩) (preS_of E0_ok hK hP hD (is := []) rfl rfl e_0) rfl rfl hl.1 rfl (lv_room (Nat.le_of_ble_eq_true rfl)) dX8_best_10 ⟨Nat.le_of_ble_eq_true rfl, Nat.le_of_ble_eq_true rfl⟩) hP hD hS hA [] [0, 1, 2, 3, 4, 5, 6, 7, 8, 9, 10, 11, 12, 13, 14, 15, 16, 17, 18, 19, 20, 21, 22, 23, 24, 25] [0, 1, 2, 3, 4, 5, 6, 7, 8, 9, 10, 11, 12, 13, 14, 15, 16, 17, 18, 19, 20, 21, 22, 23, 24, 25] rfl rfl rfl (by decide) rfl rfl (fun H locs hP hD hS => ?_)
    refine lv_if_ne (tgt := 18) hx hb dX8_best_13 (by decide) (fun hc_17 => ?_) (fun hc_17 => ?_)
    · have hM := it_p hc_17 hM
      refine lv_iconst (v := 0) hx hb dX8_best_18 (by decide) ?_
      refine lv_istore_n (lv' := [(2, .int (0 : Int32)), (0, .ref (aO 0)), (1, .int v1)]) hx hb dX8_best_19 rfl hl (by decide) rfl (fun ls hl => ?_)
      refine lv_iconst (v := 0) hx hb dX8_best_20 (by decide) ?_
      refine lv_istore_n (lv' := [(3, .int (0 : Int32)), (2, .int (0 : Int32)), (0, .ref (aO 0)), (1, .int v1)]) hx hb dX8_best_21 rfl hl (by decide) rfl (fun ls hl => ?_)
      refine lv_iconst (v := -1) hx hb dX8_best_22 (by decide) ?_
      refine lv_istore (lv' := [(4, .int (-1 : Int32)), (3, .int (0 : Int32)), (2, .int (0 : Int32)), (0, .ref (aO 0)), (1, .int v1)]) hx hb dX8_best_23 hl (by decide) rfl (fun ls hl => ?_)
      refine lv_iconst (v := 0) hx hb dX8_best_25 (by decide) ?_
      refine lv_istore (lv' := [(5, .int (0 : Int32)), (4, .int (-1 : Int32)), (3, .int (0 : Int32)), (2, .int (0 : Int32)), (0, .ref (aO 0)), (1, .int v1)]) hx hb dX8_best_26 hl (by decide) rfl (fun ls hl => ?_)
      exact N28 v1 (0 : Int32) (0 : Int32) (-1 : Int32) (0 : Int32) mO hM _ _ hP hD hS _ (lv_sub hl [4, 5, 3, 2, 1, 0] rfl)
    · have hM := it_nn hc_17 hM
      refine lv_iconst (v := -1) hx hb dX8_best_16 (by decide) ?_
      have hR := som hM
      rw [hR] at hQ
      exact ret_i hQ hx hb hr hlocks hP hK hD hS dX8_best_17
abbrev rmX8_gains : Room := { frames := 3, cells := 0, slots := 0, locals := 75 }
theorem iwX8_gains_X8 : ∀ w ∈ wsX80, w ∈ wsX8_gains := fun _ h => List.mem_cons_of_mem _ (List.mem_append_right _ (h))
set_option maxHeartbeats 4000000 in
set_option maxRecDepth 100000 in
theorem kX8_gains (l : Launch) (dC : Nat → ClassId) (dI : Nat → Nat → Nat) (ct : Nat → ClassId) (aO : Nat → Nat) (sz : Nat) (mO : Mem) (mO64 : Lem) (v1 : Int32) (res : (Int32 × Mem)) (hM : mX8_gains mO mO64 v1 = some res) : Met l yX8_gains wsX8_gains rmX8_gains (va_Pc [.ref (aO 0), .int v1] (PB (dC, dI) ct E0 sz (wO ct aO mO mO64))) (Qi (dC, dI) ct (va_A (wO ct aO mO mO64) sz) res.1 (wO ct aO res.2 mO64)) 0 0 (va_A (wO ct aO mO mO64) sz) := by
  refine Met.ofW (cc := cX8_gains) (maxL := 4) (ret := (some .int)) (by decide) rfl ?_
  intro p e s m args below meth c s₁ B hml hv
  obtain ⟨hargs, hsz, hP, hK, hD0, hE⟩ := hv
  have hx := B.exec
  have hb := B.bytes
  have hr := B.returns
  have hts := atoms_spec (ws := wsX8_gains) B.pre
  have hown : s.vm.findClass RX8 = some m.cls := findClass_of_methodNamed B.named
  have hlocks := B.notSynchronized
  clear B s₁
  subst hsz
  have hD := hD0.self (sz := s.heap.size)
  clear hD0
  generalize hAe : va_A (wO ct aO mO mO64) s.heap.size = A at hD hE ⊢
  have hA : ∀ q : Nat, s.heap.size ≤ q → A q := fun q h => by rw [← hAe]; exact Or.inr h
  clear hAe
  have hS : va_S A s.heap s.heap [] := va_S.rf
  refine cutQ (fun Q hQ => ?_)
  refine entryW (vs := [.ref (aO 0), .int v1]) hargs (Nat.le_of_ble_eq_true rfl) (fun ls hl => ?_)
  replace hl : lv_has ls 4 [(0, .ref (aO 0)), (1, .int v1)] := hl
  unfold mX8_gains at hM
  have N16 : ∀ (v1 : Int32) (v2 : Int32) (v3 : Int32) (mO : Mem), mX8_gains_L16 v1 v2 v3 mO mO64 = some res → ∀ (H : Heap) (locs : List Loc), va_P (dC, dI) vwCl (wO ct aO mO mO64) H → va_D A (wO ct aO mO mO64) → va_S A s.heap H locs → ∀ ls : Array Slot, lv_has ls 4 [(0, .ref (aO 0)), (1, .int v1), (2, .int v2), (3, .int v3)] → W p l e (headSpec wsX8_gains rmX8_gains).room s m args below meth c H locs 0 0 Q (F0 m 16 ls []) := by
    intro v1 v2 v3 mO hM H locs hP hD hS ls hl
    unfold mX8_gains_L16 at hM
    obtain ⟨ex16, hit16, hM⟩ := bn_some hM
    have X16_0 : ∀ (v2 : Int32) (mO : Mem), ex16 = (v2, mO) → ∀ (H : Heap) (locs : List Loc), va_P (dC, dI) vwCl (wO ct aO mO mO64) H → va_D A (wO ct aO mO mO64) → va_S A s.heap H locs → ∀ ls : Array Slot, lv_has ls 4 [(2, .int v2)] → W p l e (headSpec wsX8_gains rmX8_gains).room s m args below meth c H locs 0 0 Q (F0 m 71 ls []) := by
      intro v2 mO hex H locs hP hD hS ls hl
      rw [hex] at hM
      have hM := nm_at (y := v2) rfl hM
      have hM := nm_at (y := mO) rfl hM
      refine lv_iload_n hx hb dX8_gains_71 rfl (lv_at hl 0 rfl) ?_
      have hR := som hM
      rw [hR] at hQ
      exact ret_i hQ hx hb hr hlocks hP hK hD hS dX8_gains_72
    have I16 : ∀ (n : Nat) (v2 : Int32) (v3 : Int32) (mO : Mem), itr (fun q => mX8_gains_s16 v1 mO64 q.1 q.2.1 q.2.2) n (v2, v3, mO) = some ex16 → ∀ (H : Heap) (locs : List Loc), va_P (dC, dI) vwCl (wO ct aO mO mO64) H → va_D A (wO ct aO mO mO64) → va_S A s.heap H locs → ∀ ls : Array Slot, lv_has ls 4 [(0, .ref (aO 0)), (1, .int v1), (2, .int v2), (3, .int v3)] → W p l e (headSpec wsX8_gains rmX8_gains).room s m args below meth c H locs 0 0 Q (F0 m 16 ls []) := by
      intro n
      induction n with
      | zero => intro v2 v3 mO hit; exact (itr_zero hit).elim
      | succ n ih16 =>
        intro v2 v3 mO hit H locs hP hD hS ls hl
        obtain ⟨o16, hM, hbk16, hex16⟩ := itr_succ hit
        replace hM : mX8_gains_s16 v1 mO64 v2 v3 mO = some o16 := hM
        unfold mX8_gains_s16 at hM
        refine lv_iload_n hx hb dX8_gains_16 rfl (lv_at hl 3 rfl) ?_
        refine lv_aload_n hx hb dX8_gains_17 rfl (lv_at hl 0 rfl) ?_
        refine va_get (D := (dC, dI)) (ci := 8) (v := .int (mO 0 13)) (C := RX8) (T := TX8) (N := 45) hx hb hts iwX8_gains_X8 hown hK hP 0 rfl rfl 13 (by decide) (hts _ (List.mem_of_getElem? (i := 2) rfl)) (fun _ h9 => h9) rfl dX8_gains_18 ?_
        refine lv_icmp_ge (tgt := 71) hx hb dX8_gains_21 (by decide) (fun hc_1 => ?_) (fun hc_1 => ?_)
        · have hM := it_p hc_1 hM
          have hR := som hM
          exact X16_0 v2 mO (hex16 _ hR).symm _ _ hP hD hS _ (lv_sub hl [2] rfl)
        · have hM := it_n hc_1 hM
          refine lv_aload_n hx hb dX8_gains_24 rfl (lv_at hl 0 rfl) ?_
          refine lv_iload_n hx hb dX8_gains_25 rfl (lv_at hl 3 rfl) ?_
          refine lv_aload_n hx hb dX8_gains_26 rfl (lv_at hl 0 rfl) ?_
          refine va_get (D := (dC, dI)) (ci := 8) (v := .int (mO 0 15)) (C := RX8) (T := TX8) (N := 45) hx hb hts iwX8_gains_X8 hown hK hP 0 rfl rfl 15 (by decide) (hts _ (List.mem_of_getElem? (i := 3) rfl)) (fun _ h9 => h9) rfl dX8_gains_27 ?_
          refine lv_aload_n hx hb dX8_gains_30 rfl (lv_at hl 0 rfl) ?_
          refine va_get (D := (dC, dI)) (ci := 8) (v := .int (mO 0 16)) (C := RX8) (T := TX8) (N := 45) hx hb hts iwX8_gains_X8 hown hK hP 0 rfl rfl 16 (by decide) (hts _ (List.mem_of_getElem? (i := 4) rfl)) (fun _ h9 => h9) rfl dX8_gains_31 ?_
          obtain ⟨mO_2, hr_3, hM⟩ := bn_some hM
          refine gv_v (wn := (wO ct aO mO_2 mO64)) (va_runV (As := [.int v3, .int (mO 0 15), .int (mO 0 16)]) (rest := []) ⟨hx, hb, hml, hown, hts⟩ (kX8_lends l dC dI ct aO _ mO mO64 v3 (mO 0 15) (mO 0 16) _ hr_3) (cwV 3 hts gX8_gains_X8_lends rfl rfl rfl hvX8_lends ⟨Nat.le_of_ble_eq_true rfl, Nat.le_of_ble_eq_true rfl⟩) (preV_of E0_ok hK hP hD (is := [0, 1, 2, 3, 4, 5, 6, 7, 8, 9, 10, 11, 12, 13, 14, 15, 16, 17, 18, 19, 20, 21, 22, 23, 24, 25]) rfl rfl rfl (ci := 8) rfl 0 rfl e_0) rfl rfl hl.1 rfl (lv_room (Nat.le_of_ble_eq_true rfl)) dX8_gains_34 ⟨Nat.le_of_ble_eq_true rfl, Nat.le_of_ble_eq_true rfl⟩) hP hD hS hA [0, 1, 2, 3, 4, 5, 6, 7, 8, 9, 10, 11, 12, 13, 14, 15, 16, 17, 18, 19, 20, 21, 22, 23, 24, 25] [] [0, 1, 2, 3, 4, 5, 6, 7, 8, 9, 10, 11, 12, 13, 14, 15, 16, 17, 18, 19, 20, 21, 22, 23, 24, 25] rfl rfl rfl (by decide) rfl rfl (fun H locs hP hD hS => ?_)
          refine lv_iload_n hx hb dX8_gains_37 rfl (lv_at hl 2 rfl) ?_
          refine lv_aload_n hx hb dX8_gains_38 rfl (lv_at hl 0 rfl) ?_
          refine va_get (D := (dC, dI)) (ci := 8) (v := .ref (aO 18)) (C := RX8) (T := TX8) (N := 45) hx hb hts iwX8_gains_X8 hown hK hP 0 rfl rfl 37 (by decide) (hts _ (List.mem_of_getElem? (i := 5) rfl)) (fun _ h9 => h9) rfl dX8_gains_39 ?_
          refine lv_iload_n hx hb dX8_gains_42 rfl (lv_at hl 1 rfl) ?_
          obtain ⟨hi, hM⟩ := gi_some hM
          refine va_iald hx hb hK hP 18 0 rfl rfl hi dX8_gains_43 ?_
          refine lv_iadd hx hb dX8_gains_44 ?_
          refine lv_topi (fun x_5 ex_5 => ?_)
          have hM := nm_at ex_5 hM
          refine lv_istore_n (lv' := [(2, .int x_5), (0, .ref (aO 0)), (1, .int v1), (3, .int v3)]) hx hb dX8_gains_45 rfl hl (by decide) rfl (fun ls hl => ?_)
          refine lv_aload_n hx hb dX8_gains_46 rfl (lv_at hl 1 rfl) ?_
          refine lv_iload_n hx hb dX8_gains_47 rfl (lv_at hl 3 rfl) ?_
          refine lv_iconst (v := 0) hx hb dX8_gains_48 (by decide) ?_
          refine lv_aload_n hx hb dX8_gains_49 rfl (lv_at hl 1 rfl) ?_
          refine va_get (D := (dC, dI)) (ci := 8) (v := .int (mO_2 0 16)) (C := RX8) (T := TX8) (N := 45) hx hb hts iwX8_gains_X8 hown hK hP 0 rfl rfl 16 (by decide) (hts _ (List.mem_of_getElem? (i := 4) rfl)) (fun _ h9 => h9) rfl dX8_gains_50 ?_
          obtain ⟨mO_6, hr_7, hM⟩ := bn_some hM
          refine gv_v (wn := (wO ct aO mO_6 mO64)) (va_runV (As := [.int v3, .int (0 : Int32), .int (mO_2 0 16)]) (rest := []) ⟨hx, hb, hml, hown, hts⟩ (kX8_lends l dC dI ct aO _ mO_2 mO64 v3 (0 : Int32) (mO_2 0 16) _ hr_7) (cwV 3 hts gX8_gains_X8_lends rfl rfl rfl hvX8_lends ⟨Nat.le_of_ble_eq_true rfl, Nat.le_of_ble_eq_true rfl⟩) (preV_of E0_ok hK hP hD (is := [0, 1, 2, 3, 4, 5, 6, 7, 8, 9, 10, 11, 12, 13, 14, 15, 16, 17, 18, 19, 20, 21, 22, 23, 24, 25]) rfl rfl rfl (ci := 8) rfl 0 rfl e_0) rfl rfl hl.1 rfl (lv_room (Nat.le_of_ble_eq_true rfl)) dX8_gains_53 ⟨Nat.le_of_ble_eq_true rfl, Nat.le_of_ble_eq_true rfl⟩) hP hD hS hA [0, 1, 2, 3, 4, 5, 6, 7, 8, 9, 10, 11, 12, 13, 14, 15, 16, 17, 18, 19, 20, 21, 22, 23, 24, 25] [] [0, 1, 2, 3, 4, 5, 6, 7, 8, 9, 10, 11, 12, 13, 14, 15, 16, 17, 18, 19, 20, 21, 22, 23, 24, 25] rfl rfl rfl (by decide) rfl rfl (fun H locs hP hD hS => ?_)
          refine lv_iload_n hx hb dX8_gains_56 rfl (lv_at hl 0 rfl) ?_
          refine lv_aload_n hx hb dX8_gains_57 rfl (lv_at hl 1 rfl) ?_
          refine va_get (D := (dC, dI)) (ci := 8) (v := .ref (aO 18)) (C := RX8) (T := TX8) (N := 45) hx hb hts iwX8_gains_X8 hown hK hP 0 rfl rfl 37 (by decide) (hts _ (List.mem_of_getElem? (i := 5) rfl)) (fun _ h9 => h9) rfl dX8_gains_58 ?_
          refine lv_iload_n hx hb dX8_gains_61 rfl (lv_at hl 2 rfl) ?_
          obtain ⟨hi, hM⟩ := gi_some hM
          refine va_iald hx hb hK hP 18 0 rfl rfl hi dX8_gains_62 ?_
          refine lv_isub hx hb dX8_gains_63 ?_
          refine lv_topi (fun x_9 ex_9 => ?_)
          have hM := nm_at ex_9 hM
          refine lv_istore_n (lv' := [(2, .int x_9), (0, .ref (aO 0)), (1, .int v1), (3, .int v3)]) hx hb dX8_gains_64 rfl hl (by decide) rfl (fun ls hl => ?_)
          obtain ⟨x_10, ex_10⟩ : ∃ y : Int32, y = (v3 + (1 : Int32)) := ⟨_, rfl⟩
          have hM := nm_at ex_10 hM
          refine lv_iinc (v := x_10) (lv' := [(3, .int x_10), (2, .int x_9), (0, .ref (aO 0)), (1, .int v1)]) hx hb dX8_gains_65 hl (k := 3) rfl (by rw [ex_10]; rfl) (by decide) rfl (fun ls hl => ?_)
          refine lv_goto (tgt := 16) hx hb dX8_gains_68 (by decide) ?_
          have hR := som hM
          exact ih16 x_9 x_10 mO_6 (hbk16 _ hR) _ _ hP hD hS _ (lv_sub hl [2, 3, 1, 0] rfl)
    exact I16 FU v2 v3 mO hit16 _ _ hP hD hS _ hl
  refine lv_aload_n hx hb dX8_gains_0 rfl (lv_at hl 0 rfl) ?_
  refine lv_iload_n hx hb dX8_gains_1 rfl (lv_at hl 1 rfl) ?_
  obtain ⟨x_11, hr_12, hM⟩ := bn_some hM
  refine gv_i (r0 := x_11) (wn := (wO ct aO mO mO64)) (va_runV (As := [.int v1]) (rest := []) ⟨hx, hb, hml, hown, hts⟩ (kX8_isSort l dC dI ct aO _ mO mO64 v1 _ hr_12) (cwV 1 hts gX8_gains_X8_isSort rfl rfl rfl hvX8_isSort ⟨Nat.le_of_ble_eq_true rfl, Nat.le_of_ble_eq_true rfl⟩) (preV_of E0_ok hK hP hD (is := [0, 1, 2, 3, 4, 5, 6, 7, 8, 9, 10, 11, 12, 13, 14, 15, 16, 17, 18, 19, 20, 21, 22, 23, 24, 25]) rfl rfl rfl (ci := 8) rfl 0 rfl e_0) rfl rfl hl.1 rfl (lv_room (Nat.le_of_ble_eq_true rfl)) dX8_gains_2 ⟨Nat.le_of_ble_eq_true rfl, Nat.le_of_ble_eq_true rfl⟩) hP hD hS hA [0, 1, 2, 3, 4, 5, 6, 7, 8, 9, 10, 11, 12, 13, 14, 15, 16, 17, 18, 19, 20, 21, 22, 23, 24, 25] [] [0, 1, 2, 3, 4, 5, 6, 7, 8, 9, 10, 11, 12, 13, 14, 15, 16, 17, 18, 19, 20, 21, 22, 23, 24, 25] rfl rfl rfl (by decide) rfl rfl (fun H locs hP hD hS => ?_)
  refine lv_if_ne (tgt := 12) hx hb dX8_gains_5 (by decide) (fun hc_14 => ?_) (fun hc_14 => ?_)
  · have hM := it_p hc_14 hM
    refine lv_iconst (v := 0) hx hb dX8_gains_12 (by decide) ?_
    refine lv_istore_n (lv' := [(2, .int (0 : Int32)), (0, .ref (aO 0)), (1, .int v1)]) hx hb dX8_gains_13 rfl hl (by decide) rfl (fun ls hl => ?_)
    refine lv_iconst (v := 0) hx hb dX8_gains_14 (by decide) ?_
    refine lv_istore_n (lv' := [(3, .int (0 : Int32)), (2, .int (0 : Int32)), (0, .ref (aO 0)), (1, .int v1)]) hx hb dX8_gains_15 rfl hl (by decide) rfl (fun ls hl => ?_)
    exact N16 v1 (0 : Int32) (0 : Int32) mO hM _ _ hP hD hS _ (lv_sub hl [2, 3, 1, 0] rfl)
  · have hM := it_nn hc_14 hM
    refine lv_ldcw (v := -999999) hx hb hown (hts _ (List.mem_of_getElem? (i := 1) rfl)) dX8_gains_8 ?_
    have hR := som hM
    rw [hR] at hQ
    exact ret_i hQ hx hb hr hlocks hP hK hD hS dX8_gains_11
abbrev rmX8_seed : Room := { frames := 1, cells := 0, slots := 0, locals := 22 }
theorem iwX8_seed_X8 : ∀ w ∈ wsX80, w ∈ wsX8_seed := fun _ h => List.mem_cons_of_mem _ (List.mem_append_right _ (h))
set_option maxHeartbeats 4000000 in
set_option maxRecDepth 100000 in
theorem kX8_seed (l : Launch) (dC : Nat → ClassId) (dI : Nat → Nat → Nat) (ct : Nat → ClassId) (aO : Nat → Nat) (sz : Nat) (mO : Mem) (mO64 : Lem) (v1 : Int32) (res : (Int32 × Lem)) (hM : mX8_seed mO mO64 v1 = some res) : Met l yX8_seed wsX8_seed rmX8_seed (va_Pc [.ref (aO 0), .int v1] (PB (dC, dI) ct E0 sz (wO ct aO mO mO64))) (Qi (dC, dI) ct (va_A (wO ct aO mO mO64) sz) res.1 (wO ct aO mO res.2)) 0 0 (va_A (wO ct aO mO mO64) sz) := by
  refine Met.ofW (cc := cX8_seed) (maxL := 2) (ret := (some .boolean)) (by decide) rfl ?_
  intro p e s m args below meth c s₁ B hml hv
  obtain ⟨hargs, hsz, hP, hK, hD0, hE⟩ := hv
  have hx := B.exec
  have hb := B.bytes
  have hr := B.returns
  have hts := atoms_spec (ws := wsX8_seed) B.pre
  have hown : s.vm.findClass RX8 = some m.cls := findClass_of_methodNamed B.named
  have hlocks := B.notSynchronized
  clear B s₁
  subst hsz
  have hD := hD0.self (sz := s.heap.size)
  clear hD0
  generalize hAe : va_A (wO ct aO mO mO64) s.heap.size = A at hD hE ⊢
  have hA : ∀ q : Nat, s.heap.size ≤ q → A q := fun q h => by rw [← hAe]; exact Or.inr h
  clear hAe
  have hS : va_S A s.heap s.heap [] := va_S.rf
  refine cutQ (fun Q hQ => ?_)
  refine entryW (vs := [.ref (aO 0), .int v1]) hargs (Nat.le_of_ble_eq_true rfl) (fun ls hl => ?_)
  replace hl : lv_has ls 2 [(0, .ref (aO 0)), (1, .int v1)] := hl
  unfold mX8_seed at hM
  refine lv_iload_n hx hb dX8_seed_0 rfl (lv_at hl 1 rfl) ?_
  refine lv_iconst (v := 0) hx hb dX8_seed_1 (by decide) ?_
  refine lv_ldcw (v := 1000000) hx hb hown (hts _ (List.mem_of_getElem? (i := 1) rfl)) dX8_seed_2 ?_
  obtain ⟨x_1, hr_2, hM⟩ := bn_some hM
  refine gv_i (r0 := x_1) (wn := (wO ct aO mO mO64)) (va_runS (As := [.int v1, .int (0 : Int32), .int (1000000 : Int32)]) (rest := []) ⟨hx, hb, hml, hown, hts⟩ (kX8_in l dC dI ct _ v1 (0 : Int32) (1000000 : Int32) _ hr_2) (va_cwS 3 hts gX8_seed_X8_in rfl rfl rfl hvX8_in.2 ⟨Nat.le_of_ble_eq_true rfl, Nat.le_of_ble_eq_true rfl⟩) (preS_of E0_ok hK hP hD (is := []) rfl rfl e_0) rfl rfl hl.1 rfl (lv_room (Nat.le_of_ble_eq_true rfl)) dX8_seed_5 ⟨Nat.le_of_ble_eq_true rfl, Nat.le_of_ble_eq_true rfl⟩) hP hD hS hA [] [0, 1, 2, 3, 4, 5, 6, 7, 8, 9, 10, 11, 12, 13, 14, 15, 16, 17, 18, 19, 20, 21, 22, 23, 24, 25] [0, 1, 2, 3, 4, 5, 6, 7, 8, 9, 10, 11, 12, 13, 14, 15, 16, 17, 18, 19, 20, 21, 22, 23, 24, 25] rfl rfl rfl (by decide) rfl rfl (fun H locs hP hD hS => ?_)
  refine lv_if_ne (tgt := 13) hx hb dX8_seed_8 (by decide) (fun hc_4 => ?_) (fun hc_4 => ?_)
  · have hM := it_p hc_4 hM
    refine lv_aload_n hx hb dX8_seed_13 rfl (lv_at hl 0 rfl) ?_
    refine lv_iload_n hx hb dX8_seed_14 rfl (lv_at hl 1 rfl) ?_
    refine lv_i2l hx hb dX8_seed_15 rfl ?_
    refine pf_i (wf := fun z => (wO ct aO mO z)) (m1 := upfL mO64 27 (v1.toInt64)) hx hb hts iwX8_seed_X8 tyX8 tyX8_ok nmX8 hown hK hP hD hS 0 rfl rfl 27 (by decide) (hts _ (List.mem_of_getElem? (i := 2) rfl)) (fun _ h9 => h9) rfl rfl rfl (Nat.le_of_ble_eq_true rfl) dX8_seed_16 rfl (fun mO64_5 emO64_5 H locs hP hD hS => ?_)
    have hM := nm_at emO64_5 hM
    refine lv_iconst (v := 1) hx hb dX8_seed_19 (by decide) ?_
    have hR := som hM
    rw [hR] at hQ
    exact ret_z hQ hx hb hr hlocks rfl hP hK hD hS dX8_seed_20
  · have hM := it_nn hc_4 hM
    refine lv_iconst (v := 0) hx hb dX8_seed_11 (by decide) ?_
    have hR := som hM
    rw [hR] at hQ
    exact ret_z hQ hx hb hr hlocks rfl hP hK hD hS dX8_seed_12
abbrev rmX8_draws : Room := { frames := 0, cells := 0, slots := 0, locals := 0 }
theorem iwX8_draws_X8 : ∀ w ∈ wsX80, w ∈ wsX8_draws := fun _ h => List.mem_cons_of_mem _ (List.mem_append_right _ (h))
set_option maxHeartbeats 4000000 in
set_option maxRecDepth 100000 in
theorem kX8_draws (l : Launch) (dC : Nat → ClassId) (dI : Nat → Nat → Nat) (ct : Nat → ClassId) (aO : Nat → Nat) (sz : Nat) (mO : Mem) (mO64 : Lem) (res : (Int32 × Lem)) (hM : mX8_draws mO mO64 = some res) : Met l yX8_draws wsX8_draws rmX8_draws (va_Pc [.ref (aO 0)] (PB (dC, dI) ct E0 sz (wO ct aO mO mO64))) (Qi (dC, dI) ct (va_A (wO ct aO mO mO64) sz) res.1 (wO ct aO mO res.2)) 0 0 (va_A (wO ct aO mO mO64) sz) := by
  refine Met.ofW (cc := cX8_draws) (maxL := 1) (ret := (some .int)) (by decide) rfl ?_
  intro p e s m args below meth c s₁ B hml hv
  obtain ⟨hargs, hsz, hP, hK, hD0, hE⟩ := hv
  have hx := B.exec
  have hb := B.bytes
  have hr := B.returns
  have hts := atoms_spec (ws := wsX8_draws) B.pre
  have hown : s.vm.findClass RX8 = some m.cls := findClass_of_methodNamed B.named
  have hlocks := B.notSynchronized
  clear B s₁
  subst hsz
  have hD := hD0.self (sz := s.heap.size)
  clear hD0
  generalize hAe : va_A (wO ct aO mO mO64) s.heap.size = A at hD hE ⊢
  have hA : ∀ q : Nat, s.heap.size ≤ q → A q := fun q h => by rw [← hAe]; exact Or.inr h
  clear hAe
  have hS : va_S A s.heap s.heap [] := va_S.rf
  refine cutQ (fun Q hQ => ?_)
  refine entryW (vs := [.ref (aO 0)]) hargs (Nat.le_of_ble_eq_true rfl) (fun ls hl => ?_)
  replace hl : lv_has ls 1 [(0, .ref (aO 0))] := hl
  unfold mX8_draws at hM
  refine lv_aload_n hx hb dX8_draws_0 rfl (lv_at hl 0 rfl) ?_
  refine lv_aload_n hx hb dX8_draws_1 rfl (lv_at hl 0 rfl) ?_
  refine va_get (D := (dC, dI)) (ci := 8) (v := .long (mO64 0 27)) (C := RX8) (T := TX8) (N := 45) hx hb hts iwX8_draws_X8 hown hK hP 0 rfl rfl 27 (by decide) (hts _ (List.mem_of_getElem? (i := 1) rfl)) (fun _ h9 => h9) rfl dX8_draws_2 ?_
  refine lv_ldc2 (v := 1103515245) hx hb hown (hts _ (List.mem_of_getElem? (i := 2) rfl)) dX8_draws_5 ?_
  refine lv_lmul hx hb dX8_draws_8 ?_
  refine lv_ldc2 (v := 12345) hx hb hown (hts _ (List.mem_of_getElem? (i := 3) rfl)) dX8_draws_9 ?_
  refine lv_ladd hx hb dX8_draws_12 ?_
  refine lv_ldc2 (v := 2147483647) hx hb hown (hts _ (List.mem_of_getElem? (i := 4) rfl)) dX8_draws_13 ?_
  refine lv_land hx hb dX8_draws_16 ?_
  refine pf_i (wf := fun z => (wO ct aO mO z)) (m1 := upfL mO64 27 ((((mO64 0 27) * (1103515245 : Int64)) + (12345 : Int64)) &&& (2147483647 : Int64))) hx hb hts iwX8_draws_X8 tyX8 tyX8_ok nmX8 hown hK hP hD hS 0 rfl rfl 27 (by decide) (hts _ (List.mem_of_getElem? (i := 1) rfl)) (fun _ h9 => h9) rfl rfl rfl (Nat.le_of_ble_eq_true rfl) dX8_draws_17 rfl (fun mO64_1 emO64_1 H locs hP hD hS => ?_)
  have hM := nm_at emO64_1 hM
  refine lv_aload_n hx hb dX8_draws_20 rfl (lv_at hl 0 rfl) ?_
  refine va_get (D := (dC, dI)) (ci := 8) (v := .long (mO64_1 0 27)) (C := RX8) (T := TX8) (N := 45) hx hb hts iwX8_draws_X8 hown hK hP 0 rfl rfl 27 (by decide) (hts _ (List.mem_of_getElem? (i := 1) rfl)) (fun _ h9 => h9) rfl dX8_draws_21 ?_
  refine lv_ldc2 (v := 256) hx hb hown (hts _ (List.mem_of_getElem? (i := 5) rfl)) dX8_draws_24 ?_
  refine lv_ldiv hx hb dX8_draws_27 (by decide) ?_
  refine lv_ldc2 (v := 16) hx hb hown (hts _ (List.mem_of_getElem? (i := 6) rfl)) dX8_draws_28 ?_
  refine lv_lrem hx hb dX8_draws_31 (by decide) ?_
  refine lv_l2i hx hb dX8_draws_32 rfl ?_
  refine lv_topi (fun x_2 ex_2 => ?_)
  have hM := nm_at ex_2 hM
  have hR := som hM
  rw [hR] at hQ
  exact ret_i hQ hx hb hr hlocks hP hK hD hS dX8_draws_33
abbrev rmX8_loanAt : Room := { frames := 0, cells := 0, slots := 0, locals := 0 }
theorem iwX8_loanAt_X8 : ∀ w ∈ wsX80, w ∈ wsX8_loanAt := fun _ h => List.mem_cons_of_mem _ (List.mem_append_right _ (h))
set_option maxHeartbeats 4000000 in
set_option maxRecDepth 100000 in
theorem kX8_loanAt (l : Launch) (dC : Nat → ClassId) (dI : Nat → Nat → Nat) (ct : Nat → ClassId) (aO : Nat → Nat) (sz : Nat) (mO : Mem) (mO64 : Lem) (v1 : Int32) (v2 : Int32) (res : Int32) (hM : mX8_loanAt mO mO64 v1 v2 = some res) : Met l yX8_loanAt wsX8_loanAt rmX8_loanAt (va_Pc [.ref (aO 0), .int v1, .int v2] (PB (dC, dI) ct E0 sz (wO ct aO mO mO64))) (Qi (dC, dI) ct (va_A (wO ct aO mO mO64) sz) res (wO ct aO mO mO64)) 0 0 (va_A (wO ct aO mO mO64) sz) := by
  refine Met.ofW (cc := cX8_loanAt) (maxL := 3) (ret := (some .int)) (by decide) rfl ?_
  intro p e s m args below meth c s₁ B hml hv
  obtain ⟨hargs, hsz, hP, hK, hD0, hE⟩ := hv
  have hx := B.exec
  have hb := B.bytes
  have hr := B.returns
  have hts := atoms_spec (ws := wsX8_loanAt) B.pre
  have hown : s.vm.findClass RX8 = some m.cls := findClass_of_methodNamed B.named
  have hlocks := B.notSynchronized
  clear B s₁
  subst hsz
  have hD := hD0.self (sz := s.heap.size)
  clear hD0
  generalize hAe : va_A (wO ct aO mO mO64) s.heap.size = A at hD hE ⊢
  have hA : ∀ q : Nat, s.heap.size ≤ q → A q := fun q h => by rw [← hAe]; exact Or.inr h
  clear hAe
  have hS : va_S A s.heap s.heap [] := va_S.rf
  refine cutQ (fun Q hQ => ?_)
  refine entryW (vs := [.ref (aO 0), .int v1, .int v2]) hargs (Nat.le_of_ble_eq_true rfl) (fun ls hl => ?_)
  replace hl : lv_has ls 3 [(0, .ref (aO 0)), (1, .int v1), (2, .int v2)] := hl
  unfold mX8_loanAt at hM
  refine lv_aload_n hx hb dX8_loanAt_0 rfl (lv_at hl 0 rfl) ?_
  refine va_get (D := (dC, dI)) (ci := 8) (v := .ref (aO 10)) (C := RX8) (T := TX8) (N := 45) hx hb hts iwX8_loanAt_X8 hown hK hP 0 rfl rfl 26 (by decide) (hts _ (List.mem_of_getElem? (i := 1) rfl)) (fun _ h9 => h9) rfl dX8_loanAt_1 ?_
  refine lv_bipush (v := 6) hx hb dX8_loanAt_4 (by decide) ?_
  refine lv_iload_n hx hb dX8_loanAt_6 rfl (lv_at hl 1 rfl) ?_
  refine lv_imul hx hb dX8_loanAt_7 ?_
  refine lv_iload_n hx hb dX8_loanAt_8 rfl (lv_at hl 2 rfl) ?_
  refine lv_iadd hx hb dX8_loanAt_9 ?_
  obtain ⟨hi, hM⟩ := gi_some hM
  refine va_iald hx hb hK hP 10 0 rfl rfl hi dX8_loanAt_10 ?_
  refine lv_topi (fun x_1 ex_1 => ?_)
  have hM := nm_at ex_1 hM
  have hR := som hM
  rw [hR] at hQ
  exact ret_i hQ hx hb hr hlocks hP hK hD hS dX8_loanAt_11
abbrev rmX8_makes : Room := { frames := 1, cells := 0, slots := 0, locals := 22 }
theorem iwX8_makes_X8 : ∀ w ∈ wsX80, w ∈ wsX8_makes := fun _ h => List.mem_cons_of_mem _ (List.mem_append_right _ (h))
set_option maxHeartbeats 4000000 in
set_option maxRecDepth 100000 in
theorem kX8_makes (l : Launch) (dC : Nat → ClassId) (dI : Nat → Nat → Nat) (ct : Nat → ClassId) (aO : Nat → Nat) (sz : Nat) (mO : Mem) (mO64 : Lem) (v1 : Int32) (v2 : Int32) (v3 : Int32) (v4 : Int32) (v5 : Int32) (res : (Int32 × Mem)) (hM : mX8_makes mO mO64 v1 v2 v3 v4 v5 = some res) : Met l yX8_makes wsX8_makes rmX8_makes (va_Pc [.ref (aO 0), .int v1, .int v2, .int v3, .int v4, .int v5] (PB (dC, dI) ct E0 sz (wO ct aO mO mO64))) (Qi (dC, dI) ct (va_A (wO ct aO mO mO64) sz) res.1 (wO ct aO res.2 mO64)) 0 0 (va_A (wO ct aO mO mO64) sz) := by
  refine Met.ofW (cc := cX8_makes) (maxL := 7) (ret := (some .int)) (by decide) rfl ?_
  intro p e s m args below meth c s₁ B hml hv
  obtain ⟨hargs, hsz, hP, hK, hD0, hE⟩ := hv
  have hx := B.exec
  have hb := B.bytes
  have hr := B.returns
  have hts := atoms_spec (ws := wsX8_makes) B.pre
  have hown : s.vm.findClass RX8 = some m.cls := findClass_of_methodNamed B.named
  have hlocks := B.notSynchronized
  clear B s₁
  subst hsz
  have hD := hD0.self (sz := s.heap.size)
  clear hD0
  generalize hAe : va_A (wO ct aO mO mO64) s.heap.size = A at hD hE ⊢
  have hA : ∀ q : Nat, s.heap.size ≤ q → A q := fun q h => by rw [← hAe]; exact Or.inr h
  clear hAe
  have hS : va_S A s.heap s.heap [] := va_S.rf
  refine cutQ (fun Q hQ => ?_)
  refine entryW (vs := [.ref (aO 0), .int v1, .int v2, .int v3, .int v4, .int v5]) hargs (Nat.le_of_ble_eq_true rfl) (fun ls hl => ?_)
  replace hl : lv_has ls 7 [(0, .ref (aO 0)), (1, .int v1), (2, .int v2), (3, .int v3), (4, .int v4), (5, .int v5)] := hl
  unfold mX8_makes at hM
  have N3 : ∀ (v1 : Int32) (v2 : Int32) (v3 : Int32) (v4 : Int32) (v5 : Int32) (v6 : Int32) (mO : Mem), mX8_makes_L3 v1 v2 v3 v4 v5 v6 mO mO64 = some res → ∀ (H : Heap) (locs : List Loc), va_P (dC, dI) vwCl (wO ct aO mO mO64) H → va_D A (wO ct aO mO mO64) → va_S A s.heap H locs → ∀ ls : Array Slot, lv_has ls 7 [(0, .ref (aO 0)), (1, .int v1), (2, .int v2), (3, .int v3), (4, .int v4), (5, .int v5), (6, .int v6)] → W p l e (headSpec wsX8_makes rmX8_makes).room s m args below meth c H locs 0 0 Q (F0 m 3 ls []) := by
    intro v1 v2 v3 v4 v5 v6 mO hM H locs hP hD hS ls hl
    unfold mX8_makes_L3 at hM
    obtain ⟨ex3, hit3, hM⟩ := bn_some hM
    have X3_0 : ∀ (v6 : Int32), ex3 = v6 → ∀ (H : Heap) (locs : List Loc), va_P (dC, dI) vwCl (wO ct aO mO mO64) H → va_D A (wO ct aO mO mO64) → va_S A s.heap H locs → ∀ ls : Array Slot, lv_has ls 7 [(0, .ref (aO 0)), (1, .int v1), (2, .int v2), (3, .int v3), (4, .int v4), (5, .int v5), (6, .int v6)] → W p l e (headSpec wsX8_makes rmX8_makes).room s m args below meth c H locs 0 0 Q (F0 m 26 ls []) := by
      intro v6 hex H locs hP hD hS ls hl
      rw [hex] at hM
      have hM := nm_at (y := v6) rfl hM
      refine lv_iload hx hb dX8_makes_26 (lv_at hl 6 rfl) ?_
      refine lv_bipush (v := 40) hx hb dX8_makes_28 (by decide) ?_
      refine lv_icmp_eq (tgt := 44) hx hb dX8_makes_30 (by decide) (fun hc_1 => ?_) (fun hc_1 => ?_)
      · have hM := it_p hc_1 hM
        refine lv_iconst (v := -1) hx hb dX8_makes_44 (by decide) ?_
        have hR := som hM
        rw [hR] at hQ
        exact ret_i hQ hx hb hr hlocks hP hK hD hS dX8_makes_45
      · have hM := it_n hc_1 hM
        refine lv_aload_n hx hb dX8_makes_33 rfl (lv_at hl 0 rfl) ?_
        refine va_get (D := (dC, dI)) (ci := 8) (v := .ref (aO 8)) (C := RX8) (T := TX8) (N := 45) hx hb hts iwX8_makes_X8 hown hK hP 0 rfl rfl 24 (by decide) (hts _ (List.mem_of_getElem? (i := 1) rfl)) (fun _ h9 => h9) rfl dX8_makes_34 ?_
        refine lv_iload_n hx hb dX8_makes_37 rfl (lv_at hl 1 rfl) ?_
        obtain ⟨hi, hM⟩ := gi_some hM
        refine va_iald hx hb hK hP 8 0 rfl rfl hi dX8_makes_38 ?_
        refine lv_iload hx hb dX8_makes_39 (lv_at hl 4 rfl) ?_
        refine lv_icmp_ge (tgt := 46) hx hb dX8_makes_41 (by decide) (fun hc_2 => ?_) (fun hc_2 => ?_)
        · have hM := it_p hc_2 hM
          refine lv_aload_n hx hb dX8_makes_46 rfl (lv_at hl 0 rfl) ?_
          refine va_get (D := (dC, dI)) (ci := 8) (v := .ref (aO 8)) (C := RX8) (T := TX8) (N := 45) hx hb hts iwX8_makes_X8 hown hK hP 0 rfl rfl 24 (by decide) (hts _ (List.mem_of_getElem? (i := 1) rfl)) (fun _ h9 => h9) rfl dX8_makes_47 ?_
          refine lv_iload_n hx hb dX8_makes_50 rfl (lv_at hl 1 rfl) ?_
          refine lv_dup2_11 hx hb dX8_makes_51 rfl rfl ?_
          obtain ⟨hi, hM⟩ := gi_some hM
          refine va_iald hx hb hK hP 8 0 rfl rfl hi dX8_makes_52 ?_
          refine lv_iload hx hb dX8_makes_53 (lv_at hl 4 rfl) ?_
          refine lv_isub hx hb dX8_makes_55 ?_
          obtain ⟨hi, hM⟩ := gi_some hM
          refine st_i (wf := fun z => (wO ct aO z mO64)) (m1 := upi mO 8 v1.toNatClampNeg ((mO 8 v1.toNatClampNeg) - v4)) hx hb hK hP hD hS 8 rfl hi dX8_makes_56 rfl (fun mO_3 emO_3 H locs hP hD hS => ?_)
          have hM := nm_at emO_3 hM
          refine lv_aload_n hx hb dX8_makes_57 rfl (lv_at hl 0 rfl) ?_
          refine va_get (D := (dC, dI)) (ci := 8) (v := .ref (aO 10)) (C := RX8) (T := TX8) (N := 45) hx hb hts iwX8_makes_X8 hown hK hP 0 rfl rfl 26 (by decide) (hts _ (List.mem_of_getElem? (i := 2) rfl)) (fun _ h9 => h9) rfl dX8_makes_58 ?_
          refine lv_bipush (v := 6) hx hb dX8_makes_61 (by decide) ?_
          refine lv_iload hx hb dX8_makes_63 (lv_at hl 6 rfl) ?_
          refine lv_imul hx hb dX8_makes_65 ?_
          refine lv_iload_n hx hb dX8_makes_66 rfl (lv_at hl 1 rfl) ?_
          obtain ⟨hi, hM⟩ := gi_some hM
          refine st_i (wf := fun z => (wO ct aO z mO64)) (m1 := upi mO_3 10 ((6 : Int32) * v6).toNatClampNeg v1) hx hb hK hP hD hS 10 rfl hi dX8_makes_67 rfl (fun mO_4 emO_4 H locs hP hD hS => ?_)
          have hM := nm_at emO_4 hM
          refine lv_aload_n hx hb dX8_makes_68 rfl (lv_at hl 0 rfl) ?_
          refine va_get (D := (dC, dI)) (ci := 8) (v := .ref (aO 10)) (C := RX8) (T := TX8) (N := 45) hx hb hts iwX8_makes_X8 hown hK hP 0 rfl rfl 26 (by decide) (hts _ (List.mem_of_getElem? (i := 2) rfl)) (fun _ h9 => h9) rfl dX8_makes_69 ?_
          refine lv_bipush (v := 6) hx hb dX8_makes_72 (by decide) ?_
          refine lv_iload hx hb dX8_makes_74 (lv_at hl 6 rfl) ?_
          refine lv_imul hx hb dX8_makes_76 ?_
          refine lv_iconst (v := 1) hx hb dX8_makes_77 (by decide) ?_
          refine lv_iadd hx hb dX8_makes_78 ?_
          refine lv_iload_n hx hb dX8_makes_79 rfl (lv_at hl 2 rfl) ?_
          obtain ⟨hi, hM⟩ := gi_some hM
          refine st_i (wf := fun z => (wO ct aO z mO64)) (m1 := upi mO_4 10 (((6 : Int32) * v6) + (1 : Int32)).toNatClampNeg v2) hx hb hK hP hD hS 10 rfl hi dX8_makes_80 rfl (fun mO_5 emO_5 H locs hP hD hS => ?_)
          have hM := nm_at emO_5 hM
          refine lv_aload_n hx hb dX8_makes_81 rfl (lv_at hl 0 rfl) ?_
          refine va_get (D := (dC, dI)) (ci := 8) (v := .ref (aO 10)) (C := RX8) (T := TX8) (N := 45) hx hb hts iwX8_makes_X8 hown hK hP 0 rfl rfl 26 (by decide) (hts _ (List.mem_of_getElem? (i := 2) rfl)) (fun _ h9 => h9) rfl dX8_makes_82 ?_
          refine lv_bipush (v := 6) hx hb dX8_makes_85 (by decide) ?_
          refine lv_iload hx hb dX8_makes_87 (lv_at hl 6 rfl) ?_
          refine lv_imul hx hb dX8_makes_89 ?_
          refine lv_iconst (v := 2) hx hb dX8_makes_90 (by decide) ?_
          refine lv_iadd hx hb dX8_makes_91 ?_
          refine lv_iload_n hx hb dX8_makes_92 rfl (lv_at hl 3 rfl) ?_
          obtain ⟨hi, hM⟩ := gi_some hM
          refine st_i (wf := fun z => (wO ct aO z mO64)) (m1 := upi mO_5 10 (((6 : Int32) * v6) + (2 : Int32)).toNatClampNeg v3) hx hb hK hP hD hS 10 rfl hi dX8_makes_93 rfl (fun mO_6 emO_6 H locs hP hD hS => ?_)
          have hM := nm_at emO_6 hM
          refine lv_aload_n hx hb dX8_makes_94 rfl (lv_at hl 0 rfl) ?_
          refine va_get (D := (dC, dI)) (ci := 8) (v := .ref (aO 10)) (C := RX8) (T := TX8) (N := 45) hx hb hts iwX8_makes_X8 hown hK hP 0 rfl rfl 26 (by decide) (hts _ (List.mem_of_getElem? (i := 2) rfl)) (fun _ h9 => h9) rfl dX8_makes_95 ?_
          refine lv_bipush (v := 6) hx hb dX8_makes_98 (by decide) ?_
          refine lv_iload hx hb dX8_makes_100 (lv_at hl 6 rfl) ?_
          refine lv_imul hx hb dX8_makes_102 ?_
          refine lv_iconst (v := 3) hx hb dX8_makes_103 (by decide) ?_
          refine lv_iadd hx hb dX8_makes_104 ?_
          refine lv_iload hx hb dX8_makes_105 (lv_at hl 4 rfl) ?_
          obtain ⟨hi, hM⟩ := gi_some hM
          refine st_i (wf := fun z => (wO ct aO z mO64)) (m1 := upi mO_6 10 (((6 : Int32) * v6) + (3 : Int32)).toNatClampNeg v4) hx hb hK hP hD hS 10 rfl hi dX8_makes_107 rfl (fun mO_7 emO_7 H locs hP hD hS => ?_)
          have hM := nm_at emO_7 hM
          refine lv_aload_n hx hb dX8_makes_108 rfl (lv_at hl 0 rfl) ?_
          refine va_get (D := (dC, dI)) (ci := 8) (v := .ref (aO 10)) (C := RX8) (T := TX8) (N := 45) hx hb hts iwX8_makes_X8 hown hK hP 0 rfl rfl 26 (by decide) (hts _ (List.mem_of_getElem? (i := 2) rfl)) (fun _ h9 => h9) rfl dX8_makes_109 ?_
          refine lv_bipush (v := 6) hx hb dX8_makes_112 (by decide) ?_
          refine lv_iload hx hb dX8_makes_114 (lv_at hl 6 rfl) ?_
          refine lv_imul hx hb dX8_makes_116 ?_
          refine lv_iconst (v := 4) hx hb dX8_makes_117 (by decide) ?_
          refine lv_iadd hx hb dX8_makes_118 ?_
          refine lv_iload hx hb dX8_makes_119 (lv_at hl 4 rfl) ?_
          refine lv_iload hx hb dX8_makes_121 (lv_at hl 4 rfl) ?_
          refine lv_iload hx hb dX8_makes_123 (lv_at hl 5 rfl) ?_
          refine lv_imul hx hb dX8_makes_125 ?_
          refine lv_bipush (v := 100) hx hb dX8_makes_126 (by decide) ?_
          refine lv_idiv hx hb dX8_makes_128 (by decide) ?_
          refine lv_iadd hx hb dX8_makes_129 ?_
          obtain ⟨hi, hM⟩ := gi_some hM
          refine st_i (wf := fun z => (wO ct aO z mO64)) (m1 := upi mO_7 10 (((6 : Int32) * v6) + (4 : Int32)).toNatClampNeg (v4 + ((v4 * v5) / (100 : Int32)))) hx hb hK hP hD hS 10 rfl hi dX8_makes_130 rfl (fun mO_8 emO_8 H locs hP hD hS => ?_)
          have hM := nm_at emO_8 hM
          refine lv_aload_n hx hb dX8_makes_131 rfl (lv_at hl 0 rfl) ?_
          refine va_get (D := (dC, dI)) (ci := 8) (v := .ref (aO 10)) (C := RX8) (T := TX8) (N := 45) hx hb hts iwX8_makes_X8 hown hK hP 0 rfl rfl 26 (by decide) (hts _ (List.mem_of_getElem? (i := 2) rfl)) (fun _ h9 => h9) rfl dX8_makes_132 ?_
          refine lv_bipush (v := 6) hx hb dX8_makes_135 (by decide) ?_
          refine lv_iload hx hb dX8_makes_137 (lv_at hl 6 rfl) ?_
          refine lv_imul hx hb dX8_makes_139 ?_
          refine lv_iconst (v := 5) hx hb dX8_makes_140 (by decide) ?_
          refine lv_iadd hx hb dX8_makes_141 ?_
          refine lv_aload_n hx hb dX8_makes_142 rfl (lv_at hl 0 rfl) ?_
          refine va_get (D := (dC, dI)) (ci := 8) (v := .int (mO_8 0 23)) (C := RX8) (T := TX8) (N := 45) hx hb hts iwX8_makes_X8 hown hK hP 0 rfl rfl 23 (by decide) (hts _ (List.mem_of_getElem? (i := 3) rfl)) (fun _ h9 => h9) rfl dX8_makes_143 ?_
          refine lv_aload_n hx hb dX8_makes_146 rfl (lv_at hl 0 rfl) ?_
          refine lv_iload_n hx hb dX8_makes_147 rfl (lv_at hl 2 rfl) ?_
          refine lv_iconst (v := 3) hx hb dX8_makes_148 (by decide) ?_
          obtain ⟨x_9, hr_10, hM⟩ := bn_some hM
          refine gv_i (r0 := x_9) (wn := (wO ct aO mO_8 mO64)) (va_runV (As := [.int v2, .int (3 : Int32)]) (rest := [.int (mO_8 0 23), .int (((6 : Int32) * v6) + (5 : Int32)), .ref (aO 10)]) ⟨hx, hb, hml, hown, hts⟩ (kX8_of l dC dI ct aO _ mO_8 mO64 v2 (3 : Int32) _ hr_10) (cwV 2 hts gX8_makes_X8_of rfl rfl rfl hvX8_of ⟨Nat.le_of_ble_eq_true rfl, Nat.le_of_ble_eq_true rfl⟩) (preV_of E0_ok hK hP hD (is := [0, 1, 2, 3, 4, 5, 6, 7, 8, 9, 10, 11, 12, 13, 14, 15, 16, 17, 18, 19, 20, 21, 22, 23, 24, 25]) rfl rfl rfl (ci := 8) rfl 0 rfl e_0) rfl rfl hl.1 rfl (lv_room (Nat.le_of_ble_eq_true rfl)) dX8_makes_149 ⟨Nat.le_of_ble_eq_true rfl, Nat.le_of_ble_eq_true rfl⟩) hP hD hS hA [0, 1, 2, 3, 4, 5, 6, 7, 8, 9, 10, 11, 12, 13, 14, 15, 16, 17, 18, 19, 20, 21, 22, 23, 24, 25] [] [0, 1, 2, 3, 4, 5, 6, 7, 8, 9, 10, 11, 12, 13, 14, 15, 16, 17, 18, 19, 20, 21, 22, 23, 24, 25] rfl rfl rfl (by decide) rfl rfl (fun H locs hP hD hS => ?_)
          refine lv_iadd hx hb dX8_makes_152 ?_
          obtain ⟨hi, hM⟩ := gi_some hM
          refine st_i (wf := fun z => (wO ct aO z mO64)) (m1 := upi mO_8 10 (((6 : Int32) * v6) + (5 : Int32)).toNatClampNeg ((mO_8 0 23) + x_9)) hx hb hK hP hD hS 10 rfl hi dX8_makes_153 rfl (fun mO_12 emO_12 H locs hP hD hS => ?_)
          have hM := nm_at emO_12 hM
          refine lv_iload hx hb dX8_makes_154 (lv_at hl 6 rfl) ?_
          have hR := som hM
          rw [hR] at hQ
          exact ret_i hQ hx hb hr hlocks hP hK hD hS dX8_makes_156
        · have hM := it_n hc_2 hM
          refine lv_iconst (v := -1) hx hb dX8_makes_44 (by decide) ?_
          have hR := som hM
          rw [hR] at hQ
          exact ret_i hQ hx hb hr hlocks hP hK hD hS dX8_makes_45
    have I3 : ∀ (n : Nat) (v6 : Int32), itr (fun q => mX8_makes_s3 v1 v2 v3 v4 v5 mO mO64 q) n v6 = some ex3 → ∀ (H : Heap) (locs : List Loc), va_P (dC, dI) vwCl (wO ct aO mO mO64) H → va_D A (wO ct aO mO mO64) → va_S A s.heap H locs → ∀ ls : Array Slot, lv_has ls 7 [(0, .ref (aO 0)), (1, .int v1), (2, .int v2), (3, .int v3), (4, .int v4), (5, .int v5), (6, .int v6)] → W p l e (headSpec wsX8_makes rmX8_makes).room s m args below meth c H locs 0 0 Q (F0 m 3 ls []) := by
      intro n
      induction n with
      | zero => intro v6 hit; exact (itr_zero hit).elim
      | succ n ih3 =>
        intro v6 hit H locs hP hD hS ls hl
        obtain ⟨o3, hM, hbk3, hex3⟩ := itr_succ hit
        replace hM : mX8_makes_s3 v1 v2 v3 v4 v5 mO mO64 v6 = some o3 := hM
        unfold mX8_makes_s3 at hM
        refine lv_iload hx hb dX8_makes_3 (lv_at hl 6 rfl) ?_
        refine lv_bipush (v := 40) hx hb dX8_makes_5 (by decide) ?_
        refine lv_icmp_ge (tgt := 26) hx hb dX8_makes_7 (by decide) (fun hc_13 => ?_) (fun hc_13 => ?_)
        · have hM := it_p hc_13 hM
          have hR := som hM
          exact X3_0 v6 (hex3 _ hR).symm _ _ hP hD hS _ (lv_sub hl [0, 1, 2, 3, 4, 5, 6] rfl)
        · have hM := it_n hc_13 hM
          refine lv_aload_n hx hb dX8_makes_10 rfl (lv_at hl 0 rfl) ?_
          refine lv_iload hx hb dX8_makes_11 (lv_at hl 6 rfl) ?_
          refine lv_iconst (v := 3) hx hb dX8_makes_13 (by decide) ?_
          obtain ⟨x_14, hr_15, hM⟩ := bn_some hM
          refine gv_i (r0 := x_14) (wn := (wO ct aO mO mO64)) (va_runV (As := [.int v6, .int (3 : Int32)]) (rest := []) ⟨hx, hb, hml, hown, hts⟩ (kX8_loanAt l dC dI ct aO _ mO mO64 v6 (3 : Int32) _ hr_15) (cwV 2 hts gX8_makes_X8_loanAt rfl rfl rfl hvX8_loanAt ⟨Nat.le_of_ble_eq_true rfl, Nat.le_of_ble_eq_true rfl⟩) (preV_of E0_ok hK hP hD (is := [0, 1, 2, 3, 4, 5, 6, 7, 8, 9, 10, 11, 12, 13, 14, 15, 16, 17, 18, 19, 20, 21, 22, 23, 24, 25]) rfl rfl rfl (ci := 8) rfl 0 rfl e_0) rfl rfl hl.1 rfl (lv_room (Nat.le_of_ble_eq_true rfl)) dX8_makes_14 ⟨Nat.le_of_ble_eq_true rfl, Nat.le_of_ble_eq_true rfl⟩) hP hD hS hA [0, 1, 2, 3, 4, 5, 6, 7, 8, 9, 10, 11, 12, 13, 14, 15, 16, 17, 18, 19, 20, 21, 22, 23, 24, 25] [] [0, 1, 2, 3, 4, 5, 6, 7, 8, 9, 10, 11, 12, 13, 14, 15, 16, 17, 18, 19, 20, 21, 22, 23, 24, 25] rfl rfl rfl (by decide) rfl rfl (fun H locs hP hD hS => ?_)
          refine lv_if_le (tgt := 26) hx hb dX8_makes_17 (by decide) (fun hc_17 => ?_) (fun hc_17 => ?_)
          · have hM := it_p hc_17 hM
            have hR := som hM
            exact X3_0 v6 (hex3 _ hR).symm _ _ hP hD hS _ (lv_sub hl [0, 1, 2, 3, 4, 5, 6] rfl)
          · have hM := it_n hc_17 hM
            obtain ⟨x_18, ex_18⟩ : ∃ y : Int32, y = (v6 + (1 : Int32)) := ⟨_, rfl⟩
            have hM := nm_at ex_18 hM
            refine lv_iinc (v := x_18) (lv' := [(6, .int x_18), (0, .ref (aO 0)), (1, .int v1), (2, .int v2), (3, .int v3), (4, .int v4), (5, .int v5)]) hx hb dX8_makes_20 hl (k := 6) rfl (by rw [ex_18]; rfl) (by decide) rfl (fun ls hl => ?_)
            refine lv_goto (tgt := 3) hx hb dX8_makes_23 (by decide) ?_
            have hR := som hM
            exact ih3 x_18 (hbk3 _ hR) _ _ hP hD hS _ (lv_sub hl [1, 2, 3, 4, 5, 6, 0] rfl)
    exact I3 FU v6 hit3 _ _ hP hD hS _ hl
  refine lv_iconst (v := 0) hx hb dX8_makes_0 (by decide) ?_
  refine lv_istore (lv' := [(6, .int (0 : Int32)), (0, .ref (aO 0)), (1, .int v1), (2, .int v2), (3, .int v3), (4, .int v4), (5, .int v5)]) hx hb dX8_makes_1 hl (by decide) rfl (fun ls hl => ?_)
  exact N3 v1 v2 v3 v4 v5 (0 : Int32) mO hM _ _ hP hD hS _ (lv_sub hl [1, 2, 3, 4, 5, 6, 0] rfl)
abbrev rmX8_isLoan : Room := { frames := 2, cells := 0, slots := 0, locals := 43 }
set_option maxHeartbeats 4000000 in
set_option maxRecDepth 100000 in
theorem kX8_isLoan (l : Launch) (dC : Nat → ClassId) (dI : Nat → Nat → Nat) (ct : Nat → ClassId) (aO : Nat → Nat) (sz : Nat) (mO : Mem) (mO64 : Lem) (v1 : Int32) (v2 : Int32) (v3 : Int32) (v4 : Int32) (res : Int32) (hM : mX8_isLoan mO mO64 v1 v2 v3 v4 = some res) : Met l yX8_isLoan wsX8_isLoan rmX8_isLoan (va_Pc [.ref (aO 0), .int v1, .int v2, .int v3, .int v4] (PB (dC, dI) ct E0 sz (wO ct aO mO mO64))) (Qi (dC, dI) ct (va_A (wO ct aO mO mO64) sz) res (wO ct aO mO mO64)) 0 0 (va_A (wO ct aO mO mO64) sz) := by
  refine Met.ofW (cc := cX8_isLoan) (maxL := 5) (ret := (some .boolean)) (by decide) rfl ?_
  intro p e s m args below meth c s₁ B hml hv
  obtain ⟨hargs, hsz, hP, hK, hD0, hE⟩ := hv
  have hx := B.exec
  have hb := B.bytes
  have hr := B.returns
  have hts := atoms_spec (ws := wsX8_isLoan) B.pre
  have hown : s.vm.findClass RX8 = some m.cls := findClass_of_methodNamed B.named
  have hlocks := B.notSynchronized
  clear B s₁
  subst hsz
  have hD := hD0.self (sz := s.heap.size)
  clear hD0
  generalize hAe : va_A (wO ct aO mO mO64) s.heap.size = A at hD hE ⊢
  have hA : ∀ q : Nat, s.heap.size ≤ q → A q := fun q h => by rw [← hAe]; exact Or.inr h
  clear hAe
  have hS : va_S A s.heap s.heap [] := va_S.rf
  refine cutQ (fun Q hQ => ?_)
  refine entryW (vs := [.ref (aO 0), .int v1, .int v2, .int v3, .int v4]) hargs (Nat.le_of_ble_eq_true rfl) (fun ls hl => ?_)
  replace hl : lv_has ls 5 [(0, .ref (aO 0)), (1, .int v1), (2, .int v2), (3, .int v3), (4, .int v4)] := hl
  unfold mX8_isLoan at hM
  refine lv_iload_n hx hb dX8_isLoan_0 rfl (lv_at hl 1 rfl) ?_
  refine lv_if_lt (tgt := 73) hx hb dX8_isLoan_1 (by decide) (fun hc_1 => ?_) (fun hc_1 => ?_)
  · have hM := it_p hc_1 hM
    refine lv_iconst (v := 0) hx hb dX8_isLoan_73 (by decide) ?_
    have hR := som hM
    rw [hR] at hQ
    exact ret_z hQ hx hb hr hlocks rfl hP hK hD hS dX8_isLoan_74
  · have hM := it_n hc_1 hM
    refine lv_aload_n hx hb dX8_isLoan_4 rfl (lv_at hl 0 rfl) ?_
    refine lv_iload_n hx hb dX8_isLoan_5 rfl (lv_at hl 1 rfl) ?_
    refine lv_bipush (v := 10) hx hb dX8_isLoan_6 (by decide) ?_
    refine lv_idiv hx hb dX8_isLoan_8 (by decide) ?_
    obtain ⟨x_2, hr_3, hM⟩ := bn_some hM
    refine gv_i (r0 := x_2) (wn := (wO ct aO mO mO64)) (va_runV (As := [.int (v1 / (10 : Int32))]) (rest := []) ⟨hx, hb, hml, hown, hts⟩ (kX8_isSort l dC dI ct aO _ mO mO64 (v1 / (10 : Int32)) _ hr_3) (cwV 1 hts gX8_isLoan_X8_isSort rfl rfl rfl hvX8_isSort ⟨Nat.le_of_ble_eq_true rfl, Nat.le_of_ble_eq_true rfl⟩) (preV_of E0_ok hK hP hD (is := [0, 1, 2, 3, 4, 5, 6, 7, 8, 9, 10, 11, 12, 13, 14, 15, 16, 17, 18, 19, 20, 21, 22, 23, 24, 25]) rfl rfl rfl (ci := 8) rfl 0 rfl e_0) rfl rfl hl.1 rfl (lv_room (Nat.le_of_ble_eq_true rfl)) dX8_isLoan_9 ⟨Nat.le_of_ble_eq_true rfl, Nat.le_of_ble_eq_true rfl⟩) hP hD hS hA [0, 1, 2, 3, 4, 5, 6, 7, 8, 9, 10, 11, 12, 13, 14, 15, 16, 17, 18, 19, 20, 21, 22, 23, 24, 25] [] [0, 1, 2, 3, 4, 5, 6, 7, 8, 9, 10, 11, 12, 13, 14, 15, 16, 17, 18, 19, 20, 21, 22, 23, 24, 25] rfl rfl rfl (by decide) rfl rfl (fun H locs hP hD hS => ?_)
    refine lv_if_eq (tgt := 73) hx hb dX8_isLoan_12 (by decide) (fun hc_5 => ?_) (fun hc_5 => ?_)
    · have hM := it_p hc_5 hM
      refine lv_iconst (v := 0) hx hb dX8_isLoan_73 (by decide) ?_
      have hR := som hM
      rw [hR] at hQ
      exact ret_z hQ hx hb hr hlocks rfl hP hK hD hS dX8_isLoan_74
    · have hM := it_n hc_5 hM
      refine lv_aload_n hx hb dX8_isLoan_15 rfl (lv_at hl 0 rfl) ?_
      refine lv_iload_n hx hb dX8_isLoan_16 rfl (lv_at hl 1 rfl) ?_
      refine lv_bipush (v := 10) hx hb dX8_isLoan_17 (by decide) ?_
      refine lv_irem hx hb dX8_isLoan_19 (by decide) ?_
      obtain ⟨x_6, hr_7, hM⟩ := bn_some hM
      refine gv_i (r0 := x_6) (wn := (wO ct aO mO mO64)) (va_runV (As := [.int (v1 - v1 / (10 : Int32) * (10 : Int32))]) (rest := []) ⟨hx, hb, hml, hown, hts⟩ (kX8_isSort l dC dI ct aO _ mO mO64 (v1 - v1 / (10 : Int32) * (10 : Int32)) _ hr_7) (cwV 1 hts gX8_isLoan_X8_isSort rfl rfl rfl hvX8_isSort ⟨Nat.le_of_ble_eq_true rfl, Nat.le_of_ble_eq_true rfl⟩) (preV_of E0_ok hK hP hD (is := [0, 1, 2, 3, 4, 5, 6, 7, 8, 9, 10, 11, 12, 13, 14, 15, 16, 17, 18, 19, 20, 21, 22, 23, 24, 25]) rfl rfl rfl (ci := 8) rfl 0 rfl e_0) rfl rfl hl.1 rfl (lv_room (Nat.le_of_ble_eq_true rfl)) dX8_isLoan_20 ⟨Nat.le_of_ble_eq_true rfl, Nat.le_of_ble_eq_true rfl⟩) hP hD hS hA [0, 1, 2, 3, 4, 5, 6, 7, 8, 9, 10, 11, 12, 13, 14, 15, 16, 17, 18, 19, 20, 21, 22, 23, 24, 25] [] [0, 1, 2, 3, 4, 5, 6, 7, 8, 9, 10, 11, 12, 13, 14, 15, 16, 17, 18, 19, 20, 21, 22, 23, 24, 25] rfl rfl rfl (by decide) rfl rfl (fun H locs hP hD hS => ?_)
      refine lv_if_eq (tgt := 73) hx hb dX8_isLoan_23 (by decide) (fun hc_9 => ?_) (fun hc_9 => ?_)
      · have hM := it_p hc_9 hM
        refine lv_iconst (v := 0) hx hb dX8_isLoan_73 (by decide) ?_
        have hR := som hM
        rw [hR] at hQ
        exact ret_z hQ hx hb hr hlocks rfl hP hK hD hS dX8_isLoan_74
      · have hM := it_n hc_9 hM
        refine lv_iload_n hx hb dX8_isLoan_26 rfl (lv_at hl 1 rfl) ?_
        refine lv_bipush (v := 10) hx hb dX8_isLoan_27 (by decide) ?_
        refine lv_idiv hx hb dX8_isLoan_29 (by decide) ?_
        refine lv_iload_n hx hb dX8_isLoan_30 rfl (lv_at hl 1 rfl) ?_
        refine lv_bipush (v := 10) hx hb dX8_isLoan_31 (by decide) ?_
        refine lv_irem hx hb dX8_isLoan_33 (by decide) ?_
        refine lv_icmp_eq (tgt := 73) hx hb dX8_isLoan_34 (by decide) (fun hc_10 => ?_) (fun hc_10 => ?_)
        · have hM := it_p hc_10 hM
          refine lv_iconst (v := 0) hx hb dX8_isLoan_73 (by decide) ?_
          have hR := som hM
          rw [hR] at hQ
          exact ret_z hQ hx hb hr hlocks rfl hP hK hD hS dX8_isLoan_74
        · have hM := it_n hc_10 hM
          refine lv_iload_n hx hb dX8_isLoan_37 rfl (lv_at hl 2 rfl) ?_
          refine lv_iconst (v := 0) hx hb dX8_isLoan_38 (by decide) ?_
          refine lv_iconst (v := 4) hx hb dX8_isLoan_39 (by decide) ?_
          obtain ⟨x_11, hr_12, hM⟩ := bn_some hM
          refine gv_i (r0 := x_11) (wn := (wO ct aO mO mO64)) (va_runS (As := [.int v2, .int (0 : Int32), .int (4 : Int32)]) (rest := []) ⟨hx, hb, hml, hown, hts⟩ (kX8_in l dC dI ct _ v2 (0 : Int32) (4 : Int32) _ hr_12) (va_cwS 3 hts gX8_isLoan_X8_in rfl rfl rfl hvX8_in.2 ⟨Nat.le_of_ble_eq_true rfl, Nat.le_of_ble_eq_true rfl⟩) (preS_of E0_ok hK hP hD (is := []) rfl rfl e_0) rfl rfl hl.1 rfl (lv_room (Nat.le_of_ble_eq_true rfl)) dX8_isLoan_40 ⟨Nat.le_of_ble_eq_true rfl, Nat.le_of_ble_eq_true rfl⟩) hP hD hS hA [] [0, 1, 2, 3, 4, 5, 6, 7, 8, 9, 10, 11, 12, 13, 14, 15, 16, 17, 18, 19, 20, 21, 22, 23, 24, 25] [0, 1, 2, 3, 4, 5, 6, 7, 8, 9, 10, 11, 12, 13, 14, 15, 16, 17, 18, 19, 20, 21, 22, 23, 24, 25] rfl rfl rfl (by decide) rfl rfl (fun H locs hP hD hS => ?_)
          refine lv_if_eq (tgt := 73) hx hb dX8_isLoan_43 (by decide) (fun hc_14 => ?_) (fun hc_14 => ?_)
          · have hM := it_p hc_14 hM
            refine lv_iconst (v := 0) hx hb dX8_isLoan_73 (by decide) ?_
            have hR := som hM
            rw [hR] at hQ
            exact ret_z hQ hx hb hr hlocks rfl hP hK hD hS dX8_isLoan_74
          · have hM := it_n hc_14 hM
            refine lv_iload_n hx hb dX8_isLoan_46 rfl (lv_at hl 3 rfl) ?_
            refine lv_iconst (v := 1) hx hb dX8_isLoan_47 (by decide) ?_
            refine lv_sipush (v := 9999) hx hb dX8_isLoan_48 (by decide) ?_
            obtain ⟨x_15, hr_16, hM⟩ := bn_some hM
            refine gv_i (r0 := x_15) (wn := (wO ct aO mO mO64)) (va_runS (As := [.int v3, .int (1 : Int32), .int (9999 : Int32)]) (rest := []) ⟨hx, hb, hml, hown, hts⟩ (kX8_in l dC dI ct _ v3 (1 : Int32) (9999 : Int32) _ hr_16) (va_cwS 3 hts gX8_isLoan_X8_in rfl rfl rfl hvX8_in.2 ⟨Nat.le_of_ble_eq_true rfl, Nat.le_of_ble_eq_true rfl⟩) (preS_of E0_ok hK hP hD (is := []) rfl rfl e_0) rfl rfl hl.1 rfl (lv_room (Nat.le_of_ble_eq_true rfl)) dX8_isLoan_51 ⟨Nat.le_of_ble_eq_true rfl, Nat.le_of_ble_eq_true rfl⟩) hP hD hS hA [] [0, 1, 2, 3, 4, 5, 6, 7, 8, 9, 10, 11, 12, 13, 14, 15, 16, 17, 18, 19, 20, 21, 22, 23, 24, 25] [0, 1, 2, 3, 4, 5, 6, 7, 8, 9, 10, 11, 12, 13, 14, 15, 16, 17, 18, 19, 20, 21, 22, 23, 24, 25] rfl rfl rfl (by decide) rfl rfl (fun H locs hP hD hS => ?_)
            refine lv_if_eq (tgt := 73) hx hb dX8_isLoan_54 (by decide) (fun hc_18 => ?_) (fun hc_18 => ?_)
            · have hM := it_p hc_18 hM
              refine lv_iconst (v := 0) hx hb dX8_isLoan_73 (by decide) ?_
              have hR := som hM
              rw [hR] at hQ
              exact ret_z hQ hx hb hr hlocks rfl hP hK hD hS dX8_isLoan_74
            · have hM := it_n hc_18 hM
              refine lv_iload hx hb dX8_isLoan_57 (lv_at hl 4 rfl) ?_
              refine lv_iconst (v := 0) hx hb dX8_isLoan_59 (by decide) ?_
              refine lv_sipush (v := 400) hx hb dX8_isLoan_60 (by decide) ?_
              obtain ⟨x_19, hr_20, hM⟩ := bn_some hM
              refine gv_i (r0 := x_19) (wn := (wO ct aO mO mO64)) (va_runS (As := [.int v4, .int (0 : Int32), .int (400 : Int32)]) (rest := []) ⟨hx, hb, hml, hown, hts⟩ (kX8_in l dC dI ct _ v4 (0 : Int32) (400 : Int32) _ hr_20) (va_cwS 3 hts gX8_isLoan_X8_in rfl rfl rfl hvX8_in.2 ⟨Nat.le_of_ble_eq_true rfl, Nat.le_of_ble_eq_true rfl⟩) (preS_of E0_ok hK hP hD (is := []) rfl rfl e_0) rfl rfl hl.1 rfl (lv_room (Nat.le_of_ble_eq_true rfl)) dX8_isLoan_63 ⟨Nat.le_of_ble_eq_true rfl, Nat.le_of_ble_eq_true rfl⟩) hP hD hS hA [] [0, 1, 2, 3, 4, 5, 6, 7, 8, 9, 10, 11, 12, 13, 14, 15, 16, 17, 18, 19, 20, 21, 22, 23, 24, 25] [0, 1, 2, 3, 4, 5, 6, 7, 8, 9, 10, 11, 12, 13, 14, 15, 16, 17, 18, 19, 20, 21, 22, 23, 24, 25] rfl rfl rfl (by decide) rfl rfl (fun H locs hP hD hS => ?_)
              refine lv_if_eq (tgt := 73) hx hb dX8_isLoan_66 (by decide) (fun hc_22 => ?_) (fun hc_22 => ?_)
              · have hM := it_p hc_22 hM
                refine lv_iconst (v := 0) hx hb dX8_isLoan_73 (by decide) ?_
                have hR := som hM
                rw [hR] at hQ
                exact ret_z hQ hx hb hr hlocks rfl hP hK hD hS dX8_isLoan_74
              · have hM := it_n hc_22 hM
                refine lv_iconst (v := 1) hx hb dX8_isLoan_69 (by decide) ?_
                refine lv_goto (tgt := 74) hx hb dX8_isLoan_70 (by decide) ?_
                have hR := som hM
                rw [hR] at hQ
                exact ret_z hQ hx hb hr hlocks rfl hP hK hD hS dX8_isLoan_74
abbrev rmX8_lend : Room := { frames := 3, cells := 0, slots := 0, locals := 67 }
set_option maxHeartbeats 4000000 in
set_option maxRecDepth 100000 in
theorem kX8_lend (l : Launch) (dC : Nat → ClassId) (dI : Nat → Nat → Nat) (ct : Nat → ClassId) (aO : Nat → Nat) (sz : Nat) (mO : Mem) (mO64 : Lem) (v1 : Int32) (v2 : Int32) (v3 : Int32) (v4 : Int32) (res : (Int32 × Mem)) (hM : mX8_lend mO mO64 v1 v2 v3 v4 = some res) : Met l yX8_lend wsX8_lend rmX8_lend (va_Pc [.ref (aO 0), .int v1, .int v2, .int v3, .int v4] (PB (dC, dI) ct E0 sz (wO ct aO mO mO64))) (Qi (dC, dI) ct (va_A (wO ct aO mO mO64) sz) res.1 (wO ct aO res.2 mO64)) 0 0 (va_A (wO ct aO mO mO64) sz) := by
  refine Met.ofW (cc := cX8_lend) (maxL := 5) (ret := (some .int)) (by decide) rfl ?_
  intro p e s m args below meth c s₁ B hml hv
  obtain ⟨hargs, hsz, hP, hK, hD0, hE⟩ := hv
  have hx := B.exec
  have hb := B.bytes
  have hr := B.returns
  have hts := atoms_spec (ws := wsX8_lend) B.pre
  have hown : s.vm.findClass RX8 = some m.cls := findClass_of_methodNamed B.named
  have hlocks := B.notSynchronized
  clear B s₁
  subst hsz
  have hD := hD0.self (sz := s.heap.size)
  clear hD0
  generalize hAe : va_A (wO ct aO mO mO64) s.heap.size = A at hD hE ⊢
  have hA : ∀ q : Nat, s.heap.size ≤ q → A q := fun q h => by rw [← hAe]; exact Or.inr h
  clear hAe
  have hS : va_S A s.heap s.heap [] := va_S.rf
  refine cutQ (fun Q hQ => ?_)
  refine entryW (vs := [.ref (aO 0), .int v1, .int v2, .int v3, .int v4]) hargs (Nat.le_of_ble_eq_true rfl) (fun ls hl => ?_)
  replace hl : lv_has ls 5 [(0, .ref (aO 0)), (1, .int v1), (2, .int v2), (3, .int v3), (4, .int v4)] := hl
  unfold mX8_lend at hM
  refine lv_aload_n hx hb dX8_lend_0 rfl (lv_at hl 0 rfl) ?_
  refine lv_iload_n hx hb dX8_lend_1 rfl (lv_at hl 1 rfl) ?_
  refine lv_iload_n hx hb dX8_lend_2 rfl (lv_at hl 2 rfl) ?_
  refine lv_iload_n hx hb dX8_lend_3 rfl (lv_at hl 3 rfl) ?_
  refine lv_iload hx hb dX8_lend_4 (lv_at hl 4 rfl) ?_
  obtain ⟨x_1, hr_2, hM⟩ := bn_some hM
  refine gv_i (r0 := x_1) (wn := (wO ct aO mO mO64)) (va_runV (As := [.int v1, .int v2, .int v3, .int v4]) (rest := []) ⟨hx, hb, hml, hown, hts⟩ (kX8_isLoan l dC dI ct aO _ mO mO64 v1 v2 v3 v4 _ hr_2) (cwV 4 hts gX8_lend_X8_isLoan rfl rfl rfl hvX8_isLoan ⟨Nat.le_of_ble_eq_true rfl, Nat.le_of_ble_eq_true rfl⟩) (preV_of E0_ok hK hP hD (is := [0, 1, 2, 3, 4, 5, 6, 7, 8, 9, 10, 11, 12, 13, 14, 15, 16, 17, 18, 19, 20, 21, 22, 23, 24, 25]) rfl rfl rfl (ci := 8) rfl 0 rfl e_0) rfl rfl hl.1 rfl (lv_room (Nat.le_of_ble_eq_true rfl)) dX8_lend_6 ⟨Nat.le_of_ble_eq_true rfl, Nat.le_of_ble_eq_true rfl⟩) hP hD hS hA [0, 1, 2, 3, 4, 5, 6, 7, 8, 9, 10, 11, 12, 13, 14, 15, 16, 17, 18, 19, 20, 21, 22, 23, 24, 25] [] [0, 1, 2, 3, 4, 5, 6, 7, 8, 9, 10, 11, 12, 13, 14, 15, 16, 17, 18, 19, 20, 21, 22, 23, 24, 25] rfl rfl rfl (by decide) rfl rfl (fun H locs hP hD hS => ?_)
  refine lv_if_eq (tgt := 31) hx hb dX8_lend_9 (by decide) (fun hc_4 => ?_) (fun hc_4 => ?_)
  · have hM := it_p hc_4 hM
    refine lv_iconst (v := -1) hx hb dX8_lend_31 (by decide) ?_
    have hR := som hM
    rw [hR] at hQ
    exact ret_i hQ hx hb hr hlocks hP hK hD hS dX8_lend_32
  · have hM := it_n hc_4 hM
    refine lv_aload_n hx hb dX8_lend_12 rfl (lv_at hl 0 rfl) ?_
    refine lv_iload_n hx hb dX8_lend_13 rfl (lv_at hl 1 rfl) ?_
    refine lv_bipush (v := 10) hx hb dX8_lend_14 (by decide) ?_
    refine lv_idiv hx hb dX8_lend_16 (by decide) ?_
    refine lv_iload_n hx hb dX8_lend_17 rfl (lv_at hl 1 rfl) ?_
    refine lv_bipush (v := 10) hx hb dX8_lend_18 (by decide) ?_
    refine lv_irem hx hb dX8_lend_20 (by decide) ?_
    refine lv_iload_n hx hb dX8_lend_21 rfl (lv_at hl 2 rfl) ?_
    refine lv_iload_n hx hb dX8_lend_22 rfl (lv_at hl 3 rfl) ?_
    refine lv_iload hx hb dX8_lend_23 (lv_at hl 4 rfl) ?_
    obtain ⟨q_8, hr_7, hM⟩ := bn_some hM
    obtain ⟨x_5, mO_6⟩ := q_8
    have hM := nm_at (y := x_5) rfl hM
    have hM := nm_at (y := mO_6) rfl hM
    refine gv_i (r0 := x_5) (wn := (wO ct aO mO_6 mO64)) (va_runV (As := [.int (v1 / (10 : Int32)), .int (v1 - v1 / (10 : Int32) * (10 : Int32)), .int v2, .int v3, .int v4]) (rest := []) ⟨hx, hb, hml, hown, hts⟩ (kX8_makes l dC dI ct aO _ mO mO64 (v1 / (10 : Int32)) (v1 - v1 / (10 : Int32) * (10 : Int32)) v2 v3 v4 _ hr_7) (cwV 5 hts gX8_lend_X8_makes rfl rfl rfl hvX8_makes ⟨Nat.le_of_ble_eq_true rfl, Nat.le_of_ble_eq_true rfl⟩) (preV_of E0_ok hK hP hD (is := [0, 1, 2, 3, 4, 5, 6, 7, 8, 9, 10, 11, 12, 13, 14, 15, 16, 17, 18, 19, 20, 21, 22, 23, 24, 25]) rfl rfl rfl (ci := 8) rfl 0 rfl e_0) rfl rfl hl.1 rfl (lv_room (Nat.le_of_ble_eq_true rfl)) dX8_lend_25 ⟨Nat.le_of_ble_eq_true rfl, Nat.le_of_ble_eq_true rfl⟩) hP hD hS hA [0, 1, 2, 3, 4, 5, 6, 7, 8, 9, 10, 11, 12, 13, 14, 15, 16, 17, 18, 19, 20, 21, 22, 23, 24, 25] [] [0, 1, 2, 3, 4, 5, 6, 7, 8, 9, 10, 11, 12, 13, 14, 15, 16, 17, 18, 19, 20, 21, 22, 23, 24, 25] rfl rfl rfl (by decide) rfl rfl (fun H locs hP hD hS => ?_)
    refine lv_goto (tgt := 32) hx hb dX8_lend_28 (by decide) ?_
    have hR := som hM
    rw [hR] at hQ
    exact ret_i hQ hx hb hr hlocks hP hK hD hS dX8_lend_32
abbrev rmX8_pays : Room := { frames := 1, cells := 0, slots := 0, locals := 22 }
theorem iwX8_pays_X8 : ∀ w ∈ wsX80, w ∈ wsX8_pays := fun _ h => List.mem_cons_of_mem _ (List.mem_append_right _ (h))
set_option maxHeartbeats 4000000 in
set_option maxRecDepth 100000 in
theorem kX8_pays (l : Launch) (dC : Nat → ClassId) (dI : Nat → Nat → Nat) (ct : Nat → ClassId) (aO : Nat → Nat) (sz : Nat) (mO : Mem) (mO64 : Lem) (v1 : Int32) (res : Mem) (hM : mX8_pays mO mO64 v1 = some res) : Met l yX8_pays wsX8_pays rmX8_pays (va_Pc [.ref (aO 0), .int v1] (PB (dC, dI) ct E0 sz (wO ct aO mO mO64))) (Qv (dC, dI) ct (va_A (wO ct aO mO mO64) sz) (wO ct aO res mO64)) 0 0 (va_A (wO ct aO mO mO64) sz) := by
  refine Met.ofW (cc := cX8_pays) (maxL := 6) (ret := none) (by decide) rfl ?_
  intro p e s m args below meth c s₁ B hml hv
  obtain ⟨hargs, hsz, hP, hK, hD0, hE⟩ := hv
  have hx := B.exec
  have hb := B.bytes
  have hr := B.returns
  have hts := atoms_spec (ws := wsX8_pays) B.pre
  have hown : s.vm.findClass RX8 = some m.cls := findClass_of_methodNamed B.named
  have hlocks := B.notSynchronized
  clear B s₁
  subst hsz
  have hD := hD0.self (sz := s.heap.size)
  clear hD0
  generalize hAe : va_A (wO ct aO mO mO64) s.heap.size = A at hD hE ⊢
  have hA : ∀ q : Nat, s.heap.size ≤ q → A q := fun q h => by rw [← hAe]; exact Or.inr h
  clear hAe
  have hS : va_S A s.heap s.heap [] := va_S.rf
  refine cutQ (fun Q hQ => ?_)
  refine entryW (vs := [.ref (aO 0), .int v1]) hargs (Nat.le_of_ble_eq_true rfl) (fun ls hl => ?_)
  replace hl : lv_has ls 6 [(0, .ref (aO 0)), (1, .int v1)] := hl
  unfold mX8_pays at hM
  have N50 : ∀ (v1 : Int32) (v2 : Int32) (t1 : Int32) (t2 : Int32) (t3 : Int32) (t4 : Int32) (mO : Mem), mX8_pays_j50 v1 v2 t1 t2 t3 t4 mO mO64 = some res → ∀ (H : Heap) (locs : List Loc), va_P (dC, dI) vwCl (wO ct aO mO mO64) H → va_D A (wO ct aO mO mO64) → va_S A s.heap H locs → ∀ ls : Array Slot, lv_has ls 6 [(0, .ref (aO 0)), (1, .int v1), (2, .int v2)] → W p l e (headSpec wsX8_pays rmX8_pays).room s m args below meth c H locs 0 0 Q (F0 m 50 ls [.int t4, .int t3, .int t2, .int t1, .ref (aO 8)]) := by
    intro v1 v2 t1 t2 t3 t4 mO hM H locs hP hD hS ls hl
    unfold mX8_pays_j50 at hM
    refine lv_iadd hx hb dX8_pays_50 ?_
    refine lv_iadd hx hb dX8_pays_51 ?_
    obtain ⟨hi, hM⟩ := gi_some hM
    refine st_i (wf := fun z => (wO ct aO z mO64)) (m1 := upi mO 8 t1.toNatClampNeg (t2 + (t3 + t4))) hx hb hK hP hD hS 8 rfl hi dX8_pays_52 rfl (fun mO_1 emO_1 H locs hP hD hS => ?_)
    have hM := nm_at emO_1 hM
    refine lv_aload_n hx hb dX8_pays_53 rfl (lv_at hl 0 rfl) ?_
    refine va_get (D := (dC, dI)) (ci := 8) (v := .ref (aO 8)) (C := RX8) (T := TX8) (N := 45) hx hb hts iwX8_pays_X8 hown hK hP 0 rfl rfl 24 (by decide) (hts _ (List.mem_of_getElem? (i := 1) rfl)) (fun _ h9 => h9) rfl dX8_pays_54 ?_
    refine lv_iload_n hx hb dX8_pays_57 rfl (lv_at hl 2 rfl) ?_
    obtain ⟨hi, hM⟩ := gi_some hM
    refine va_iald hx hb hK hP 8 0 rfl rfl hi dX8_pays_58 ?_
    refine lv_aload_n hx hb dX8_pays_59 rfl (lv_at hl 0 rfl) ?_
    refine lv_iload_n hx hb dX8_pays_60 rfl (lv_at hl 1 rfl) ?_
    refine lv_iconst (v := 4) hx hb dX8_pays_61 (by decide) ?_
    obtain ⟨x_2, hr_3, hM⟩ := bn_some hM
    refine gv_i (r0 := x_2) (wn := (wO ct aO mO_1 mO64)) (va_runV (As := [.int v1, .int (4 : Int32)]) (rest := [.int (mO_1 8 v2.toNatClampNeg)]) ⟨hx, hb, hml, hown, hts⟩ (kX8_loanAt l dC dI ct aO _ mO_1 mO64 v1 (4 : Int32) _ hr_3) (cwV 2 hts gX8_pays_X8_loanAt rfl rfl rfl hvX8_loanAt ⟨Nat.le_of_ble_eq_true rfl, Nat.le_of_ble_eq_true rfl⟩) (preV_of E0_ok hK hP hD (is := [0, 1, 2, 3, 4, 5, 6, 7, 8, 9, 10, 11, 12, 13, 14, 15, 16, 17, 18, 19, 20, 21, 22, 23, 24, 25]) rfl rfl rfl (ci := 8) rfl 0 rfl e_0) rfl rfl hl.1 rfl (lv_room (Nat.le_of_ble_eq_true rfl)) dX8_pays_62 ⟨Nat.le_of_ble_eq_true rfl, Nat.le_of_ble_eq_true rfl⟩) hP hD hS hA [0, 1, 2, 3, 4, 5, 6, 7, 8, 9, 10, 11, 12, 13, 14, 15, 16, 17, 18, 19, 20, 21, 22, 23, 24, 25] [] [0, 1, 2, 3, 4, 5, 6, 7, 8, 9, 10, 11, 12, 13, 14, 15, 16, 17, 18, 19, 20, 21, 22, 23, 24, 25] rfl rfl rfl (by decide) rfl rfl (fun H locs hP hD hS => ?_)
    refine va_mmin hx hb (hml.trans hl.1.symm) hown (hts _ (List.mem_of_getElem? (i := 2) rfl)) (hts _ (List.mem_of_getElem? (i := 3) rfl)) (hts _ (List.mem_of_getElem? (i := 4) rfl)) (hts _ (List.mem_of_getElem? (i := 5) rfl)) (Nat.le_of_ble_eq_true rfl) (Nat.le_of_ble_eq_true rfl) (Nat.le_of_ble_eq_true rfl) (Nat.le_of_ble_eq_true rfl) dX8_pays_65 ?_
    refine lv_topi (fun x_5 ex_5 => ?_)
    have hM := nm_at ex_5 hM
    refine lv_istore (lv' := [(5, .int x_5), (0, .ref (aO 0)), (1, .int v1), (2, .int v2)]) hx hb dX8_pays_68 hl (by decide) rfl (fun ls hl => ?_)
    refine lv_aload_n hx hb dX8_pays_70 rfl (lv_at hl 1 rfl) ?_
    refine va_get (D := (dC, dI)) (ci := 8) (v := .ref (aO 8)) (C := RX8) (T := TX8) (N := 45) hx hb hts iwX8_pays_X8 hown hK hP 0 rfl rfl 24 (by decide) (hts _ (List.mem_of_getElem? (i := 1) rfl)) (fun _ h9 => h9) rfl dX8_pays_71 ?_
    refine lv_iload_n hx hb dX8_pays_74 rfl (lv_at hl 3 rfl) ?_
    refine lv_dup2_11 hx hb dX8_pays_75 rfl rfl ?_
    obtain ⟨hi, hM⟩ := gi_some hM
    refine va_iald hx hb hK hP 8 0 rfl rfl hi dX8_pays_76 ?_
    refine lv_iload hx hb dX8_pays_77 (lv_at hl 0 rfl) ?_
    refine lv_isub hx hb dX8_pays_79 ?_
    obtain ⟨hi, hM⟩ := gi_some hM
    refine st_i (wf := fun z => (wO ct aO z mO64)) (m1 := upi mO_1 8 v2.toNatClampNeg ((mO_1 8 v2.toNatClampNeg) - x_5)) hx hb hK hP hD hS 8 rfl hi dX8_pays_80 rfl (fun mO_6 emO_6 H locs hP hD hS => ?_)
    have hM := nm_at emO_6 hM
    refine lv_aload_n hx hb dX8_pays_81 rfl (lv_at hl 1 rfl) ?_
    refine va_get (D := (dC, dI)) (ci := 8) (v := .ref (aO 8)) (C := RX8) (T := TX8) (N := 45) hx hb hts iwX8_pays_X8 hown hK hP 0 rfl rfl 24 (by decide) (hts _ (List.mem_of_getElem? (i := 1) rfl)) (fun _ h9 => h9) rfl dX8_pays_82 ?_
    refine lv_aload_n hx hb dX8_pays_85 rfl (lv_at hl 1 rfl) ?_
    refine lv_iload_n hx hb dX8_pays_86 rfl (lv_at hl 2 rfl) ?_
    refine lv_iconst (v := 0) hx hb dX8_pays_87 (by decide) ?_
    obtain ⟨x_7, hr_8, hM⟩ := bn_some hM
    refine gv_i (r0 := x_7) (wn := (wO ct aO mO_6 mO64)) (va_runV (As := [.int v1, .int (0 : Int32)]) (rest := [.ref (aO 8)]) ⟨hx, hb, hml, hown, hts⟩ (kX8_loanAt l dC dI ct aO _ mO_6 mO64 v1 (0 : Int32) _ hr_8) (cwV 2 hts gX8_pays_X8_loanAt rfl rfl rfl hvX8_loanAt ⟨Nat.le_of_ble_eq_true rfl, Nat.le_of_ble_eq_true rfl⟩) (preV_of E0_ok hK hP hD (is := [0, 1, 2, 3, 4, 5, 6, 7, 8, 9, 10, 11, 12, 13, 14, 15, 16, 17, 18, 19, 20, 21, 22, 23, 24, 25]) rfl rfl rfl (ci := 8) rfl 0 rfl e_0) rfl rfl hl.1 rfl (lv_room (Nat.le_of_ble_eq_true rfl)) dX8_pays_88 ⟨Nat.le_of_ble_eq_true rfl, Nat.le_of_ble_eq_true rfl⟩) hP hD hS hA [0, 1, 2, 3, 4, 5, 6, 7, 8, 9, 10, 11, 12, 13, 14, 15, 16, 17, 18, 19, 20, 21, 22, 23, 24, 25] [] [0, 1, 2, 3, 4, 5, 6, 7, 8, 9, 10, 11, 12, 13, 14, 15, 16, 17, 18, 19, 20, 21, 22, 23, 24, 25] rfl rfl rfl (by decide) rfl rfl (fun H locs hP hD hS => ?_)
    refine lv_dup2_11 hx hb dX8_pays_91 rfl rfl ?_
    obtain ⟨hi, hM⟩ := gi_some hM
    refine va_iald hx hb hK hP 8 0 rfl rfl hi dX8_pays_92 ?_
    refine lv_iload hx hb dX8_pays_93 (lv_at hl 0 rfl) ?_
    refine lv_iadd hx hb dX8_pays_95 ?_
    obtain ⟨hi, hM⟩ := gi_some hM
    refine st_i (wf := fun z => (wO ct aO z mO64)) (m1 := upi mO_6 8 x_7.toNatClampNeg ((mO_6 8 x_7.toNatClampNeg) + x_5)) hx hb hK hP hD hS 8 rfl hi dX8_pays_96 rfl (fun mO_10 emO_10 H locs hP hD hS => ?_)
    have hM := nm_at emO_10 hM
    refine lv_aload_n hx hb dX8_pays_97 rfl (lv_at hl 1 rfl) ?_
    refine va_get (D := (dC, dI)) (ci := 8) (v := .ref (aO 10)) (C := RX8) (T := TX8) (N := 45) hx hb hts iwX8_pays_X8 hown hK hP 0 rfl rfl 26 (by decide) (hts _ (List.mem_of_getElem? (i := 6) rfl)) (fun _ h9 => h9) rfl dX8_pays_98 ?_
    refine lv_bipush (v := 6) hx hb dX8_pays_101 (by decide) ?_
    refine lv_iload_n hx hb dX8_pays_103 rfl (lv_at hl 2 rfl) ?_
    refine lv_imul hx hb dX8_pays_104 ?_
    refine lv_iconst (v := 3) hx hb dX8_pays_105 (by decide) ?_
    refine lv_iadd hx hb dX8_pays_106 ?_
    refine lv_iconst (v := 0) hx hb dX8_pays_107 (by decide) ?_
    obtain ⟨hi, hM⟩ := gi_some hM
    refine st_i (wf := fun z => (wO ct aO z mO64)) (m1 := upi mO_10 10 (((6 : Int32) * v1) + (3 : Int32)).toNatClampNeg (0 : Int32)) hx hb hK hP hD hS 10 rfl hi dX8_pays_108 rfl (fun mO_11 emO_11 H locs hP hD hS => ?_)
    have hM := nm_at emO_11 hM
    have hR := som hM
    rw [hR] at hQ
    exact ret_v hQ hx hb hr hlocks hP hK hD hS dX8_pays_109
  refine lv_aload_n hx hb dX8_pays_0 rfl (lv_at hl 0 rfl) ?_
  refine lv_iload_n hx hb dX8_pays_1 rfl (lv_at hl 1 rfl) ?_
  refine lv_iconst (v := 1) hx hb dX8_pays_2 (by decide) ?_
  obtain ⟨x_12, hr_13, hM⟩ := bn_some hM
  refine gv_i (r0 := x_12) (wn := (wO ct aO mO mO64)) (va_runV (As := [.int v1, .int (1 : Int32)]) (rest := []) ⟨hx, hb, hml, hown, hts⟩ (kX8_loanAt l dC dI ct aO _ mO mO64 v1 (1 : Int32) _ hr_13) (cwV 2 hts gX8_pays_X8_loanAt rfl rfl rfl hvX8_loanAt ⟨Nat.le_of_ble_eq_true rfl, Nat.le_of_ble_eq_true rfl⟩) (preV_of E0_ok hK hP hD (is := [0, 1, 2, 3, 4, 5, 6, 7, 8, 9, 10, 11, 12, 13, 14, 15, 16, 17, 18, 19, 20, 21, 22, 23, 24, 25]) rfl rfl rfl (ci := 8) rfl 0 rfl e_0) rfl rfl hl.1 rfl (lv_room (Nat.le_of_ble_eq_true rfl)) dX8_pays_3 ⟨Nat.le_of_ble_eq_true rfl, Nat.le_of_ble_eq_true rfl⟩) hP hD hS hA [0, 1, 2, 3, 4, 5, 6, 7, 8, 9, 10, 11, 12, 13, 14, 15, 16, 17, 18, 19, 20, 21, 22, 23, 24, 25] [] [0, 1, 2, 3, 4, 5, 6, 7, 8, 9, 10, 11, 12, 13, 14, 15, 16, 17, 18, 19, 20, 21, 22, 23, 24, 25] rfl rfl rfl (by decide) rfl rfl (fun H locs hP hD hS => ?_)
  refine lv_istore_n (lv' := [(2, .int x_12), (0, .ref (aO 0)), (1, .int v1)]) hx hb dX8_pays_6 rfl hl (by decide) rfl (fun ls hl => ?_)
  refine lv_aload_n hx hb dX8_pays_7 rfl (lv_at hl 1 rfl) ?_
  refine lv_iload_n hx hb dX8_pays_8 rfl (lv_at hl 2 rfl) ?_
  refine lv_iconst (v := 3) hx hb dX8_pays_9 (by decide) ?_
  obtain ⟨x_15, hr_16, hM⟩ := bn_some hM
  refine gv_i (r0 := x_15) (wn := (wO ct aO mO mO64)) (va_runV (As := [.int v1, .int (3 : Int32)]) (rest := []) ⟨hx, hb, hml, hown, hts⟩ (kX8_loanAt l dC dI ct aO _ mO mO64 v1 (3 : Int32) _ hr_16) (cwV 2 hts gX8_pays_X8_loanAt rfl rfl rfl hvX8_loanAt ⟨Nat.le_of_ble_eq_true rfl, Nat.le_of_ble_eq_true rfl⟩) (preV_of E0_ok hK hP hD (is := [0, 1, 2, 3, 4, 5, 6, 7, 8, 9, 10, 11, 12, 13, 14, 15, 16, 17, 18, 19, 20, 21, 22, 23, 24, 25]) rfl rfl rfl (ci := 8) rfl 0 rfl e_0) rfl rfl hl.1 rfl (lv_room (Nat.le_of_ble_eq_true rfl)) dX8_pays_10 ⟨Nat.le_of_ble_eq_true rfl, Nat.le_of_ble_eq_true rfl⟩) hP hD hS hA [0, 1, 2, 3, 4, 5, 6, 7, 8, 9, 10, 11, 12, 13, 14, 15, 16, 17, 18, 19, 20, 21, 22, 23, 24, 25] [] [0, 1, 2, 3, 4, 5, 6, 7, 8, 9, 10, 11, 12, 13, 14, 15, 16, 17, 18, 19, 20, 21, 22, 23, 24, 25] rfl rfl rfl (by decide) rfl rfl (fun H locs hP hD hS => ?_)
  refine lv_istore_n (lv' := [(3, .int x_15), (2, .int x_12), (0, .ref (aO 0)), (1, .int v1)]) hx hb dX8_pays_13 rfl hl (by decide) rfl (fun ls hl => ?_)
  refine lv_aload_n hx hb dX8_pays_14 rfl (lv_at hl 2 rfl) ?_
  refine lv_iload_n hx hb dX8_pays_15 rfl (lv_at hl 1 rfl) ?_
  refine lv_iconst (v := 2) hx hb dX8_pays_16 (by decide) ?_
  obtain ⟨x_18, hr_19, hM⟩ := bn_some hM
  refine gv_i (r0 := x_18) (wn := (wO ct aO mO mO64)) (va_runV (As := [.int x_12, .int (2 : Int32)]) (rest := []) ⟨hx, hb, hml, hown, hts⟩ (kX8_of l dC dI ct aO _ mO mO64 x_12 (2 : Int32) _ hr_19) (cwV 2 hts gX8_pays_X8_of rfl rfl rfl hvX8_of ⟨Nat.le_of_ble_eq_true rfl, Nat.le_of_ble_eq_true rfl⟩) (preV_of E0_ok hK hP hD (is := [0, 1, 2, 3, 4, 5, 6, 7, 8, 9, 10, 11, 12, 13, 14, 15, 16, 17, 18, 19, 20, 21, 22, 23, 24, 25]) rfl rfl rfl (ci := 8) rfl 0 rfl e_0) rfl rfl hl.1 rfl (lv_room (Nat.le_of_ble_eq_true rfl)) dX8_pays_17 ⟨Nat.le_of_ble_eq_true rfl, Nat.le_of_ble_eq_true rfl⟩) hP hD hS hA [0, 1, 2, 3, 4, 5, 6, 7, 8, 9, 10, 11, 12, 13, 14, 15, 16, 17, 18, 19, 20, 21, 22, 23, 24, 25] [] [0, 1, 2, 3, 4, 5, 6, 7, 8, 9, 10, 11, 12, 13, 14, 15, 16, 17, 18, 19, 20, 21, 22, 23, 24, 25] rfl rfl rfl (by decide) rfl rfl (fun H locs hP hD hS => ?_)
  refine lv_istore (lv' := [(4, .int x_18), (3, .int x_15), (2, .int x_12), (0, .ref (aO 0)), (1, .int v1)]) hx hb dX8_pays_20 hl (by decide) rfl (fun ls hl => ?_)
  refine lv_aload_n hx hb dX8_pays_22 rfl (lv_at hl 3 rfl) ?_
  refine va_get (D := (dC, dI)) (ci := 8) (v := .ref (aO 8)) (C := RX8) (T := TX8) (N := 45) hx hb hts iwX8_pays_X8 hown hK hP 0 rfl rfl 24 (by decide) (hts _ (List.mem_of_getElem? (i := 1) rfl)) (fun _ h9 => h9) rfl dX8_pays_23 ?_
  refine lv_iload_n hx hb dX8_pays_26 rfl (lv_at hl 2 rfl) ?_
  refine lv_dup2_11 hx hb dX8_pays_27 rfl rfl ?_
  obtain ⟨hi, hM⟩ := gi_some hM
  refine va_iald hx hb hK hP 8 0 rfl rfl hi dX8_pays_28 ?_
  refine lv_iload_n hx hb dX8_pays_29 rfl (lv_at hl 1 rfl) ?_
  refine lv_iload hx hb dX8_pays_30 (lv_at hl 0 rfl) ?_
  refine lv_if_ne (tgt := 39) hx hb dX8_pays_32 (by decide) (fun hc_21 => ?_) (fun hc_21 => ?_)
  · have hM := it_p hc_21 hM
    refine lv_iload_n hx hb dX8_pays_39 rfl (lv_at hl 1 rfl) ?_
    refine lv_aload_n hx hb dX8_pays_40 rfl (lv_at hl 3 rfl) ?_
    refine lv_iload_n hx hb dX8_pays_41 rfl (lv_at hl 2 rfl) ?_
    refine lv_iconst (v := 4) hx hb dX8_pays_42 (by decide) ?_
    obtain ⟨x_22, hr_23, hM⟩ := bn_some hM
    refine gv_i (r0 := x_22) (wn := (wO ct aO mO mO64)) (va_runV (As := [.int x_12, .int (4 : Int32)]) (rest := [.int x_15, .int x_15, .int (mO 8 x_12.toNatClampNeg), .int x_12, .ref (aO 8)]) ⟨hx, hb, hml, hown, hts⟩ (kX8_of l dC dI ct aO _ mO mO64 x_12 (4 : Int32) _ hr_23) (cwV 2 hts gX8_pays_X8_of rfl rfl rfl hvX8_of ⟨Nat.le_of_ble_eq_true rfl, Nat.le_of_ble_eq_true rfl⟩) (preV_of E0_ok hK hP hD (is := [0, 1, 2, 3, 4, 5, 6, 7, 8, 9, 10, 11, 12, 13, 14, 15, 16, 17, 18, 19, 20, 21, 22, 23, 24, 25]) rfl rfl rfl (ci := 8) rfl 0 rfl e_0) rfl rfl hl.1 rfl (lv_room (Nat.le_of_ble_eq_true rfl)) dX8_pays_43 ⟨Nat.le_of_ble_eq_true rfl, Nat.le_of_ble_eq_true rfl⟩) hP hD hS hA [0, 1, 2, 3, 4, 5, 6, 7, 8, 9, 10, 11, 12, 13, 14, 15, 16, 17, 18, 19, 20, 21, 22, 23, 24, 25] [] [0, 1, 2, 3, 4, 5, 6, 7, 8, 9, 10, 11, 12, 13, 14, 15, 16, 17, 18, 19, 20, 21, 22, 23, 24, 25] rfl rfl rfl (by decide) rfl rfl (fun H locs hP hD hS => ?_)
    refine lv_imul hx hb dX8_pays_46 ?_
    refine lv_iload hx hb dX8_pays_47 (lv_at hl 0 rfl) ?_
    obtain ⟨hz, hM⟩ := gz_some hM
    refine lv_idiv hx hb dX8_pays_49 hz ?_
    exact N50 v1 x_12 x_12 (mO 8 x_12.toNatClampNeg) x_15 ((x_15 * x_22) / x_18) mO hM _ _ hP hD hS _ (lv_sub hl [3, 4, 2] rfl)
  · have hM := it_nn hc_21 hM
    refine lv_iconst (v := 0) hx hb dX8_pays_35 (by decide) ?_
    refine lv_goto (tgt := 50) hx hb dX8_pays_36 (by decide) ?_
    exact N50 v1 x_12 x_12 (mO 8 x_12.toNatClampNeg) x_15 (0 : Int32) mO hM _ _ hP hD hS _ (lv_sub hl [3, 4, 2] rfl)
abbrev rmX8_strikes : Room := { frames := 1, cells := 0, slots := 0, locals := 22 }
theorem iwX8_strikes_X8 : ∀ w ∈ wsX80, w ∈ wsX8_strikes := fun _ h => List.mem_cons_of_mem _ (List.mem_append_right _ (h))
set_option maxHeartbeats 4000000 in
set_option maxRecDepth 100000 in
theorem kX8_strikes (l : Launch) (dC : Nat → ClassId) (dI : Nat → Nat → Nat) (ct : Nat → ClassId) (aO : Nat → Nat) (sz : Nat) (mO : Mem) (mO64 : Lem) (v1 : Int32) (v2 : Int32) (res : Mem) (hM : mX8_strikes mO mO64 v1 v2 = some res) : Met l yX8_strikes wsX8_strikes rmX8_strikes (va_Pc [.ref (aO 0), .int v1, .int v2] (PB (dC, dI) ct E0 sz (wO ct aO mO mO64))) (Qv (dC, dI) ct (va_A (wO ct aO mO mO64) sz) (wO ct aO res mO64)) 0 0 (va_A (wO ct aO mO mO64) sz) := by
  refine Met.ofW (cc := cX8_strikes) (maxL := 4) (ret := none) (by decide) rfl ?_
  intro p e s m args below meth c s₁ B hml hv
  obtain ⟨hargs, hsz, hP, hK, hD0, hE⟩ := hv
  have hx := B.exec
  have hb := B.bytes
  have hr := B.returns
  have hts := atoms_spec (ws := wsX8_strikes) B.pre
  have hown : s.vm.findClass RX8 = some m.cls := findClass_of_methodNamed B.named
  have hlocks := B.notSynchronized
  clear B s₁
  subst hsz
  have hD := hD0.self (sz := s.heap.size)
  clear hD0
  generalize hAe : va_A (wO ct aO mO mO64) s.heap.size = A at hD hE ⊢
  have hA : ∀ q : Nat, s.heap.size ≤ q → A q := fun q h => by rw [← hAe]; exact Or.inr h
  clear hAe
  have hS : va_S A s.heap s.heap [] := va_S.rf
  refine cutQ (fun Q hQ => ?_)
  refine entryW (vs := [.ref (aO 0), .int v1, .int v2]) hargs (Nat.le_of_ble_eq_true rfl) (fun ls hl => ?_)
  replace hl : lv_has ls 4 [(0, .ref (aO 0)), (1, .int v1), (2, .int v2)] := hl
  unfold mX8_strikes at hM
  refine lv_aload_n hx hb dX8_strikes_0 rfl (lv_at hl 0 rfl) ?_
  refine lv_iload_n hx hb dX8_strikes_1 rfl (lv_at hl 1 rfl) ?_
  refine lv_iconst (v := 4) hx hb dX8_strikes_2 (by decide) ?_
  obtain ⟨x_1, hr_2, hM⟩ := bn_some hM
  refine gv_i (r0 := x_1) (wn := (wO ct aO mO mO64)) (va_runV (As := [.int v1, .int (4 : Int32)]) (rest := []) ⟨hx, hb, hml, hown, hts⟩ (kX8_loanAt l dC dI ct aO _ mO mO64 v1 (4 : Int32) _ hr_2) (cwV 2 hts gX8_strikes_X8_loanAt rfl rfl rfl hvX8_loanAt ⟨Nat.le_of_ble_eq_true rfl, Nat.le_of_ble_eq_true rfl⟩) (preV_of E0_ok hK hP hD (is := [0, 1, 2, 3, 4, 5, 6, 7, 8, 9, 10, 11, 12, 13, 14, 15, 16, 17, 18, 19, 20, 21, 22, 23, 24, 25]) rfl rfl rfl (ci := 8) rfl 0 rfl e_0) rfl rfl hl.1 rfl (lv_room (Nat.le_of_ble_eq_true rfl)) dX8_strikes_3 ⟨Nat.le_of_ble_eq_true rfl, Nat.le_of_ble_eq_true rfl⟩) hP hD hS hA [0, 1, 2, 3, 4, 5, 6, 7, 8, 9, 10, 11, 12, 13, 14, 15, 16, 17, 18, 19, 20, 21, 22, 23, 24, 25] [] [0, 1, 2, 3, 4, 5, 6, 7, 8, 9, 10, 11, 12, 13, 14, 15, 16, 17, 18, 19, 20, 21, 22, 23, 24, 25] rfl rfl rfl (by decide) rfl rfl (fun H locs hP hD hS => ?_)
  refine lv_aload_n hx hb dX8_strikes_6 rfl (lv_at hl 0 rfl) ?_
  refine va_get (D := (dC, dI)) (ci := 8) (v := .int (mO 0 15)) (C := RX8) (T := TX8) (N := 45) hx hb hts iwX8_strikes_X8 hown hK hP 0 rfl rfl 15 (by decide) (hts _ (List.mem_of_getElem? (i := 1) rfl)) (fun _ h9 => h9) rfl dX8_strikes_7 ?_
  refine lv_imul hx hb dX8_strikes_10 ?_
  refine lv_bipush (v := 16) hx hb dX8_strikes_11 (by decide) ?_
  refine lv_idiv hx hb dX8_strikes_13 (by decide) ?_
  refine lv_topi (fun x_4 ex_4 => ?_)
  have hM := nm_at ex_4 hM
  refine lv_istore_n (lv' := [(3, .int x_4), (0, .ref (aO 0)), (1, .int v1), (2, .int v2)]) hx hb dX8_strikes_14 rfl hl (by decide) rfl (fun ls hl => ?_)
  refine lv_aload_n hx hb dX8_strikes_15 rfl (lv_at hl 1 rfl) ?_
  refine va_get (D := (dC, dI)) (ci := 8) (v := .ref (aO 10)) (C := RX8) (T := TX8) (N := 45) hx hb hts iwX8_strikes_X8 hown hK hP 0 rfl rfl 26 (by decide) (hts _ (List.mem_of_getElem? (i := 2) rfl)) (fun _ h9 => h9) rfl dX8_strikes_16 ?_
  refine lv_bipush (v := 6) hx hb dX8_strikes_19 (by decide) ?_
  refine lv_iload_n hx hb dX8_strikes_21 rfl (lv_at hl 2 rfl) ?_
  refine lv_imul hx hb dX8_strikes_22 ?_
  refine lv_iconst (v := 4) hx hb dX8_strikes_23 (by decide) ?_
  refine lv_iadd hx hb dX8_strikes_24 ?_
  refine lv_dup2_11 hx hb dX8_strikes_25 rfl rfl ?_
  obtain ⟨hi, hM⟩ := gi_some hM
  refine va_iald hx hb hK hP 10 0 rfl rfl hi dX8_strikes_26 ?_
  refine lv_iload_n hx hb dX8_strikes_27 rfl (lv_at hl 0 rfl) ?_
  refine lv_isub hx hb dX8_strikes_28 ?_
  obtain ⟨hi, hM⟩ := gi_some hM
  refine st_i (wf := fun z => (wO ct aO z mO64)) (m1 := upi mO 10 (((6 : Int32) * v1) + (4 : Int32)).toNatClampNeg ((mO 10 (((6 : Int32) * v1) + (4 : Int32)).toNatClampNeg) - x_4)) hx hb hK hP hD hS 10 rfl hi dX8_strikes_29 rfl (fun mO_5 emO_5 H locs hP hD hS => ?_)
  have hM := nm_at emO_5 hM
  refine lv_aload_n hx hb dX8_strikes_30 rfl (lv_at hl 1 rfl) ?_
  refine va_get (D := (dC, dI)) (ci := 8) (v := .ref (aO 9)) (C := RX8) (T := TX8) (N := 45) hx hb hts iwX8_strikes_X8 hown hK hP 0 rfl rfl 25 (by decide) (hts _ (List.mem_of_getElem? (i := 3) rfl)) (fun _ h9 => h9) rfl dX8_strikes_31 ?_
  refine lv_aload_n hx hb dX8_strikes_34 rfl (lv_at hl 1 rfl) ?_
  refine lv_iload_n hx hb dX8_strikes_35 rfl (lv_at hl 2 rfl) ?_
  refine lv_iconst (v := 0) hx hb dX8_strikes_36 (by decide) ?_
  obtain ⟨x_6, hr_7, hM⟩ := bn_some hM
  refine gv_i (r0 := x_6) (wn := (wO ct aO mO_5 mO64)) (va_runV (As := [.int v1, .int (0 : Int32)]) (rest := [.ref (aO 9)]) ⟨hx, hb, hml, hown, hts⟩ (kX8_loanAt l dC dI ct aO _ mO_5 mO64 v1 (0 : Int32) _ hr_7) (cwV 2 hts gX8_strikes_X8_loanAt rfl rfl rfl hvX8_loanAt ⟨Nat.le_of_ble_eq_true rfl, Nat.le_of_ble_eq_true rfl⟩) (preV_of E0_ok hK hP hD (is := [0, 1, 2, 3, 4, 5, 6, 7, 8, 9, 10, 11, 12, 13, 14, 15, 16, 17, 18, 19, 20, 21, 22, 23, 24, 25]) rfl rfl rfl (ci := 8) rfl 0 rfl e_0) rfl rfl hl.1 rfl (lv_room (Nat.le_of_ble_eq_true rfl)) dX8_strikes_37 ⟨Nat.le_of_ble_eq_true rfl, Nat.le_of_ble_eq_true rfl⟩) hP hD hS hA [0, 1, 2, 3, 4, 5, 6, 7, 8, 9, 10, 11, 12, 13, 14, 15, 16, 17, 18, 19, 20, 21, 22, 23, 24, 25] [] [0, 1, 2, 3, 4, 5, 6, 7, 8, 9, 10, 11, 12, 13, 14, 15, 16, 17, 18, 19, 20, 21, 22, 23, 24, 25] rfl rfl rfl (by decide) rfl rfl (fun H locs hP hD hS => ?_)
  refine lv_dup2_11 hx hb dX8_strikes_40 rfl rfl ?_
  obtain ⟨hi, hM⟩ := gi_some hM
  refine va_iald hx hb hK hP 9 0 rfl rfl hi dX8_strikes_41 ?_
  refine lv_iload_n hx hb dX8_strikes_42 rfl (lv_at hl 0 rfl) ?_
  refine lv_iadd hx hb dX8_strikes_43 ?_
  obtain ⟨hi, hM⟩ := gi_some hM
  refine st_i (wf := fun z => (wO ct aO z mO64)) (m1 := upi mO_5 9 x_6.toNatClampNeg ((mO_5 9 x_6.toNatClampNeg) + x_4)) hx hb hK hP hD hS 9 rfl hi dX8_strikes_44 rfl (fun mO_9 emO_9 H locs hP hD hS => ?_)
  have hM := nm_at emO_9 hM
  refine lv_iload_n hx hb dX8_strikes_45 rfl (lv_at hl 3 rfl) ?_
  refine lv_if_eq (tgt := 64) hx hb dX8_strikes_46 (by decide) (fun hc_10 => ?_) (fun hc_10 => ?_)
  · have hM := it_p hc_10 hM
    have hR := som hM
    rw [hR] at hQ
    exact ret_v hQ hx hb hr hlocks hP hK hD hS dX8_strikes_64
  · have hM := it_n hc_10 hM
    refine lv_aload_n hx hb dX8_strikes_49 rfl (lv_at hl 1 rfl) ?_
    refine va_get (D := (dC, dI)) (ci := 8) (v := .ref (aO 21)) (C := RX8) (T := TX8) (N := 45) hx hb hts iwX8_strikes_X8 hown hK hP 0 rfl rfl 40 (by decide) (hts _ (List.mem_of_getElem? (i := 4) rfl)) (fun _ h9 => h9) rfl dX8_strikes_50 ?_
    refine lv_aload_n hx hb dX8_strikes_53 rfl (lv_at hl 1 rfl) ?_
    refine va_get (D := (dC, dI)) (ci := 8) (v := .ref (aO 20)) (C := RX8) (T := TX8) (N := 45) hx hb hts iwX8_strikes_X8 hown hK hP 0 rfl rfl 39 (by decide) (hts _ (List.mem_of_getElem? (i := 5) rfl)) (fun _ h9 => h9) rfl dX8_strikes_54 ?_
    refine lv_iload_n hx hb dX8_strikes_57 rfl (lv_at hl 2 rfl) ?_
    obtain ⟨hi, hM⟩ := gi_some hM
    refine va_iald hx hb hK hP 20 0 rfl rfl hi dX8_strikes_58 ?_
    refine lv_dup2_11 hx hb dX8_strikes_59 rfl rfl ?_
    obtain ⟨hi, hM⟩ := gi_some hM
    refine va_iald hx hb hK hP 21 0 rfl rfl hi dX8_strikes_60 ?_
    refine lv_iload_n hx hb dX8_strikes_61 rfl (lv_at hl 0 rfl) ?_
    refine lv_iadd hx hb dX8_strikes_62 ?_
    obtain ⟨hi, hM⟩ := gi_some hM
    refine st_i (wf := fun z => (wO ct aO z mO64)) (m1 := upi mO_9 21 (mO_9 20 v1.toNatClampNeg).toNatClampNeg ((mO_9 21 (mO_9 20 v1.toNatClampNeg).toNatClampNeg) + x_4)) hx hb hK hP hD hS 21 rfl hi dX8_strikes_63 rfl (fun mO_11 emO_11 H locs hP hD hS => ?_)
    have hM := nm_at emO_11 hM
    have hR := som hM
    rw [hR] at hQ
    exact ret_v hQ hx hb hr hlocks hP hK hD hS dX8_strikes_64
abbrev rmX8_goesOn : Room := { frames := 2, cells := 0, slots := 0, locals := 47 }
theorem iwX8_goesOn_X8 : ∀ w ∈ wsX80, w ∈ wsX8_goesOn := fun _ h => List.mem_cons_of_mem _ (List.mem_append_right _ (h))
set_option maxHeartbeats 4000000 in
set_option maxRecDepth 100000 in
theorem kX8_goesOn (l : Launch) (dC : Nat → ClassId) (dI : Nat → Nat → Nat) (ct : Nat → ClassId) (aO : Nat → Nat) (sz : Nat) (mO : Mem) (mO64 : Lem) (v1 : Int32) (res : (Mem × Lem)) (hM : mX8_goesOn mO mO64 v1 = some res) : Met l yX8_goesOn wsX8_goesOn rmX8_goesOn (va_Pc [.ref (aO 0), .int v1] (PB (dC, dI) ct E0 sz (wO ct aO mO mO64))) (Qv (dC, dI) ct (va_A (wO ct aO mO mO64) sz) (wO ct aO res.1 res.2)) 0 0 (va_A (wO ct aO mO mO64) sz) := by
  refine Met.ofW (cc := cX8_goesOn) (maxL := 3) (ret := none) (by decide) rfl ?_
  intro p e s m args below meth c s₁ B hml hv
  obtain ⟨hargs, hsz, hP, hK, hD0, hE⟩ := hv
  have hx := B.exec
  have hb := B.bytes
  have hr := B.returns
  have hts := atoms_spec (ws := wsX8_goesOn) B.pre
  have hown : s.vm.findClass RX8 = some m.cls := findClass_of_methodNamed B.named
  have hlocks := B.notSynchronized
  clear B s₁
  subst hsz
  have hD := hD0.self (sz := s.heap.size)
  clear hD0
  generalize hAe : va_A (wO ct aO mO mO64) s.heap.size = A at hD hE ⊢
  have hA : ∀ q : Nat, s.heap.size ≤ q → A q := fun q h => by rw [← hAe]; exact Or.inr h
  clear hAe
  have hS : va_S A s.heap s.heap [] := va_S.rf
  refine cutQ (fun Q hQ => ?_)
  refine entryW (vs := [.ref (aO 0), .int v1]) hargs (Nat.le_of_ble_eq_true rfl) (fun ls hl => ?_)
  replace hl : lv_has ls 3 [(0, .ref (aO 0)), (1, .int v1)] := hl
  unfold mX8_goesOn at hM
  have N85 : ∀ (v1 : Int32) (v2 : Int32) (mO : Mem) (mO64 : Lem), mX8_goesOn_L85 v1 v2 mO mO64 = some res → ∀ (H : Heap) (locs : List Loc), va_P (dC, dI) vwCl (wO ct aO mO mO64) H → va_D A (wO ct aO mO mO64) → va_S A s.heap H locs → ∀ ls : Array Slot, lv_has ls 3 [(0, .ref (aO 0)), (1, .int v1), (2, .int v2)] → W p l e (headSpec wsX8_goesOn rmX8_goesOn).room s m args below meth c H locs 0 0 Q (F0 m 85 ls []) := by
    intro v1 v2 mO mO64 hM H locs hP hD hS ls hl
    unfold mX8_goesOn_L85 at hM
    obtain ⟨ex85, hit85, hM⟩ := bn_some hM
    have X85_0 : ∀ (mO : Mem) (mO64 : Lem), ex85 = (mO, mO64) → ∀ (H : Heap) (locs : List Loc), va_P (dC, dI) vwCl (wO ct aO mO mO64) H → va_D A (wO ct aO mO mO64) → va_S A s.heap H locs → ∀ ls : Array Slot, lv_has ls 3 [] → W p l e (headSpec wsX8_goesOn rmX8_goesOn).room s m args below meth c H locs 0 0 Q (F0 m 157 ls []) := by
      intro mO mO64 hex H locs hP hD hS ls hl
      rw [hex] at hM
      have hM := nm_at (y := mO) rfl hM
      have hM := nm_at (y := mO64) rfl hM
      have hR := som hM
      rw [hR] at hQ
      exact ret_v hQ hx hb hr hlocks hP hK hD hS dX8_goesOn_157
    have I85 : ∀ (n : Nat) (v2 : Int32) (mO : Mem) (mO64 : Lem), itr (fun q => mX8_goesOn_s85 v1 q.1 q.2.1 q.2.2) n (v2, mO, mO64) = some ex85 → ∀ (H : Heap) (locs : List Loc), va_P (dC, dI) vwCl (wO ct aO mO mO64) H → va_D A (wO ct aO mO mO64) → va_S A s.heap H locs → ∀ ls : Array Slot, lv_has ls 3 [(0, .ref (aO 0)), (1, .int v1), (2, .int v2)] → W p l e (headSpec wsX8_goesOn rmX8_goesOn).room s m args below meth c H locs 0 0 Q (F0 m 85 ls []) := by
      intro n
      induction n with
      | zero => intro v2 mO mO64 hit; exact (itr_zero hit).elim
      | succ n ih85 =>
        intro v2 mO mO64 hit H locs hP hD hS ls hl
        obtain ⟨o85, hM, hbk85, hex85⟩ := itr_succ hit
        replace hM : mX8_goesOn_s85 v1 v2 mO mO64 = some o85 := hM
        have N145 : ∀ (v2 : Int32) (mO : Mem) (mO64 : Lem), mX8_goesOn_j145 v1 v2 mO mO64 = some o85 → ∀ (H : Heap) (locs : List Loc), va_P (dC, dI) vwCl (wO ct aO mO mO64) H → va_D A (wO ct aO mO mO64) → va_S A s.heap H locs → ∀ ls : Array Slot, lv_has ls 3 [(0, .ref (aO 0)), (1, .int v1), (2, .int v2)] → W p l e (headSpec wsX8_goesOn rmX8_goesOn).room s m args below meth c H locs 0 0 Q (F0 m 145 ls []) := by
          intro v2 mO mO64 hM H locs hP hD hS ls hl
          unfold mX8_goesOn_j145 at hM
          refine lv_aload_n hx hb dX8_goesOn_145 rfl (lv_at hl 0 rfl) ?_
          refine lv_iload_n hx hb dX8_goesOn_146 rfl (lv_at hl 2 rfl) ?_
          refine lv_iload_n hx hb dX8_goesOn_147 rfl (lv_at hl 1 rfl) ?_
          obtain ⟨mO_1, hr_2, hM⟩ := bn_some hM
          refine gv_v (wn := (wO ct aO mO_1 mO64)) (va_runV (As := [.int v2, .int v1]) (rest := []) ⟨hx, hb, hml, hown, hts⟩ (kX8_strikes l dC dI ct aO _ mO mO64 v2 v1 _ hr_2) (cwV 2 hts gX8_goesOn_X8_strikes rfl rfl rfl hvX8_strikes ⟨Nat.le_of_ble_eq_true rfl, Nat.le_of_ble_eq_true rfl⟩) (preV_of E0_ok hK hP hD (is := [0, 1, 2, 3, 4, 5, 6, 7, 8, 9, 10, 11, 12, 13, 14, 15, 16, 17, 18, 19, 20, 21, 22, 23, 24, 25]) rfl rfl rfl (ci := 8) rfl 0 rfl e_0) rfl rfl hl.1 rfl (lv_room (Nat.le_of_ble_eq_true rfl)) dX8_goesOn_148 ⟨Nat.le_of_ble_eq_true rfl, Nat.le_of_ble_eq_true rfl⟩) hP hD hS hA [0, 1, 2, 3, 4, 5, 6, 7, 8, 9, 10, 11, 12, 13, 14, 15, 16, 17, 18, 19, 20, 21, 22, 23, 24, 25] [] [0, 1, 2, 3, 4, 5, 6, 7, 8, 9, 10, 11, 12, 13, 14, 15, 16, 17, 18, 19, 20, 21, 22, 23, 24, 25] rfl rfl rfl (by decide) rfl rfl (fun H locs hP hD hS => ?_)
          obtain ⟨x_4, ex_4⟩ : ∃ y : Int32, y = (v2 + (1 : Int32)) := ⟨_, rfl⟩
          have hM := nm_at ex_4 hM
          refine lv_iinc (v := x_4) (lv' := [(2, .int x_4), (0, .ref (aO 0)), (1, .int v1)]) hx hb dX8_goesOn_151 hl (k := 2) rfl (by rw [ex_4]; rfl) (by decide) rfl (fun ls hl => ?_)
          refine lv_goto (tgt := 85) hx hb dX8_goesOn_154 (by decide) ?_
          have hR := som hM
          exact ih85 x_4 mO_1 mO64 (hbk85 _ hR) _ _ hP hD hS _ (lv_sub hl [1, 2, 0] rfl)
        unfold mX8_goesOn_s85 at hM
        refine lv_iload_n hx hb dX8_goesOn_85 rfl (lv_at hl 2 rfl) ?_
        refine lv_bipush (v := 40) hx hb dX8_goesOn_86 (by decide) ?_
        refine lv_icmp_ge (tgt := 157) hx hb dX8_goesOn_88 (by decide) (fun hc_5 => ?_) (fun hc_5 => ?_)
        · have hM := it_p hc_5 hM
          have hR := som hM
          exact X85_0 mO mO64 (hex85 _ hR).symm _ _ hP hD hS _ (lv_sub hl [] rfl)
        · have hM := it_n hc_5 hM
          refine lv_aload_n hx hb dX8_goesOn_91 rfl (lv_at hl 0 rfl) ?_
          refine lv_iload_n hx hb dX8_goesOn_92 rfl (lv_at hl 2 rfl) ?_
          refine lv_iconst (v := 3) hx hb dX8_goesOn_93 (by decide) ?_
          obtain ⟨x_6, hr_7, hM⟩ := bn_some hM
          refine gv_i (r0 := x_6) (wn := (wO ct aO mO mO64)) (va_runV (As := [.int v2, .int (3 : Int32)]) (rest := []) ⟨hx, hb, hml, hown, hts⟩ (kX8_loanAt l dC dI ct aO _ mO mO64 v2 (3 : Int32) _ hr_7) (cwV 2 hts gX8_goesOn_X8_loanAt rfl rfl rfl hvX8_loanAt ⟨Nat.le_of_ble_eq_true rfl, Nat.le_of_ble_eq_true rfl⟩) (preV_of E0_ok hK hP hD (is := [0, 1, 2, 3, 4, 5, 6, 7, 8, 9, 10, 11, 12, 13, 14, 15, 16, 17, 18, 19, 20, 21, 22, 23, 24, 25]) rfl rfl rfl (ci := 8) rfl 0 rfl e_0) rfl rfl hl.1 rfl (lv_room (Nat.le_of_ble_eq_true rfl)) dX8_goesOn_94 ⟨Nat.le_of_ble_eq_true rfl, Nat.le_of_ble_eq_true rfl⟩) hP hD hS hA [0, 1, 2, 3, 4, 5, 6, 7, 8, 9, 10, 11, 12, 13, 14, 15, 16, 17, 18, 19, 20, 21, 22, 23, 24, 25] [] [0, 1, 2, 3, 4, 5, 6, 7, 8, 9, 10, 11, 12, 13, 14, 15, 16, 17, 18, 19, 20, 21, 22, 23, 24, 25] rfl rfl rfl (by decide) rfl rfl (fun H locs hP hD hS => ?_)
          refine lv_if_eq (tgt := 151) hx hb dX8_goesOn_97 (by decide) (fun hc_9 => ?_) (fun hc_9 => ?_)
          · have hM := it_p hc_9 hM
            obtain ⟨x_10, ex_10⟩ : ∃ y : Int32, y = (v2 + (1 : Int32)) := ⟨_, rfl⟩
            have hM := nm_at ex_10 hM
            refine lv_iinc (v := x_10) (lv' := [(2, .int x_10), (0, .ref (aO 0)), (1, .int v1)]) hx hb dX8_goesOn_151 hl (k := 2) rfl (by rw [ex_10]; rfl) (by decide) rfl (fun ls hl => ?_)
            refine lv_goto (tgt := 85) hx hb dX8_goesOn_154 (by decide) ?_
            have hR := som hM
            exact ih85 x_10 mO mO64 (hbk85 _ hR) _ _ hP hD hS _ (lv_sub hl [1, 2, 0] rfl)
          · have hM := it_n hc_9 hM
            refine lv_aload_n hx hb dX8_goesOn_100 rfl (lv_at hl 0 rfl) ?_
            refine va_get (D := (dC, dI)) (ci := 8) (v := .int (mO 0 20)) (C := RX8) (T := TX8) (N := 45) hx hb hts iwX8_goesOn_X8 hown hK hP 0 rfl rfl 20 (by decide) (hts _ (List.mem_of_getElem? (i := 4) rfl)) (fun _ h9 => h9) rfl dX8_goesOn_101 ?_
            refine lv_aload_n hx hb dX8_goesOn_104 rfl (lv_at hl 0 rfl) ?_
            refine lv_iload_n hx hb dX8_goesOn_105 rfl (lv_at hl 2 rfl) ?_
            refine lv_iconst (v := 2) hx hb dX8_goesOn_106 (by decide) ?_
            obtain ⟨x_11, hr_12, hM⟩ := bn_some hM
            refine gv_i (r0 := x_11) (wn := (wO ct aO mO mO64)) (va_runV (As := [.int v2, .int (2 : Int32)]) (rest := [.int (mO 0 20)]) ⟨hx, hb, hml, hown, hts⟩ (kX8_loanAt l dC dI ct aO _ mO mO64 v2 (2 : Int32) _ hr_12) (cwV 2 hts gX8_goesOn_X8_loanAt rfl rfl rfl hvX8_loanAt ⟨Nat.le_of_ble_eq_true rfl, Nat.le_of_ble_eq_true rfl⟩) (preV_of E0_ok hK hP hD (is := [0, 1, 2, 3, 4, 5, 6, 7, 8, 9, 10, 11, 12, 13, 14, 15, 16, 17, 18, 19, 20, 21, 22, 23, 24, 25]) rfl rfl rfl (ci := 8) rfl 0 rfl e_0) rfl rfl hl.1 rfl (lv_room (Nat.le_of_ble_eq_true rfl)) dX8_goesOn_107 ⟨Nat.le_of_ble_eq_true rfl, Nat.le_of_ble_eq_true rfl⟩) hP hD hS hA [0, 1, 2, 3, 4, 5, 6, 7, 8, 9, 10, 11, 12, 13, 14, 15, 16, 17, 18, 19, 20, 21, 22, 23, 24, 25] [] [0, 1, 2, 3, 4, 5, 6, 7, 8, 9, 10, 11, 12, 13, 14, 15, 16, 17, 18, 19, 20, 21, 22, 23, 24, 25] rfl rfl rfl (by decide) rfl rfl (fun H locs hP hD hS => ?_)
            refine lv_ishr hx hb dX8_goesOn_110 ?_
            refine lv_iconst (v := 1) hx hb dX8_goesOn_111 (by decide) ?_
            refine lv_iand hx hb dX8_goesOn_112 ?_
            refine lv_iconst (v := 1) hx hb dX8_goesOn_113 (by decide) ?_
            refine lv_icmp_ne (tgt := 120) hx hb dX8_goesOn_114 (by decide) (fun hc_14 => ?_) (fun hc_14 => ?_)
            · have hM := it_p hc_14 hM
              refine lv_iload_n hx hb dX8_goesOn_120 rfl (lv_at hl 1 rfl) ?_
              refine lv_if_ne (tgt := 145) hx hb dX8_goesOn_121 (by decide) (fun hc_15 => ?_) (fun hc_15 => ?_)
              · have hM := it_p hc_15 hM
                exact N145 v2 mO mO64 hM _ _ hP hD hS _ (lv_sub hl [0, 1, 2] rfl)
              · have hM := it_nn hc_15 hM
                refine lv_aload_n hx hb dX8_goesOn_124 rfl (lv_at hl 0 rfl) ?_
                obtain ⟨q_19, hr_18, hM⟩ := bn_some hM
                obtain ⟨x_16, mO64_17⟩ := q_19
                have hM := nm_at (y := x_16) rfl hM
                have hM := nm_at (y := mO64_17) rfl hM
                refine gv_i (r0 := x_16) (wn := (wO ct aO mO mO64_17)) (va_runV (As := []) (rest := []) ⟨hx, hb, hml, hown, hts⟩ (kX8_draws l dC dI ct aO _ mO mO64 _ hr_18) (cwV 0 hts gX8_goesOn_X8_draws rfl rfl rfl hvX8_draws ⟨Nat.le_of_ble_eq_true rfl, Nat.le_of_ble_eq_true rfl⟩) (preV_of E0_ok hK hP hD (is := [0, 1, 2, 3, 4, 5, 6, 7, 8, 9, 10, 11, 12, 13, 14, 15, 16, 17, 18, 19, 20, 21, 22, 23, 24, 25]) rfl rfl rfl (ci := 8) rfl 0 rfl e_0) rfl rfl hl.1 rfl (lv_room (Nat.le_of_ble_eq_true rfl)) dX8_goesOn_125 ⟨Nat.le_of_ble_eq_true rfl, Nat.le_of_ble_eq_true rfl⟩) hP hD hS hA [0, 1, 2, 3, 4, 5, 6, 7, 8, 9, 10, 11, 12, 13, 14, 15, 16, 17, 18, 19, 20, 21, 22, 23, 24, 25] [] [0, 1, 2, 3, 4, 5, 6, 7, 8, 9, 10, 11, 12, 13, 14, 15, 16, 17, 18, 19, 20, 21, 22, 23, 24, 25] rfl rfl rfl (by decide) rfl rfl (fun H locs hP hD hS => ?_)
                refine lv_aload_n hx hb dX8_goesOn_128 rfl (lv_at hl 0 rfl) ?_
                refine lv_aload_n hx hb dX8_goesOn_129 rfl (lv_at hl 0 rfl) ?_
                refine lv_iload_n hx hb dX8_goesOn_130 rfl (lv_at hl 2 rfl) ?_
                refine lv_iconst (v := 1) hx hb dX8_goesOn_131 (by decide) ?_
                obtain ⟨x_20, hr_21, hM⟩ := bn_some hM
                refine gv_i (r0 := x_20) (wn := (wO ct aO mO mO64_17)) (va_runV (As := [.int v2, .int (1 : Int32)]) (rest := [.ref (aO 0), .int x_16]) ⟨hx, hb, hml, hown, hts⟩ (kX8_loanAt l dC dI ct aO _ mO mO64_17 v2 (1 : Int32) _ hr_21) (cwV 2 hts gX8_goesOn_X8_loanAt rfl rfl rfl hvX8_loanAt ⟨Nat.le_of_ble_eq_true rfl, Nat.le_of_ble_eq_true rfl⟩) (preV_of E0_ok hK hP hD (is := [0, 1, 2, 3, 4, 5, 6, 7, 8, 9, 10, 11, 12, 13, 14, 15, 16, 17, 18, 19, 20, 21, 22, 23, 24, 25]) rfl rfl rfl (ci := 8) rfl 0 rfl e_0) rfl rfl hl.1 rfl (lv_room (Nat.le_of_ble_eq_true rfl)) dX8_goesOn_132 ⟨Nat.le_of_ble_eq_true rfl, Nat.le_of_ble_eq_true rfl⟩) hP hD hS hA [0, 1, 2, 3, 4, 5, 6, 7, 8, 9, 10, 11, 12, 13, 14, 15, 16, 17, 18, 19, 20, 21, 22, 23, 24, 25] [] [0, 1, 2, 3, 4, 5, 6, 7, 8, 9, 10, 11, 12, 13, 14, 15, 16, 17, 18, 19, 20, 21, 22, 23, 24, 25] rfl rfl rfl (by decide) rfl rfl (fun H locs hP hD hS => ?_)
                refine lv_iconst (v := 5) hx hb dX8_goesOn_135 (by decide) ?_
                obtain ⟨x_23, hr_24, hM⟩ := bn_some hM
                refine gv_i (r0 := x_23) (wn := (wO ct aO mO mO64_17)) (va_runV (As := [.int x_20, .int (5 : Int32)]) (rest := [.int x_16]) ⟨hx, hb, hml, hown, hts⟩ (kX8_of l dC dI ct aO _ mO mO64_17 x_20 (5 : Int32) _ hr_24) (cwV 2 hts gX8_goesOn_X8_of rfl rfl rfl hvX8_of ⟨Nat.le_of_ble_eq_true rfl, Nat.le_of_ble_eq_true rfl⟩) (preV_of E0_ok hK hP hD (is := [0, 1, 2, 3, 4, 5, 6, 7, 8, 9, 10, 11, 12, 13, 14, 15, 16, 17, 18, 19, 20, 21, 22, 23, 24, 25]) rfl rfl rfl (ci := 8) rfl 0 rfl e_0) rfl rfl hl.1 rfl (lv_room (Nat.le_of_ble_eq_true rfl)) dX8_goesOn_136 ⟨Nat.le_of_ble_eq_true rfl, Nat.le_of_ble_eq_true rfl⟩) hP hD hS hA [0, 1, 2, 3, 4, 5, 6, 7, 8, 9, 10, 11, 12, 13, 14, 15, 16, 17, 18, 19, 20, 21, 22, 23, 24, 25] [] [0, 1, 2, 3, 4, 5, 6, 7, 8, 9, 10, 11, 12, 13, 14, 15, 16, 17, 18, 19, 20, 21, 22, 23, 24, 25] rfl rfl rfl (by decide) rfl rfl (fun H locs hP hD hS => ?_)
                refine lv_icmp_ge (tgt := 145) hx hb dX8_goesOn_139 (by decide) (fun hc_26 => ?_) (fun hc_26 => ?_)
                · have hM := it_p hc_26 hM
                  exact N145 v2 mO mO64_17 hM _ _ hP hD hS _ (lv_sub hl [0, 1, 2] rfl)
                · have hM := it_n hc_26 hM
                  refine lv_goto (tgt := 151) hx hb dX8_goesOn_142 (by decide) ?_
                  obtain ⟨x_27, ex_27⟩ : ∃ y : Int32, y = (v2 + (1 : Int32)) := ⟨_, rfl⟩
                  have hM := nm_at ex_27 hM
                  refine lv_iinc (v := x_27) (lv' := [(2, .int x_27), (0, .ref (aO 0)), (1, .int v1)]) hx hb dX8_goesOn_151 hl (k := 2) rfl (by rw [ex_27]; rfl) (by decide) rfl (fun ls hl => ?_)
                  refine lv_goto (tgt := 85) hx hb dX8_goesOn_154 (by decide) ?_
                  have hR := som hM
                  exact ih85 x_27 mO mO64_17 (hbk85 _ hR) _ _ hP hD hS _ (lv_sub hl [1, 2, 0] rfl)
            · have hM := it_nn hc_14 hM
              refine lv_goto (tgt := 151) hx hb dX8_goesOn_117 (by decide) ?_
              obtain ⟨x_28, ex_28⟩ : ∃ y : Int32, y = (v2 + (1 : Int32)) := ⟨_, rfl⟩
              have hM := nm_at ex_28 hM
              refine lv_iinc (v := x_28) (lv' := [(2, .int x_28), (0, .ref (aO 0)), (1, .int v1)]) hx hb dX8_goesOn_151 hl (k := 2) rfl (by rw [ex_28]; rfl) (by decide) rfl (fun ls hl => ?_)
              refine lv_goto (tgt := 85) hx hb dX8_goesOn_154 (by decide) ?_
              have hR := som hM
              exact ih85 x_28 mO mO64 (hbk85 _ hR) _ _ hP hD hS _ (lv_sub hl [1, 2, 0] rfl)
    exact I85 FU v2 mO mO64 hit85 _ _ hP hD hS _ hl
  have N83 : ∀ (v1 : Int32) (mO : Mem) (mO64 : Lem), mX8_goesOn_j83 v1 mO mO64 = some res → ∀ (H : Heap) (locs : List Loc), va_P (dC, dI) vwCl (wO ct aO mO mO64) H → va_D A (wO ct aO mO mO64) → va_S A s.heap H locs → ∀ ls : Array Slot, lv_has ls 3 [(0, .ref (aO 0)), (1, .int v1)] → W p l e (headSpec wsX8_goesOn rmX8_goesOn).room s m args below meth c H locs 0 0 Q (F0 m 83 ls []) := by
    intro v1 mO mO64 hM H locs hP hD hS ls hl
    unfold mX8_goesOn_j83 at hM
    refine lv_iconst (v := 0) hx hb dX8_goesOn_83 (by decide) ?_
    refine lv_istore_n (lv' := [(2, .int (0 : Int32)), (0, .ref (aO 0)), (1, .int v1)]) hx hb dX8_goesOn_84 rfl hl (by decide) rfl (fun ls hl => ?_)
    exact N85 v1 (0 : Int32) mO mO64 hM _ _ hP hD hS _ (lv_sub hl [1, 2, 0] rfl)
  have N12 : ∀ (v1 : Int32) (v2 : Int32) (mO : Mem) (mO64 : Lem), mX8_goesOn_L12 v1 v2 mO mO64 = some res → ∀ (H : Heap) (locs : List Loc), va_P (dC, dI) vwCl (wO ct aO mO mO64) H → va_D A (wO ct aO mO mO64) → va_S A s.heap H locs → ∀ ls : Array Slot, lv_has ls 3 [(0, .ref (aO 0)), (1, .int v1), (2, .int v2)] → W p l e (headSpec wsX8_goesOn rmX8_goesOn).room s m args below meth c H locs 0 0 Q (F0 m 12 ls []) := by
    intro v1 v2 mO mO64 hM H locs hP hD hS ls hl
    unfold mX8_goesOn_L12 at hM
    obtain ⟨ex12, hit12, hM⟩ := bn_some hM
    have X12_0 : ∀ (mO : Mem), ex12 = mO → ∀ (H : Heap) (locs : List Loc), va_P (dC, dI) vwCl (wO ct aO mO mO64) H → va_D A (wO ct aO mO mO64) → va_S A s.heap H locs → ∀ ls : Array Slot, lv_has ls 3 [(0, .ref (aO 0)), (1, .int v1)] → W p l e (headSpec wsX8_goesOn rmX8_goesOn).room s m args below meth c H locs 0 0 Q (F0 m 51 ls []) := by
      intro mO hex H locs hP hD hS ls hl
      rw [hex] at hM
      have hM := nm_at (y := mO) rfl hM
      refine lv_aload_n hx hb dX8_goesOn_51 rfl (lv_at hl 0 rfl) ?_
      refine lv_aload_n hx hb dX8_goesOn_52 rfl (lv_at hl 0 rfl) ?_
      refine va_get (D := (dC, dI)) (ci := 8) (v := .int (mO 0 23)) (C := RX8) (T := TX8) (N := 45) hx hb hts iwX8_goesOn_X8 hown hK hP 0 rfl rfl 23 (by decide) (hts _ (List.mem_of_getElem? (i := 1) rfl)) (fun _ h9 => h9) rfl dX8_goesOn_53 ?_
      refine lv_aload_n hx hb dX8_goesOn_56 rfl (lv_at hl 0 rfl) ?_
      refine va_get (D := (dC, dI)) (ci := 8) (v := .int (mO 0 16)) (C := RX8) (T := TX8) (N := 45) hx hb hts iwX8_goesOn_X8 hown hK hP 0 rfl rfl 16 (by decide) (hts _ (List.mem_of_getElem? (i := 2) rfl)) (fun _ h9 => h9) rfl dX8_goesOn_57 ?_
      obtain ⟨x_29, hr_30, hM⟩ := bn_some hM
      refine gv_i (r0 := x_29) (wn := (wO ct aO mO mO64)) (va_runV (As := [.int (mO 0 23), .int (mO 0 16)]) (rest := []) ⟨hx, hb, hml, hown, hts⟩ (kX8_isStruck l dC dI ct aO _ mO mO64 (mO 0 23) (mO 0 16) _ hr_30) (cwV 2 hts gX8_goesOn_X8_isStruck rfl rfl rfl hvX8_isStruck ⟨Nat.le_of_ble_eq_true rfl, Nat.le_of_ble_eq_true rfl⟩) (preV_of E0_ok hK hP hD (is := [0, 1, 2, 3, 4, 5, 6, 7, 8, 9, 10, 11, 12, 13, 14, 15, 16, 17, 18, 19, 20, 21, 22, 23, 24, 25]) rfl rfl rfl (ci := 8) rfl 0 rfl e_0) rfl rfl hl.1 rfl (lv_room (Nat.le_of_ble_eq_true rfl)) dX8_goesOn_60 ⟨Nat.le_of_ble_eq_true rfl, Nat.le_of_ble_eq_true rfl⟩) hP hD hS hA [0, 1, 2, 3, 4, 5, 6, 7, 8, 9, 10, 11, 12, 13, 14, 15, 16, 17, 18, 19, 20, 21, 22, 23, 24, 25] [] [0, 1, 2, 3, 4, 5, 6, 7, 8, 9, 10, 11, 12, 13, 14, 15, 16, 17, 18, 19, 20, 21, 22, 23, 24, 25] rfl rfl rfl (by decide) rfl rfl (fun H locs hP hD hS => ?_)
      refine lv_if_ne (tgt := 67) hx hb dX8_goesOn_63 (by decide) (fun hc_32 => ?_) (fun hc_32 => ?_)
      · have hM := it_p hc_32 hM
        refine lv_iload_n hx hb dX8_goesOn_67 rfl (lv_at hl 1 rfl) ?_
        refine lv_if_ne (tgt := 83) hx hb dX8_goesOn_68 (by decide) (fun hc_33 => ?_) (fun hc_33 => ?_)
        · have hM := it_p hc_33 hM
          exact N83 v1 mO mO64 hM _ _ hP hD hS _ (lv_sub hl [0, 1] rfl)
        · have hM := it_nn hc_33 hM
          refine lv_aload_n hx hb dX8_goesOn_71 rfl (lv_at hl 0 rfl) ?_
          obtain ⟨q_37, hr_36, hM⟩ := bn_some hM
          obtain ⟨x_34, mO64_35⟩ := q_37
          have hM := nm_at (y := x_34) rfl hM
          have hM := nm_at (y := mO64_35) rfl hM
          refine gv_i (r0 := x_34) (wn := (wO ct aO mO mO64_35)) (va_runV (As := []) (rest := []) ⟨hx, hb, hml, hown, hts⟩ (kX8_draws l dC dI ct aO _ mO mO64 _ hr_36) (cwV 0 hts gX8_goesOn_X8_draws rfl rfl rfl hvX8_draws ⟨Nat.le_of_ble_eq_true rfl, Nat.le_of_ble_eq_true rfl⟩) (preV_of E0_ok hK hP hD (is := [0, 1, 2, 3, 4, 5, 6, 7, 8, 9, 10, 11, 12, 13, 14, 15, 16, 17, 18, 19, 20, 21, 22, 23, 24, 25]) rfl rfl rfl (ci := 8) rfl 0 rfl e_0) rfl rfl hl.1 rfl (lv_room (Nat.le_of_ble_eq_true rfl)) dX8_goesOn_72 ⟨Nat.le_of_ble_eq_true rfl, Nat.le_of_ble_eq_true rfl⟩) hP hD hS hA [0, 1, 2, 3, 4, 5, 6, 7, 8, 9, 10, 11, 12, 13, 14, 15, 16, 17, 18, 19, 20, 21, 22, 23, 24, 25] [] [0, 1, 2, 3, 4, 5, 6, 7, 8, 9, 10, 11, 12, 13, 14, 15, 16, 17, 18, 19, 20, 21, 22, 23, 24, 25] rfl rfl rfl (by decide) rfl rfl (fun H locs hP hD hS => ?_)
          refine lv_aload_n hx hb dX8_goesOn_75 rfl (lv_at hl 0 rfl) ?_
          refine va_get (D := (dC, dI)) (ci := 8) (v := .int (mO 0 14)) (C := RX8) (T := TX8) (N := 45) hx hb hts iwX8_goesOn_X8 hown hK hP 0 rfl rfl 14 (by decide) (hts _ (List.mem_of_getElem? (i := 3) rfl)) (fun _ h9 => h9) rfl dX8_goesOn_76 ?_
          refine lv_icmp_ge (tgt := 83) hx hb dX8_goesOn_79 (by decide) (fun hc_38 => ?_) (fun hc_38 => ?_)
          · have hM := it_p hc_38 hM
            exact N83 v1 mO mO64_35 hM _ _ hP hD hS _ (lv_sub hl [0, 1] rfl)
          · have hM := it_n hc_38 hM
            have hR := som hM
            rw [hR] at hQ
            exact ret_v hQ hx hb hr hlocks hP hK hD hS dX8_goesOn_82
      · have hM := it_nn hc_32 hM
        have hR := som hM
        rw [hR] at hQ
        exact ret_v hQ hx hb hr hlocks hP hK hD hS dX8_goesOn_66
    have I12 : ∀ (n : Nat) (v2 : Int32) (mO : Mem), itr (fun q => mX8_goesOn_s12 v1 mO64 q.1 q.2) n (v2, mO) = some ex12 → ∀ (H : Heap) (locs : List Loc), va_P (dC, dI) vwCl (wO ct aO mO mO64) H → va_D A (wO ct aO mO mO64) → va_S A s.heap H locs → ∀ ls : Array Slot, lv_has ls 3 [(0, .ref (aO 0)), (1, .int v1), (2, .int v2)] → W p l e (headSpec wsX8_goesOn rmX8_goesOn).room s m args below meth c H locs 0 0 Q (F0 m 12 ls []) := by
      intro n
      induction n with
      | zero => intro v2 mO hit; exact (itr_zero hit).elim
      | succ n ih12 =>
        intro v2 mO hit H locs hP hD hS ls hl
        obtain ⟨o12, hM, hbk12, hex12⟩ := itr_succ hit
        replace hM : mX8_goesOn_s12 v1 mO64 v2 mO = some o12 := hM
        unfold mX8_goesOn_s12 at hM
        refine lv_iload_n hx hb dX8_goesOn_12 rfl (lv_at hl 2 rfl) ?_
        refine lv_bipush (v := 40) hx hb dX8_goesOn_13 (by decide) ?_
        refine lv_icmp_ge (tgt := 51) hx hb dX8_goesOn_15 (by decide) (fun hc_39 => ?_) (fun hc_39 => ?_)
        · have hM := it_p hc_39 hM
          have hR := som hM
          exact X12_0 mO (hex12 _ hR).symm _ _ hP hD hS _ (lv_sub hl [0, 1] rfl)
        · have hM := it_n hc_39 hM
          refine lv_aload_n hx hb dX8_goesOn_18 rfl (lv_at hl 0 rfl) ?_
          refine lv_iload_n hx hb dX8_goesOn_19 rfl (lv_at hl 2 rfl) ?_
          refine lv_iconst (v := 3) hx hb dX8_goesOn_20 (by decide) ?_
          obtain ⟨x_40, hr_41, hM⟩ := bn_some hM
          refine gv_i (r0 := x_40) (wn := (wO ct aO mO mO64)) (va_runV (As := [.int v2, .int (3 : Int32)]) (rest := []) ⟨hx, hb, hml, hown, hts⟩ (kX8_loanAt l dC dI ct aO _ mO mO64 v2 (3 : Int32) _ hr_41) (cwV 2 hts gX8_goesOn_X8_loanAt rfl rfl rfl hvX8_loanAt ⟨Nat.le_of_ble_eq_true rfl, Nat.le_of_ble_eq_true rfl⟩) (preV_of E0_ok hK hP hD (is := [0, 1, 2, 3, 4, 5, 6, 7, 8, 9, 10, 11, 12, 13, 14, 15, 16, 17, 18, 19, 20, 21, 22, 23, 24, 25]) rfl rfl rfl (ci := 8) rfl 0 rfl e_0) rfl rfl hl.1 rfl (lv_room (Nat.le_of_ble_eq_true rfl)) dX8_goesOn_21 ⟨Nat.le_of_ble_eq_true rfl, Nat.le_of_ble_eq_true rfl⟩) hP hD hS hA [0, 1, 2, 3, 4, 5, 6, 7, 8, 9, 10, 11, 12, 13, 14, 15, 16, 17, 18, 19, 20, 21, 22, 23, 24, 25] [] [0, 1, 2, 3, 4, 5, 6, 7, 8, 9, 10, 11, 12, 13, 14, 15, 16, 17, 18, 19, 20, 21, 22, 23, 24, 25] rfl rfl rfl (by decide) rfl rfl (fun H locs hP hD hS => ?_)
          refine lv_if_le (tgt := 45) hx hb dX8_goesOn_24 (by decide) (fun hc_43 => ?_) (fun hc_43 => ?_)
          · have hM := it_p hc_43 hM
            obtain ⟨x_44, ex_44⟩ : ∃ y : Int32, y = (v2 + (1 : Int32)) := ⟨_, rfl⟩
            have hM := nm_at ex_44 hM
            refine lv_iinc (v := x_44) (lv' := [(2, .int x_44), (0, .ref (aO 0)), (1, .int v1)]) hx hb dX8_goesOn_45 hl (k := 2) rfl (by rw [ex_44]; rfl) (by decide) rfl (fun ls hl => ?_)
            refine lv_goto (tgt := 12) hx hb dX8_goesOn_48 (by decide) ?_
            have hR := som hM
            exact ih12 x_44 mO (hbk12 _ hR) _ _ hP hD hS _ (lv_sub hl [1, 2, 0] rfl)
          · have hM := it_n hc_43 hM
            refine lv_aload_n hx hb dX8_goesOn_27 rfl (lv_at hl 0 rfl) ?_
            refine lv_iload_n hx hb dX8_goesOn_28 rfl (lv_at hl 2 rfl) ?_
            refine lv_iconst (v := 5) hx hb dX8_goesOn_29 (by decide) ?_
            obtain ⟨x_45, hr_46, hM⟩ := bn_some hM
            refine gv_i (r0 := x_45) (wn := (wO ct aO mO mO64)) (va_runV (As := [.int v2, .int (5 : Int32)]) (rest := []) ⟨hx, hb, hml, hown, hts⟩ (kX8_loanAt l dC dI ct aO _ mO mO64 v2 (5 : Int32) _ hr_46) (cwV 2 hts gX8_goesOn_X8_loanAt rfl rfl rfl hvX8_loanAt ⟨Nat.le_of_ble_eq_true rfl, Nat.le_of_ble_eq_true rfl⟩) (preV_of E0_ok hK hP hD (is := [0, 1, 2, 3, 4, 5, 6, 7, 8, 9, 10, 11, 12, 13, 14, 15, 16, 17, 18, 19, 20, 21, 22, 23, 24, 25]) rfl rfl rfl (ci := 8) rfl 0 rfl e_0) rfl rfl hl.1 rfl (lv_room (Nat.le_of_ble_eq_true rfl)) dX8_goesOn_30 ⟨Nat.le_of_ble_eq_true rfl, Nat.le_of_ble_eq_true rfl⟩) hP hD hS hA [0, 1, 2, 3, 4, 5, 6, 7, 8, 9, 10, 11, 12, 13, 14, 15, 16, 17, 18, 19, 20, 21, 22, 23, 24, 25] [] [0, 1, 2, 3, 4, 5, 6, 7, 8, 9, 10, 11, 12, 13, 14, 15, 16, 17, 18, 19, 20, 21, 22, 23, 24, 25] rfl rfl rfl (by decide) rfl rfl (fun H locs hP hD hS => ?_)
            refine lv_aload_n hx hb dX8_goesOn_33 rfl (lv_at hl 0 rfl) ?_
            refine va_get (D := (dC, dI)) (ci := 8) (v := .int (mO 0 23)) (C := RX8) (T := TX8) (N := 45) hx hb hts iwX8_goesOn_X8 hown hK hP 0 rfl rfl 23 (by decide) (hts _ (List.mem_of_getElem? (i := 1) rfl)) (fun _ h9 => h9) rfl dX8_goesOn_34 ?_
            refine lv_icmp_ne (tgt := 45) hx hb dX8_goesOn_37 (by decide) (fun hc_48 => ?_) (fun hc_48 => ?_)
            · have hM := it_p hc_48 hM
              obtain ⟨x_49, ex_49⟩ : ∃ y : Int32, y = (v2 + (1 : Int32)) := ⟨_, rfl⟩
              have hM := nm_at ex_49 hM
              refine lv_iinc (v := x_49) (lv' := [(2, .int x_49), (0, .ref (aO 0)), (1, .int v1)]) hx hb dX8_goesOn_45 hl (k := 2) rfl (by rw [ex_49]; rfl) (by decide) rfl (fun ls hl => ?_)
              refine lv_goto (tgt := 12) hx hb dX8_goesOn_48 (by decide) ?_
              have hR := som hM
              exact ih12 x_49 mO (hbk12 _ hR) _ _ hP hD hS _ (lv_sub hl [1, 2, 0] rfl)
            · have hM := it_nn hc_48 hM
              refine lv_aload_n hx hb dX8_goesOn_40 rfl (lv_at hl 0 rfl) ?_
              refine lv_iload_n hx hb dX8_goesOn_41 rfl (lv_at hl 2 rfl) ?_
              obtain ⟨mO_50, hr_51, hM⟩ := bn_some hM
              refine gv_v (wn := (wO ct aO mO_50 mO64)) (va_runV (As := [.int v2]) (rest := []) ⟨hx, hb, hml, hown, hts⟩ (kX8_pays l dC dI ct aO _ mO mO64 v2 _ hr_51) (cwV 1 hts gX8_goesOn_X8_pays rfl rfl rfl hvX8_pays ⟨Nat.le_of_ble_eq_true rfl, Nat.le_of_ble_eq_true rfl⟩) (preV_of E0_ok hK hP hD (is := [0, 1, 2, 3, 4, 5, 6, 7, 8, 9, 10, 11, 12, 13, 14, 15, 16, 17, 18, 19, 20, 21, 22, 23, 24, 25]) rfl rfl rfl (ci := 8) rfl 0 rfl e_0) rfl rfl hl.1 rfl (lv_room (Nat.le_of_ble_eq_true rfl)) dX8_goesOn_42 ⟨Nat.le_of_ble_eq_true rfl, Nat.le_of_ble_eq_true rfl⟩) hP hD hS hA [0, 1, 2, 3, 4, 5, 6, 7, 8, 9, 10, 11, 12, 13, 14, 15, 16, 17, 18, 19, 20, 21, 22, 23, 24, 25] [] [0, 1, 2, 3, 4, 5, 6, 7, 8, 9, 10, 11, 12, 13, 14, 15, 16, 17, 18, 19, 20, 21, 22, 23, 24, 25] rfl rfl rfl (by decide) rfl rfl (fun H locs hP hD hS => ?_)
              obtain ⟨x_53, ex_53⟩ : ∃ y : Int32, y = (v2 + (1 : Int32)) := ⟨_, rfl⟩
              have hM := nm_at ex_53 hM
              refine lv_iinc (v := x_53) (lv' := [(2, .int x_53), (0, .ref (aO 0)), (1, .int v1)]) hx hb dX8_goesOn_45 hl (k := 2) rfl (by rw [ex_53]; rfl) (by decide) rfl (fun ls hl => ?_)
              refine lv_goto (tgt := 12) hx hb dX8_goesOn_48 (by decide) ?_
              have hR := som hM
              exact ih12 x_53 mO_50 (hbk12 _ hR) _ _ hP hD hS _ (lv_sub hl [1, 2, 0] rfl)
    exact I12 FU v2 mO hit12 _ _ hP hD hS _ hl
  refine lv_aload_n hx hb dX8_goesOn_0 rfl (lv_at hl 0 rfl) ?_
  refine lv_dup hx hb dX8_goesOn_1 rfl ?_
  refine va_get (D := (dC, dI)) (ci := 8) (v := .int (mO 0 23)) (C := RX8) (T := TX8) (N := 45) hx hb hts iwX8_goesOn_X8 hown hK hP 0 rfl rfl 23 (by decide) (hts _ (List.mem_of_getElem? (i := 1) rfl)) (fun _ h9 => h9) rfl dX8_goesOn_2 ?_
  refine lv_iconst (v := 1) hx hb dX8_goesOn_5 (by decide) ?_
  refine lv_iadd hx hb dX8_goesOn_6 ?_
  refine pf_i (wf := fun z => (wO ct aO z mO64)) (m1 := upf mO 23 ((mO 0 23) + (1 : Int32))) hx hb hts iwX8_goesOn_X8 tyX8 tyX8_ok nmX8 hown hK hP hD hS 0 rfl rfl 23 (by decide) (hts _ (List.mem_of_getElem? (i := 1) rfl)) (fun _ h9 => h9) rfl rfl rfl (Nat.le_of_ble_eq_true rfl) dX8_goesOn_7 rfl (fun mO_54 emO_54 H locs hP hD hS => ?_)
  have hM := nm_at emO_54 hM
  refine lv_iconst (v := 0) hx hb dX8_goesOn_10 (by decide) ?_
  refine lv_istore_n (lv' := [(2, .int (0 : Int32)), (0, .ref (aO 0)), (1, .int v1)]) hx hb dX8_goesOn_11 rfl hl (by decide) rfl (fun ls hl => ?_)
  exact N12 v1 (0 : Int32) mO_54 mO64 hM _ _ hP hD hS _ (lv_sub hl [1, 2, 0] rfl)
abbrev rmX8_go : Room := { frames := 3, cells := 0, slots := 0, locals := 69 }
theorem iwX8_go_X8 : ∀ w ∈ wsX80, w ∈ wsX8_go := fun _ h => List.mem_cons_of_mem _ (List.mem_append_right _ (h))
set_option maxHeartbeats 4000000 in
set_option maxRecDepth 100000 in
theorem kX8_go (l : Launch) (dC : Nat → ClassId) (dI : Nat → Nat → Nat) (ct : Nat → ClassId) (aO : Nat → Nat) (sz : Nat) (mO : Mem) (mO64 : Lem) (v1 : Int32) (res : (Int32 × Mem × Lem)) (hM : mX8_go mO mO64 v1 = some res) : Met l yX8_go wsX8_go rmX8_go (va_Pc [.ref (aO 0), .int v1] (PB (dC, dI) ct E0 sz (wO ct aO mO mO64))) (Qi (dC, dI) ct (va_A (wO ct aO mO mO64) sz) res.1 (wO ct aO res.2.1 res.2.2)) 0 0 (va_A (wO ct aO mO mO64) sz) := by
  refine Met.ofW (cc := cX8_go) (maxL := 3) (ret := (some .int)) (by decide) rfl ?_
  intro p e s m args below meth c s₁ B hml hv
  obtain ⟨hargs, hsz, hP, hK, hD0, hE⟩ := hv
  have hx := B.exec
  have hb := B.bytes
  have hr := B.returns
  have hts := atoms_spec (ws := wsX8_go) B.pre
  have hown : s.vm.findClass RX8 = some m.cls := findClass_of_methodNamed B.named
  have hlocks := B.notSynchronized
  clear B s₁
  subst hsz
  have hD := hD0.self (sz := s.heap.size)
  clear hD0
  generalize hAe : va_A (wO ct aO mO mO64) s.heap.size = A at hD hE ⊢
  have hA : ∀ q : Nat, s.heap.size ≤ q → A q := fun q h => by rw [← hAe]; exact Or.inr h
  clear hAe
  have hS : va_S A s.heap s.heap [] := va_S.rf
  refine cutQ (fun Q hQ => ?_)
  refine entryW (vs := [.ref (aO 0), .int v1]) hargs (Nat.le_of_ble_eq_true rfl) (fun ls hl => ?_)
  replace hl : lv_has ls 3 [(0, .ref (aO 0)), (1, .int v1)] := hl
  unfold mX8_go at hM
  have N22 : ∀ (v1 : Int32) (v2 : Int32) (mO : Mem) (mO64 : Lem), mX8_go_L22 v1 v2 mO mO64 = some res → ∀ (H : Heap) (locs : List Loc), va_P (dC, dI) vwCl (wO ct aO mO mO64) H → va_D A (wO ct aO mO mO64) → va_S A s.heap H locs → ∀ ls : Array Slot, lv_has ls 3 [(0, .ref (aO 0)), (1, .int v1), (2, .int v2)] → W p l e (headSpec wsX8_go rmX8_go).room s m args below meth c H locs 0 0 Q (F0 m 22 ls []) := by
    intro v1 v2 mO mO64 hM H locs hP hD hS ls hl
    unfold mX8_go_L22 at hM
    obtain ⟨ex22, hit22, hM⟩ := bn_some hM
    have X22_0 : ∀ (mO : Mem) (mO64 : Lem), ex22 = (mO, mO64) → ∀ (H : Heap) (locs : List Loc), va_P (dC, dI) vwCl (wO ct aO mO mO64) H → va_D A (wO ct aO mO mO64) → va_S A s.heap H locs → ∀ ls : Array Slot, lv_has ls 3 [(0, .ref (aO 0))] → W p l e (headSpec wsX8_go rmX8_go).room s m args below meth c H locs 0 0 Q (F0 m 38 ls []) := by
      intro mO mO64 hex H locs hP hD hS ls hl
      rw [hex] at hM
      have hM := nm_at (y := mO) rfl hM
      have hM := nm_at (y := mO64) rfl hM
      refine lv_aload_n hx hb dX8_go_38 rfl (lv_at hl 0 rfl) ?_
      refine va_get (D := (dC, dI)) (ci := 8) (v := .int (mO 0 23)) (C := RX8) (T := TX8) (N := 45) hx hb hts iwX8_go_X8 hown hK hP 0 rfl rfl 23 (by decide) (hts _ (List.mem_of_getElem? (i := 2) rfl)) (fun _ h9 => h9) rfl dX8_go_39 ?_
      refine lv_topi (fun x_1 ex_1 => ?_)
      have hM := nm_at ex_1 hM
      have hR := som hM
      rw [hR] at hQ
      exact ret_i hQ hx hb hr hlocks hP hK hD hS dX8_go_42
    have I22 : ∀ (n : Nat) (v2 : Int32) (mO : Mem) (mO64 : Lem), itr (fun q => mX8_go_s22 v1 q.1 q.2.1 q.2.2) n (v2, mO, mO64) = some ex22 → ∀ (H : Heap) (locs : List Loc), va_P (dC, dI) vwCl (wO ct aO mO mO64) H → va_D A (wO ct aO mO mO64) → va_S A s.heap H locs → ∀ ls : Array Slot, lv_has ls 3 [(0, .ref (aO 0)), (1, .int v1), (2, .int v2)] → W p l e (headSpec wsX8_go rmX8_go).room s m args below meth c H locs 0 0 Q (F0 m 22 ls []) := by
      intro n
      induction n with
      | zero => intro v2 mO mO64 hit; exact (itr_zero hit).elim
      | succ n ih22 =>
        intro v2 mO mO64 hit H locs hP hD hS ls hl
        obtain ⟨o22, hM, hbk22, hex22⟩ := itr_succ hit
        replace hM : mX8_go_s22 v1 v2 mO mO64 = some o22 := hM
        unfold mX8_go_s22 at hM
        refine lv_iload_n hx hb dX8_go_22 rfl (lv_at hl 2 rfl) ?_
        refine lv_iload_n hx hb dX8_go_23 rfl (lv_at hl 1 rfl) ?_
        refine lv_icmp_ge (tgt := 38) hx hb dX8_go_24 (by decide) (fun hc_2 => ?_) (fun hc_2 => ?_)
        · have hM := it_p hc_2 hM
          have hR := som hM
          exact X22_0 mO mO64 (hex22 _ hR).symm _ _ hP hD hS _ (lv_sub hl [0] rfl)
        · have hM := it_n hc_2 hM
          refine lv_aload_n hx hb dX8_go_27 rfl (lv_at hl 0 rfl) ?_
          refine lv_iconst (v := 0) hx hb dX8_go_28 (by decide) ?_
          obtain ⟨q_6, hr_5, hM⟩ := bn_some hM
          obtain ⟨mO_3, mO64_4⟩ := q_6
          have hM := nm_at (y := mO_3) rfl hM
          have hM := nm_at (y := mO64_4) rfl hM
          refine gv_v (wn := (wO ct aO mO_3 mO64_4)) (va_runV (As := [.int (0 : Int32)]) (rest := []) ⟨hx, hb, hml, hown, hts⟩ (kX8_goesOn l dC dI ct aO _ mO mO64 (0 : Int32) _ hr_5) (cwV 1 hts gX8_go_X8_goesOn rfl rfl rfl hvX8_goesOn ⟨Nat.le_of_ble_eq_true rfl, Nat.le_of_ble_eq_true rfl⟩) (preV_of E0_ok hK hP hD (is := [0, 1, 2, 3, 4, 5, 6, 7, 8, 9, 10, 11, 12, 13, 14, 15, 16, 17, 18, 19, 20, 21, 22, 23, 24, 25]) rfl rfl rfl (ci := 8) rfl 0 rfl e_0) rfl rfl hl.1 rfl (lv_room (Nat.le_of_ble_eq_true rfl)) dX8_go_29 ⟨Nat.le_of_ble_eq_true rfl, Nat.le_of_ble_eq_true rfl⟩) hP hD hS hA [0, 1, 2, 3, 4, 5, 6, 7, 8, 9, 10, 11, 12, 13, 14, 15, 16, 17, 18, 19, 20, 21, 22, 23, 24, 25] [] [0, 1, 2, 3, 4, 5, 6, 7, 8, 9, 10, 11, 12, 13, 14, 15, 16, 17, 18, 19, 20, 21, 22, 23, 24, 25] rfl rfl rfl (by decide) rfl rfl (fun H locs hP hD hS => ?_)
          obtain ⟨x_7, ex_7⟩ : ∃ y : Int32, y = (v2 + (1 : Int32)) := ⟨_, rfl⟩
          have hM := nm_at ex_7 hM
          refine lv_iinc (v := x_7) (lv' := [(2, .int x_7), (0, .ref (aO 0)), (1, .int v1)]) hx hb dX8_go_32 hl (k := 2) rfl (by rw [ex_7]; rfl) (by decide) rfl (fun ls hl => ?_)
          refine lv_goto (tgt := 22) hx hb dX8_go_35 (by decide) ?_
          have hR := som hM
          exact ih22 x_7 mO_3 mO64_4 (hbk22 _ hR) _ _ hP hD hS _ (lv_sub hl [1, 2, 0] rfl)
    exact I22 FU v2 mO mO64 hit22 _ _ hP hD hS _ hl
  refine lv_aload_n hx hb dX8_go_0 rfl (lv_at hl 0 rfl) ?_
  refine va_get (D := (dC, dI)) (ci := 8) (v := .int (mO 0 18)) (C := RX8) (T := TX8) (N := 45) hx hb hts iwX8_go_X8 hown hK hP 0 rfl rfl 18 (by decide) (hts _ (List.mem_of_getElem? (i := 1) rfl)) (fun _ h9 => h9) rfl dX8_go_1 ?_
  refine lv_if_eq (tgt := 18) hx hb dX8_go_4 (by decide) (fun hc_8 => ?_) (fun hc_8 => ?_)
  · have hM := it_p hc_8 hM
    refine lv_iconst (v := -1) hx hb dX8_go_18 (by decide) ?_
    have hR := som hM
    rw [hR] at hQ
    exact ret_i hQ hx hb hr hlocks hP hK hD hS dX8_go_19
  · have hM := it_n hc_8 hM
    refine lv_iload_n hx hb dX8_go_7 rfl (lv_at hl 1 rfl) ?_
    refine lv_iconst (v := 1) hx hb dX8_go_8 (by decide) ?_
    refine lv_sipush (v := 200) hx hb dX8_go_9 (by decide) ?_
    obtain ⟨x_9, hr_10, hM⟩ := bn_some hM
    refine gv_i (r0 := x_9) (wn := (wO ct aO mO mO64)) (va_runS (As := [.int v1, .int (1 : Int32), .int (200 : Int32)]) (rest := []) ⟨hx, hb, hml, hown, hts⟩ (kX8_in l dC dI ct _ v1 (1 : Int32) (200 : Int32) _ hr_10) (va_cwS 3 hts gX8_go_X8_in rfl rfl rfl hvX8_in.2 ⟨Nat.le_of_ble_eq_true rfl, Nat.le_of_ble_eq_true rfl⟩) (preS_of E0_ok hK hP hD (is := []) rfl rfl e_0) rfl rfl hl.1 rfl (lv_room (Nat.le_of_ble_eq_true rfl)) dX8_go_12 ⟨Nat.le_of_ble_eq_true rfl, Nat.le_of_ble_eq_true rfl⟩) hP hD hS hA [] [0, 1, 2, 3, 4, 5, 6, 7, 8, 9, 10, 11, 12, 13, 14, 15, 16, 17, 18, 19, 20, 21, 22, 23, 24, 25] [0, 1, 2, 3, 4, 5, 6, 7, 8, 9, 10, 11, 12, 13, 14, 15, 16, 17, 18, 19, 20, 21, 22, 23, 24, 25] rfl rfl rfl (by decide) rfl rfl (fun H locs hP hD hS => ?_)
    refine lv_if_ne (tgt := 20) hx hb dX8_go_15 (by decide) (fun hc_12 => ?_) (fun hc_12 => ?_)
    · have hM := it_p hc_12 hM
      refine lv_iconst (v := 0) hx hb dX8_go_20 (by decide) ?_
      refine lv_istore_n (lv' := [(2, .int (0 : Int32)), (0, .ref (aO 0)), (1, .int v1)]) hx hb dX8_go_21 rfl hl (by decide) rfl (fun ls hl => ?_)
      exact N22 v1 (0 : Int32) mO mO64 hM _ _ hP hD hS _ (lv_sub hl [1, 2, 0] rfl)
    · have hM := it_nn hc_12 hM
      refine lv_iconst (v := -1) hx hb dX8_go_18 (by decide) ?_
      have hR := som hM
      rw [hR] at hQ
      exact ret_i hQ hx hb hr hlocks hP hK hD hS dX8_go_19
abbrev rmX8_market : Room := { frames := 1, cells := 0, slots := 0, locals := 22 }
theorem iwX8_market_X8 : ∀ w ∈ wsX80, w ∈ wsX8_market := fun _ h => List.mem_cons_of_mem _ (List.mem_append_right _ (h))
set_option maxHeartbeats 4000000 in
set_option maxRecDepth 100000 in
theorem kX8_market (l : Launch) (dC : Nat → ClassId) (dI : Nat → Nat → Nat) (ct : Nat → ClassId) (aO : Nat → Nat) (sz : Nat) (mO : Mem) (mO64 : Lem) (v1 : Int32) (res : Int32) (hM : mX8_market mO mO64 v1 = some res) : Met l yX8_market wsX8_market rmX8_market (va_Pc [.ref (aO 0), .int v1] (PB (dC, dI) ct E0 sz (wO ct aO mO mO64))) (Qi (dC, dI) ct (va_A (wO ct aO mO mO64) sz) res (wO ct aO mO mO64)) 0 0 (va_A (wO ct aO mO mO64) sz) := by
  refine Met.ofW (cc := cX8_market) (maxL := 4) (ret := (some .int)) (by decide) rfl ?_
  intro p e s m args below meth c s₁ B hml hv
  obtain ⟨hargs, hsz, hP, hK, hD0, hE⟩ := hv
  have hx := B.exec
  have hb := B.bytes
  have hr := B.returns
  have hts := atoms_spec (ws := wsX8_market) B.pre
  have hown : s.vm.findClass RX8 = some m.cls := findClass_of_methodNamed B.named
  have hlocks := B.notSynchronized
  clear B s₁
  subst hsz
  have hD := hD0.self (sz := s.heap.size)
  clear hD0
  generalize hAe : va_A (wO ct aO mO mO64) s.heap.size = A at hD hE ⊢
  have hA : ∀ q : Nat, s.heap.size ≤ q → A q := fun q h => by rw [← hAe]; exact Or.inr h
  clear hAe
  have hS : va_S A s.heap s.heap [] := va_S.rf
  refine cutQ (fun Q hQ => ?_)
  refine entryW (vs := [.ref (aO 0), .int v1]) hargs (Nat.le_of_ble_eq_true rfl) (fun ls hl => ?_)
  replace hl : lv_has ls 4 [(0, .ref (aO 0)), (1, .int v1)] := hl
  unfold mX8_market at hM
  have N131 : ∀ (v1 : Int32) (v2 : Int32) (v3 : Int32), mX8_market_L131 v1 v2 v3 mO mO64 = some res → ∀ (H : Heap) (locs : List Loc), va_P (dC, dI) vwCl (wO ct aO mO mO64) H → va_D A (wO ct aO mO mO64) → va_S A s.heap H locs → ∀ ls : Array Slot, lv_has ls 4 [(0, .ref (aO 0)), (1, .int v1), (2, .int v2), (3, .int v3)] → W p l e (headSpec wsX8_market rmX8_market).room s m args below meth c H locs 0 0 Q (F0 m 131 ls []) := by
    intro v1 v2 v3 hM H locs hP hD hS ls hl
    unfold mX8_market_L131 at hM
    obtain ⟨ex131, hit131, hM⟩ := bn_some hM
    have X131_0 : ∀ (v2 : Int32), ex131 = v2 → ∀ (H : Heap) (locs : List Loc), va_P (dC, dI) vwCl (wO ct aO mO mO64) H → va_D A (wO ct aO mO mO64) → va_S A s.heap H locs → ∀ ls : Array Slot, lv_has ls 4 [(2, .int v2)] → W p l e (headSpec wsX8_market rmX8_market).room s m args below meth c H locs 0 0 Q (F0 m 159 ls []) := by
      intro v2 hex H locs hP hD hS ls hl
      rw [hex] at hM
      have hM := nm_at (y := v2) rfl hM
      refine lv_iload_n hx hb dX8_market_159 rfl (lv_at hl 0 rfl) ?_
      have hR := som hM
      rw [hR] at hQ
      exact ret_i hQ hx hb hr hlocks hP hK hD hS dX8_market_160
    have I131 : ∀ (n : Nat) (v2 : Int32) (v3 : Int32), itr (fun q => mX8_market_s131 v1 mO mO64 q.1 q.2) n (v2, v3) = some ex131 → ∀ (H : Heap) (locs : List Loc), va_P (dC, dI) vwCl (wO ct aO mO mO64) H → va_D A (wO ct aO mO mO64) → va_S A s.heap H locs → ∀ ls : Array Slot, lv_has ls 4 [(0, .ref (aO 0)), (1, .int v1), (2, .int v2), (3, .int v3)] → W p l e (headSpec wsX8_market rmX8_market).room s m args below meth c H locs 0 0 Q (F0 m 131 ls []) := by
      intro n
      induction n with
      | zero => intro v2 v3 hit; exact (itr_zero hit).elim
      | succ n ih131 =>
        intro v2 v3 hit H locs hP hD hS ls hl
        obtain ⟨o131, hM, hbk131, hex131⟩ := itr_succ hit
        replace hM : mX8_market_s131 v1 mO mO64 v2 v3 = some o131 := hM
        unfold mX8_market_s131 at hM
        refine lv_iload_n hx hb dX8_market_131 rfl (lv_at hl 3 rfl) ?_
        refine lv_aload_n hx hb dX8_market_132 rfl (lv_at hl 0 rfl) ?_
        refine va_get (D := (dC, dI)) (ci := 8) (v := .int (mO 0 18)) (C := RX8) (T := TX8) (N := 45) hx hb hts iwX8_market_X8 hown hK hP 0 rfl rfl 18 (by decide) (hts _ (List.mem_of_getElem? (i := 1) rfl)) (fun _ h9 => h9) rfl dX8_market_133 ?_
        refine lv_icmp_ge (tgt := 159) hx hb dX8_market_136 (by decide) (fun hc_1 => ?_) (fun hc_1 => ?_)
        · have hM := it_p hc_1 hM
          have hR := som hM
          exact X131_0 v2 (hex131 _ hR).symm _ _ hP hD hS _ (lv_sub hl [2] rfl)
        · have hM := it_n hc_1 hM
          refine lv_iload_n hx hb dX8_market_139 rfl (lv_at hl 1 rfl) ?_
          refine lv_iconst (v := 3) hx hb dX8_market_140 (by decide) ?_
          refine lv_icmp_ne (tgt := 159) hx hb dX8_market_141 (by decide) (fun hc_2 => ?_) (fun hc_2 => ?_)
          · have hM := it_p hc_2 hM
            have hR := som hM
            exact X131_0 v2 (hex131 _ hR).symm _ _ hP hD hS _ (lv_sub hl [2] rfl)
          · have hM := it_nn hc_2 hM
            refine lv_iload_n hx hb dX8_market_144 rfl (lv_at hl 2 rfl) ?_
            refine lv_aload_n hx hb dX8_market_145 rfl (lv_at hl 0 rfl) ?_
            refine va_get (D := (dC, dI)) (ci := 8) (v := .ref (aO 9)) (C := RX8) (T := TX8) (N := 45) hx hb hts iwX8_market_X8 hown hK hP 0 rfl rfl 25 (by decide) (hts _ (List.mem_of_getElem? (i := 3) rfl)) (fun _ h9 => h9) rfl dX8_market_146 ?_
            refine lv_iload_n hx hb dX8_market_149 rfl (lv_at hl 3 rfl) ?_
            obtain ⟨hi, hM⟩ := gi_some hM
            refine va_iald hx hb hK hP 9 0 rfl rfl hi dX8_market_150 ?_
            refine lv_iadd hx hb dX8_market_151 ?_
            refine lv_topi (fun x_3 ex_3 => ?_)
            have hM := nm_at ex_3 hM
            refine lv_istore_n (lv' := [(2, .int x_3), (0, .ref (aO 0)), (1, .int v1), (3, .int v3)]) hx hb dX8_market_152 rfl hl (by decide) rfl (fun ls hl => ?_)
            obtain ⟨x_4, ex_4⟩ : ∃ y : Int32, y = (v3 + (1 : Int32)) := ⟨_, rfl⟩
            have hM := nm_at ex_4 hM
            refine lv_iinc (v := x_4) (lv' := [(3, .int x_4), (2, .int x_3), (0, .ref (aO 0)), (1, .int v1)]) hx hb dX8_market_153 hl (k := 3) rfl (by rw [ex_4]; rfl) (by decide) rfl (fun ls hl => ?_)
            refine lv_goto (tgt := 131) hx hb dX8_market_156 (by decide) ?_
            have hR := som hM
            exact ih131 x_3 x_4 (hbk131 _ hR) _ _ hP hD hS _ (lv_sub hl [2, 3, 1, 0] rfl)
    exact I131 FU v2 v3 hit131 _ _ hP hD hS _ hl
  have N85 : ∀ (v1 : Int32) (v2 : Int32) (v3 : Int32), mX8_market_L85 v1 v2 v3 mO mO64 = some res → ∀ (H : Heap) (locs : List Loc), va_P (dC, dI) vwCl (wO ct aO mO mO64) H → va_D A (wO ct aO mO mO64) → va_S A s.heap H locs → ∀ ls : Array Slot, lv_has ls 4 [(0, .ref (aO 0)), (1, .int v1), (2, .int v2), (3, .int v3)] → W p l e (headSpec wsX8_market rmX8_market).room s m args below meth c H locs 0 0 Q (F0 m 85 ls []) := by
    intro v1 v2 v3 hM H locs hP hD hS ls hl
    unfold mX8_market_L85 at hM
    obtain ⟨ex85, hit85, hM⟩ := bn_some hM
    have X85_0 : ∀ (v2 : Int32), ex85 = v2 → ∀ (H : Heap) (locs : List Loc), va_P (dC, dI) vwCl (wO ct aO mO mO64) H → va_D A (wO ct aO mO mO64) → va_S A s.heap H locs → ∀ ls : Array Slot, lv_has ls 4 [(0, .ref (aO 0)), (1, .int v1), (2, .int v2)] → W p l e (headSpec wsX8_market rmX8_market).room s m args below meth c H locs 0 0 Q (F0 m 129 ls []) := by
      intro v2 hex H locs hP hD hS ls hl
      rw [hex] at hM
      have hM := nm_at (y := v2) rfl hM
      refine lv_iconst (v := 0) hx hb dX8_market_129 (by decide) ?_
      refine lv_istore_n (lv' := [(3, .int (0 : Int32)), (0, .ref (aO 0)), (1, .int v1), (2, .int v2)]) hx hb dX8_market_130 rfl hl (by decide) rfl (fun ls hl => ?_)
      exact N131 v1 v2 (0 : Int32) hM _ _ hP hD hS _ (lv_sub hl [1, 2, 3, 0] rfl)
    have I85 : ∀ (n : Nat) (v2 : Int32) (v3 : Int32), itr (fun q => mX8_market_s85 v1 mO mO64 q.1 q.2) n (v2, v3) = some ex85 → ∀ (H : Heap) (locs : List Loc), va_P (dC, dI) vwCl (wO ct aO mO mO64) H → va_D A (wO ct aO mO mO64) → va_S A s.heap H locs → ∀ ls : Array Slot, lv_has ls 4 [(0, .ref (aO 0)), (1, .int v1), (2, .int v2), (3, .int v3)] → W p l e (headSpec wsX8_market rmX8_market).room s m args below meth c H locs 0 0 Q (F0 m 85 ls []) := by
      intro n
      induction n with
      | zero => intro v2 v3 hit; exact (itr_zero hit).elim
      | succ n ih85 =>
        intro v2 v3 hit H locs hP hD hS ls hl
        obtain ⟨o85, hM, hbk85, hex85⟩ := itr_succ hit
        replace hM : mX8_market_s85 v1 mO mO64 v2 v3 = some o85 := hM
        have N121 : ∀ (v3 : Int32) (t0 : Int32) (t1 : Int32), mX8_market_j121 v1 v3 t0 t1 mO mO64 = some o85 → ∀ (H : Heap) (locs : List Loc), va_P (dC, dI) vwCl (wO ct aO mO mO64) H → va_D A (wO ct aO mO mO64) → va_S A s.heap H locs → ∀ ls : Array Slot, lv_has ls 4 [(0, .ref (aO 0)), (1, .int v1), (3, .int v3)] → W p l e (headSpec wsX8_market rmX8_market).room s m args below meth c H locs 0 0 Q (F0 m 121 ls [.int t1, .int t0]) := by
          intro v3 t0 t1 hM H locs hP hD hS ls hl
          unfold mX8_market_j121 at hM
          refine lv_iadd hx hb dX8_market_121 ?_
          refine lv_topi (fun x_5 ex_5 => ?_)
          have hM := nm_at ex_5 hM
          refine lv_istore_n (lv' := [(2, .int x_5), (0, .ref (aO 0)), (1, .int v1), (3, .int v3)]) hx hb dX8_market_122 rfl hl (by decide) rfl (fun ls hl => ?_)
          obtain ⟨x_6, ex_6⟩ : ∃ y : Int32, y = (v3 + (1 : Int32)) := ⟨_, rfl⟩
          have hM := nm_at ex_6 hM
          refine lv_iinc (v := x_6) (lv' := [(3, .int x_6), (2, .int x_5), (0, .ref (aO 0)), (1, .int v1)]) hx hb dX8_market_123 hl (k := 3) rfl (by rw [ex_6]; rfl) (by decide) rfl (fun ls hl => ?_)
          refine lv_goto (tgt := 85) hx hb dX8_market_126 (by decide) ?_
          have hR := som hM
          exact ih85 x_5 x_6 (hbk85 _ hR) _ _ hP hD hS _ (lv_sub hl [2, 3, 1, 0] rfl)
        unfold mX8_market_s85 at hM
        refine lv_iload_n hx hb dX8_market_85 rfl (lv_at hl 3 rfl) ?_
        refine lv_bipush (v := 40) hx hb dX8_market_86 (by decide) ?_
        refine lv_icmp_ge (tgt := 129) hx hb dX8_market_88 (by decide) (fun hc_7 => ?_) (fun hc_7 => ?_)
        · have hM := it_p hc_7 hM
          have hR := som hM
          exact X85_0 v2 (hex85 _ hR).symm _ _ hP hD hS _ (lv_sub hl [0, 1, 2] rfl)
        · have hM := it_n hc_7 hM
          refine lv_iload_n hx hb dX8_market_91 rfl (lv_at hl 1 rfl) ?_
          refine lv_iconst (v := 3) hx hb dX8_market_92 (by decide) ?_
          refine lv_icmp_ge (tgt := 129) hx hb dX8_market_93 (by decide) (fun hc_8 => ?_) (fun hc_8 => ?_)
          · have hM := it_p hc_8 hM
            have hR := som hM
            exact X85_0 v2 (hex85 _ hR).symm _ _ hP hD hS _ (lv_sub hl [0, 1, 2] rfl)
          · have hM := it_n hc_8 hM
            refine lv_aload_n hx hb dX8_market_96 rfl (lv_at hl 0 rfl) ?_
            refine lv_iload_n hx hb dX8_market_97 rfl (lv_at hl 3 rfl) ?_
            refine lv_iconst (v := 3) hx hb dX8_market_98 (by decide) ?_
            obtain ⟨x_9, hr_10, hM⟩ := bn_some hM
            refine gv_i (r0 := x_9) (wn := (wO ct aO mO mO64)) (va_runV (As := [.int v3, .int (3 : Int32)]) (rest := []) ⟨hx, hb, hml, hown, hts⟩ (kX8_loanAt l dC dI ct aO _ mO mO64 v3 (3 : Int32) _ hr_10) (cwV 2 hts gX8_market_X8_loanAt rfl rfl rfl hvX8_loanAt ⟨Nat.le_of_ble_eq_true rfl, Nat.le_of_ble_eq_true rfl⟩) (preV_of E0_ok hK hP hD (is := [0, 1, 2, 3, 4, 5, 6, 7, 8, 9, 10, 11, 12, 13, 14, 15, 16, 17, 18, 19, 20, 21, 22, 23, 24, 25]) rfl rfl rfl (ci := 8) rfl 0 rfl e_0) rfl rfl hl.1 rfl (lv_room (Nat.le_of_ble_eq_true rfl)) dX8_market_99 ⟨Nat.le_of_ble_eq_true rfl, Nat.le_of_ble_eq_true rfl⟩) hP hD hS hA [0, 1, 2, 3, 4, 5, 6, 7, 8, 9, 10, 11, 12, 13, 14, 15, 16, 17, 18, 19, 20, 21, 22, 23, 24, 25] [] [0, 1, 2, 3, 4, 5, 6, 7, 8, 9, 10, 11, 12, 13, 14, 15, 16, 17, 18, 19, 20, 21, 22, 23, 24, 25] rfl rfl rfl (by decide) rfl rfl (fun H locs hP hD hS => ?_)
            refine lv_if_le (tgt := 123) hx hb dX8_market_102 (by decide) (fun hc_12 => ?_) (fun hc_12 => ?_)
            · have hM := it_p hc_12 hM
              obtain ⟨x_13, ex_13⟩ : ∃ y : Int32, y = (v3 + (1 : Int32)) := ⟨_, rfl⟩
              have hM := nm_at ex_13 hM
              refine lv_iinc (v := x_13) (lv' := [(3, .int x_13), (0, .ref (aO 0)), (1, .int v1), (2, .int v2)]) hx hb dX8_market_123 hl (k := 3) rfl (by rw [ex_13]; rfl) (by decide) rfl (fun ls hl => ?_)
              refine lv_goto (tgt := 85) hx hb dX8_market_126 (by decide) ?_
              have hR := som hM
              exact ih85 v2 x_13 (hbk85 _ hR) _ _ hP hD hS _ (lv_sub hl [1, 2, 3, 0] rfl)
            · have hM := it_n hc_12 hM
              refine lv_iload_n hx hb dX8_market_105 rfl (lv_at hl 2 rfl) ?_
              refine lv_iload_n hx hb dX8_market_106 rfl (lv_at hl 1 rfl) ?_
              refine lv_iconst (v := 1) hx hb dX8_market_107 (by decide) ?_
              refine lv_icmp_ne (tgt := 115) hx hb dX8_market_108 (by decide) (fun hc_14 => ?_) (fun hc_14 => ?_)
              · have hM := it_p hc_14 hM
                refine lv_aload_n hx hb dX8_market_115 rfl (lv_at hl 0 rfl) ?_
                refine lv_iload_n hx hb dX8_market_116 rfl (lv_at hl 3 rfl) ?_
                refine lv_iconst (v := 4) hx hb dX8_market_117 (by decide) ?_
                obtain ⟨x_15, hr_16, hM⟩ := bn_some hM
                refine gv_i (r0 := x_15) (wn := (wO ct aO mO mO64)) (va_runV (As := [.int v3, .int (4 : Int32)]) (rest := [.int v2]) ⟨hx, hb, hml, hown, hts⟩ (kX8_loanAt l dC dI ct aO _ mO mO64 v3 (4 : Int32) _ hr_16) (cwV 2 hts gX8_market_X8_loanAt rfl rfl rfl hvX8_loanAt ⟨Nat.le_of_ble_eq_true rfl, Nat.le_of_ble_eq_true rfl⟩) (preV_of E0_ok hK hP hD (is := [0, 1, 2, 3, 4, 5, 6, 7, 8, 9, 10, 11, 12, 13, 14, 15, 16, 17, 18, 19, 20, 21, 22, 23, 24, 25]) rfl rfl rfl (ci := 8) rfl 0 rfl e_0) rfl rfl hl.1 rfl (lv_room (Nat.le_of_ble_eq_true rfl)) dX8_market_118 ⟨Nat.le_of_ble_eq_true rfl, Nat.le_of_ble_eq_true rfl⟩) hP hD hS hA [0, 1, 2, 3, 4, 5, 6, 7, 8, 9, 10, 11, 12, 13, 14, 15, 16, 17, 18, 19, 20, 21, 22, 23, 24, 25] [] [0, 1, 2, 3, 4, 5, 6, 7, 8, 9, 10, 11, 12, 13, 14, 15, 16, 17, 18, 19, 20, 21, 22, 23, 24, 25] rfl rfl rfl (by decide) rfl rfl (fun H locs hP hD hS => ?_)
                exact N121 v3 v2 x_15 hM _ _ hP hD hS _ (lv_sub hl [0, 1, 3] rfl)
              · have hM := it_nn hc_14 hM
                refine lv_iconst (v := 1) hx hb dX8_market_111 (by decide) ?_
                refine lv_goto (tgt := 121) hx hb dX8_market_112 (by decide) ?_
                exact N121 v3 v2 (1 : Int32) hM _ _ hP hD hS _ (lv_sub hl [0, 1, 3] rfl)
    exact I85 FU v2 v3 hit85 _ _ hP hD hS _ hl
  refine lv_aload_n hx hb dX8_market_0 rfl (lv_at hl 0 rfl) ?_
  refine va_get (D := (dC, dI)) (ci := 8) (v := .int (mO 0 18)) (C := RX8) (T := TX8) (N := 45) hx hb hts iwX8_market_X8 hown hK hP 0 rfl rfl 18 (by decide) (hts _ (List.mem_of_getElem? (i := 1) rfl)) (fun _ h9 => h9) rfl dX8_market_1 ?_
  refine lv_if_ne (tgt := 9) hx hb dX8_market_4 (by decide) (fun hc_18 => ?_) (fun hc_18 => ?_)
  · have hM := it_p hc_18 hM
    refine lv_iload_n hx hb dX8_market_9 rfl (lv_at hl 1 rfl) ?_
    refine lv_bipush (v := 10) hx hb dX8_market_10 (by decide) ?_
    refine lv_bipush (v := 9) hx hb dX8_market_12 (by decide) ?_
    refine lv_aload_n hx hb dX8_market_14 rfl (lv_at hl 0 rfl) ?_
    refine va_get (D := (dC, dI)) (ci := 8) (v := .int (mO 0 18)) (C := RX8) (T := TX8) (N := 45) hx hb hts iwX8_market_X8 hown hK hP 0 rfl rfl 18 (by decide) (hts _ (List.mem_of_getElem? (i := 1) rfl)) (fun _ h9 => h9) rfl dX8_market_15 ?_
    refine lv_iadd hx hb dX8_market_18 ?_
    obtain ⟨x_19, hr_20, hM⟩ := bn_some hM
    refine gv_i (r0 := x_19) (wn := (wO ct aO mO mO64)) (va_runS (As := [.int v1, .int (10 : Int32), .int ((9 : Int32) + (mO 0 18))]) (rest := []) ⟨hx, hb, hml, hown, hts⟩ (kX8_in l dC dI ct _ v1 (10 : Int32) ((9 : Int32) + (mO 0 18)) _ hr_20) (va_cwS 3 hts gX8_market_X8_in rfl rfl rfl hvX8_in.2 ⟨Nat.le_of_ble_eq_true rfl, Nat.le_of_ble_eq_true rfl⟩) (preS_of E0_ok hK hP hD (is := []) rfl rfl e_0) rfl rfl hl.1 rfl (lv_room (Nat.le_of_ble_eq_true rfl)) dX8_market_19 ⟨Nat.le_of_ble_eq_true rfl, Nat.le_of_ble_eq_true rfl⟩) hP hD hS hA [] [0, 1, 2, 3, 4, 5, 6, 7, 8, 9, 10, 11, 12, 13, 14, 15, 16, 17, 18, 19, 20, 21, 22, 23, 24, 25] [0, 1, 2, 3, 4, 5, 6, 7, 8, 9, 10, 11, 12, 13, 14, 15, 16, 17, 18, 19, 20, 21, 22, 23, 24, 25] rfl rfl rfl (by decide) rfl rfl (fun H locs hP hD hS => ?_)
    refine lv_if_eq (tgt := 35) hx hb dX8_market_22 (by decide) (fun hc_22 => ?_) (fun hc_22 => ?_)
    · have hM := it_p hc_22 hM
      refine lv_iload_n hx hb dX8_market_35 rfl (lv_at hl 1 rfl) ?_
      refine lv_bipush (v := 20) hx hb dX8_market_36 (by decide) ?_
      refine lv_bipush (v := 19) hx hb dX8_market_38 (by decide) ?_
      refine lv_aload_n hx hb dX8_market_40 rfl (lv_at hl 0 rfl) ?_
      refine va_get (D := (dC, dI)) (ci := 8) (v := .int (mO 0 18)) (C := RX8) (T := TX8) (N := 45) hx hb hts iwX8_market_X8 hown hK hP 0 rfl rfl 18 (by decide) (hts _ (List.mem_of_getElem? (i := 1) rfl)) (fun _ h9 => h9) rfl dX8_market_41 ?_
      refine lv_iadd hx hb dX8_market_44 ?_
      obtain ⟨x_23, hr_24, hM⟩ := bn_some hM
      refine gv_i (r0 := x_23) (wn := (wO ct aO mO mO64)) (va_runS (As := [.int v1, .int (20 : Int32), .int ((19 : Int32) + (mO 0 18))]) (rest := []) ⟨hx, hb, hml, hown, hts⟩ (kX8_in l dC dI ct _ v1 (20 : Int32) ((19 : Int32) + (mO 0 18)) _ hr_24) (va_cwS 3 hts gX8_market_X8_in rfl rfl rfl hvX8_in.2 ⟨Nat.le_of_ble_eq_true rfl, Nat.le_of_ble_eq_true rfl⟩) (preS_of E0_ok hK hP hD (is := []) rfl rfl e_0) rfl rfl hl.1 rfl (lv_room (Nat.le_of_ble_eq_true rfl)) dX8_market_45 ⟨Nat.le_of_ble_eq_true rfl, Nat.le_of_ble_eq_true rfl⟩) hP hD hS hA [] [0, 1, 2, 3, 4, 5, 6, 7, 8, 9, 10, 11, 12, 13, 14, 15, 16, 17, 18, 19, 20, 21, 22, 23, 24, 25] [0, 1, 2, 3, 4, 5, 6, 7, 8, 9, 10, 11, 12, 13, 14, 15, 16, 17, 18, 19, 20, 21, 22, 23, 24, 25] rfl rfl rfl (by decide) rfl rfl (fun H locs hP hD hS => ?_)
      refine lv_if_eq (tgt := 61) hx hb dX8_market_48 (by decide) (fun hc_26 => ?_) (fun hc_26 => ?_)
      · have hM := it_p hc_26 hM
        refine lv_iload_n hx hb dX8_market_61 rfl (lv_at hl 1 rfl) ?_
        refine lv_iconst (v := 0) hx hb dX8_market_62 (by decide) ?_
        refine lv_iconst (v := 3) hx hb dX8_market_63 (by decide) ?_
        obtain ⟨x_27, hr_28, hM⟩ := bn_some hM
        refine gv_i (r0 := x_27) (wn := (wO ct aO mO mO64)) (va_runS (As := [.int v1, .int (0 : Int32), .int (3 : Int32)]) (rest := []) ⟨hx, hb, hml, hown, hts⟩ (kX8_in l dC dI ct _ v1 (0 : Int32) (3 : Int32) _ hr_28) (va_cwS 3 hts gX8_market_X8_in rfl rfl rfl hvX8_in.2 ⟨Nat.le_of_ble_eq_true rfl, Nat.le_of_ble_eq_true rfl⟩) (preS_of E0_ok hK hP hD (is := []) rfl rfl e_0) rfl rfl hl.1 rfl (lv_room (Nat.le_of_ble_eq_true rfl)) dX8_market_64 ⟨Nat.le_of_ble_eq_true rfl, Nat.le_of_ble_eq_true rfl⟩) hP hD hS hA [] [0, 1, 2, 3, 4, 5, 6, 7, 8, 9, 10, 11, 12, 13, 14, 15, 16, 17, 18, 19, 20, 21, 22, 23, 24, 25] [0, 1, 2, 3, 4, 5, 6, 7, 8, 9, 10, 11, 12, 13, 14, 15, 16, 17, 18, 19, 20, 21, 22, 23, 24, 25] rfl rfl rfl (by decide) rfl rfl (fun H locs hP hD hS => ?_)
        refine lv_if_ne (tgt := 72) hx hb dX8_market_67 (by decide) (fun hc_30 => ?_) (fun hc_30 => ?_)
        · have hM := it_p hc_30 hM
          refine lv_iload_n hx hb dX8_market_72 rfl (lv_at hl 1 rfl) ?_
          refine lv_if_ne (tgt := 81) hx hb dX8_market_73 (by decide) (fun hc_31 => ?_) (fun hc_31 => ?_)
          · have hM := it_p hc_31 hM
            refine lv_iconst (v := 0) hx hb dX8_market_81 (by decide) ?_
            refine lv_istore_n (lv' := [(2, .int (0 : Int32)), (0, .ref (aO 0)), (1, .int v1)]) hx hb dX8_market_82 rfl hl (by decide) rfl (fun ls hl => ?_)
            refine lv_iconst (v := 0) hx hb dX8_market_83 (by decide) ?_
            refine lv_istore_n (lv' := [(3, .int (0 : Int32)), (2, .int (0 : Int32)), (0, .ref (aO 0)), (1, .int v1)]) hx hb dX8_market_84 rfl hl (by decide) rfl (fun ls hl => ?_)
            exact N85 v1 (0 : Int32) (0 : Int32) hM _ _ hP hD hS _ (lv_sub hl [2, 3, 1, 0] rfl)
          · have hM := it_nn hc_31 hM
            refine lv_aload_n hx hb dX8_market_76 rfl (lv_at hl 0 rfl) ?_
            refine va_get (D := (dC, dI)) (ci := 8) (v := .int (mO 0 23)) (C := RX8) (T := TX8) (N := 45) hx hb hts iwX8_market_X8 hown hK hP 0 rfl rfl 23 (by decide) (hts _ (List.mem_of_getElem? (i := 4) rfl)) (fun _ h9 => h9) rfl dX8_market_77 ?_
            refine lv_topi (fun x_32 ex_32 => ?_)
            have hM := nm_at ex_32 hM
            have hR := som hM
            rw [hR] at hQ
            exact ret_i hQ hx hb hr hlocks hP hK hD hS dX8_market_80
        · have hM := it_nn hc_30 hM
          refine lv_iconst (v := -1) hx hb dX8_market_70 (by decide) ?_
          have hR := som hM
          rw [hR] at hQ
          exact ret_i hQ hx hb hr hlocks hP hK hD hS dX8_market_71
      · have hM := it_n hc_26 hM
        refine lv_aload_n hx hb dX8_market_51 rfl (lv_at hl 0 rfl) ?_
        refine va_get (D := (dC, dI)) (ci := 8) (v := .ref (aO 9)) (C := RX8) (T := TX8) (N := 45) hx hb hts iwX8_market_X8 hown hK hP 0 rfl rfl 25 (by decide) (hts _ (List.mem_of_getElem? (i := 3) rfl)) (fun _ h9 => h9) rfl dX8_market_52 ?_
        refine lv_iload_n hx hb dX8_market_55 rfl (lv_at hl 1 rfl) ?_
        refine lv_bipush (v := 20) hx hb dX8_market_56 (by decide) ?_
        refine lv_isub hx hb dX8_market_58 ?_
        obtain ⟨hi, hM⟩ := gi_some hM
        refine va_iald hx hb hK hP 9 0 rfl rfl hi dX8_market_59 ?_
        refine lv_topi (fun x_33 ex_33 => ?_)
        have hM := nm_at ex_33 hM
        have hR := som hM
        rw [hR] at hQ
        exact ret_i hQ hx hb hr hlocks hP hK hD hS dX8_market_60
    · have hM := it_n hc_22 hM
      refine lv_aload_n hx hb dX8_market_25 rfl (lv_at hl 0 rfl) ?_
      refine va_get (D := (dC, dI)) (ci := 8) (v := .ref (aO 8)) (C := RX8) (T := TX8) (N := 45) hx hb hts iwX8_market_X8 hown hK hP 0 rfl rfl 24 (by decide) (hts _ (List.mem_of_getElem? (i := 2) rfl)) (fun _ h9 => h9) rfl dX8_market_26 ?_
      refine lv_iload_n hx hb dX8_market_29 rfl (lv_at hl 1 rfl) ?_
      refine lv_bipush (v := 10) hx hb dX8_market_30 (by decide) ?_
      refine lv_isub hx hb dX8_market_32 ?_
      obtain ⟨hi, hM⟩ := gi_some hM
      refine va_iald hx hb hK hP 8 0 rfl rfl hi dX8_market_33 ?_
      refine lv_topi (fun x_34 ex_34 => ?_)
      have hM := nm_at ex_34 hM
      have hR := som hM
      rw [hR] at hQ
      exact ret_i hQ hx hb hr hlocks hP hK hD hS dX8_market_34
  · have hM := it_nn hc_18 hM
    refine lv_iconst (v := -1) hx hb dX8_market_7 (by decide) ?_
    have hR := som hM
    rw [hR] at hQ
    exact ret_i hQ hx hb hr hlocks hP hK hD hS dX8_market_8
abbrev rmX8_loan : Room := { frames := 1, cells := 0, slots := 0, locals := 22 }
theorem iwX8_loan_X8 : ∀ w ∈ wsX80, w ∈ wsX8_loan := fun _ h => List.mem_cons_of_mem _ (List.mem_append_right _ (h))
set_option maxHeartbeats 4000000 in
set_option maxRecDepth 100000 in
theorem kX8_loan (l : Launch) (dC : Nat → ClassId) (dI : Nat → Nat → Nat) (ct : Nat → ClassId) (aO : Nat → Nat) (sz : Nat) (mO : Mem) (mO64 : Lem) (v1 : Int32) (v2 : Int32) (res : Int32) (hM : mX8_loan mO mO64 v1 v2 = some res) : Met l yX8_loan wsX8_loan rmX8_loan (va_Pc [.ref (aO 0), .int v1, .int v2] (PB (dC, dI) ct E0 sz (wO ct aO mO mO64))) (Qi (dC, dI) ct (va_A (wO ct aO mO mO64) sz) res (wO ct aO mO mO64)) 0 0 (va_A (wO ct aO mO mO64) sz) := by
  refine Met.ofW (cc := cX8_loan) (maxL := 3) (ret := (some .int)) (by decide) rfl ?_
  intro p e s m args below meth c s₁ B hml hv
  obtain ⟨hargs, hsz, hP, hK, hD0, hE⟩ := hv
  have hx := B.exec
  have hb := B.bytes
  have hr := B.returns
  have hts := atoms_spec (ws := wsX8_loan) B.pre
  have hown : s.vm.findClass RX8 = some m.cls := findClass_of_methodNamed B.named
  have hlocks := B.notSynchronized
  clear B s₁
  subst hsz
  have hD := hD0.self (sz := s.heap.size)
  clear hD0
  generalize hAe : va_A (wO ct aO mO mO64) s.heap.size = A at hD hE ⊢
  have hA : ∀ q : Nat, s.heap.size ≤ q → A q := fun q h => by rw [← hAe]; exact Or.inr h
  clear hAe
  have hS : va_S A s.heap s.heap [] := va_S.rf
  refine cutQ (fun Q hQ => ?_)
  refine entryW (vs := [.ref (aO 0), .int v1, .int v2]) hargs (Nat.le_of_ble_eq_true rfl) (fun ls hl => ?_)
  replace hl : lv_has ls 3 [(0, .ref (aO 0)), (1, .int v1), (2, .int v2)] := hl
  unfold mX8_loan at hM
  refine lv_aload_n hx hb dX8_loan_0 rfl (lv_at hl 0 rfl) ?_
  refine va_get (D := (dC, dI)) (ci := 8) (v := .int (mO 0 18)) (C := RX8) (T := TX8) (N := 45) hx hb hts iwX8_loan_X8 hown hK hP 0 rfl rfl 18 (by decide) (hts _ (List.mem_of_getElem? (i := 1) rfl)) (fun _ h9 => h9) rfl dX8_loan_1 ?_
  refine lv_if_le (tgt := 44) hx hb dX8_loan_4 (by decide) (fun hc_1 => ?_) (fun hc_1 => ?_)
  · have hM := it_p hc_1 hM
    refine lv_iconst (v := -1) hx hb dX8_loan_44 (by decide) ?_
    have hR := som hM
    rw [hR] at hQ
    exact ret_i hQ hx hb hr hlocks hP hK hD hS dX8_loan_45
  · have hM := it_n hc_1 hM
    refine lv_iload_n hx hb dX8_loan_7 rfl (lv_at hl 1 rfl) ?_
    refine lv_iconst (v := 0) hx hb dX8_loan_8 (by decide) ?_
    refine lv_bipush (v := 39) hx hb dX8_loan_9 (by decide) ?_
    obtain ⟨x_2, hr_3, hM⟩ := bn_some hM
    refine gv_i (r0 := x_2) (wn := (wO ct aO mO mO64)) (va_runS (As := [.int v1, .int (0 : Int32), .int (39 : Int32)]) (rest := []) ⟨hx, hb, hml, hown, hts⟩ (kX8_in l dC dI ct _ v1 (0 : Int32) (39 : Int32) _ hr_3) (va_cwS 3 hts gX8_loan_X8_in rfl rfl rfl hvX8_in.2 ⟨Nat.le_of_ble_eq_true rfl, Nat.le_of_ble_eq_true rfl⟩) (preS_of E0_ok hK hP hD (is := []) rfl rfl e_0) rfl rfl hl.1 rfl (lv_room (Nat.le_of_ble_eq_true rfl)) dX8_loan_11 ⟨Nat.le_of_ble_eq_true rfl, Nat.le_of_ble_eq_true rfl⟩) hP hD hS hA [] [0, 1, 2, 3, 4, 5, 6, 7, 8, 9, 10, 11, 12, 13, 14, 15, 16, 17, 18, 19, 20, 21, 22, 23, 24, 25] [0, 1, 2, 3, 4, 5, 6, 7, 8, 9, 10, 11, 12, 13, 14, 15, 16, 17, 18, 19, 20, 21, 22, 23, 24, 25] rfl rfl rfl (by decide) rfl rfl (fun H locs hP hD hS => ?_)
    refine lv_if_eq (tgt := 44) hx hb dX8_loan_14 (by decide) (fun hc_5 => ?_) (fun hc_5 => ?_)
    · have hM := it_p hc_5 hM
      refine lv_iconst (v := -1) hx hb dX8_loan_44 (by decide) ?_
      have hR := som hM
      rw [hR] at hQ
      exact ret_i hQ hx hb hr hlocks hP hK hD hS dX8_loan_45
    · have hM := it_n hc_5 hM
      refine lv_iload_n hx hb dX8_loan_17 rfl (lv_at hl 2 rfl) ?_
      refine lv_iconst (v := 0) hx hb dX8_loan_18 (by decide) ?_
      refine lv_iconst (v := 5) hx hb dX8_loan_19 (by decide) ?_
      obtain ⟨x_6, hr_7, hM⟩ := bn_some hM
      refine gv_i (r0 := x_6) (wn := (wO ct aO mO mO64)) (va_runS (As := [.int v2, .int (0 : Int32), .int (5 : Int32)]) (rest := []) ⟨hx, hb, hml, hown, hts⟩ (kX8_in l dC dI ct _ v2 (0 : Int32) (5 : Int32) _ hr_7) (va_cwS 3 hts gX8_loan_X8_in rfl rfl rfl hvX8_in.2 ⟨Nat.le_of_ble_eq_true rfl, Nat.le_of_ble_eq_true rfl⟩) (preS_of E0_ok hK hP hD (is := []) rfl rfl e_0) rfl rfl hl.1 rfl (lv_room (Nat.le_of_ble_eq_true rfl)) dX8_loan_20 ⟨Nat.le_of_ble_eq_true rfl, Nat.le_of_ble_eq_true rfl⟩) hP hD hS hA [] [0, 1, 2, 3, 4, 5, 6, 7, 8, 9, 10, 11, 12, 13, 14, 15, 16, 17, 18, 19, 20, 21, 22, 23, 24, 25] [0, 1, 2, 3, 4, 5, 6, 7, 8, 9, 10, 11, 12, 13, 14, 15, 16, 17, 18, 19, 20, 21, 22, 23, 24, 25] rfl rfl rfl (by decide) rfl rfl (fun H locs hP hD hS => ?_)
      refine lv_if_eq (tgt := 44) hx hb dX8_loan_23 (by decide) (fun hc_9 => ?_) (fun hc_9 => ?_)
      · have hM := it_p hc_9 hM
        refine lv_iconst (v := -1) hx hb dX8_loan_44 (by decide) ?_
        have hR := som hM
        rw [hR] at hQ
        exact ret_i hQ hx hb hr hlocks hP hK hD hS dX8_loan_45
      · have hM := it_n hc_9 hM
        refine lv_aload_n hx hb dX8_loan_26 rfl (lv_at hl 0 rfl) ?_
        refine lv_iload_n hx hb dX8_loan_27 rfl (lv_at hl 1 rfl) ?_
        refine lv_iconst (v := 3) hx hb dX8_loan_28 (by decide) ?_
        obtain ⟨x_10, hr_11, hM⟩ := bn_some hM
        refine gv_i (r0 := x_10) (wn := (wO ct aO mO mO64)) (va_runV (As := [.int v1, .int (3 : Int32)]) (rest := []) ⟨hx, hb, hml, hown, hts⟩ (kX8_loanAt l dC dI ct aO _ mO mO64 v1 (3 : Int32) _ hr_11) (cwV 2 hts gX8_loan_X8_loanAt rfl rfl rfl hvX8_loanAt ⟨Nat.le_of_ble_eq_true rfl, Nat.le_of_ble_eq_true rfl⟩) (preV_of E0_ok hK hP hD (is := [0, 1, 2, 3, 4, 5, 6, 7, 8, 9, 10, 11, 12, 13, 14, 15, 16, 17, 18, 19, 20, 21, 22, 23, 24, 25]) rfl rfl rfl (ci := 8) rfl 0 rfl e_0) rfl rfl hl.1 rfl (lv_room (Nat.le_of_ble_eq_true rfl)) dX8_loan_29 ⟨Nat.le_of_ble_eq_true rfl, Nat.le_of_ble_eq_true rfl⟩) hP hD hS hA [0, 1, 2, 3, 4, 5, 6, 7, 8, 9, 10, 11, 12, 13, 14, 15, 16, 17, 18, 19, 20, 21, 22, 23, 24, 25] [] [0, 1, 2, 3, 4, 5, 6, 7, 8, 9, 10, 11, 12, 13, 14, 15, 16, 17, 18, 19, 20, 21, 22, 23, 24, 25] rfl rfl rfl (by decide) rfl rfl (fun H locs hP hD hS => ?_)
        refine lv_if_le (tgt := 44) hx hb dX8_loan_32 (by decide) (fun hc_13 => ?_) (fun hc_13 => ?_)
        · have hM := it_p hc_13 hM
          refine lv_iconst (v := -1) hx hb dX8_loan_44 (by decide) ?_
          have hR := som hM
          rw [hR] at hQ
          exact ret_i hQ hx hb hr hlocks hP hK hD hS dX8_loan_45
        · have hM := it_n hc_13 hM
          refine lv_aload_n hx hb dX8_loan_35 rfl (lv_at hl 0 rfl) ?_
          refine lv_iload_n hx hb dX8_loan_36 rfl (lv_at hl 1 rfl) ?_
          refine lv_iload_n hx hb dX8_loan_37 rfl (lv_at hl 2 rfl) ?_
          obtain ⟨x_14, hr_15, hM⟩ := bn_some hM
          refine gv_i (r0 := x_14) (wn := (wO ct aO mO mO64)) (va_runV (As := [.int v1, .int v2]) (rest := []) ⟨hx, hb, hml, hown, hts⟩ (kX8_loanAt l dC dI ct aO _ mO mO64 v1 v2 _ hr_15) (cwV 2 hts gX8_loan_X8_loanAt rfl rfl rfl hvX8_loanAt ⟨Nat.le_of_ble_eq_true rfl, Nat.le_of_ble_eq_true rfl⟩) (preV_of E0_ok hK hP hD (is := [0, 1, 2, 3, 4, 5, 6, 7, 8, 9, 10, 11, 12, 13, 14, 15, 16, 17, 18, 19, 20, 21, 22, 23, 24, 25]) rfl rfl rfl (ci := 8) rfl 0 rfl e_0) rfl rfl hl.1 rfl (lv_room (Nat.le_of_ble_eq_true rfl)) dX8_loan_38 ⟨Nat.le_of_ble_eq_true rfl, Nat.le_of_ble_eq_true rfl⟩) hP hD hS hA [0, 1, 2, 3, 4, 5, 6, 7, 8, 9, 10, 11, 12, 13, 14, 15, 16, 17, 18, 19, 20, 21, 22, 23, 24, 25] [] [0, 1, 2, 3, 4, 5, 6, 7, 8, 9, 10, 11, 12, 13, 14, 15, 16, 17, 18, 19, 20, 21, 22, 23, 24, 25] rfl rfl rfl (by decide) rfl rfl (fun H locs hP hD hS => ?_)
          refine lv_goto (tgt := 45) hx hb dX8_loan_41 (by decide) ?_
          have hR := som hM
          rw [hR] at hQ
          exact ret_i hQ hx hb hr hlocks hP hK hD hS dX8_loan_45
