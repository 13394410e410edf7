abbrev rmX1_empty : Room := { frames := 0, cells := 0, slots := 0, locals := 0 }
theorem iwX1_empty_X1 : ∀ w ∈ wsX10, w ∈ wsX1_empty := fun _ h => List.mem_cons_of_mem _ (List.mem_append_right _ (h))
set_option maxHeartbeats 4000000 in
set_option maxRecDepth 100000 in
theorem kX1_empty (l : Launch) (dC : Nat → ClassId) (dI : Nat → Nat → Nat) (ct : Nat → ClassId) (aL : Nat → Nat) (sz : Nat) (mL : Mem) (res : Mem) (hM : mX1_empty mL = some res) : Met l yX1_empty wsX1_empty rmX1_empty (va_Pc [.ref (aL 0)] (PB (dC, dI) ct E0 sz (wL ct aL mL))) (Qv (dC, dI) ct (va_A (wL ct aL mL) sz) (wL ct aL res)) 0 0 (va_A (wL ct aL mL) sz) := by
  refine Met.ofW (cc := cX1_empty) (maxL := 1) (ret := none) (by decide) rfl ?_
  intro p e s m args below meth c s₁ B hml hv
  obtain ⟨hargs, hsz, hP, hK, hD0, hE⟩ := hv
  have hx := B.exec
  have hb := B.bytes
  have hr := B.returns
  have hts := atoms_spec (ws := wsX1_empty) B.pre
  have hown : s.vm.findClass RX1 = some m.cls := findClass_of_methodNamed B.named
  have hlocks := B.notSynchronized
  clear B s₁
  subst hsz
  have hD := hD0.self (sz := s.heap.size)
  clear hD0
  generalize hAe : va_A (wL ct aL mL) s.heap.size = A at hD hE ⊢
  have hA : ∀ q : Nat, s.heap.size ≤ q → A q := fun q h => by rw [← hAe]; exact Or.inr h
  clear hAe
  have hS : va_S A s.heap s.heap [] := va_S.rf
  refine cutQ (fun Q hQ => ?_)
  refine entryW (vs := [.ref (aL 0)]) hargs (Nat.le_of_ble_eq_true rfl) (fun ls hl => ?_)
  replace hl : lv_has ls 1 [(0, .ref (aL 0))] := hl
  unfold mX1_empty at hM
  refine lv_aload_n hx hb dX1_empty_0 rfl (lv_at hl 0 rfl) ?_
  refine lv_iconst (v := 0) hx hb dX1_empty_1 (by decide) ?_
  refine pf_i (wf := fun z => (wL ct aL z)) (m1 := upf mL 0 (0 : Int32)) hx hb hts iwX1_empty_X1 tyX1 tyX1_ok nmX1 hown hK hP hD hS 0 rfl rfl 0 (by decide) (hts _ (List.mem_of_getElem? (i := 1) rfl)) (fun _ h9 => h9) rfl rfl rfl (Nat.le_of_ble_eq_true rfl) dX1_empty_2 rfl (fun mL_1 emL_1 H locs hP hD hS => ?_)
  have hM := nm_at emL_1 hM
  refine lv_aload_n hx hb dX1_empty_5 rfl (lv_at hl 0 rfl) ?_
  refine lv_iconst (v := 0) hx hb dX1_empty_6 (by decide) ?_
  refine pf_i (wf := fun z => (wL ct aL z)) (m1 := upf mL_1 1 (0 : Int32)) hx hb hts iwX1_empty_X1 tyX1 tyX1_ok nmX1 hown hK hP hD hS 0 rfl rfl 1 (by decide) (hts _ (List.mem_of_getElem? (i := 2) rfl)) (fun _ h9 => h9) rfl rfl rfl (Nat.le_of_ble_eq_true rfl) dX1_empty_7 rfl (fun mL_2 emL_2 H locs hP hD hS => ?_)
  have hM := nm_at emL_2 hM
  refine lv_aload_n hx hb dX1_empty_10 rfl (lv_at hl 0 rfl) ?_
  refine lv_bipush (v := 16) hx hb dX1_empty_11 (by decide) ?_
  refine pf_i (wf := fun z => (wL ct aL z)) (m1 := upf mL_2 2 (16 : Int32)) hx hb hts iwX1_empty_X1 tyX1 tyX1_ok nmX1 hown hK hP hD hS 0 rfl rfl 2 (by decide) (hts _ (List.mem_of_getElem? (i := 3) rfl)) (fun _ h9 => h9) rfl rfl rfl (Nat.le_of_ble_eq_true rfl) dX1_empty_13 rfl (fun mL_3 emL_3 H locs hP hD hS => ?_)
  have hM := nm_at emL_3 hM
  refine lv_aload_n hx hb dX1_empty_16 rfl (lv_at hl 0 rfl) ?_
  refine lv_iconst (v := 1) hx hb dX1_empty_17 (by decide) ?_
  refine pf_i (wf := fun z => (wL ct aL z)) (m1 := upf mL_3 3 (1 : Int32)) hx hb hts iwX1_empty_X1 tyX1 tyX1_ok nmX1 hown hK hP hD hS 0 rfl rfl 3 (by decide) (hts _ (List.mem_of_getElem? (i := 4) rfl)) (fun _ h9 => h9) rfl rfl rfl (Nat.le_of_ble_eq_true rfl) dX1_empty_18 rfl (fun mL_4 emL_4 H locs hP hD hS => ?_)
  have hM := nm_at emL_4 hM
  refine lv_aload_n hx hb dX1_empty_21 rfl (lv_at hl 0 rfl) ?_
  refine lv_iconst (v := 0) hx hb dX1_empty_22 (by decide) ?_
  refine pf_i (wf := fun z => (wL ct aL z)) (m1 := upf mL_4 4 (0 : Int32)) hx hb hts iwX1_empty_X1 tyX1 tyX1_ok nmX1 hown hK hP hD hS 0 rfl rfl 4 (by decide) (hts _ (List.mem_of_getElem? (i := 5) rfl)) (fun _ h9 => h9) rfl rfl rfl (Nat.le_of_ble_eq_true rfl) dX1_empty_23 rfl (fun mL_5 emL_5 H locs hP hD hS => ?_)
  have hM := nm_at emL_5 hM
  refine lv_aload_n hx hb dX1_empty_26 rfl (lv_at hl 0 rfl) ?_
  refine lv_iconst (v := 0) hx hb dX1_empty_27 (by decide) ?_
  refine pf_i (wf := fun z => (wL ct aL z)) (m1 := upf mL_5 5 (0 : Int32)) hx hb hts iwX1_empty_X1 tyX1 tyX1_ok nmX1 hown hK hP hD hS 0 rfl rfl 5 (by decide) (hts _ (List.mem_of_getElem? (i := 6) rfl)) (fun _ h9 => h9) rfl rfl rfl (Nat.le_of_ble_eq_true rfl) dX1_empty_28 rfl (fun mL_6 emL_6 H locs hP hD hS => ?_)
  have hM := nm_at emL_6 hM
  refine lv_aload_n hx hb dX1_empty_31 rfl (lv_at hl 0 rfl) ?_
  refine lv_iconst (v := 0) hx hb dX1_empty_32 (by decide) ?_
  refine pf_i (wf := fun z => (wL ct aL z)) (m1 := upf mL_6 12 (0 : Int32)) hx hb hts iwX1_empty_X1 tyX1 tyX1_ok nmX1 hown hK hP hD hS 0 rfl rfl 12 (by decide) (hts _ (List.mem_of_getElem? (i := 7) rfl)) (fun _ h9 => h9) rfl rfl rfl (Nat.le_of_ble_eq_true rfl) dX1_empty_33 rfl (fun mL_7 emL_7 H locs hP hD hS => ?_)
  have hM := nm_at emL_7 hM
  refine lv_aload_n hx hb dX1_empty_36 rfl (lv_at hl 0 rfl) ?_
  refine lv_iconst (v := 0) hx hb dX1_empty_37 (by decide) ?_
  refine pf_i (wf := fun z => (wL ct aL z)) (m1 := upf mL_7 13 (0 : Int32)) hx hb hts iwX1_empty_X1 tyX1 tyX1_ok nmX1 hown hK hP hD hS 0 rfl rfl 13 (by decide) (hts _ (List.mem_of_getElem? (i := 8) rfl)) (fun _ h9 => h9) rfl rfl rfl (Nat.le_of_ble_eq_true rfl) dX1_empty_38 rfl (fun mL_8 emL_8 H locs hP hD hS => ?_)
  have hM := nm_at emL_8 hM
  have hR := som hM
  rw [hR] at hQ
  exact ret_v hQ hx hb hr hlocks hP hK hD hS dX1_empty_41
abbrev rmX1_addTurn : Room := { frames := 0, cells := 0, slots := 0, locals := 0 }
theorem iwX1_addTurn_X1 : ∀ w ∈ wsX10, w ∈ wsX1_addTurn := fun _ h => List.mem_cons_of_mem _ (List.mem_append_right _ (h))
set_option maxHeartbeats 4000000 in
set_option maxRecDepth 100000 in
theorem kX1_addTurn (l : Launch) (dC : Nat → ClassId) (dI : Nat → Nat → Nat) (ct : Nat → ClassId) (aL : Nat → Nat) (sz : Nat) (mL : Mem) (v1 : Int32) (v2 : Int32) (v3 : Int32) (res : Mem) (hM : mX1_addTurn mL v1 v2 v3 = some res) : Met l yX1_addTurn wsX1_addTurn rmX1_addTurn (va_Pc [.ref (aL 0), .int v1, .int v2, .int v3] (PB (dC, dI) ct E0 sz (wL ct aL mL))) (Qv (dC, dI) ct (va_A (wL ct aL mL) sz) (wL ct aL res)) 0 0 (va_A (wL ct aL mL) sz) := by
  refine Met.ofW (cc := cX1_addTurn) (maxL := 4) (ret := none) (by decide) rfl ?_
  intro p e s m args below meth c s₁ B hml hv
  obtain ⟨hargs, hsz, hP, hK, hD0, hE⟩ := hv
  have hx := B.exec
  have hb := B.bytes
  have hr := B.returns
  have hts := atoms_spec (ws := wsX1_addTurn) B.pre
  have hown : s.vm.findClass RX1 = some m.cls := findClass_of_methodNamed B.named
  have hlocks := B.notSynchronized
  clear B s₁
  subst hsz
  have hD := hD0.self (sz := s.heap.size)
  clear hD0
  generalize hAe : va_A (wL ct aL mL) s.heap.size = A at hD hE ⊢
  have hA : ∀ q : Nat, s.heap.size ≤ q → A q := fun q h => by rw [← hAe]; exact Or.inr h
  clear hAe
  have hS : va_S A s.heap s.heap [] := va_S.rf
  refine cutQ (fun Q hQ => ?_)
  refine entryW (vs := [.ref (aL 0), .int v1, .int v2, .int v3]) hargs (Nat.le_of_ble_eq_true rfl) (fun ls hl => ?_)
  replace hl : lv_has ls 4 [(0, .ref (aL 0)), (1, .int v1), (2, .int v2), (3, .int v3)] := hl
  unfold mX1_addTurn at hM
  refine lv_aload_n hx hb dX1_addTurn_0 rfl (lv_at hl 0 rfl) ?_
  refine va_get (D := (dC, dI)) (ci := 1) (v := .int (mL 0 13)) (C := RX1) (T := TX1) (N := 17) hx hb hts iwX1_addTurn_X1 hown hK hP 0 rfl rfl 13 (by decide) (hts _ (List.mem_of_getElem? (i := 1) rfl)) (fun _ h9 => h9) rfl dX1_addTurn_1 ?_
  refine lv_bipush (v := 12) hx hb dX1_addTurn_4 (by decide) ?_
  refine lv_icmp_ge (tgt := 49) hx hb dX1_addTurn_6 (by decide) (fun hc_1 => ?_) (fun hc_1 => ?_)
  · have hM := it_p hc_1 hM
    have hR := som hM
    rw [hR] at hQ
    exact ret_v hQ hx hb hr hlocks hP hK hD hS dX1_addTurn_49
  · have hM := it_n hc_1 hM
    refine lv_aload_n hx hb dX1_addTurn_9 rfl (lv_at hl 0 rfl) ?_
    refine va_get (D := (dC, dI)) (ci := 1) (v := .ref (aL 7)) (C := RX1) (T := TX1) (N := 17) hx hb hts iwX1_addTurn_X1 hown hK hP 0 rfl rfl 14 (by decide) (hts _ (List.mem_of_getElem? (i := 2) rfl)) (fun _ h9 => h9) rfl dX1_addTurn_10 ?_
    refine lv_aload_n hx hb dX1_addTurn_13 rfl (lv_at hl 0 rfl) ?_
    refine va_get (D := (dC, dI)) (ci := 1) (v := .int (mL 0 13)) (C := RX1) (T := TX1) (N := 17) hx hb hts iwX1_addTurn_X1 hown hK hP 0 rfl rfl 13 (by decide) (hts _ (List.mem_of_getElem? (i := 1) rfl)) (fun _ h9 => h9) rfl dX1_addTurn_14 ?_
    refine lv_iload_n hx hb dX1_addTurn_17 rfl (lv_at hl 1 rfl) ?_
    obtain ⟨hi, hM⟩ := gi_some hM
    refine st_i (wf := fun z => (wL ct aL z)) (m1 := upi mL 7 (mL 0 13).toNatClampNeg v1) hx hb hK hP hD hS 7 rfl hi dX1_addTurn_18 rfl (fun mL_2 emL_2 H locs hP hD hS => ?_)
    have hM := nm_at emL_2 hM
    refine lv_aload_n hx hb dX1_addTurn_19 rfl (lv_at hl 0 rfl) ?_
    refine va_get (D := (dC, dI)) (ci := 1) (v := .ref (aL 8)) (C := RX1) (T := TX1) (N := 17) hx hb hts iwX1_addTurn_X1 hown hK hP 0 rfl rfl 15 (by decide) (hts _ (List.mem_of_getElem? (i := 3) rfl)) (fun _ h9 => h9) rfl dX1_addTurn_20 ?_
    refine lv_aload_n hx hb dX1_addTurn_23 rfl (lv_at hl 0 rfl) ?_
    refine va_get (D := (dC, dI)) (ci := 1) (v := .int (mL_2 0 13)) (C := RX1) (T := TX1) (N := 17) hx hb hts iwX1_addTurn_X1 hown hK hP 0 rfl rfl 13 (by decide) (hts _ (List.mem_of_getElem? (i := 1) rfl)) (fun _ h9 => h9) rfl dX1_addTurn_24 ?_
    refine lv_iload_n hx hb dX1_addTurn_27 rfl (lv_at hl 2 rfl) ?_
    obtain ⟨hi, hM⟩ := gi_some hM
    refine st_i (wf := fun z => (wL ct aL z)) (m1 := upi mL_2 8 (mL_2 0 13).toNatClampNeg v2) hx hb hK hP hD hS 8 rfl hi dX1_addTurn_28 rfl (fun mL_3 emL_3 H locs hP hD hS => ?_)
    have hM := nm_at emL_3 hM
    refine lv_aload_n hx hb dX1_addTurn_29 rfl (lv_at hl 0 rfl) ?_
    refine va_get (D := (dC, dI)) (ci := 1) (v := .ref (aL 9)) (C := RX1) (T := TX1) (N := 17) hx hb hts iwX1_addTurn_X1 hown hK hP 0 rfl rfl 16 (by decide) (hts _ (List.mem_of_getElem? (i := 4) rfl)) (fun _ h9 => h9) rfl dX1_addTurn_30 ?_
    refine lv_aload_n hx hb dX1_addTurn_33 rfl (lv_at hl 0 rfl) ?_
    refine va_get (D := (dC, dI)) (ci := 1) (v := .int (mL_3 0 13)) (C := RX1) (T := TX1) (N := 17) hx hb hts iwX1_addTurn_X1 hown hK hP 0 rfl rfl 13 (by decide) (hts _ (List.mem_of_getElem? (i := 1) rfl)) (fun _ h9 => h9) rfl dX1_addTurn_34 ?_
    refine lv_iload_n hx hb dX1_addTurn_37 rfl (lv_at hl 3 rfl) ?_
    obtain ⟨hi, hM⟩ := gi_some hM
    refine st_i (wf := fun z => (wL ct aL z)) (m1 := upi mL_3 9 (mL_3 0 13).toNatClampNeg v3) hx hb hK hP hD hS 9 rfl hi dX1_addTurn_38 rfl (fun mL_4 emL_4 H locs hP hD hS => ?_)
    have hM := nm_at emL_4 hM
    refine lv_aload_n hx hb dX1_addTurn_39 rfl (lv_at hl 0 rfl) ?_
    refine lv_dup hx hb dX1_addTurn_40 rfl ?_
    refine va_get (D := (dC, dI)) (ci := 1) (v := .int (mL_4 0 13)) (C := RX1) (T := TX1) (N := 17) hx hb hts iwX1_addTurn_X1 hown hK hP 0 rfl rfl 13 (by decide) (hts _ (List.mem_of_getElem? (i := 1) rfl)) (fun _ h9 => h9) rfl dX1_addTurn_41 ?_
    refine lv_iconst (v := 1) hx hb dX1_addTurn_44 (by decide) ?_
    refine lv_iadd hx hb dX1_addTurn_45 ?_
    refine pf_i (wf := fun z => (wL ct aL z)) (m1 := upf mL_4 13 ((mL_4 0 13) + (1 : Int32))) hx hb hts iwX1_addTurn_X1 tyX1 tyX1_ok nmX1 hown hK hP hD hS 0 rfl rfl 13 (by decide) (hts _ (List.mem_of_getElem? (i := 1) rfl)) (fun _ h9 => h9) rfl rfl rfl (Nat.le_of_ble_eq_true rfl) dX1_addTurn_46 rfl (fun mL_5 emL_5 H locs hP hD hS => ?_)
    have hM := nm_at emL_5 hM
    have hR := som hM
    rw [hR] at hQ
    exact ret_v hQ hx hb hr hlocks hP hK hD hS dX1_addTurn_49
abbrev rmX1_hasSort : Room := { frames := 0, cells := 0, slots := 0, locals := 0 }
theorem iwX1_hasSort_X1 : ∀ w ∈ wsX10, w ∈ wsX1_hasSort := fun _ h => List.mem_cons_of_mem _ (List.mem_append_right _ (h))
set_option maxHeartbeats 4000000 in
set_option maxRecDepth 100000 in
theorem kX1_hasSort (l : Launch) (dC : Nat → ClassId) (dI : Nat → Nat → Nat) (ct : Nat → ClassId) (aL : Nat → Nat) (sz : Nat) (mL : Mem) (v1 : Int32) (res : Int32) (hM : mX1_hasSort mL v1 = some res) : Met l yX1_hasSort wsX1_hasSort rmX1_hasSort (va_Pc [.ref (aL 0), .int v1] (PB (dC, dI) ct E0 sz (wL ct aL mL))) (Qi (dC, dI) ct (va_A (wL ct aL mL) sz) res (wL ct aL mL)) 0 0 (va_A (wL ct aL mL) sz) := by
  refine Met.ofW (cc := cX1_hasSort) (maxL := 2) (ret := (some .boolean)) (by decide) rfl ?_
  intro p e s m args below meth c s₁ B hml hv
  obtain ⟨hargs, hsz, hP, hK, hD0, hE⟩ := hv
  have hx := B.exec
  have hb := B.bytes
  have hr := B.returns
  have hts := atoms_spec (ws := wsX1_hasSort) B.pre
  have hown : s.vm.findClass RX1 = some m.cls := findClass_of_methodNamed B.named
  have hlocks := B.notSynchronized
  clear B s₁
  subst hsz
  have hD := hD0.self (sz := s.heap.size)
  clear hD0
  generalize hAe : va_A (wL ct aL mL) s.heap.size = A at hD hE ⊢
  have hA : ∀ q : Nat, s.heap.size ≤ q → A q := fun q h => by rw [← hAe]; exact Or.inr h
  clear hAe
  have hS : va_S A s.heap s.heap [] := va_S.rf
  refine cutQ (fun Q hQ => ?_)
  refine entryW (vs := [.ref (aL 0), .int v1]) hargs (Nat.le_of_ble_eq_true rfl) (fun ls hl => ?_)
  replace hl : lv_has ls 2 [(0, .ref (aL 0)), (1, .int v1)] := hl
  unfold mX1_hasSort at hM
  refine lv_iload_n hx hb dX1_hasSort_0 rfl (lv_at hl 1 rfl) ?_
  refine lv_if_lt (tgt := 16) hx hb dX1_hasSort_1 (by decide) (fun hc_1 => ?_) (fun hc_1 => ?_)
  · have hM := it_p hc_1 hM
    refine lv_iconst (v := 0) hx hb dX1_hasSort_16 (by decide) ?_
    have hR := som hM
    rw [hR] at hQ
    exact ret_z hQ hx hb hr hlocks rfl hP hK hD hS dX1_hasSort_17
  · have hM := it_n hc_1 hM
    refine lv_iload_n hx hb dX1_hasSort_4 rfl (lv_at hl 1 rfl) ?_
    refine lv_aload_n hx hb dX1_hasSort_5 rfl (lv_at hl 0 rfl) ?_
    refine va_get (D := (dC, dI)) (ci := 1) (v := .int (mL 0 5)) (C := RX1) (T := TX1) (N := 17) hx hb hts iwX1_hasSort_X1 hown hK hP 0 rfl rfl 5 (by decide) (hts _ (List.mem_of_getElem? (i := 1) rfl)) (fun _ h9 => h9) rfl dX1_hasSort_6 ?_
    refine lv_icmp_ge (tgt := 16) hx hb dX1_hasSort_9 (by decide) (fun hc_2 => ?_) (fun hc_2 => ?_)
    · have hM := it_p hc_2 hM
      refine lv_iconst (v := 0) hx hb dX1_hasSort_16 (by decide) ?_
      have hR := som hM
      rw [hR] at hQ
      exact ret_z hQ hx hb hr hlocks rfl hP hK hD hS dX1_hasSort_17
    · have hM := it_n hc_2 hM
      refine lv_iconst (v := 1) hx hb dX1_hasSort_12 (by decide) ?_
      refine lv_goto (tgt := 17) hx hb dX1_hasSort_13 (by decide) ?_
      have hR := som hM
      rw [hR] at hQ
      exact ret_z hQ hx hb hr hlocks rfl hP hK hD hS dX1_hasSort_17
abbrev rmX1_hasTurn : Room := { frames := 0, cells := 0, slots := 0, locals := 0 }
theorem iwX1_hasTurn_X1 : ∀ w ∈ wsX10, w ∈ wsX1_hasTurn := fun _ h => List.mem_cons_of_mem _ (List.mem_append_right _ (h))
set_option maxHeartbeats 4000000 in
set_option maxRecDepth 100000 in
theorem kX1_hasTurn (l : Launch) (dC : Nat → ClassId) (dI : Nat → Nat → Nat) (ct : Nat → ClassId) (aL : Nat → Nat) (sz : Nat) (mL : Mem) (v1 : Int32) (v2 : Int32) (res : Int32) (hM : mX1_hasTurn mL v1 v2 = some res) : Met l yX1_hasTurn wsX1_hasTurn rmX1_hasTurn (va_Pc [.ref (aL 0), .int v1, .int v2] (PB (dC, dI) ct E0 sz (wL ct aL mL))) (Qi (dC, dI) ct (va_A (wL ct aL mL) sz) res (wL ct aL mL)) 0 0 (va_A (wL ct aL mL) sz) := by
  refine Met.ofW (cc := cX1_hasTurn) (maxL := 4) (ret := (some .boolean)) (by decide) rfl ?_
  intro p e s m args below meth c s₁ B hml hv
  obtain ⟨hargs, hsz, hP, hK, hD0, hE⟩ := hv
  have hx := B.exec
  have hb := B.bytes
  have hr := B.returns
  have hts := atoms_spec (ws := wsX1_hasTurn) B.pre
  have hown : s.vm.findClass RX1 = some m.cls := findClass_of_methodNamed B.named
  have hlocks := B.notSynchronized
  clear B s₁
  subst hsz
  have hD := hD0.self (sz := s.heap.size)
  clear hD0
  generalize hAe : va_A (wL ct aL mL) s.heap.size = A at hD hE ⊢
  have hA : ∀ q : Nat, s.heap.size ≤ q → A q := fun q h => by rw [← hAe]; exact Or.inr h
  clear hAe
  have hS : va_S A s.heap s.heap [] := va_S.rf
  refine cutQ (fun Q hQ => ?_)
  refine entryW (vs := [.ref (aL 0), .int v1, .int v2]) hargs (Nat.le_of_ble_eq_true rfl) (fun ls hl => ?_)
  replace hl : lv_has ls 4 [(0, .ref (aL 0)), (1, .int v1), (2, .int v2)] := hl
  unfold mX1_hasTurn at hM
  have N2 : ∀ (v1 : Int32) (v2 : Int32) (v3 : Int32), mX1_hasTurn_L2 v1 v2 v3 mL = some res → ∀ (H : Heap) (locs : List Loc), va_P (dC, dI) vwCl (wL ct aL mL) H → va_D A (wL ct aL mL) → va_S A s.heap H locs → ∀ ls : Array Slot, lv_has ls 4 [(0, .ref (aL 0)), (1, .int v1), (2, .int v2), (3, .int v3)] → W p l e (headSpec wsX1_hasTurn rmX1_hasTurn).room s m args below meth c H locs 0 0 Q (F0 m 2 ls []) := by
    intro v1 v2 v3 hM H locs hP hD hS ls hl
    unfold mX1_hasTurn_L2 at hM
    obtain ⟨ex2, hit2, hM⟩ := bn_some hM
    have X2_0 : ex2 = (Sum.inl ()) → ∀ (H : Heap) (locs : List Loc), va_P (dC, dI) vwCl (wL ct aL mL) H → va_D A (wL ct aL mL) → va_S A s.heap H locs → ∀ ls : Array Slot, lv_has ls 4 [] → W p l e (headSpec wsX1_hasTurn rmX1_hasTurn).room s m args below meth c H locs 0 0 Q (F0 m 30 ls []) := by
      intro hex H locs hP hD hS ls hl
      have hM := el_l hex hM
      refine lv_iconst (v := 1) hx hb dX1_hasTurn_30 (by decide) ?_
      have hR := som hM
      rw [hR] at hQ
      exact ret_z hQ hx hb hr hlocks rfl hP hK hD hS dX1_hasTurn_31
    have X2_1 : ex2 = (Sum.inr ()) → ∀ (H : Heap) (locs : List Loc), va_P (dC, dI) vwCl (wL ct aL mL) H → va_D A (wL ct aL mL) → va_S A s.heap H locs → ∀ ls : Array Slot, lv_has ls 4 [] → W p l e (headSpec wsX1_hasTurn rmX1_hasTurn).room s m args below meth c H locs 0 0 Q (F0 m 38 ls []) := by
      intro hex H locs hP hD hS ls hl
      have hM := el_r hex hM
      refine lv_iconst (v := 0) hx hb dX1_hasTurn_38 (by decide) ?_
      have hR := som hM
      rw [hR] at hQ
      exact ret_z hQ hx hb hr hlocks rfl hP hK hD hS dX1_hasTurn_39
    have I2 : ∀ (n : Nat) (v3 : Int32), itr (fun q => mX1_hasTurn_s2 v1 v2 mL q) n v3 = some ex2 → ∀ (H : Heap) (locs : List Loc), va_P (dC, dI) vwCl (wL ct aL mL) H → va_D A (wL ct aL mL) → va_S A s.heap H locs → ∀ ls : Array Slot, lv_has ls 4 [(0, .ref (aL 0)), (1, .int v1), (2, .int v2), (3, .int v3)] → W p l e (headSpec wsX1_hasTurn rmX1_hasTurn).room s m args below meth c H locs 0 0 Q (F0 m 2 ls []) := by
      intro n
      induction n with
      | zero => intro v3 hit; exact (itr_zero hit).elim
      | succ n ih2 =>
        intro v3 hit H locs hP hD hS ls hl
        obtain ⟨o2, hM, hbk2, hex2⟩ := itr_succ hit
        replace hM : mX1_hasTurn_s2 v1 v2 mL v3 = some o2 := hM
        unfold mX1_hasTurn_s2 at hM
        refine lv_iload_n hx hb dX1_hasTurn_2 rfl (lv_at hl 3 rfl) ?_
        refine lv_aload_n hx hb dX1_hasTurn_3 rfl (lv_at hl 0 rfl) ?_
        refine va_get (D := (dC, dI)) (ci := 1) (v := .int (mL 0 13)) (C := RX1) (T := TX1) (N := 17) hx hb hts iwX1_hasTurn_X1 hown hK hP 0 rfl rfl 13 (by decide) (hts _ (List.mem_of_getElem? (i := 1) rfl)) (fun _ h9 => h9) rfl dX1_hasTurn_4 ?_
        refine lv_icmp_ge (tgt := 38) hx hb dX1_hasTurn_7 (by decide) (fun hc_1 => ?_) (fun hc_1 => ?_)
        · have hM := it_p hc_1 hM
          have hR := som hM
          exact X2_1 (hex2 _ hR).symm _ _ hP hD hS _ (lv_sub hl [] rfl)
        · have hM := it_n hc_1 hM
          refine lv_aload_n hx hb dX1_hasTurn_10 rfl (lv_at hl 0 rfl) ?_
          refine va_get (D := (dC, dI)) (ci := 1) (v := .ref (aL 7)) (C := RX1) (T := TX1) (N := 17) hx hb hts iwX1_hasTurn_X1 hown hK hP 0 rfl rfl 14 (by decide) (hts _ (List.mem_of_getElem? (i := 2) rfl)) (fun _ h9 => h9) rfl dX1_hasTurn_11 ?_
          refine lv_iload_n hx hb dX1_hasTurn_14 rfl (lv_at hl 3 rfl) ?_
          obtain ⟨hi, hM⟩ := gi_some hM
          refine va_iald hx hb hK hP 7 0 rfl rfl hi dX1_hasTurn_15 ?_
          refine lv_iload_n hx hb dX1_hasTurn_16 rfl (lv_at hl 1 rfl) ?_
          refine lv_icmp_ne (tgt := 32) hx hb dX1_hasTurn_17 (by decide) (fun hc_2 => ?_) (fun hc_2 => ?_)
          · have hM := it_p hc_2 hM
            obtain ⟨x_3, ex_3⟩ : ∃ y : Int32, y = (v3 + (1 : Int32)) := ⟨_, rfl⟩
            have hM := nm_at ex_3 hM
            refine lv_iinc (v := x_3) (lv' := [(3, .int x_3), (0, .ref (aL 0)), (1, .int v1), (2, .int v2)]) hx hb dX1_hasTurn_32 hl (k := 3) rfl (by rw [ex_3]; rfl) (by decide) rfl (fun ls hl => ?_)
            refine lv_goto (tgt := 2) hx hb dX1_hasTurn_35 (by decide) ?_
            have hR := som hM
            exact ih2 x_3 (hbk2 _ hR) _ _ hP hD hS _ (lv_sub hl [1, 2, 3, 0] rfl)
          · have hM := it_nn hc_2 hM
            refine lv_aload_n hx hb dX1_hasTurn_20 rfl (lv_at hl 0 rfl) ?_
            refine va_get (D := (dC, dI)) (ci := 1) (v := .ref (aL 8)) (C := RX1) (T := TX1) (N := 17) hx hb hts iwX1_hasTurn_X1 hown hK hP 0 rfl rfl 15 (by decide) (hts _ (List.mem_of_getElem? (i := 3) rfl)) (fun _ h9 => h9) rfl dX1_hasTurn_21 ?_
            refine lv_iload_n hx hb dX1_hasTurn_24 rfl (lv_at hl 3 rfl) ?_
            obtain ⟨hi, hM⟩ := gi_some hM
            refine va_iald hx hb hK hP 8 0 rfl rfl hi dX1_hasTurn_25 ?_
            refine lv_iload_n hx hb dX1_hasTurn_26 rfl (lv_at hl 2 rfl) ?_
            refine lv_icmp_ne (tgt := 32) hx hb dX1_hasTurn_27 (by decide) (fun hc_4 => ?_) (fun hc_4 => ?_)
            · have hM := it_p hc_4 hM
              obtain ⟨x_5, ex_5⟩ : ∃ y : Int32, y = (v3 + (1 : Int32)) := ⟨_, rfl⟩
              have hM := nm_at ex_5 hM
              refine lv_iinc (v := x_5) (lv' := [(3, .int x_5), (0, .ref (aL 0)), (1, .int v1), (2, .int v2)]) hx hb dX1_hasTurn_32 hl (k := 3) rfl (by rw [ex_5]; rfl) (by decide) rfl (fun ls hl => ?_)
              refine lv_goto (tgt := 2) hx hb dX1_hasTurn_35 (by decide) ?_
              have hR := som hM
              exact ih2 x_5 (hbk2 _ hR) _ _ hP hD hS _ (lv_sub hl [1, 2, 3, 0] rfl)
            · have hM := it_nn hc_4 hM
              have hR := som hM
              exact X2_0 (hex2 _ hR).symm _ _ hP hD hS _ (lv_sub hl [] rfl)
    exact I2 FU v3 hit2 _ _ hP hD hS _ hl
  refine lv_iconst (v := 0) hx hb dX1_hasTurn_0 (by decide) ?_
  refine lv_istore_n (lv' := [(3, .int (0 : Int32)), (0, .ref (aL 0)), (1, .int v1), (2, .int v2)]) hx hb dX1_hasTurn_1 rfl hl (by decide) rfl (fun ls hl => ?_)
  exact N2 v1 v2 (0 : Int32) hM _ _ hP hD hS _ (lv_sub hl [1, 2, 3, 0] rfl)
abbrev rmX1_isSpared : Room := { frames := 0, cells := 0, slots := 0, locals := 0 }
theorem iwX1_isSpared_X1 : ∀ w ∈ wsX10, w ∈ wsX1_isSpared := fun _ h => List.mem_cons_of_mem _ (List.mem_append_right _ (h))
set_option maxHeartbeats 4000000 in
set_option maxRecDepth 100000 in
theorem kX1_isSpared (l : Launch) (dC : Nat → ClassId) (dI : Nat → Nat → Nat) (ct : Nat → ClassId) (aL : Nat → Nat) (sz : Nat) (mL : Mem) (v1 : Int32) (res : Int32) (hM : mX1_isSpared mL v1 = some res) : Met l yX1_isSpared wsX1_isSpared rmX1_isSpared (va_Pc [.ref (aL 0), .int v1] (PB (dC, dI) ct E0 sz (wL ct aL mL))) (Qi (dC, dI) ct (va_A (wL ct aL mL) sz) res (wL ct aL mL)) 0 0 (va_A (wL ct aL mL) sz) := by
  refine Met.ofW (cc := cX1_isSpared) (maxL := 2) (ret := (some .boolean)) (by decide) rfl ?_
  intro p e s m args below meth c s₁ B hml hv
  obtain ⟨hargs, hsz, hP, hK, hD0, hE⟩ := hv
  have hx := B.exec
  have hb := B.bytes
  have hr := B.returns
  have hts := atoms_spec (ws := wsX1_isSpared) B.pre
  have hown : s.vm.findClass RX1 = some m.cls := findClass_of_methodNamed B.named
  have hlocks := B.notSynchronized
  clear B s₁
  subst hsz
  have hD := hD0.self (sz := s.heap.size)
  clear hD0
  generalize hAe : va_A (wL ct aL mL) s.heap.size = A at hD hE ⊢
  have hA : ∀ q : Nat, s.heap.size ≤ q → A q := fun q h => by rw [← hAe]; exact Or.inr h
  clear hAe
  have hS : va_S A s.heap s.heap [] := va_S.rf
  refine cutQ (fun Q hQ => ?_)
  refine entryW (vs := [.ref (aL 0), .int v1]) hargs (Nat.le_of_ble_eq_true rfl) (fun ls hl => ?_)
  replace hl : lv_has ls 2 [(0, .ref (aL 0)), (1, .int v1)] := hl
  unfold mX1_isSpared at hM
  refine lv_aload_n hx hb dX1_isSpared_0 rfl (lv_at hl 0 rfl) ?_
  refine va_get (D := (dC, dI)) (ci := 1) (v := .int (mL 0 12)) (C := RX1) (T := TX1) (N := 17) hx hb hts iwX1_isSpared_X1 hown hK hP 0 rfl rfl 12 (by decide) (hts _ (List.mem_of_getElem? (i := 1) rfl)) (fun _ h9 => h9) rfl dX1_isSpared_1 ?_
  refine lv_iload_n hx hb dX1_isSpared_4 rfl (lv_at hl 1 rfl) ?_
  refine lv_ishr hx hb dX1_isSpared_5 ?_
  refine lv_iconst (v := 1) hx hb dX1_isSpared_6 (by decide) ?_
  refine lv_iand hx hb dX1_isSpared_7 ?_
  refine lv_iconst (v := 1) hx hb dX1_isSpared_8 (by decide) ?_
  refine lv_icmp_ne (tgt := 16) hx hb dX1_isSpared_9 (by decide) (fun hc_1 => ?_) (fun hc_1 => ?_)
  · have hM := it_p hc_1 hM
    refine lv_iconst (v := 0) hx hb dX1_isSpared_16 (by decide) ?_
    have hR := som hM
    rw [hR] at hQ
    exact ret_z hQ hx hb hr hlocks rfl hP hK hD hS dX1_isSpared_17
  · have hM := it_nn hc_1 hM
    refine lv_iconst (v := 1) hx hb dX1_isSpared_12 (by decide) ?_
    refine lv_goto (tgt := 17) hx hb dX1_isSpared_13 (by decide) ?_
    have hR := som hM
    rw [hR] at hQ
    exact ret_z hQ hx hb hr hlocks rfl hP hK hD hS dX1_isSpared_17
abbrev rmX1_isStruckAt : Room := { frames := 0, cells := 0, slots := 0, locals := 0 }
theorem iwX1_isStruckAt_X1 : ∀ w ∈ wsX10, w ∈ wsX1_isStruckAt := fun _ h => List.mem_cons_of_mem _ (List.mem_append_right _ (h))
set_option maxHeartbeats 4000000 in
set_option maxRecDepth 100000 in
theorem kX1_isStruckAt (l : Launch) (dC : Nat → ClassId) (dI : Nat → Nat → Nat) (ct : Nat → ClassId) (aL : Nat → Nat) (sz : Nat) (mL : Mem) (v1 : Int32) (res : Int32) (hM : mX1_isStruckAt mL v1 = some res) : Met l yX1_isStruckAt wsX1_isStruckAt rmX1_isStruckAt (va_Pc [.ref (aL 0), .int v1] (PB (dC, dI) ct E0 sz (wL ct aL mL))) (Qi (dC, dI) ct (va_A (wL ct aL mL) sz) res (wL ct aL mL)) 0 0 (va_A (wL ct aL mL) sz) := by
  refine Met.ofW (cc := cX1_isStruckAt) (maxL := 3) (ret := (some .boolean)) (by decide) rfl ?_
  intro p e s m args below meth c s₁ B hml hv
  obtain ⟨hargs, hsz, hP, hK, hD0, hE⟩ := hv
  have hx := B.exec
  have hb := B.bytes
  have hr := B.returns
  have hts := atoms_spec (ws := wsX1_isStruckAt) B.pre
  have hown : s.vm.findClass RX1 = some m.cls := findClass_of_methodNamed B.named
  have hlocks := B.notSynchronized
  clear B s₁
  subst hsz
  have hD := hD0.self (sz := s.heap.size)
  clear hD0
  generalize hAe : va_A (wL ct aL mL) s.heap.size = A at hD hE ⊢
  have hA : ∀ q : Nat, s.heap.size ≤ q → A q := fun q h => by rw [← hAe]; exact Or.inr h
  clear hAe
  have hS : va_S A s.heap s.heap [] := va_S.rf
  refine cutQ (fun Q hQ => ?_)
  refine entryW (vs := [.ref (aL 0), .int v1]) hargs (Nat.le_of_ble_eq_true rfl) (fun ls hl => ?_)
  replace hl : lv_has ls 3 [(0, .ref (aL 0)), (1, .int v1)] := hl
  unfold mX1_isStruckAt at hM
  refine lv_aload_n hx hb dX1_isStruckAt_0 rfl (lv_at hl 0 rfl) ?_
  refine va_get (D := (dC, dI)) (ci := 1) (v := .int (mL 0 0)) (C := RX1) (T := TX1) (N := 17) hx hb hts iwX1_isStruckAt_X1 hown hK hP 0 rfl rfl 0 (by decide) (hts _ (List.mem_of_getElem? (i := 1) rfl)) (fun _ h9 => h9) rfl dX1_isStruckAt_1 ?_
  refine lv_aload_n hx hb dX1_isStruckAt_4 rfl (lv_at hl 0 rfl) ?_
  refine va_get (D := (dC, dI)) (ci := 1) (v := .int (mL 0 3)) (C := RX1) (T := TX1) (N := 17) hx hb hts iwX1_isStruckAt_X1 hown hK hP 0 rfl rfl 3 (by decide) (hts _ (List.mem_of_getElem? (i := 2) rfl)) (fun _ h9 => h9) rfl dX1_isStruckAt_5 ?_
  refine lv_imul hx hb dX1_isStruckAt_8 ?_
  refine lv_topi (fun x_1 ex_1 => ?_)
  have hM := nm_at ex_1 hM
  refine lv_istore_n (lv' := [(2, .int x_1), (0, .ref (aL 0)), (1, .int v1)]) hx hb dX1_isStruckAt_9 rfl hl (by decide) rfl (fun ls hl => ?_)
  refine lv_iload_n hx hb dX1_isStruckAt_10 rfl (lv_at hl 0 rfl) ?_
  refine lv_if_le (tgt := 28) hx hb dX1_isStruckAt_11 (by decide) (fun hc_2 => ?_) (fun hc_2 => ?_)
  · have hM := it_p hc_2 hM
    refine lv_iconst (v := 0) hx hb dX1_isStruckAt_28 (by decide) ?_
    have hR := som hM
    rw [hR] at hQ
    exact ret_z hQ hx hb hr hlocks rfl hP hK hD hS dX1_isStruckAt_29
  · have hM := it_n hc_2 hM
    refine lv_iload_n hx hb dX1_isStruckAt_14 rfl (lv_at hl 2 rfl) ?_
    refine lv_if_le (tgt := 28) hx hb dX1_isStruckAt_15 (by decide) (fun hc_3 => ?_) (fun hc_3 => ?_)
    · have hM := it_p hc_3 hM
      refine lv_iconst (v := 0) hx hb dX1_isStruckAt_28 (by decide) ?_
      have hR := som hM
      rw [hR] at hQ
      exact ret_z hQ hx hb hr hlocks rfl hP hK hD hS dX1_isStruckAt_29
    · have hM := it_n hc_3 hM
      refine lv_iload_n hx hb dX1_isStruckAt_18 rfl (lv_at hl 2 rfl) ?_
      refine lv_iload_n hx hb dX1_isStruckAt_19 rfl (lv_at hl 0 rfl) ?_
      obtain ⟨hz, hM⟩ := gz_some hM
      refine lv_irem hx hb dX1_isStruckAt_20 hz ?_
      refine lv_if_ne (tgt := 28) hx hb dX1_isStruckAt_21 (by decide) (fun hc_4 => ?_) (fun hc_4 => ?_)
      · have hM := it_p hc_4 hM
        refine lv_iconst (v := 0) hx hb dX1_isStruckAt_28 (by decide) ?_
        have hR := som hM
        rw [hR] at hQ
        exact ret_z hQ hx hb hr hlocks rfl hP hK hD hS dX1_isStruckAt_29
      · have hM := it_nn hc_4 hM
        refine lv_iconst (v := 1) hx hb dX1_isStruckAt_24 (by decide) ?_
        refine lv_goto (tgt := 29) hx hb dX1_isStruckAt_25 (by decide) ?_
        have hR := som hM
        rw [hR] at hQ
        exact ret_z hQ hx hb hr hlocks rfl hP hK hD hS dX1_isStruckAt_29
abbrev rmX1_numberOf : Room := { frames := 0, cells := 0, slots := 0, locals := 0 }
theorem iwX1_numberOf_X1 : ∀ w ∈ wsX10, w ∈ wsX1_numberOf := fun _ h => List.mem_cons_of_mem _ (List.mem_append_right _ (h))
set_option maxHeartbeats 4000000 in
set_option maxRecDepth 100000 in
theorem kX1_numberOf (l : Launch) (dC : Nat → ClassId) (dI : Nat → Nat → Nat) (ct : Nat → ClassId) (aL : Nat → Nat) (sz : Nat) (mL : Mem) (v1 : Int32) (v2 : Int32) (res : Int32) (hM : mX1_numberOf mL v1 v2 = some res) : Met l yX1_numberOf wsX1_numberOf rmX1_numberOf (va_Pc [.ref (aL 0), .int v1, .int v2] (PB (dC, dI) ct E0 sz (wL ct aL mL))) (Qi (dC, dI) ct (va_A (wL ct aL mL) sz) res (wL ct aL mL)) 0 0 (va_A (wL ct aL mL) sz) := by
  refine Met.ofW (cc := cX1_numberOf) (maxL := 3) (ret := (some .int)) (by decide) rfl ?_
  intro p e s m args below meth c s₁ B hml hv
  obtain ⟨hargs, hsz, hP, hK, hD0, hE⟩ := hv
  have hx := B.exec
  have hb := B.bytes
  have hr := B.returns
  have hts := atoms_spec (ws := wsX1_numberOf) B.pre
  have hown : s.vm.findClass RX1 = some m.cls := findClass_of_methodNamed B.named
  have hlocks := B.notSynchronized
  clear B s₁
  subst hsz
  have hD := hD0.self (sz := s.heap.size)
  clear hD0
  generalize hAe : va_A (wL ct aL mL) s.heap.size = A at hD hE ⊢
  have hA : ∀ q : Nat, s.heap.size ≤ q → A q := fun q h => by rw [← hAe]; exact Or.inr h
  clear hAe
  have hS : va_S A s.heap s.heap [] := va_S.rf
  refine cutQ (fun Q hQ => ?_)
  refine entryW (vs := [.ref (aL 0), .int v1, .int v2]) hargs (Nat.le_of_ble_eq_true rfl) (fun ls hl => ?_)
  replace hl : lv_has ls 3 [(0, .ref (aL 0)), (1, .int v1), (2, .int v2)] := hl
  unfold mX1_numberOf at hM
  refine lv_iload_n hx hb dX1_numberOf_0 rfl (lv_at hl 2 rfl) ?_
  by_cases hc_1 : v2 = 0
  · have hM := it_p hc_1 hM
    refine lv_tableIn (off := 39) (tgt := 40) hx hb dX1_numberOf_1 (by rw [hc_1]; decide) (by rw [hc_1]; decide) (by rw [hc_1]; decide) (by decide) ?_
    refine lv_aload_n hx hb dX1_numberOf_40 rfl (lv_at hl 0 rfl) ?_
    refine va_get (D := (dC, dI)) (ci := 1) (v := .ref (aL 1)) (C := RX1) (T := TX1) (N := 17) hx hb hts iwX1_numberOf_X1 hown hK hP 0 rfl rfl 6 (by decide) (hts _ (List.mem_of_getElem? (i := 1) rfl)) (fun _ h9 => h9) rfl dX1_numberOf_41 ?_
    refine lv_iload_n hx hb dX1_numberOf_44 rfl (lv_at hl 1 rfl) ?_
    obtain ⟨hi, hM⟩ := gi_some hM
    refine va_iald hx hb hK hP 1 0 rfl rfl hi dX1_numberOf_45 ?_
    refine lv_topi (fun x_2 ex_2 => ?_)
    have hM := nm_at ex_2 hM
    have hR := som hM
    rw [hR] at hQ
    exact ret_i hQ hx hb hr hlocks hP hK hD hS dX1_numberOf_46
  · have hM := it_n hc_1 hM
    by_cases hc_3 : v2 = 1
    · have hM := it_p hc_3 hM
      refine lv_tableIn (off := 46) (tgt := 47) hx hb dX1_numberOf_1 (by rw [hc_3]; decide) (by rw [hc_3]; decide) (by rw [hc_3]; decide) (by decide) ?_
      refine lv_aload_n hx hb dX1_numberOf_47 rfl (lv_at hl 0 rfl) ?_
      refine va_get (D := (dC, dI)) (ci := 1) (v := .ref (aL 2)) (C := RX1) (T := TX1) (N := 17) hx hb hts iwX1_numberOf_X1 hown hK hP 0 rfl rfl 7 (by decide) (hts _ (List.mem_of_getElem? (i := 2) rfl)) (fun _ h9 => h9) rfl dX1_numberOf_48 ?_
      refine lv_iload_n hx hb dX1_numberOf_51 rfl (lv_at hl 1 rfl) ?_
      obtain ⟨hi, hM⟩ := gi_some hM
      refine va_iald hx hb hK hP 2 0 rfl rfl hi dX1_numberOf_52 ?_
      refine lv_topi (fun x_4 ex_4 => ?_)
      have hM := nm_at ex_4 hM
      have hR := som hM
      rw [hR] at hQ
      exact ret_i hQ hx hb hr hlocks hP hK hD hS dX1_numberOf_53
    · have hM := it_n hc_3 hM
      by_cases hc_5 : v2 = 2
      · have hM := it_p hc_5 hM
        refine lv_tableIn (off := 53) (tgt := 54) hx hb dX1_numberOf_1 (by rw [hc_5]; decide) (by rw [hc_5]; decide) (by rw [hc_5]; decide) (by decide) ?_
        refine lv_aload_n hx hb dX1_numberOf_54 rfl (lv_at hl 0 rfl) ?_
        refine va_get (D := (dC, dI)) (ci := 1) (v := .ref (aL 3)) (C := RX1) (T := TX1) (N := 17) hx hb hts iwX1_numberOf_X1 hown hK hP 0 rfl rfl 8 (by decide) (hts _ (List.mem_of_getElem? (i := 3) rfl)) (fun _ h9 => h9) rfl dX1_numberOf_55 ?_
        refine lv_iload_n hx hb dX1_numberOf_58 rfl (lv_at hl 1 rfl) ?_
        obtain ⟨hi, hM⟩ := gi_some hM
        refine va_iald hx hb hK hP 3 0 rfl rfl hi dX1_numberOf_59 ?_
        refine lv_topi (fun x_6 ex_6 => ?_)
        have hM := nm_at ex_6 hM
        have hR := som hM
        rw [hR] at hQ
        exact ret_i hQ hx hb hr hlocks hP hK hD hS dX1_numberOf_60
      · have hM := it_n hc_5 hM
        by_cases hc_7 : v2 = 3
        · have hM := it_p hc_7 hM
          refine lv_tableIn (off := 60) (tgt := 61) hx hb dX1_numberOf_1 (by rw [hc_7]; decide) (by rw [hc_7]; decide) (by rw [hc_7]; decide) (by decide) ?_
          refine lv_aload_n hx hb dX1_numberOf_61 rfl (lv_at hl 0 rfl) ?_
          refine va_get (D := (dC, dI)) (ci := 1) (v := .ref (aL 4)) (C := RX1) (T := TX1) (N := 17) hx hb hts iwX1_numberOf_X1 hown hK hP 0 rfl rfl 9 (by decide) (hts _ (List.mem_of_getElem? (i := 4) rfl)) (fun _ h9 => h9) rfl dX1_numberOf_62 ?_
          refine lv_iload_n hx hb dX1_numberOf_65 rfl (lv_at hl 1 rfl) ?_
          obtain ⟨hi, hM⟩ := gi_some hM
          refine va_iald hx hb hK hP 4 0 rfl rfl hi dX1_numberOf_66 ?_
          refine lv_topi (fun x_8 ex_8 => ?_)
          have hM := nm_at ex_8 hM
          have hR := som hM
          rw [hR] at hQ
          exact ret_i hQ hx hb hr hlocks hP hK hD hS dX1_numberOf_67
        · have hM := it_n hc_7 hM
          by_cases hc_9 : v2 = 4
          · have hM := it_p hc_9 hM
            refine lv_tableIn (off := 67) (tgt := 68) hx hb dX1_numberOf_1 (by rw [hc_9]; decide) (by rw [hc_9]; decide) (by rw [hc_9]; decide) (by decide) ?_
            refine lv_aload_n hx hb dX1_numberOf_68 rfl (lv_at hl 0 rfl) ?_
            refine va_get (D := (dC, dI)) (ci := 1) (v := .ref (aL 5)) (C := RX1) (T := TX1) (N := 17) hx hb hts iwX1_numberOf_X1 hown hK hP 0 rfl rfl 10 (by decide) (hts _ (List.mem_of_getElem? (i := 5) rfl)) (fun _ h9 => h9) rfl dX1_numberOf_69 ?_
            refine lv_iload_n hx hb dX1_numberOf_72 rfl (lv_at hl 1 rfl) ?_
            obtain ⟨hi, hM⟩ := gi_some hM
            refine va_iald hx hb hK hP 5 0 rfl rfl hi dX1_numberOf_73 ?_
            refine lv_topi (fun x_10 ex_10 => ?_)
            have hM := nm_at ex_10 hM
            have hR := som hM
            rw [hR] at hQ
            exact ret_i hQ hx hb hr hlocks hP hK hD hS dX1_numberOf_74
          · have hM := it_n hc_9 hM
            by_cases hc_11 : v2 = 5
            · have hM := it_p hc_11 hM
              refine lv_tableIn (off := 74) (tgt := 75) hx hb dX1_numberOf_1 (by rw [hc_11]; decide) (by rw [hc_11]; decide) (by rw [hc_11]; decide) (by decide) ?_
              refine lv_aload_n hx hb dX1_numberOf_75 rfl (lv_at hl 0 rfl) ?_
              refine va_get (D := (dC, dI)) (ci := 1) (v := .ref (aL 6)) (C := RX1) (T := TX1) (N := 17) hx hb hts iwX1_numberOf_X1 hown hK hP 0 rfl rfl 11 (by decide) (hts _ (List.mem_of_getElem? (i := 6) rfl)) (fun _ h9 => h9) rfl dX1_numberOf_76 ?_
              refine lv_iload_n hx hb dX1_numberOf_79 rfl (lv_at hl 1 rfl) ?_
              obtain ⟨hi, hM⟩ := gi_some hM
              refine va_iald hx hb hK hP 6 0 rfl rfl hi dX1_numberOf_80 ?_
              refine lv_topi (fun x_12 ex_12 => ?_)
              have hM := nm_at ex_12 hM
              have hR := som hM
              rw [hR] at hQ
              exact ret_i hQ hx hb hr hlocks hP hK hD hS dX1_numberOf_81
            · have hM := it_n hc_11 hM
              have nhc_1 := ne_toInt hc_1
              have nhc_3 := ne_toInt hc_3
              have nhc_5 := ne_toInt hc_5
              have nhc_7 := ne_toInt hc_7
              have nhc_9 := ne_toInt hc_9
              have nhc_11 := ne_toInt hc_11
              refine lv_tableOut (tgt := 82) hx hb dX1_numberOf_1 (by rw [show ((0 : Int32)).toInt = 0 from by decide] at nhc_1; rw [show ((1 : Int32)).toInt = 1 from by decide] at nhc_3; rw [show ((2 : Int32)).toInt = 2 from by decide] at nhc_5; rw [show ((3 : Int32)).toInt = 3 from by decide] at nhc_7; rw [show ((4 : Int32)).toInt = 4 from by decide] at nhc_9; rw [show ((5 : Int32)).toInt = 5 from by decide] at nhc_11; omega) (by decide) ?_
              refine lv_iconst (v := -1) hx hb dX1_numberOf_82 (by decide) ?_
              have hR := som hM
              rw [hR] at hQ
              exact ret_i hQ hx hb hr hlocks hP hK hD hS dX1_numberOf_83
abbrev rmX1_countOf : Room := { frames := 0, cells := 0, slots := 0, locals := 0 }
theorem iwX1_countOf_X1 : ∀ w ∈ wsX10, w ∈ wsX1_countOf := fun _ h => List.mem_cons_of_mem _ (List.mem_append_right _ (h))
set_option maxHeartbeats 4000000 in
set_option maxRecDepth 100000 in
theorem kX1_countOf (l : Launch) (dC : Nat → ClassId) (dI : Nat → Nat → Nat) (ct : Nat → ClassId) (aL : Nat → Nat) (sz : Nat) (mL : Mem) (v1 : Int32) (res : Int32) (hM : mX1_countOf mL v1 = some res) : Met l yX1_countOf wsX1_countOf rmX1_countOf (va_Pc [.ref (aL 0), .int v1] (PB (dC, dI) ct E0 sz (wL ct aL mL))) (Qi (dC, dI) ct (va_A (wL ct aL mL) sz) res (wL ct aL mL)) 0 0 (va_A (wL ct aL mL) sz) := by
  refine Met.ofW (cc := cX1_countOf) (maxL := 2) (ret := (some .int)) (by decide) rfl ?_
  intro p e s m args below meth c s₁ B hml hv
  obtain ⟨hargs, hsz, hP, hK, hD0, hE⟩ := hv
  have hx := B.exec
  have hb := B.bytes
  have hr := B.returns
  have hts := atoms_spec (ws := wsX1_countOf) B.pre
  have hown : s.vm.findClass RX1 = some m.cls := findClass_of_methodNamed B.named
  have hlocks := B.notSynchronized
  clear B s₁
  subst hsz
  have hD := hD0.self (sz := s.heap.size)
  clear hD0
  generalize hAe : va_A (wL ct aL mL) s.heap.size = A at hD hE ⊢
  have hA : ∀ q : Nat, s.heap.size ≤ q → A q := fun q h => by rw [← hAe]; exact Or.inr h
  clear hAe
  have hS : va_S A s.heap s.heap [] := va_S.rf
  refine cutQ (fun Q hQ => ?_)
  refine entryW (vs := [.ref (aL 0), .int v1]) hargs (Nat.le_of_ble_eq_true rfl) (fun ls hl => ?_)
  replace hl : lv_has ls 2 [(0, .ref (aL 0)), (1, .int v1)] := hl
  unfold mX1_countOf at hM
  refine lv_iload_n hx hb dX1_countOf_0 rfl (lv_at hl 1 rfl) ?_
  by_cases hc_1 : v1 = 0
  · have hM := it_p hc_1 hM
    refine lv_tableIn (off := 43) (tgt := 44) hx hb dX1_countOf_1 (by rw [hc_1]; decide) (by rw [hc_1]; decide) (by rw [hc_1]; decide) (by decide) ?_
    refine lv_aload_n hx hb dX1_countOf_44 rfl (lv_at hl 0 rfl) ?_
    refine va_get (D := (dC, dI)) (ci := 1) (v := .int (mL 0 5)) (C := RX1) (T := TX1) (N := 17) hx hb hts iwX1_countOf_X1 hown hK hP 0 rfl rfl 5 (by decide) (hts _ (List.mem_of_getElem? (i := 1) rfl)) (fun _ h9 => h9) rfl dX1_countOf_45 ?_
    refine lv_topi (fun x_2 ex_2 => ?_)
    have hM := nm_at ex_2 hM
    have hR := som hM
    rw [hR] at hQ
    exact ret_i hQ hx hb hr hlocks hP hK hD hS dX1_countOf_48
  · have hM := it_n hc_1 hM
    by_cases hc_3 : v1 = 1
    · have hM := it_p hc_3 hM
      refine lv_tableIn (off := 48) (tgt := 49) hx hb dX1_countOf_1 (by rw [hc_3]; decide) (by rw [hc_3]; decide) (by rw [hc_3]; decide) (by decide) ?_
      refine lv_aload_n hx hb dX1_countOf_49 rfl (lv_at hl 0 rfl) ?_
      refine va_get (D := (dC, dI)) (ci := 1) (v := .int (mL 0 13)) (C := RX1) (T := TX1) (N := 17) hx hb hts iwX1_countOf_X1 hown hK hP 0 rfl rfl 13 (by decide) (hts _ (List.mem_of_getElem? (i := 2) rfl)) (fun _ h9 => h9) rfl dX1_countOf_50 ?_
      refine lv_topi (fun x_4 ex_4 => ?_)
      have hM := nm_at ex_4 hM
      have hR := som hM
      rw [hR] at hQ
      exact ret_i hQ hx hb hr hlocks hP hK hD hS dX1_countOf_53
    · have hM := it_n hc_3 hM
      by_cases hc_5 : v1 = 2
      · have hM := it_p hc_5 hM
        refine lv_tableIn (off := 53) (tgt := 54) hx hb dX1_countOf_1 (by rw [hc_5]; decide) (by rw [hc_5]; decide) (by rw [hc_5]; decide) (by decide) ?_
        refine lv_aload_n hx hb dX1_countOf_54 rfl (lv_at hl 0 rfl) ?_
        refine va_get (D := (dC, dI)) (ci := 1) (v := .int (mL 0 0)) (C := RX1) (T := TX1) (N := 17) hx hb hts iwX1_countOf_X1 hown hK hP 0 rfl rfl 0 (by decide) (hts _ (List.mem_of_getElem? (i := 3) rfl)) (fun _ h9 => h9) rfl dX1_countOf_55 ?_
        refine lv_topi (fun x_6 ex_6 => ?_)
        have hM := nm_at ex_6 hM
        have hR := som hM
        rw [hR] at hQ
        exact ret_i hQ hx hb hr hlocks hP hK hD hS dX1_countOf_58
      · have hM := it_n hc_5 hM
        by_cases hc_7 : v1 = 3
        · have hM := it_p hc_7 hM
          refine lv_tableIn (off := 58) (tgt := 59) hx hb dX1_countOf_1 (by rw [hc_7]; decide) (by rw [hc_7]; decide) (by rw [hc_7]; decide) (by decide) ?_
          refine lv_aload_n hx hb dX1_countOf_59 rfl (lv_at hl 0 rfl) ?_
          refine va_get (D := (dC, dI)) (ci := 1) (v := .int (mL 0 1)) (C := RX1) (T := TX1) (N := 17) hx hb hts iwX1_countOf_X1 hown hK hP 0 rfl rfl 1 (by decide) (hts _ (List.mem_of_getElem? (i := 4) rfl)) (fun _ h9 => h9) rfl dX1_countOf_60 ?_
          refine lv_topi (fun x_8 ex_8 => ?_)
          have hM := nm_at ex_8 hM
          have hR := som hM
          rw [hR] at hQ
          exact ret_i hQ hx hb hr hlocks hP hK hD hS dX1_countOf_63
        · have hM := it_n hc_7 hM
          by_cases hc_9 : v1 = 4
          · have hM := it_p hc_9 hM
            refine lv_tableIn (off := 63) (tgt := 64) hx hb dX1_countOf_1 (by rw [hc_9]; decide) (by rw [hc_9]; decide) (by rw [hc_9]; decide) (by decide) ?_
            refine lv_aload_n hx hb dX1_countOf_64 rfl (lv_at hl 0 rfl) ?_
            refine va_get (D := (dC, dI)) (ci := 1) (v := .int (mL 0 2)) (C := RX1) (T := TX1) (N := 17) hx hb hts iwX1_countOf_X1 hown hK hP 0 rfl rfl 2 (by decide) (hts _ (List.mem_of_getElem? (i := 5) rfl)) (fun _ h9 => h9) rfl dX1_countOf_65 ?_
            refine lv_topi (fun x_10 ex_10 => ?_)
            have hM := nm_at ex_10 hM
            have hR := som hM
            rw [hR] at hQ
            exact ret_i hQ hx hb hr hlocks hP hK hD hS dX1_countOf_68
          · have hM := it_n hc_9 hM
            by_cases hc_11 : v1 = 5
            · have hM := it_p hc_11 hM
              refine lv_tableIn (off := 68) (tgt := 69) hx hb dX1_countOf_1 (by rw [hc_11]; decide) (by rw [hc_11]; decide) (by rw [hc_11]; decide) (by decide) ?_
              refine lv_aload_n hx hb dX1_countOf_69 rfl (lv_at hl 0 rfl) ?_
              refine va_get (D := (dC, dI)) (ci := 1) (v := .int (mL 0 3)) (C := RX1) (T := TX1) (N := 17) hx hb hts iwX1_countOf_X1 hown hK hP 0 rfl rfl 3 (by decide) (hts _ (List.mem_of_getElem? (i := 6) rfl)) (fun _ h9 => h9) rfl dX1_countOf_70 ?_
              refine lv_topi (fun x_12 ex_12 => ?_)
              have hM := nm_at ex_12 hM
              have hR := som hM
              rw [hR] at hQ
              exact ret_i hQ hx hb hr hlocks hP hK hD hS dX1_countOf_73
            · have hM := it_n hc_11 hM
              by_cases hc_13 : v1 = 6
              · have hM := it_p hc_13 hM
                refine lv_tableIn (off := 73) (tgt := 74) hx hb dX1_countOf_1 (by rw [hc_13]; decide) (by rw [hc_13]; decide) (by rw [hc_13]; decide) (by decide) ?_
                refine lv_aload_n hx hb dX1_countOf_74 rfl (lv_at hl 0 rfl) ?_
                refine va_get (D := (dC, dI)) (ci := 1) (v := .int (mL 0 12)) (C := RX1) (T := TX1) (N := 17) hx hb hts iwX1_countOf_X1 hown hK hP 0 rfl rfl 12 (by decide) (hts _ (List.mem_of_getElem? (i := 7) rfl)) (fun _ h9 => h9) rfl dX1_countOf_75 ?_
                refine lv_topi (fun x_14 ex_14 => ?_)
                have hM := nm_at ex_14 hM
                have hR := som hM
                rw [hR] at hQ
                exact ret_i hQ hx hb hr hlocks hP hK hD hS dX1_countOf_78
              · have hM := it_n hc_13 hM
                have nhc_1 := ne_toInt hc_1
                have nhc_3 := ne_toInt hc_3
                have nhc_5 := ne_toInt hc_5
                have nhc_7 := ne_toInt hc_7
                have nhc_9 := ne_toInt hc_9
                have nhc_11 := ne_toInt hc_11
                have nhc_13 := ne_toInt hc_13
                refine lv_tableOut (tgt := 79) hx hb dX1_countOf_1 (by rw [show ((0 : Int32)).toInt = 0 from by decide] at nhc_1; rw [show ((1 : Int32)).toInt = 1 from by decide] at nhc_3; rw [show ((2 : Int32)).toInt = 2 from by decide] at nhc_5; rw [show ((3 : Int32)).toInt = 3 from by decide] at nhc_7; rw [show ((4 : Int32)).toInt = 4 from by decide] at nhc_9; rw [show ((5 : Int32)).toInt = 5 from by decide] at nhc_11; rw [show ((6 : Int32)).toInt = 6 from by decide] at nhc_13; omega) (by decide) ?_
                refine lv_iconst (v := -1) hx hb dX1_countOf_79 (by decide) ?_
                have hR := som hM
                rw [hR] at hQ
                exact ret_i hQ hx hb hr hlocks hP hK hD hS dX1_countOf_80
abbrev rmX1_allCoin : Room := { frames := 0, cells := 0, slots := 0, locals := 0 }
theorem iwX1_allCoin_X1 : ∀ w ∈ wsX10, w ∈ wsX1_allCoin := fun _ h => List.mem_cons_of_mem _ (List.mem_append_right _ (h))
set_option maxHeartbeats 4000000 in
set_option maxRecDepth 100000 in
theorem kX1_allCoin (l : Launch) (dC : Nat → ClassId) (dI : Nat → Nat → Nat) (ct : Nat → ClassId) (aL : Nat → Nat) (sz : Nat) (mL : Mem) (res : Int32) (hM : mX1_allCoin mL = some res) : Met l yX1_allCoin wsX1_allCoin rmX1_allCoin (va_Pc [.ref (aL 0)] (PB (dC, dI) ct E0 sz (wL ct aL mL))) (Qi (dC, dI) ct (va_A (wL ct aL mL) sz) res (wL ct aL mL)) 0 0 (va_A (wL ct aL mL) sz) := by
  refine Met.ofW (cc := cX1_allCoin) (maxL := 3) (ret := (some .int)) (by decide) rfl ?_
  intro p e s m args below meth c s₁ B hml hv
  obtain ⟨hargs, hsz, hP, hK, hD0, hE⟩ := hv
  have hx := B.exec
  have hb := B.bytes
  have hr := B.returns
  have hts := atoms_spec (ws := wsX1_allCoin) B.pre
  have hown : s.vm.findClass RX1 = some m.cls := findClass_of_methodNamed B.named
  have hlocks := B.notSynchronized
  clear B s₁
  subst hsz
  have hD := hD0.self (sz := s.heap.size)
  clear hD0
  generalize hAe : va_A (wL ct aL mL) s.heap.size = A at hD hE ⊢
  have hA : ∀ q : Nat, s.heap.size ≤ q → A q := fun q h => by rw [← hAe]; exact Or.inr h
  clear hAe
  have hS : va_S A s.heap s.heap [] := va_S.rf
  refine cutQ (fun Q hQ => ?_)
  refine entryW (vs := [.ref (aL 0)]) hargs (Nat.le_of_ble_eq_true rfl) (fun ls hl => ?_)
  replace hl : lv_has ls 3 [(0, .ref (aL 0))] := hl
  unfold mX1_allCoin at hM
  have N4 : ∀ (v1 : Int32) (v2 : Int32), mX1_allCoin_L4 v1 v2 mL = some res → ∀ (H : Heap) (locs : List Loc), va_P (dC, dI) vwCl (wL ct aL mL) H → va_D A (wL ct aL mL) → va_S A s.heap H locs → ∀ ls : Array Slot, lv_has ls 3 [(0, .ref (aL 0)), (1, .int v1), (2, .int v2)] → W p l e (headSpec wsX1_allCoin rmX1_allCoin).room s m args below meth c H locs 0 0 Q (F0 m 4 ls []) := by
    intro v1 v2 hM H locs hP hD hS ls hl
    unfold mX1_allCoin_L4 at hM
    obtain ⟨ex4, hit4, hM⟩ := bn_some hM
    have X4_0 : ∀ (v1 : Int32), ex4 = v1 → ∀ (H : Heap) (locs : List Loc), va_P (dC, dI) vwCl (wL ct aL mL) H → va_D A (wL ct aL mL) → va_S A s.heap H locs → ∀ ls : Array Slot, lv_has ls 3 [(1, .int v1)] → W p l e (headSpec wsX1_allCoin rmX1_allCoin).room s m args below meth c H locs 0 0 Q (F0 m 34 ls []) := by
      intro v1 hex H locs hP hD hS ls hl
      rw [hex] at hM
      have hM := nm_at (y := v1) rfl hM
      refine lv_iload_n hx hb dX1_allCoin_34 rfl (lv_at hl 0 rfl) ?_
      have hR := som hM
      rw [hR] at hQ
      exact ret_i hQ hx hb hr hlocks hP hK hD hS dX1_allCoin_35
    have I4 : ∀ (n : Nat) (v1 : Int32) (v2 : Int32), itr (fun q => mX1_allCoin_s4 mL q.1 q.2) n (v1, v2) = some ex4 → ∀ (H : Heap) (locs : List Loc), va_P (dC, dI) vwCl (wL ct aL mL) H → va_D A (wL ct aL mL) → va_S A s.heap H locs → ∀ ls : Array Slot, lv_has ls 3 [(0, .ref (aL 0)), (1, .int v1), (2, .int v2)] → W p l e (headSpec wsX1_allCoin rmX1_allCoin).room s m args below meth c H locs 0 0 Q (F0 m 4 ls []) := by
      intro n
      induction n with
      | zero => intro v1 v2 hit; exact (itr_zero hit).elim
      | succ n ih4 =>
        intro v1 v2 hit H locs hP hD hS ls hl
        obtain ⟨o4, hM, hbk4, hex4⟩ := itr_succ hit
        replace hM : mX1_allCoin_s4 mL v1 v2 = some o4 := hM
        unfold mX1_allCoin_s4 at hM
        refine lv_iload_n hx hb dX1_allCoin_4 rfl (lv_at hl 2 rfl) ?_
        refine lv_aload_n hx hb dX1_allCoin_5 rfl (lv_at hl 0 rfl) ?_
        refine va_get (D := (dC, dI)) (ci := 1) (v := .int (mL 0 5)) (C := RX1) (T := TX1) (N := 17) hx hb hts iwX1_allCoin_X1 hown hK hP 0 rfl rfl 5 (by decide) (hts _ (List.mem_of_getElem? (i := 1) rfl)) (fun _ h9 => h9) rfl dX1_allCoin_6 ?_
        refine lv_icmp_ge (tgt := 34) hx hb dX1_allCoin_9 (by decide) (fun hc_1 => ?_) (fun hc_1 => ?_)
        · have hM := it_p hc_1 hM
          have hR := som hM
          exact X4_0 v1 (hex4 _ hR).symm _ _ hP hD hS _ (lv_sub hl [1] rfl)
        · have hM := it_n hc_1 hM
          refine lv_iload_n hx hb dX1_allCoin_12 rfl (lv_at hl 1 rfl) ?_
          refine lv_aload_n hx hb dX1_allCoin_13 rfl (lv_at hl 0 rfl) ?_
          refine va_get (D := (dC, dI)) (ci := 1) (v := .ref (aL 1)) (C := RX1) (T := TX1) (N := 17) hx hb hts iwX1_allCoin_X1 hown hK hP 0 rfl rfl 6 (by decide) (hts _ (List.mem_of_getElem? (i := 2) rfl)) (fun _ h9 => h9) rfl dX1_allCoin_14 ?_
          refine lv_iload_n hx hb dX1_allCoin_17 rfl (lv_at hl 2 rfl) ?_
          obtain ⟨hi, hM⟩ := gi_some hM
          refine va_iald hx hb hK hP 1 0 rfl rfl hi dX1_allCoin_18 ?_
          refine lv_aload_n hx hb dX1_allCoin_19 rfl (lv_at hl 0 rfl) ?_
          refine va_get (D := (dC, dI)) (ci := 1) (v := .ref (aL 2)) (C := RX1) (T := TX1) (N := 17) hx hb hts iwX1_allCoin_X1 hown hK hP 0 rfl rfl 7 (by decide) (hts _ (List.mem_of_getElem? (i := 3) rfl)) (fun _ h9 => h9) rfl dX1_allCoin_20 ?_
          refine lv_iload_n hx hb dX1_allCoin_23 rfl (lv_at hl 2 rfl) ?_
          obtain ⟨hi, hM⟩ := gi_some hM
          refine va_iald hx hb hK hP 2 0 rfl rfl hi dX1_allCoin_24 ?_
          refine lv_imul hx hb dX1_allCoin_25 ?_
          refine lv_iadd hx hb dX1_allCoin_26 ?_
          refine lv_topi (fun x_2 ex_2 => ?_)
          have hM := nm_at ex_2 hM
          refine lv_istore_n (lv' := [(1, .int x_2), (0, .ref (aL 0)), (2, .int v2)]) hx hb dX1_allCoin_27 rfl hl (by decide) rfl (fun ls hl => ?_)
          obtain ⟨x_3, ex_3⟩ : ∃ y : Int32, y = (v2 + (1 : Int32)) := ⟨_, rfl⟩
          have hM := nm_at ex_3 hM
          refine lv_iinc (v := x_3) (lv' := [(2, .int x_3), (1, .int x_2), (0, .ref (aL 0))]) hx hb dX1_allCoin_28 hl (k := 2) rfl (by rw [ex_3]; rfl) (by decide) rfl (fun ls hl => ?_)
          refine lv_goto (tgt := 4) hx hb dX1_allCoin_31 (by decide) ?_
          have hR := som hM
          exact ih4 x_2 x_3 (hbk4 _ hR) _ _ hP hD hS _ (lv_sub hl [2, 1, 0] rfl)
    exact I4 FU v1 v2 hit4 _ _ hP hD hS _ hl
  refine lv_iconst (v := 0) hx hb dX1_allCoin_0 (by decide) ?_
  refine lv_istore_n (lv' := [(1, .int (0 : Int32)), (0, .ref (aL 0))]) hx hb dX1_allCoin_1 rfl hl (by decide) rfl (fun ls hl => ?_)
  refine lv_iconst (v := 0) hx hb dX1_allCoin_2 (by decide) ?_
  refine lv_istore_n (lv' := [(2, .int (0 : Int32)), (1, .int (0 : Int32)), (0, .ref (aL 0))]) hx hb dX1_allCoin_3 rfl hl (by decide) rfl (fun ls hl => ?_)
  exact N4 (0 : Int32) (0 : Int32) hM _ _ hP hD hS _ (lv_sub hl [2, 1, 0] rfl)
abbrev rmX1_longestWork : Room := { frames := 1, cells := 0, slots := 0, locals := 21 }
theorem iwX1_longestWork_X1 : ∀ w ∈ wsX10, w ∈ wsX1_longestWork := fun _ h => List.mem_cons_of_mem _ (List.mem_append_right _ (h))
set_option maxHeartbeats 4000000 in
set_option maxRecDepth 100000 in
theorem kX1_longestWork (l : Launch) (dC : Nat → ClassId) (dI : Nat → Nat → Nat) (ct : Nat → ClassId) (aL : Nat → Nat) (sz : Nat) (mL : Mem) (res : Int32) (hM : mX1_longestWork mL = some res) : Met l yX1_longestWork wsX1_longestWork rmX1_longestWork (va_Pc [.ref (aL 0)] (PB (dC, dI) ct E0 sz (wL ct aL mL))) (Qi (dC, dI) ct (va_A (wL ct aL mL) sz) res (wL ct aL mL)) 0 0 (va_A (wL ct aL mL) sz) := by
  refine Met.ofW (cc := cX1_longestWork) (maxL := 3) (ret := (some .int)) (by decide) rfl ?_
  intro p e s m args below meth c s₁ B hml hv
  obtain ⟨hargs, hsz, hP, hK, hD0, hE⟩ := hv
  have hx := B.exec
  have hb := B.bytes
  have hr := B.returns
  have hts := atoms_spec (ws := wsX1_longestWork) B.pre
  have hown : s.vm.findClass RX1 = some m.cls := findClass_of_methodNamed B.named
  have hlocks := B.notSynchronized
  clear B s₁
  subst hsz
  have hD := hD0.self (sz := s.heap.size)
  clear hD0
  generalize hAe : va_A (wL ct aL mL) s.heap.size = A at hD hE ⊢
  have hA : ∀ q : Nat, s.heap.size ≤ q → A q := fun q h => by rw [← hAe]; exact Or.inr h
  clear hAe
  have hS : va_S A s.heap s.heap [] := va_S.rf
  refine cutQ (fun Q hQ => ?_)
  refine entryW (vs := [.ref (aL 0)]) hargs (Nat.le_of_ble_eq_true rfl) (fun ls hl => ?_)
  replace hl : lv_has ls 3 [(0, .ref (aL 0))] := hl
  unfold mX1_longestWork at hM
  have N4 : ∀ (v1 : Int32) (v2 : Int32), mX1_longestWork_L4 v1 v2 mL = some res → ∀ (H : Heap) (locs : List Loc), va_P (dC, dI) vwCl (wL ct aL mL) H → va_D A (wL ct aL mL) → va_S A s.heap H locs → ∀ ls : Array Slot, lv_has ls 3 [(0, .ref (aL 0)), (1, .int v1), (2, .int v2)] → W p l e (headSpec wsX1_longestWork rmX1_longestWork).room s m args below meth c H locs 0 0 Q (F0 m 4 ls []) := by
    intro v1 v2 hM H locs hP hD hS ls hl
    unfold mX1_longestWork_L4 at hM
    obtain ⟨ex4, hit4, hM⟩ := bn_some hM
    have X4_0 : ∀ (v1 : Int32), ex4 = v1 → ∀ (H : Heap) (locs : List Loc), va_P (dC, dI) vwCl (wL ct aL mL) H → va_D A (wL ct aL mL) → va_S A s.heap H locs → ∀ ls : Array Slot, lv_has ls 3 [(1, .int v1)] → W p l e (headSpec wsX1_longestWork rmX1_longestWork).room s m args below meth c H locs 0 0 Q (F0 m 29 ls []) := by
      intro v1 hex H locs hP hD hS ls hl
      rw [hex] at hM
      have hM := nm_at (y := v1) rfl hM
      refine lv_iload_n hx hb dX1_longestWork_29 rfl (lv_at hl 0 rfl) ?_
      have hR := som hM
      rw [hR] at hQ
      exact ret_i hQ hx hb hr hlocks hP hK hD hS dX1_longestWork_30
    have I4 : ∀ (n : Nat) (v1 : Int32) (v2 : Int32), itr (fun q => mX1_longestWork_s4 mL q.1 q.2) n (v1, v2) = some ex4 → ∀ (H : Heap) (locs : List Loc), va_P (dC, dI) vwCl (wL ct aL mL) H → va_D A (wL ct aL mL) → va_S A s.heap H locs → ∀ ls : Array Slot, lv_has ls 3 [(0, .ref (aL 0)), (1, .int v1), (2, .int v2)] → W p l e (headSpec wsX1_longestWork rmX1_longestWork).room s m args below meth c H locs 0 0 Q (F0 m 4 ls []) := by
      intro n
      induction n with
      | zero => intro v1 v2 hit; exact (itr_zero hit).elim
      | succ n ih4 =>
        intro v1 v2 hit H locs hP hD hS ls hl
        obtain ⟨o4, hM, hbk4, hex4⟩ := itr_succ hit
        replace hM : mX1_longestWork_s4 mL v1 v2 = some o4 := hM
        unfold mX1_longestWork_s4 at hM
        refine lv_iload_n hx hb dX1_longestWork_4 rfl (lv_at hl 2 rfl) ?_
        refine lv_aload_n hx hb dX1_longestWork_5 rfl (lv_at hl 0 rfl) ?_
        refine va_get (D := (dC, dI)) (ci := 1) (v := .int (mL 0 5)) (C := RX1) (T := TX1) (N := 17) hx hb hts iwX1_longestWork_X1 hown hK hP 0 rfl rfl 5 (by decide) (hts _ (List.mem_of_getElem? (i := 1) rfl)) (fun _ h9 => h9) rfl dX1_longestWork_6 ?_
        refine lv_icmp_ge (tgt := 29) hx hb dX1_longestWork_9 (by decide) (fun hc_1 => ?_) (fun hc_1 => ?_)
        · have hM := it_p hc_1 hM
          have hR := som hM
          exact X4_0 v1 (hex4 _ hR).symm _ _ hP hD hS _ (lv_sub hl [1] rfl)
        · have hM := it_n hc_1 hM
          refine lv_iload_n hx hb dX1_longestWork_12 rfl (lv_at hl 1 rfl) ?_
          refine lv_aload_n hx hb dX1_longestWork_13 rfl (lv_at hl 0 rfl) ?_
          refine va_get (D := (dC, dI)) (ci := 1) (v := .ref (aL 4)) (C := RX1) (T := TX1) (N := 17) hx hb hts iwX1_longestWork_X1 hown hK hP 0 rfl rfl 9 (by decide) (hts _ (List.mem_of_getElem? (i := 2) rfl)) (fun _ h9 => h9) rfl dX1_longestWork_14 ?_
          refine lv_iload_n hx hb dX1_longestWork_17 rfl (lv_at hl 2 rfl) ?_
          obtain ⟨hi, hM⟩ := gi_some hM
          refine va_iald hx hb hK hP 4 0 rfl rfl hi dX1_longestWork_18 ?_
          refine va_mmax hx hb (hml.trans hl.1.symm) hown (hts _ (List.mem_of_getElem? (i := 3) rfl)) (hts _ (List.mem_of_getElem? (i := 4) rfl)) (hts _ (List.mem_of_getElem? (i := 5) rfl)) (hts _ (List.mem_of_getElem? (i := 6) rfl)) (Nat.le_of_ble_eq_true rfl) (Nat.le_of_ble_eq_true rfl) (Nat.le_of_ble_eq_true rfl) (Nat.le_of_ble_eq_true rfl) dX1_longestWork_19 ?_
          refine lv_topi (fun x_2 ex_2 => ?_)
          have hM := nm_at ex_2 hM
          refine lv_istore_n (lv' := [(1, .int x_2), (0, .ref (aL 0)), (2, .int v2)]) hx hb dX1_longestWork_22 rfl hl (by decide) rfl (fun ls hl => ?_)
          obtain ⟨x_3, ex_3⟩ : ∃ y : Int32, y = (v2 + (1 : Int32)) := ⟨_, rfl⟩
          have hM := nm_at ex_3 hM
          refine lv_iinc (v := x_3) (lv' := [(2, .int x_3), (1, .int x_2), (0, .ref (aL 0))]) hx hb dX1_longestWork_23 hl (k := 2) rfl (by rw [ex_3]; rfl) (by decide) rfl (fun ls hl => ?_)
          refine lv_goto (tgt := 4) hx hb dX1_longestWork_26 (by decide) ?_
          have hR := som hM
          exact ih4 x_2 x_3 (hbk4 _ hR) _ _ hP hD hS _ (lv_sub hl [2, 1, 0] rfl)
    exact I4 FU v1 v2 hit4 _ _ hP hD hS _ hl
  refine lv_iconst (v := 0) hx hb dX1_longestWork_0 (by decide) ?_
  refine lv_istore_n (lv' := [(1, .int (0 : Int32)), (0, .ref (aL 0))]) hx hb dX1_longestWork_1 rfl hl (by decide) rfl (fun ls hl => ?_)
  refine lv_iconst (v := 0) hx hb dX1_longestWork_2 (by decide) ?_
  refine lv_istore_n (lv' := [(2, .int (0 : Int32)), (1, .int (0 : Int32)), (0, .ref (aL 0))]) hx hb dX1_longestWork_3 rfl hl (by decide) rfl (fun ls hl => ?_)
  exact N4 (0 : Int32) (0 : Int32) hM _ _ hP hD hS _ (lv_sub hl [2, 1, 0] rfl)
abbrev rmX1_needOf : Room := { frames := 1, cells := 0, slots := 0, locals := 21 }
theorem iwX1_needOf_X1 : ∀ w ∈ wsX10, w ∈ wsX1_needOf := fun _ h => List.mem_cons_of_mem _ (List.mem_append_right _ (h))
set_option maxHeartbeats 4000000 in
set_option maxRecDepth 100000 in
theorem kX1_needOf (l : Launch) (dC : Nat → ClassId) (dI : Nat → Nat → Nat) (ct : Nat → ClassId) (aL : Nat → Nat) (sz : Nat) (mL : Mem) (v1 : Int32) (res : Int32) (hM : mX1_needOf mL v1 = some res) : Met l yX1_needOf wsX1_needOf rmX1_needOf (va_Pc [.ref (aL 0), .int v1] (PB (dC, dI) ct E0 sz (wL ct aL mL))) (Qi (dC, dI) ct (va_A (wL ct aL mL) sz) res (wL ct aL mL)) 0 0 (va_A (wL ct aL mL) sz) := by
  refine Met.ofW (cc := cX1_needOf) (maxL := 2) (ret := (some .int)) (by decide) rfl ?_
  intro p e s m args below meth c s₁ B hml hv
  obtain ⟨hargs, hsz, hP, hK, hD0, hE⟩ := hv
  have hx := B.exec
  have hb := B.bytes
  have hr := B.returns
  have hts := atoms_spec (ws := wsX1_needOf) B.pre
  have hown : s.vm.findClass RX1 = some m.cls := findClass_of_methodNamed B.named
  have hlocks := B.notSynchronized
  clear B s₁
  subst hsz
  have hD := hD0.self (sz := s.heap.size)
  clear hD0
  generalize hAe : va_A (wL ct aL mL) s.heap.size = A at hD hE ⊢
  have hA : ∀ q : Nat, s.heap.size ≤ q → A q := fun q h => by rw [← hAe]; exact Or.inr h
  clear hAe
  have hS : va_S A s.heap s.heap [] := va_S.rf
  refine cutQ (fun Q hQ => ?_)
  refine entryW (vs := [.ref (aL 0), .int v1]) hargs (Nat.le_of_ble_eq_true rfl) (fun ls hl => ?_)
  replace hl : lv_has ls 2 [(0, .ref (aL 0)), (1, .int v1)] := hl
  unfold mX1_needOf at hM
  refine lv_aload_n hx hb dX1_needOf_0 rfl (lv_at hl 0 rfl) ?_
  refine va_get (D := (dC, dI)) (ci := 1) (v := .ref (aL 1)) (C := RX1) (T := TX1) (N := 17) hx hb hts iwX1_needOf_X1 hown hK hP 0 rfl rfl 6 (by decide) (hts _ (List.mem_of_getElem? (i := 1) rfl)) (fun _ h9 => h9) rfl dX1_needOf_1 ?_
  refine lv_iload_n hx hb dX1_needOf_4 rfl (lv_at hl 1 rfl) ?_
  obtain ⟨hi, hM⟩ := gi_some hM
  refine va_iald hx hb hK hP 1 0 rfl rfl hi dX1_needOf_5 ?_
  refine lv_iconst (v := 0) hx hb dX1_needOf_6 (by decide) ?_
  refine lv_aload_n hx hb dX1_needOf_7 rfl (lv_at hl 0 rfl) ?_
  refine va_get (D := (dC, dI)) (ci := 1) (v := .ref (aL 3)) (C := RX1) (T := TX1) (N := 17) hx hb hts iwX1_needOf_X1 hown hK hP 0 rfl rfl 8 (by decide) (hts _ (List.mem_of_getElem? (i := 2) rfl)) (fun _ h9 => h9) rfl dX1_needOf_8 ?_
  refine lv_iload_n hx hb dX1_needOf_11 rfl (lv_at hl 1 rfl) ?_
  obtain ⟨hi, hM⟩ := gi_some hM
  refine va_iald hx hb hK hP 3 0 rfl rfl hi dX1_needOf_12 ?_
  refine lv_aload_n hx hb dX1_needOf_13 rfl (lv_at hl 0 rfl) ?_
  refine va_get (D := (dC, dI)) (ci := 1) (v := .ref (aL 2)) (C := RX1) (T := TX1) (N := 17) hx hb hts iwX1_needOf_X1 hown hK hP 0 rfl rfl 7 (by decide) (hts _ (List.mem_of_getElem? (i := 3) rfl)) (fun _ h9 => h9) rfl dX1_needOf_14 ?_
  refine lv_iload_n hx hb dX1_needOf_17 rfl (lv_at hl 1 rfl) ?_
  obtain ⟨hi, hM⟩ := gi_some hM
  refine va_iald hx hb hK hP 2 0 rfl rfl hi dX1_needOf_18 ?_
  refine lv_isub hx hb dX1_needOf_19 ?_
  refine va_mmax hx hb (hml.trans hl.1.symm) hown (hts _ (List.mem_of_getElem? (i := 4) rfl)) (hts _ (List.mem_of_getElem? (i := 5) rfl)) (hts _ (List.mem_of_getElem? (i := 6) rfl)) (hts _ (List.mem_of_getElem? (i := 7) rfl)) (Nat.le_of_ble_eq_true rfl) (Nat.le_of_ble_eq_true rfl) (Nat.le_of_ble_eq_true rfl) (Nat.le_of_ble_eq_true rfl) dX1_needOf_20 ?_
  refine lv_topi (fun x_1 ex_1 => ?_)
  have hM := nm_at ex_1 hM
  refine lv_imul hx hb dX1_needOf_23 ?_
  refine lv_topi (fun x_2 ex_2 => ?_)
  have hM := nm_at ex_2 hM
  have hR := som hM
  rw [hR] at hQ
  exact ret_i hQ hx hb hr hlocks hP hK hD hS dX1_needOf_24
abbrev rmX1_yieldOf : Room := { frames := 0, cells := 0, slots := 0, locals := 0 }
theorem iwX1_yieldOf_X1 : ∀ w ∈ wsX10, w ∈ wsX1_yieldOf := fun _ h => List.mem_cons_of_mem _ (List.mem_append_right _ (h))
set_option maxHeartbeats 4000000 in
set_option maxRecDepth 100000 in
theorem kX1_yieldOf (l : Launch) (dC : Nat → ClassId) (dI : Nat → Nat → Nat) (ct : Nat → ClassId) (aL : Nat → Nat) (sz : Nat) (mL : Mem) (v1 : Int32) (v2 : Int32) (res : Int32) (hM : mX1_yieldOf mL v1 v2 = some res) : Met l yX1_yieldOf wsX1_yieldOf rmX1_yieldOf (va_Pc [.ref (aL 0), .int v1, .int v2] (PB (dC, dI) ct E0 sz (wL ct aL mL))) (Qi (dC, dI) ct (va_A (wL ct aL mL) sz) res (wL ct aL mL)) 0 0 (va_A (wL ct aL mL) sz) := by
  refine Met.ofW (cc := cX1_yieldOf) (maxL := 3) (ret := (some .int)) (by decide) rfl ?_
  intro p e s m args below meth c s₁ B hml hv
  obtain ⟨hargs, hsz, hP, hK, hD0, hE⟩ := hv
  have hx := B.exec
  have hb := B.bytes
  have hr := B.returns
  have hts := atoms_spec (ws := wsX1_yieldOf) B.pre
  have hown : s.vm.findClass RX1 = some m.cls := findClass_of_methodNamed B.named
  have hlocks := B.notSynchronized
  clear B s₁
  subst hsz
  have hD := hD0.self (sz := s.heap.size)
  clear hD0
  generalize hAe : va_A (wL ct aL mL) s.heap.size = A at hD hE ⊢
  have hA : ∀ q : Nat, s.heap.size ≤ q → A q := fun q h => by rw [← hAe]; exact Or.inr h
  clear hAe
  have hS : va_S A s.heap s.heap [] := va_S.rf
  refine cutQ (fun Q hQ => ?_)
  refine entryW (vs := [.ref (aL 0), .int v1, .int v2]) hargs (Nat.le_of_ble_eq_true rfl) (fun ls hl => ?_)
  replace hl : lv_has ls 3 [(0, .ref (aL 0)), (1, .int v1), (2, .int v2)] := hl
  unfold mX1_yieldOf at hM
  refine lv_aload_n hx hb dX1_yieldOf_0 rfl (lv_at hl 0 rfl) ?_
  refine va_get (D := (dC, dI)) (ci := 1) (v := .ref (aL 3)) (C := RX1) (T := TX1) (N := 17) hx hb hts iwX1_yieldOf_X1 hown hK hP 0 rfl rfl 8 (by decide) (hts _ (List.mem_of_getElem? (i := 1) rfl)) (fun _ h9 => h9) rfl dX1_yieldOf_1 ?_
  refine lv_iload_n hx hb dX1_yieldOf_4 rfl (lv_at hl 1 rfl) ?_
  obtain ⟨hi, hM⟩ := gi_some hM
  refine va_iald hx hb hK hP 3 0 rfl rfl hi dX1_yieldOf_5 ?_
  refine lv_iconst (v := 1) hx hb dX1_yieldOf_6 (by decide) ?_
  refine lv_icmp_ge (tgt := 14) hx hb dX1_yieldOf_7 (by decide) (fun hc_1 => ?_) (fun hc_1 => ?_)
  · have hM := it_p hc_1 hM
    refine lv_iload_n hx hb dX1_yieldOf_14 rfl (lv_at hl 2 rfl) ?_
    refine lv_aload_n hx hb dX1_yieldOf_15 rfl (lv_at hl 0 rfl) ?_
    refine va_get (D := (dC, dI)) (ci := 1) (v := .ref (aL 5)) (C := RX1) (T := TX1) (N := 17) hx hb hts iwX1_yieldOf_X1 hown hK hP 0 rfl rfl 10 (by decide) (hts _ (List.mem_of_getElem? (i := 2) rfl)) (fun _ h9 => h9) rfl dX1_yieldOf_16 ?_
    refine lv_iload_n hx hb dX1_yieldOf_19 rfl (lv_at hl 1 rfl) ?_
    obtain ⟨hi, hM⟩ := gi_some hM
    refine va_iald hx hb hK hP 5 0 rfl rfl hi dX1_yieldOf_20 ?_
    refine lv_imul hx hb dX1_yieldOf_21 ?_
    refine lv_aload_n hx hb dX1_yieldOf_22 rfl (lv_at hl 0 rfl) ?_
    refine va_get (D := (dC, dI)) (ci := 1) (v := .ref (aL 3)) (C := RX1) (T := TX1) (N := 17) hx hb hts iwX1_yieldOf_X1 hown hK hP 0 rfl rfl 8 (by decide) (hts _ (List.mem_of_getElem? (i := 1) rfl)) (fun _ h9 => h9) rfl dX1_yieldOf_23 ?_
    refine lv_iload_n hx hb dX1_yieldOf_26 rfl (lv_at hl 1 rfl) ?_
    obtain ⟨hi, hM⟩ := gi_some hM
    refine va_iald hx hb hK hP 3 0 rfl rfl hi dX1_yieldOf_27 ?_
    obtain ⟨hz, hM⟩ := gz_some hM
    refine lv_idiv hx hb dX1_yieldOf_28 hz ?_
    refine lv_topi (fun x_2 ex_2 => ?_)
    have hM := nm_at ex_2 hM
    have hR := som hM
    rw [hR] at hQ
    exact ret_i hQ hx hb hr hlocks hP hK hD hS dX1_yieldOf_29
  · have hM := it_n hc_1 hM
    refine lv_iconst (v := 0) hx hb dX1_yieldOf_10 (by decide) ?_
    refine lv_goto (tgt := 29) hx hb dX1_yieldOf_11 (by decide) ?_
    have hR := som hM
    rw [hR] at hQ
    exact ret_i hQ hx hb hr hlocks hP hK hD hS dX1_yieldOf_29
abbrev rmX1_addSort : Room := { frames := 0, cells := 0, slots := 0, locals := 0 }
theorem iwX1_addSort_X1 : ∀ w ∈ wsX10, w ∈ wsX1_addSort := fun _ h => List.mem_cons_of_mem _ (List.mem_append_right _ (h))
set_option maxHeartbeats 4000000 in
set_option maxRecDepth 100000 in
theorem kX1_addSort (l : Launch) (dC : Nat → ClassId) (dI : Nat → Nat → Nat) (ct : Nat → ClassId) (aL : Nat → Nat) (aV : Nat → Nat) (sz : Nat) (mL : Mem) (mV : (Nat → Int32)) (res : Mem) (hM : mX1_addSort mL mV = some res) : Met l yX1_addSort wsX1_addSort rmX1_addSort (va_Pc [.ref (aL 0), .ref (aV 0)] (PB (dC, dI) ct E0 sz (wL ct aL mL ++ wV ct aV mV))) (Qv (dC, dI) ct (va_A (wL ct aL mL ++ wV ct aV mV) sz) (wL ct aL res ++ wV ct aV mV)) 0 0 (va_A (wL ct aL mL ++ wV ct aV mV) sz) := by
  refine Met.ofW (cc := cX1_addSort) (maxL := 2) (ret := none) (by decide) rfl ?_
  intro p e s m args below meth c s₁ B hml hv
  obtain ⟨hargs, hsz, hP, hK, hD0, hE⟩ := hv
  have hx := B.exec
  have hb := B.bytes
  have hr := B.returns
  have hts := atoms_spec (ws := wsX1_addSort) B.pre
  have hown : s.vm.findClass RX1 = some m.cls := findClass_of_methodNamed B.named
  have hlocks := B.notSynchronized
  clear B s₁
  subst hsz
  have hD := hD0.self (sz := s.heap.size)
  clear hD0
  generalize hAe : va_A (wL ct aL mL ++ wV ct aV mV) s.heap.size = A at hD hE ⊢
  have hA : ∀ q : Nat, s.heap.size ≤ q → A q := fun q h => by rw [← hAe]; exact Or.inr h
  clear hAe
  have hS : va_S A s.heap s.heap [] := va_S.rf
  refine cutQ (fun Q hQ => ?_)
  refine entryW (vs := [.ref (aL 0), .ref (aV 0)]) hargs (Nat.le_of_ble_eq_true rfl) (fun ls hl => ?_)
  replace hl : lv_has ls 2 [(0, .ref (aL 0)), (1, .ref (aV 0))] := hl
  unfold mX1_addSort at hM
  refine lv_aload_n hx hb dX1_addSort_0 rfl (lv_at hl 0 rfl) ?_
  refine va_get (D := (dC, dI)) (ci := 1) (v := .int (mL 0 5)) (C := RX1) (T := TX1) (N := 17) hx hb hts iwX1_addSort_X1 hown hK hP 0 rfl rfl 5 (by decide) (hts _ (List.mem_of_getElem? (i := 1) rfl)) (fun _ h9 => h9) rfl dX1_addSort_1 ?_
  refine lv_bipush (v := 6) hx hb dX1_addSort_4 (by decide) ?_
  refine lv_icmp_ge (tgt := 98) hx hb dX1_addSort_6 (by decide) (fun hc_1 => ?_) (fun hc_1 => ?_)
  · have hM := it_p hc_1 hM
    have hR := som hM
    rw [hR] at hQ
    exact ret_v hQ hx hb hr hlocks hP hK hD hS dX1_addSort_98
  · have hM := it_n hc_1 hM
    refine lv_aload_n hx hb dX1_addSort_9 rfl (lv_at hl 1 rfl) ?_
    refine va_alen (v := 6) hx hb hK hP 10 0 rfl rfl rfl dX1_addSort_10 ?_
    refine lv_bipush (v := 6) hx hb dX1_addSort_11 (by decide) ?_
    refine lv_icmp_lt (tgt := 98) hx hb dX1_addSort_13 (by decide) (fun hc_2 => ?_) (fun hc_2 => ?_)
    · have hM := it_p hc_2 hM
      have hR := som hM
      rw [hR] at hQ
      exact ret_v hQ hx hb hr hlocks hP hK hD hS dX1_addSort_98
    · have hM := it_n hc_2 hM
      refine lv_aload_n hx hb dX1_addSort_16 rfl (lv_at hl 0 rfl) ?_
      refine va_get (D := (dC, dI)) (ci := 1) (v := .ref (aL 1)) (C := RX1) (T := TX1) (N := 17) hx hb hts iwX1_addSort_X1 hown hK hP 0 rfl rfl 6 (by decide) (hts _ (List.mem_of_getElem? (i := 2) rfl)) (fun _ h9 => h9) rfl dX1_addSort_17 ?_
      refine lv_aload_n hx hb dX1_addSort_20 rfl (lv_at hl 0 rfl) ?_
      refine va_get (D := (dC, dI)) (ci := 1) (v := .int (mL 0 5)) (C := RX1) (T := TX1) (N := 17) hx hb hts iwX1_addSort_X1 hown hK hP 0 rfl rfl 5 (by decide) (hts _ (List.mem_of_getElem? (i := 1) rfl)) (fun _ h9 => h9) rfl dX1_addSort_21 ?_
      refine lv_aload_n hx hb dX1_addSort_24 rfl (lv_at hl 1 rfl) ?_
      refine lv_iconst (v := 0) hx hb dX1_addSort_25 (by decide) ?_
      obtain ⟨hi, hM⟩ := gi_some hM
      refine va_iald hx hb hK hP 10 0 rfl rfl hi dX1_addSort_26 ?_
      obtain ⟨hi, hM⟩ := gi_some hM
      refine st_i (wf := fun z => (wL ct aL z ++ wV ct aV mV)) (m1 := upi mL 1 (mL 0 5).toNatClampNeg (mV (0 : Int32).toNatClampNeg)) hx hb hK hP hD hS 1 rfl hi dX1_addSort_27 rfl (fun mL_3 emL_3 H locs hP hD hS => ?_)
      have hM := nm_at emL_3 hM
      refine lv_aload_n hx hb dX1_addSort_28 rfl (lv_at hl 0 rfl) ?_
      refine va_get (D := (dC, dI)) (ci := 1) (v := .ref (aL 2)) (C := RX1) (T := TX1) (N := 17) hx hb hts iwX1_addSort_X1 hown hK hP 0 rfl rfl 7 (by decide) (hts _ (List.mem_of_getElem? (i := 3) rfl)) (fun _ h9 => h9) rfl dX1_addSort_29 ?_
      refine lv_aload_n hx hb dX1_addSort_32 rfl (lv_at hl 0 rfl) ?_
      refine va_get (D := (dC, dI)) (ci := 1) (v := .int (mL_3 0 5)) (C := RX1) (T := TX1) (N := 17) hx hb hts iwX1_addSort_X1 hown hK hP 0 rfl rfl 5 (by decide) (hts _ (List.mem_of_getElem? (i := 1) rfl)) (fun _ h9 => h9) rfl dX1_addSort_33 ?_
      refine lv_aload_n hx hb dX1_addSort_36 rfl (lv_at hl 1 rfl) ?_
      refine lv_iconst (v := 1) hx hb dX1_addSort_37 (by decide) ?_
      obtain ⟨hi, hM⟩ := gi_some hM
      refine va_iald hx hb hK hP 10 0 rfl rfl hi dX1_addSort_38 ?_
      obtain ⟨hi, hM⟩ := gi_some hM
      refine st_i (wf := fun z => (wL ct aL z ++ wV ct aV mV)) (m1 := upi mL_3 2 (mL_3 0 5).toNatClampNeg (mV (1 : Int32).toNatClampNeg)) hx hb hK hP hD hS 2 rfl hi dX1_addSort_39 rfl (fun mL_4 emL_4 H locs hP hD hS => ?_)
      have hM := nm_at emL_4 hM
      refine lv_aload_n hx hb dX1_addSort_40 rfl (lv_at hl 0 rfl) ?_
      refine va_get (D := (dC, dI)) (ci := 1) (v := .ref (aL 3)) (C := RX1) (T := TX1) (N := 17) hx hb hts iwX1_addSort_X1 hown hK hP 0 rfl rfl 8 (by decide) (hts _ (List.mem_of_getElem? (i := 4) rfl)) (fun _ h9 => h9) rfl dX1_addSort_41 ?_
      refine lv_aload_n hx hb dX1_addSort_44 rfl (lv_at hl 0 rfl) ?_
      refine va_get (D := (dC, dI)) (ci := 1) (v := .int (mL_4 0 5)) (C := RX1) (T := TX1) (N := 17) hx hb hts iwX1_addSort_X1 hown hK hP 0 rfl rfl 5 (by decide) (hts _ (List.mem_of_getElem? (i := 1) rfl)) (fun _ h9 => h9) rfl dX1_addSort_45 ?_
      refine lv_aload_n hx hb dX1_addSort_48 rfl (lv_at hl 1 rfl) ?_
      refine lv_iconst (v := 2) hx hb dX1_addSort_49 (by decide) ?_
      obtain ⟨hi, hM⟩ := gi_some hM
      refine va_iald hx hb hK hP 10 0 rfl rfl hi dX1_addSort_50 ?_
      obtain ⟨hi, hM⟩ := gi_some hM
      refine st_i (wf := fun z => (wL ct aL z ++ wV ct aV mV)) (m1 := upi mL_4 3 (mL_4 0 5).toNatClampNeg (mV (2 : Int32).toNatClampNeg)) hx hb hK hP hD hS 3 rfl hi dX1_addSort_51 rfl (fun mL_5 emL_5 H locs hP hD hS => ?_)
      have hM := nm_at emL_5 hM
      refine lv_aload_n hx hb dX1_addSort_52 rfl (lv_at hl 0 rfl) ?_
      refine va_get (D := (dC, dI)) (ci := 1) (v := .ref (aL 4)) (C := RX1) (T := TX1) (N := 17) hx hb hts iwX1_addSort_X1 hown hK hP 0 rfl rfl 9 (by decide) (hts _ (List.mem_of_getElem? (i := 5) rfl)) (fun _ h9 => h9) rfl dX1_addSort_53 ?_
      refine lv_aload_n hx hb dX1_addSort_56 rfl (lv_at hl 0 rfl) ?_
      refine va_get (D := (dC, dI)) (ci := 1) (v := .int (mL_5 0 5)) (C := RX1) (T := TX1) (N := 17) hx hb hts iwX1_addSort_X1 hown hK hP 0 rfl rfl 5 (by decide) (hts _ (List.mem_of_getElem? (i := 1) rfl)) (fun _ h9 => h9) rfl dX1_addSort_57 ?_
      refine lv_aload_n hx hb dX1_addSort_60 rfl (lv_at hl 1 rfl) ?_
      refine lv_iconst (v := 3) hx hb dX1_addSort_61 (by decide) ?_
      obtain ⟨hi, hM⟩ := gi_some hM
      refine va_iald hx hb hK hP 10 0 rfl rfl hi dX1_addSort_62 ?_
      obtain ⟨hi, hM⟩ := gi_some hM
      refine st_i (wf := fun z => (wL ct aL z ++ wV ct aV mV)) (m1 := upi mL_5 4 (mL_5 0 5).toNatClampNeg (mV (3 : Int32).toNatClampNeg)) hx hb hK hP hD hS 4 rfl hi dX1_addSort_63 rfl (fun mL_6 emL_6 H locs hP hD hS => ?_)
      have hM := nm_at emL_6 hM
      refine lv_aload_n hx hb dX1_addSort_64 rfl (lv_at hl 0 rfl) ?_
      refine va_get (D := (dC, dI)) (ci := 1) (v := .ref (aL 5)) (C := RX1) (T := TX1) (N := 17) hx hb hts iwX1_addSort_X1 hown hK hP 0 rfl rfl 10 (by decide) (hts _ (List.mem_of_getElem? (i := 6) rfl)) (fun _ h9 => h9) rfl dX1_addSort_65 ?_
      refine lv_aload_n hx hb dX1_addSort_68 rfl (lv_at hl 0 rfl) ?_
      refine va_get (D := (dC, dI)) (ci := 1) (v := .int (mL_6 0 5)) (C := RX1) (T := TX1) (N := 17) hx hb hts iwX1_addSort_X1 hown hK hP 0 rfl rfl 5 (by decide) (hts _ (List.mem_of_getElem? (i := 1) rfl)) (fun _ h9 => h9) rfl dX1_addSort_69 ?_
      refine lv_aload_n hx hb dX1_addSort_72 rfl (lv_at hl 1 rfl) ?_
      refine lv_iconst (v := 4) hx hb dX1_addSort_73 (by decide) ?_
      obtain ⟨hi, hM⟩ := gi_some hM
      refine va_iald hx hb hK hP 10 0 rfl rfl hi dX1_addSort_74 ?_
      obtain ⟨hi, hM⟩ := gi_some hM
      refine st_i (wf := fun z => (wL ct aL z ++ wV ct aV mV)) (m1 := upi mL_6 5 (mL_6 0 5).toNatClampNeg (mV (4 : Int32).toNatClampNeg)) hx hb hK hP hD hS 5 rfl hi dX1_addSort_75 rfl (fun mL_7 emL_7 H locs hP hD hS => ?_)
      have hM := nm_at emL_7 hM
      refine lv_aload_n hx hb dX1_addSort_76 rfl (lv_at hl 0 rfl) ?_
      refine va_get (D := (dC, dI)) (ci := 1) (v := .ref (aL 6)) (C := RX1) (T := TX1) (N := 17) hx hb hts iwX1_addSort_X1 hown hK hP 0 rfl rfl 11 (by decide) (hts _ (List.mem_of_getElem? (i := 7) rfl)) (fun _ h9 => h9) rfl dX1_addSort_77 ?_
      refine lv_aload_n hx hb dX1_addSort_80 rfl (lv_at hl 0 rfl) ?_
      refine va_get (D := (dC, dI)) (ci := 1) (v := .int (mL_7 0 5)) (C := RX1) (T := TX1) (N := 17) hx hb hts iwX1_addSort_X1 hown hK hP 0 rfl rfl 5 (by decide) (hts _ (List.mem_of_getElem? (i := 1) rfl)) (fun _ h9 => h9) rfl dX1_addSort_81 ?_
      refine lv_aload_n hx hb dX1_addSort_84 rfl (lv_at hl 1 rfl) ?_
      refine lv_iconst (v := 5) hx hb dX1_addSort_85 (by decide) ?_
      obtain ⟨hi, hM⟩ := gi_some hM
      refine va_iald hx hb hK hP 10 0 rfl rfl hi dX1_addSort_86 ?_
      obtain ⟨hi, hM⟩ := gi_some hM
      refine st_i (wf := fun z => (wL ct aL z ++ wV ct aV mV)) (m1 := upi mL_7 6 (mL_7 0 5).toNatClampNeg (mV (5 : Int32).toNatClampNeg)) hx hb hK hP hD hS 6 rfl hi dX1_addSort_87 rfl (fun mL_8 emL_8 H locs hP hD hS => ?_)
      have hM := nm_at emL_8 hM
      refine lv_aload_n hx hb dX1_addSort_88 rfl (lv_at hl 0 rfl) ?_
      refine lv_dup hx hb dX1_addSort_89 rfl ?_
      refine va_get (D := (dC, dI)) (ci := 1) (v := .int (mL_8 0 5)) (C := RX1) (T := TX1) (N := 17) hx hb hts iwX1_addSort_X1 hown hK hP 0 rfl rfl 5 (by decide) (hts _ (List.mem_of_getElem? (i := 1) rfl)) (fun _ h9 => h9) rfl dX1_addSort_90 ?_
      refine lv_iconst (v := 1) hx hb dX1_addSort_93 (by decide) ?_
      refine lv_iadd hx hb dX1_addSort_94 ?_
      refine pf_i (wf := fun z => (wL ct aL z ++ wV ct aV mV)) (m1 := upf mL_8 5 ((mL_8 0 5) + (1 : Int32))) hx hb hts iwX1_addSort_X1 tyX1 tyX1_ok nmX1 hown hK hP hD hS 0 rfl rfl 5 (by decide) (hts _ (List.mem_of_getElem? (i := 1) rfl)) (fun _ h9 => h9) rfl rfl rfl (Nat.le_of_ble_eq_true rfl) dX1_addSort_95 rfl (fun mL_9 emL_9 H locs hP hD hS => ?_)
      have hM := nm_at emL_9 hM
      have hR := som hM
      rw [hR] at hQ
      exact ret_v hQ hx hb hr hlocks hP hK hD hS dX1_addSort_98
abbrev rmX5_append : Room := { frames := 0, cells := 0, slots := 0, locals := 0 }
theorem iwX5_append_X5 : ∀ w ∈ wsX50, w ∈ wsX5_append := fun _ h => List.mem_cons_of_mem _ (List.mem_append_right _ (h))
set_option maxHeartbeats 4000000 in
set_option maxRecDepth 100000 in
theorem kX5_append (l : Launch) (dC : Nat → ClassId) (dI : Nat → Nat → Nat) (ct : Nat → ClassId) (aT : Nat → Nat) (sz : Nat) (mT : Mem) (v1 : Int32) (res : Mem) (hM : mX5_append mT v1 = some res) : Met l yX5_append wsX5_append rmX5_append (va_Pc [.ref (aT 0), .int v1] (PB (dC, dI) ct E0 sz (wT ct aT mT))) (Qv (dC, dI) ct (va_A (wT ct aT mT) sz) (wT ct aT res)) 0 0 (va_A (wT ct aT mT) sz) := by
  refine Met.ofW (cc := cX5_append) (maxL := 3) (ret := none) (by decide) rfl ?_
  intro p e s m args below meth c s₁ B hml hv
  obtain ⟨hargs, hsz, hP, hK, hD0, hE⟩ := hv
  have hx := B.exec
  have hb := B.bytes
  have hr := B.returns
  have hts := atoms_spec (ws := wsX5_append) B.pre
  have hown : s.vm.findClass RX5 = some m.cls := findClass_of_methodNamed B.named
  have hlocks := B.notSynchronized
  clear B s₁
  subst hsz
  have hD := hD0.self (sz := s.heap.size)
  clear hD0
  generalize hAe : va_A (wT ct aT mT) s.heap.size = A at hD hE ⊢
  have hA : ∀ q : Nat, s.heap.size ≤ q → A q := fun q h => by rw [← hAe]; exact Or.inr h
  clear hAe
  have hS : va_S A s.heap s.heap [] := va_S.rf
  refine cutQ (fun Q hQ => ?_)
  refine entryW (vs := [.ref (aT 0), .int v1]) hargs (Nat.le_of_ble_eq_true rfl) (fun ls hl => ?_)
  replace hl : lv_has ls 3 [(0, .ref (aT 0)), (1, .int v1)] := hl
  unfold mX5_append at hM
  have N3 : ∀ (v1 : Int32) (v2 : Int32) (mT : Mem), mX5_append_L3 v1 v2 mT = some res → ∀ (H : Heap) (locs : List Loc), va_P (dC, dI) vwCl (wT ct aT mT) H → va_D A (wT ct aT mT) → va_S A s.heap H locs → ∀ ls : Array Slot, lv_has ls 3 [(0, .ref (aT 0)), (1, .int v1), (2, .int v2)] → W p l e (headSpec wsX5_append rmX5_append).room s m args below meth c H locs 0 0 Q (F0 m 3 ls []) := by
    intro v1 v2 mT hM H locs hP hD hS ls hl
    unfold mX5_append_L3 at hM
    obtain ⟨ex3, hit3, hM⟩ := bn_some hM
    have X3_0 : ∀ (mT : Mem), ex3 = mT → ∀ (H : Heap) (locs : List Loc), va_P (dC, dI) vwCl (wT ct aT mT) H → va_D A (wT ct aT mT) → va_S A s.heap H locs → ∀ ls : Array Slot, lv_has ls 3 [] → W p l e (headSpec wsX5_append rmX5_append).room s m args below meth c H locs 0 0 Q (F0 m 46 ls []) := by
      intro mT hex H locs hP hD hS ls hl
      rw [hex] at hM
      have hM := nm_at (y := mT) rfl hM
      have hR := som hM
      rw [hR] at hQ
      exact ret_v hQ hx hb hr hlocks hP hK hD hS dX5_append_46
    have I3 : ∀ (n : Nat) (v2 : Int32) (mT : Mem), itr (fun q => mX5_append_s3 v1 q.1 q.2) n (v2, mT) = some ex3 → ∀ (H : Heap) (locs : List Loc), va_P (dC, dI) vwCl (wT ct aT mT) H → va_D A (wT ct aT mT) → va_S A s.heap H locs → ∀ ls : Array Slot, lv_has ls 3 [(0, .ref (aT 0)), (1, .int v1), (2, .int v2)] → W p l e (headSpec wsX5_append rmX5_append).room s m args below meth c H locs 0 0 Q (F0 m 3 ls []) := by
      intro n
      induction n with
      | zero => intro v2 mT hit; exact (itr_zero hit).elim
      | succ n ih3 =>
        intro v2 mT hit H locs hP hD hS ls hl
        obtain ⟨o3, hM, hbk3, hex3⟩ := itr_succ hit
        replace hM : mX5_append_s3 v1 v2 mT = some o3 := hM
        unfold mX5_append_s3 at hM
        refine lv_iload_n hx hb dX5_append_3 rfl (lv_at hl 2 rfl) ?_
        refine lv_if_lt (tgt := 46) hx hb dX5_append_4 (by decide) (fun hc_1 => ?_) (fun hc_1 => ?_)
        · have hM := it_p hc_1 hM
          have hR := som hM
          exact X3_0 mT (hex3 _ hR).symm _ _ hP hD hS _ (lv_sub hl [] rfl)
        · have hM := it_n hc_1 hM
          refine lv_aload_n hx hb dX5_append_7 rfl (lv_at hl 0 rfl) ?_
          refine va_get (D := (dC, dI)) (ci := 5) (v := .int (mT 0 1)) (C := RX5) (T := TX5) (N := 2) hx hb hts iwX5_append_X5 hown hK hP 0 rfl rfl 1 (by decide) (hts _ (List.mem_of_getElem? (i := 1) rfl)) (fun _ h9 => h9) rfl dX5_append_8 ?_
          refine lv_sipush (v := 500) hx hb dX5_append_11 (by decide) ?_
          refine lv_icmp_ge (tgt := 40) hx hb dX5_append_14 (by decide) (fun hc_2 => ?_) (fun hc_2 => ?_)
          · have hM := it_p hc_2 hM
            obtain ⟨x_3, ex_3⟩ : ∃ y : Int32, y = (v2 + (-8 : Int32)) := ⟨_, rfl⟩
            have hM := nm_at ex_3 hM
            refine lv_iinc (v := x_3) (lv' := [(2, .int x_3), (0, .ref (aT 0)), (1, .int v1)]) hx hb dX5_append_40 hl (k := 2) rfl (by rw [ex_3]; rfl) (by decide) rfl (fun ls hl => ?_)
            refine lv_goto (tgt := 3) hx hb dX5_append_43 (by decide) ?_
            have hR := som hM
            exact ih3 x_3 mT (hbk3 _ hR) _ _ hP hD hS _ (lv_sub hl [1, 2, 0] rfl)
          · have hM := it_n hc_2 hM
            refine lv_aload_n hx hb dX5_append_17 rfl (lv_at hl 0 rfl) ?_
            refine va_get (D := (dC, dI)) (ci := 5) (v := .ref (aT 1)) (C := RX5) (T := TX5) (N := 2) hx hb hts iwX5_append_X5 hown hK hP 0 rfl rfl 0 (by decide) (hts _ (List.mem_of_getElem? (i := 2) rfl)) (fun _ h9 => h9) rfl dX5_append_18 ?_
            refine lv_aload_n hx hb dX5_append_21 rfl (lv_at hl 0 rfl) ?_
            refine va_get (D := (dC, dI)) (ci := 5) (v := .int (mT 0 1)) (C := RX5) (T := TX5) (N := 2) hx hb hts iwX5_append_X5 hown hK hP 0 rfl rfl 1 (by decide) (hts _ (List.mem_of_getElem? (i := 1) rfl)) (fun _ h9 => h9) rfl dX5_append_22 ?_
            refine lv_iload_n hx hb dX5_append_25 rfl (lv_at hl 1 rfl) ?_
            refine lv_iload_n hx hb dX5_append_26 rfl (lv_at hl 2 rfl) ?_
            refine lv_ishr hx hb dX5_append_27 ?_
            refine lv_i2b hx hb dX5_append_28 rfl ?_
            obtain ⟨hi, hM⟩ := gi_some hM
            refine st_b (wf := fun z => (wT ct aT z)) (m1 := upi mT 1 (mT 0 1).toNatClampNeg (vp_nar .byte ((v1 >>> (v2 &&& 31)).toInt8.toInt32))) hx hb hK hP hD hS 1 rfl hi dX5_append_29 rfl (fun mT_4 emT_4 H locs hP hD hS => ?_)
            have hM := nm_at emT_4 hM
            refine lv_aload_n hx hb dX5_append_30 rfl (lv_at hl 0 rfl) ?_
            refine lv_dup hx hb dX5_append_31 rfl ?_
            refine va_get (D := (dC, dI)) (ci := 5) (v := .int (mT_4 0 1)) (C := RX5) (T := TX5) (N := 2) hx hb hts iwX5_append_X5 hown hK hP 0 rfl rfl 1 (by decide) (hts _ (List.mem_of_getElem? (i := 1) rfl)) (fun _ h9 => h9) rfl dX5_append_32 ?_
            refine lv_iconst (v := 1) hx hb dX5_append_35 (by decide) ?_
            refine lv_iadd hx hb dX5_append_36 ?_
            refine pf_i (wf := fun z => (wT ct aT z)) (m1 := upf mT_4 1 ((mT_4 0 1) + (1 : Int32))) hx hb hts iwX5_append_X5 tyX5 tyX5_ok nmX5 hown hK hP hD hS 0 rfl rfl 1 (by decide) (hts _ (List.mem_of_getElem? (i := 1) rfl)) (fun _ h9 => h9) rfl rfl rfl (Nat.le_of_ble_eq_true rfl) dX5_append_37 rfl (fun mT_5 emT_5 H locs hP hD hS => ?_)
            have hM := nm_at emT_5 hM
            obtain ⟨x_6, ex_6⟩ : ∃ y : Int32, y = (v2 + (-8 : Int32)) := ⟨_, rfl⟩
            have hM := nm_at ex_6 hM
            refine lv_iinc (v := x_6) (lv' := [(2, .int x_6), (0, .ref (aT 0)), (1, .int v1)]) hx hb dX5_append_40 hl (k := 2) rfl (by rw [ex_6]; rfl) (by decide) rfl (fun ls hl => ?_)
            refine lv_goto (tgt := 3) hx hb dX5_append_43 (by decide) ?_
            have hR := som hM
            exact ih3 x_6 mT_5 (hbk3 _ hR) _ _ hP hD hS _ (lv_sub hl [1, 2, 0] rfl)
    exact I3 FU v2 mT hit3 _ _ hP hD hS _ hl
  refine lv_bipush (v := 24) hx hb dX5_append_0 (by decide) ?_
  refine lv_istore_n (lv' := [(2, .int (24 : Int32)), (0, .ref (aT 0)), (1, .int v1)]) hx hb dX5_append_2 rfl hl (by decide) rfl (fun ls hl => ?_)
  exact N3 v1 (24 : Int32) mT hM _ _ hP hD hS _ (lv_sub hl [1, 2, 0] rfl)
abbrev rmJ7_fill_53178 : Room := { frames := 0, cells := 0, slots := 0, locals := 0 }
set_option maxHeartbeats 4000000 in
set_option maxRecDepth 100000 in
theorem kJ7_fill_53178 (l : Launch) (dC : Nat → ClassId) (dI : Nat → Nat → Nat) (ct : Nat → ClassId) (aF : Nat → Nat) (sz : Nat) (nF : Nat) (mF : (Nat → Int32)) (v1 : Int32) (res : (Nat → Int32)) (hM : mJ7_fill_53178 nF mF v1 = some res) : Met l yJ7_fill_53178 wsJ7_fill_53178 rmJ7_fill_53178 (va_Pc [.ref (aF 0), .int v1] (PB (dC, dI) ct E0 sz (wF ct aF nF mF))) (Qv (dC, dI) ct (va_A (wF ct aF nF mF) sz) (wF ct aF nF res)) 0 0 (va_A (wF ct aF nF mF) sz) := by
  refine Met.ofW (cc := cJ7_fill_53178) (maxL := 4) (ret := none) (by decide) rfl ?_
  intro p e s m args below meth c s₁ B hml hv
  obtain ⟨hargs, hsz, hP, hK, hD0, hE⟩ := hv
  have hx := B.exec
  have hb := B.bytes
  have hr := B.returns
  have hts := atoms_spec (ws := wsJ7_fill_53178) B.pre
  have hown : s.vm.findClass RJ7 = some m.cls := findClass_of_methodNamed B.named
  have hlocks := B.notSynchronized
  clear B s₁
  subst hsz
  have hD := hD0.self (sz := s.heap.size)
  clear hD0
  generalize hAe : va_A (wF ct aF nF mF) s.heap.size = A at hD hE ⊢
  have hA : ∀ q : Nat, s.heap.size ≤ q → A q := fun q h => by rw [← hAe]; exact Or.inr h
  clear hAe
  have hS : va_S A s.heap s.heap [] := va_S.rf
  refine cutQ (fun Q hQ => ?_)
  refine entryW (vs := [.ref (aF 0), .int v1]) hargs (Nat.le_of_ble_eq_true rfl) (fun ls hl => ?_)
  replace hl : lv_has ls 4 [(0, .ref (aF 0)), (1, .int v1)] := hl
  unfold mJ7_fill_53178 at hM
  have N5 : ∀ (v1 : Int32) (v2 : Int32) (v3 : Int32) (mF : (Nat → Int32)), mJ7_fill_53178_L5 v1 v2 v3 nF mF = some res → ∀ (H : Heap) (locs : List Loc), va_P (dC, dI) vwCl (wF ct aF nF mF) H → va_D A (wF ct aF nF mF) → va_S A s.heap H locs → ∀ ls : Array Slot, lv_has ls 4 [(0, .ref (aF 0)), (1, .int v1), (2, .int v2), (3, .int v3)] → W p l e (headSpec wsJ7_fill_53178 rmJ7_fill_53178).room s m args below meth c H locs 0 0 Q (F0 m 5 ls []) := by
    intro v1 v2 v3 mF hM H locs hP hD hS ls hl
    unfold mJ7_fill_53178_L5 at hM
    obtain ⟨ex5, hit5, hM⟩ := bn_some hM
    have X5_0 : ∀ (mF : (Nat → Int32)), ex5 = mF → ∀ (H : Heap) (locs : List Loc), va_P (dC, dI) vwCl (wF ct aF nF mF) H → va_D A (wF ct aF nF mF) → va_S A s.heap H locs → ∀ ls : Array Slot, lv_has ls 4 [] → W p l e (headSpec wsJ7_fill_53178 rmJ7_fill_53178).room s m args below meth c H locs 0 0 Q (F0 m 20 ls []) := by
      intro mF hex H locs hP hD hS ls hl
      rw [hex] at hM
      have hM := nm_at (y := mF) rfl hM
      have hR := som hM
      rw [hR] at hQ
      exact ret_v hQ hx hb hr hlocks hP hK hD hS dJ7_fill_53178_20
    have I5 : ∀ (n : Nat) (v2 : Int32) (mF : (Nat → Int32)), itr (fun q => mJ7_fill_53178_s5 v1 v3 nF q.1 q.2) n (v2, mF) = some ex5 → ∀ (H : Heap) (locs : List Loc), va_P (dC, dI) vwCl (wF ct aF nF mF) H → va_D A (wF ct aF nF mF) → va_S A s.heap H locs → ∀ ls : Array Slot, lv_has ls 4 [(0, .ref (aF 0)), (1, .int v1), (2, .int v2), (3, .int v3)] → W p l e (headSpec wsJ7_fill_53178 rmJ7_fill_53178).room s m args below meth c H locs 0 0 Q (F0 m 5 ls []) := by
      intro n
      induction n with
      | zero => intro v2 mF hit; exact (itr_zero hit).elim
      | succ n ih5 =>
        intro v2 mF hit H locs hP hD hS ls hl
        obtain ⟨o5, hM, hbk5, hex5⟩ := itr_succ hit
        replace hM : mJ7_fill_53178_s5 v1 v3 nF v2 mF = some o5 := hM
        unfold mJ7_fill_53178_s5 at hM
        refine lv_iload_n hx hb dJ7_fill_53178_5 rfl (lv_at hl 2 rfl) ?_
        refine lv_iload_n hx hb dJ7_fill_53178_6 rfl (lv_at hl 3 rfl) ?_
        refine lv_icmp_ge (tgt := 20) hx hb dJ7_fill_53178_7 (by decide) (fun hc_1 => ?_) (fun hc_1 => ?_)
        · have hM := it_p hc_1 hM
          have hR := som hM
          exact X5_0 mF (hex5 _ hR).symm _ _ hP hD hS _ (lv_sub hl [] rfl)
        · have hM := it_n hc_1 hM
          refine lv_aload_n hx hb dJ7_fill_53178_10 rfl (lv_at hl 0 rfl) ?_
          refine lv_iload_n hx hb dJ7_fill_53178_11 rfl (lv_at hl 2 rfl) ?_
          refine lv_iload_n hx hb dJ7_fill_53178_12 rfl (lv_at hl 1 rfl) ?_
          obtain ⟨hi, hM⟩ := gi_some hM
          refine st_i (wf := fun z => (wF ct aF nF z)) (m1 := upd mF v2.toNatClampNeg v1) hx hb hK hP hD hS 0 rfl hi dJ7_fill_53178_13 rfl (fun mF_2 emF_2 H locs hP hD hS => ?_)
          have hM := nm_at emF_2 hM
          obtain ⟨x_3, ex_3⟩ : ∃ y : Int32, y = (v2 + (1 : Int32)) := ⟨_, rfl⟩
          have hM := nm_at ex_3 hM
          refine lv_iinc (v := x_3) (lv' := [(2, .int x_3), (0, .ref (aF 0)), (1, .int v1), (3, .int v3)]) hx hb dJ7_fill_53178_14 hl (k := 2) rfl (by rw [ex_3]; rfl) (by decide) rfl (fun ls hl => ?_)
          refine lv_goto (tgt := 5) hx hb dJ7_fill_53178_17 (by decide) ?_
          have hR := som hM
          exact ih5 x_3 mF_2 (hbk5 _ hR) _ _ hP hD hS _ (lv_sub hl [1, 2, 0, 3] rfl)
    exact I5 FU v2 mF hit5 _ _ hP hD hS _ hl
  refine lv_iconst (v := 0) hx hb dJ7_fill_53178_0 (by decide) ?_
  refine lv_istore_n (lv' := [(2, .int (0 : Int32)), (0, .ref (aF 0)), (1, .int v1)]) hx hb dJ7_fill_53178_1 rfl hl (by decide) rfl (fun ls hl => ?_)
  refine lv_aload_n hx hb dJ7_fill_53178_2 rfl (lv_at hl 1 rfl) ?_
  refine va_alen (v := Int32.ofNat nF) hx hb hK hP 0 0 rfl rfl rfl dJ7_fill_53178_3 ?_
  refine lv_topi (fun x_4 ex_4 => ?_)
  have hM := nm_at ex_4 hM
  refine lv_istore_n (lv' := [(3, .int x_4), (2, .int (0 : Int32)), (0, .ref (aF 0)), (1, .int v1)]) hx hb dJ7_fill_53178_4 rfl hl (by decide) rfl (fun ls hl => ?_)
  exact N5 v1 (0 : Int32) x_4 mF hM _ _ hP hD hS _ (lv_sub hl [2, 3, 1, 0] rfl)
abbrev rmJ6_bitCount_0f7a4 : Room := { frames := 0, cells := 0, slots := 0, locals := 0 }
set_option maxHeartbeats 4000000 in
set_option maxRecDepth 100000 in
theorem kJ6_bitCount_0f7a4 (l : Launch) (dC : Nat → ClassId) (dI : Nat → Nat → Nat) (ct : Nat → ClassId) (sz : Nat) (v0 : Int32) (res : Int32) (hM : mJ6_bitCount_0f7a4 v0 = some res) : Met l yJ6_bitCount_0f7a4 wsJ6_bitCount_0f7a4 rmJ6_bitCount_0f7a4 (va_Pc [.int v0] (PB (dC, dI) ct E0 sz ([] : va_W))) (Qi (dC, dI) ct (va_A ([] : va_W) sz) res ([] : va_W)) 0 0 (va_A ([] : va_W) sz) := by
  refine Met.ofW (cc := cJ6_bitCount_0f7a4) (maxL := 1) (ret := (some .int)) (by decide) rfl ?_
  intro p e s m args below meth c s₁ B hml hv
  obtain ⟨hargs, hsz, hP, hK, hD0, hE⟩ := hv
  have hx := B.exec
  have hb := B.bytes
  have hr := B.returns
  have hts := atoms_spec (ws := wsJ6_bitCount_0f7a4) B.pre
  have hown : s.vm.findClass RJ6 = some m.cls := findClass_of_methodNamed B.named
  have hlocks := B.notSynchronized
  clear B s₁
  subst hsz
  have hD := hD0.self (sz := s.heap.size)
  clear hD0
  generalize hAe : va_A ([] : va_W) s.heap.size = A at hD hE ⊢
  have hA : ∀ q : Nat, s.heap.size ≤ q → A q := fun q h => by rw [← hAe]; exact Or.inr h
  clear hAe
  have hS : va_S A s.heap s.heap [] := va_S.rf
  refine cutQ (fun Q hQ => ?_)
  refine entryW (vs := [.int v0]) hargs (Nat.le_of_ble_eq_true rfl) (fun ls hl => ?_)
  replace hl : lv_has ls 1 [(0, .int v0)] := hl
  unfold mJ6_bitCount_0f7a4 at hM
  refine lv_iload_n hx hb dJ6_bitCount_0f7a4_0 rfl (lv_at hl 0 rfl) ?_
  refine lv_iload_n hx hb dJ6_bitCount_0f7a4_1 rfl (lv_at hl 0 rfl) ?_
  refine lv_iconst (v := 1) hx hb dJ6_bitCount_0f7a4_2 (by decide) ?_
  refine lv_iushr hx hb dJ6_bitCount_0f7a4_3 rfl ?_
  refine lv_ldcw (v := 1431655765) hx hb hown (hts _ (List.mem_of_getElem? (i := 1) rfl)) dJ6_bitCount_0f7a4_4 ?_
  refine lv_iand hx hb dJ6_bitCount_0f7a4_7 ?_
  refine lv_isub hx hb dJ6_bitCount_0f7a4_8 ?_
  refine lv_topi (fun x_1 ex_1 => ?_)
  have hM := nm_at ex_1 hM
  refine lv_istore_n (lv' := [(0, .int x_1)]) hx hb dJ6_bitCount_0f7a4_9 rfl hl (by decide) rfl (fun ls hl => ?_)
  refine lv_iload_n hx hb dJ6_bitCount_0f7a4_10 rfl (lv_at hl 0 rfl) ?_
  refine lv_ldcw (v := 858993459) hx hb hown (hts _ (List.mem_of_getElem? (i := 2) rfl)) dJ6_bitCount_0f7a4_11 ?_
  refine lv_iand hx hb dJ6_bitCount_0f7a4_14 ?_
  refine lv_iload_n hx hb dJ6_bitCount_0f7a4_15 rfl (lv_at hl 0 rfl) ?_
  refine lv_iconst (v := 2) hx hb dJ6_bitCount_0f7a4_16 (by decide) ?_
  refine lv_iushr hx hb dJ6_bitCount_0f7a4_17 rfl ?_
  refine lv_ldcw (v := 858993459) hx hb hown (hts _ (List.mem_of_getElem? (i := 2) rfl)) dJ6_bitCount_0f7a4_18 ?_
  refine lv_iand hx hb dJ6_bitCount_0f7a4_21 ?_
  refine lv_iadd hx hb dJ6_bitCount_0f7a4_22 ?_
  refine lv_topi (fun x_2 ex_2 => ?_)
  have hM := nm_at ex_2 hM
  refine lv_istore_n (lv' := [(0, .int x_2)]) hx hb dJ6_bitCount_0f7a4_23 rfl hl (by decide) rfl (fun ls hl => ?_)
  refine lv_iload_n hx hb dJ6_bitCount_0f7a4_24 rfl (lv_at hl 0 rfl) ?_
  refine lv_iload_n hx hb dJ6_bitCount_0f7a4_25 rfl (lv_at hl 0 rfl) ?_
  refine lv_iconst (v := 4) hx hb dJ6_bitCount_0f7a4_26 (by decide) ?_
  refine lv_iushr hx hb dJ6_bitCount_0f7a4_27 rfl ?_
  refine lv_iadd hx hb dJ6_bitCount_0f7a4_28 ?_
  refine lv_ldcw (v := 252645135) hx hb hown (hts _ (List.mem_of_getElem? (i := 3) rfl)) dJ6_bitCount_0f7a4_29 ?_
  refine lv_iand hx hb dJ6_bitCount_0f7a4_32 ?_
  refine lv_topi (fun x_3 ex_3 => ?_)
  have hM := nm_at ex_3 hM
  refine lv_istore_n (lv' := [(0, .int x_3)]) hx hb dJ6_bitCount_0f7a4_33 rfl hl (by decide) rfl (fun ls hl => ?_)
  refine lv_iload_n hx hb dJ6_bitCount_0f7a4_34 rfl (lv_at hl 0 rfl) ?_
  refine lv_iload_n hx hb dJ6_bitCount_0f7a4_35 rfl (lv_at hl 0 rfl) ?_
  refine lv_bipush (v := 8) hx hb dJ6_bitCount_0f7a4_36 (by decide) ?_
  refine lv_iushr hx hb dJ6_bitCount_0f7a4_38 rfl ?_
  refine lv_iadd hx hb dJ6_bitCount_0f7a4_39 ?_
  refine lv_topi (fun x_4 ex_4 => ?_)
  have hM := nm_at ex_4 hM
  refine lv_istore_n (lv' := [(0, .int x_4)]) hx hb dJ6_bitCount_0f7a4_40 rfl hl (by decide) rfl (fun ls hl => ?_)
  refine lv_iload_n hx hb dJ6_bitCount_0f7a4_41 rfl (lv_at hl 0 rfl) ?_
  refine lv_iload_n hx hb dJ6_bitCount_0f7a4_42 rfl (lv_at hl 0 rfl) ?_
  refine lv_bipush (v := 16) hx hb dJ6_bitCount_0f7a4_43 (by decide) ?_
  refine lv_iushr hx hb dJ6_bitCount_0f7a4_45 rfl ?_
  refine lv_iadd hx hb dJ6_bitCount_0f7a4_46 ?_
  refine lv_topi (fun x_5 ex_5 => ?_)
  have hM := nm_at ex_5 hM
  refine lv_istore_n (lv' := [(0, .int x_5)]) hx hb dJ6_bitCount_0f7a4_47 rfl hl (by decide) rfl (fun ls hl => ?_)
  refine lv_iload_n hx hb dJ6_bitCount_0f7a4_48 rfl (lv_at hl 0 rfl) ?_
  refine lv_bipush (v := 63) hx hb dJ6_bitCount_0f7a4_49 (by decide) ?_
  refine lv_iand hx hb dJ6_bitCount_0f7a4_51 ?_
  refine lv_topi (fun x_6 ex_6 => ?_)
  have hM := nm_at ex_6 hM
  have hR := som hM
  rw [hR] at hQ
  exact ret_i hQ hx hb hr hlocks hP hK hD hS dJ6_bitCount_0f7a4_52
abbrev rmX3_isLetter : Room := { frames := 0, cells := 0, slots := 0, locals := 0 }
set_option maxHeartbeats 4000000 in
set_option maxRecDepth 100000 in
theorem kX3_isLetter (l : Launch) (dC : Nat → ClassId) (dI : Nat → Nat → Nat) (ct : Nat → ClassId) (sz : Nat) (v0 : Int32) (res : Int32) (hM : mX3_isLetter v0 = some res) : Met l yX3_isLetter wsX3_isLetter rmX3_isLetter (va_Pc [.int v0] (PB (dC, dI) ct E0 sz ([] : va_W))) (Qi (dC, dI) ct (va_A ([] : va_W) sz) res ([] : va_W)) 0 0 (va_A ([] : va_W) sz) := by
  refine Met.ofW (cc := cX3_isLetter) (maxL := 1) (ret := (some .boolean)) (by decide) rfl ?_
  intro p e s m args below meth c s₁ B hml hv
  obtain ⟨hargs, hsz, hP, hK, hD0, hE⟩ := hv
  have hx := B.exec
  have hb := B.bytes
  have hr := B.returns
  have hts := atoms_spec (ws := wsX3_isLetter) B.pre
  have hown : s.vm.findClass RX3 = some m.cls := findClass_of_methodNamed B.named
  have hlocks := B.notSynchronized
  clear B s₁
  subst hsz
  have hD := hD0.self (sz := s.heap.size)
  clear hD0
  generalize hAe : va_A ([] : va_W) s.heap.size = A at hD hE ⊢
  have hA : ∀ q : Nat, s.heap.size ≤ q → A q := fun q h => by rw [← hAe]; exact Or.inr h
  clear hAe
  have hS : va_S A s.heap s.heap [] := va_S.rf
  refine cutQ (fun Q hQ => ?_)
  refine entryW (vs := [.int v0]) hargs (Nat.le_of_ble_eq_true rfl) (fun ls hl => ?_)
  replace hl : lv_has ls 1 [(0, .int v0)] := hl
  unfold mX3_isLetter at hM
  refine lv_iload_n hx hb dX3_isLetter_0 rfl (lv_at hl 0 rfl) ?_
  refine lv_bipush (v := 97) hx hb dX3_isLetter_1 (by decide) ?_
  refine lv_icmp_lt (tgt := 16) hx hb dX3_isLetter_3 (by decide) (fun hc_1 => ?_) (fun hc_1 => ?_)
  · have hM := it_p hc_1 hM
    refine lv_iconst (v := 0) hx hb dX3_isLetter_16 (by decide) ?_
    have hR := som hM
    rw [hR] at hQ
    exact ret_z hQ hx hb hr hlocks rfl hP hK hD hS dX3_isLetter_17
  · have hM := it_n hc_1 hM
    refine lv_iload_n hx hb dX3_isLetter_6 rfl (lv_at hl 0 rfl) ?_
    refine lv_bipush (v := 122) hx hb dX3_isLetter_7 (by decide) ?_
    refine lv_icmp_gt (tgt := 16) hx hb dX3_isLetter_9 (by decide) (fun hc_2 => ?_) (fun hc_2 => ?_)
    · have hM := it_p hc_2 hM
      refine lv_iconst (v := 0) hx hb dX3_isLetter_16 (by decide) ?_
      have hR := som hM
      rw [hR] at hQ
      exact ret_z hQ hx hb hr hlocks rfl hP hK hD hS dX3_isLetter_17
    · have hM := it_n hc_2 hM
      refine lv_iconst (v := 1) hx hb dX3_isLetter_12 (by decide) ?_
      refine lv_goto (tgt := 17) hx hb dX3_isLetter_13 (by decide) ?_
      have hR := som hM
      rw [hR] at hQ
      exact ret_z hQ hx hb hr hlocks rfl hP hK hD hS dX3_isLetter_17
abbrev rmX3_isDigit : Room := { frames := 0, cells := 0, slots := 0, locals := 0 }
set_option maxHeartbeats 4000000 in
set_option maxRecDepth 100000 in
theorem kX3_isDigit (l : Launch) (dC : Nat → ClassId) (dI : Nat → Nat → Nat) (ct : Nat → ClassId) (sz : Nat) (v0 : Int32) (res : Int32) (hM : mX3_isDigit v0 = some res) : Met l yX3_isDigit wsX3_isDigit rmX3_isDigit (va_Pc [.int v0] (PB (dC, dI) ct E0 sz ([] : va_W))) (Qi (dC, dI) ct (va_A ([] : va_W) sz) res ([] : va_W)) 0 0 (va_A ([] : va_W) sz) := by
  refine Met.ofW (cc := cX3_isDigit) (maxL := 1) (ret := (some .boolean)) (by decide) rfl ?_
  intro p e s m args below meth c s₁ B hml hv
  obtain ⟨hargs, hsz, hP, hK, hD0, hE⟩ := hv
  have hx := B.exec
  have hb := B.bytes
  have hr := B.returns
  have hts := atoms_spec (ws := wsX3_isDigit) B.pre
  have hown : s.vm.findClass RX3 = some m.cls := findClass_of_methodNamed B.named
  have hlocks := B.notSynchronized
  clear B s₁
  subst hsz
  have hD := hD0.self (sz := s.heap.size)
  clear hD0
  generalize hAe : va_A ([] : va_W) s.heap.size = A at hD hE ⊢
  have hA : ∀ q : Nat, s.heap.size ≤ q → A q := fun q h => by rw [← hAe]; exact Or.inr h
  clear hAe
  have hS : va_S A s.heap s.heap [] := va_S.rf
  refine cutQ (fun Q hQ => ?_)
  refine entryW (vs := [.int v0]) hargs (Nat.le_of_ble_eq_true rfl) (fun ls hl => ?_)
  replace hl : lv_has ls 1 [(0, .int v0)] := hl
  unfold mX3_isDigit at hM
  refine lv_iload_n hx hb dX3_isDigit_0 rfl (lv_at hl 0 rfl) ?_
  refine lv_bipush (v := 48) hx hb dX3_isDigit_1 (by decide) ?_
  refine lv_icmp_lt (tgt := 16) hx hb dX3_isDigit_3 (by decide) (fun hc_1 => ?_) (fun hc_1 => ?_)
  · have hM := it_p hc_1 hM
    refine lv_iconst (v := 0) hx hb dX3_isDigit_16 (by decide) ?_
    have hR := som hM
    rw [hR] at hQ
    exact ret_z hQ hx hb hr hlocks rfl hP hK hD hS dX3_isDigit_17
  · have hM := it_n hc_1 hM
    refine lv_iload_n hx hb dX3_isDigit_6 rfl (lv_at hl 0 rfl) ?_
    refine lv_bipush (v := 57) hx hb dX3_isDigit_7 (by decide) ?_
    refine lv_icmp_gt (tgt := 16) hx hb dX3_isDigit_9 (by decide) (fun hc_2 => ?_) (fun hc_2 => ?_)
    · have hM := it_p hc_2 hM
      refine lv_iconst (v := 0) hx hb dX3_isDigit_16 (by decide) ?_
      have hR := som hM
      rw [hR] at hQ
      exact ret_z hQ hx hb hr hlocks rfl hP hK hD hS dX3_isDigit_17
    · have hM := it_n hc_2 hM
      refine lv_iconst (v := 1) hx hb dX3_isDigit_12 (by decide) ?_
      refine lv_goto (tgt := 17) hx hb dX3_isDigit_13 (by decide) ?_
      have hR := som hM
      rw [hR] at hQ
      exact ret_z hQ hx hb hr hlocks rfl hP hK hD hS dX3_isDigit_17
abbrev rmX7_isIn : Room := { frames := 0, cells := 0, slots := 0, locals := 0 }
set_option maxHeartbeats 4000000 in
set_option maxRecDepth 100000 in
theorem kX7_isIn (l : Launch) (dC : Nat → ClassId) (dI : Nat → Nat → Nat) (ct : Nat → ClassId) (sz : Nat) (v0 : Int32) (v1 : Int32) (v2 : Int32) (res : Int32) (hM : mX7_isIn v0 v1 v2 = some res) : Met l yX7_isIn wsX7_isIn rmX7_isIn (va_Pc [.int v0, .int v1, .int v2] (PB (dC, dI) ct E0 sz ([] : va_W))) (Qi (dC, dI) ct (va_A ([] : va_W) sz) res ([] : va_W)) 0 0 (va_A ([] : va_W) sz) := by
  refine Met.ofW (cc := cX7_isIn) (maxL := 3) (ret := (some .boolean)) (by decide) rfl ?_
  intro p e s m args below meth c s₁ B hml hv
  obtain ⟨hargs, hsz, hP, hK, hD0, hE⟩ := hv
  have hx := B.exec
  have hb := B.bytes
  have hr := B.returns
  have hts := atoms_spec (ws := wsX7_isIn) B.pre
  have hown : s.vm.findClass RX7 = some m.cls := findClass_of_methodNamed B.named
  have hlocks := B.notSynchronized
  clear B s₁
  subst hsz
  have hD := hD0.self (sz := s.heap.size)
  clear hD0
  generalize hAe : va_A ([] : va_W) s.heap.size = A at hD hE ⊢
  have hA : ∀ q : Nat, s.heap.size ≤ q → A q := fun q h => by rw [← hAe]; exact Or.inr h
  clear hAe
  have hS : va_S A s.heap s.heap [] := va_S.rf
  refine cutQ (fun Q hQ => ?_)
  refine entryW (vs := [.int v0, .int v1, .int v2]) hargs (Nat.le_of_ble_eq_true rfl) (fun ls hl => ?_)
  replace hl : lv_has ls 3 [(0, .int v0), (1, .int v1), (2, .int v2)] := hl
  unfold mX7_isIn at hM
  refine lv_iload_n hx hb dX7_isIn_0 rfl (lv_at hl 0 rfl) ?_
  refine lv_iload_n hx hb dX7_isIn_1 rfl (lv_at hl 1 rfl) ?_
  refine lv_icmp_lt (tgt := 14) hx hb dX7_isIn_2 (by decide) (fun hc_1 => ?_) (fun hc_1 => ?_)
  · have hM := it_p hc_1 hM
    refine lv_iconst (v := 0) hx hb dX7_isIn_14 (by decide) ?_
    have hR := som hM
    rw [hR] at hQ
    exact ret_z hQ hx hb hr hlocks rfl hP hK hD hS dX7_isIn_15
  · have hM := it_n hc_1 hM
    refine lv_iload_n hx hb dX7_isIn_5 rfl (lv_at hl 0 rfl) ?_
    refine lv_iload_n hx hb dX7_isIn_6 rfl (lv_at hl 2 rfl) ?_
    refine lv_icmp_gt (tgt := 14) hx hb dX7_isIn_7 (by decide) (fun hc_2 => ?_) (fun hc_2 => ?_)
    · have hM := it_p hc_2 hM
      refine lv_iconst (v := 0) hx hb dX7_isIn_14 (by decide) ?_
      have hR := som hM
      rw [hR] at hQ
      exact ret_z hQ hx hb hr hlocks rfl hP hK hD hS dX7_isIn_15
    · have hM := it_n hc_2 hM
      refine lv_iconst (v := 1) hx hb dX7_isIn_10 (by decide) ?_
      refine lv_goto (tgt := 15) hx hb dX7_isIn_11 (by decide) ?_
      have hR := som hM
      rw [hR] at hQ
      exact ret_z hQ hx hb hr hlocks rfl hP hK hD hS dX7_isIn_15
abbrev rmX7_isNight : Room := { frames := 1, cells := 0, slots := 0, locals := 22 }
set_option maxHeartbeats 4000000 in
set_option maxRecDepth 100000 in
theorem kX7_isNight (l : Launch) (dC : Nat → ClassId) (dI : Nat → Nat → Nat) (ct : Nat → ClassId) (sz : Nat) (v0 : Int32) (res : Int32) (hM : mX7_isNight v0 = some res) : Met l yX7_isNight wsX7_isNight rmX7_isNight (va_Pc [.int v0] (PB (dC, dI) ct E0 sz ([] : va_W))) (Qi (dC, dI) ct (va_A ([] : va_W) sz) res ([] : va_W)) 0 0 (va_A ([] : va_W) sz) := by
  refine Met.ofW (cc := cX7_isNight) (maxL := 1) (ret := (some .boolean)) (by decide) rfl ?_
  intro p e s m args below meth c s₁ B hml hv
  obtain ⟨hargs, hsz, hP, hK, hD0, hE⟩ := hv
  have hx := B.exec
  have hb := B.bytes
  have hr := B.returns
  have hts := atoms_spec (ws := wsX7_isNight) B.pre
  have hown : s.vm.findClass RX7 = some m.cls := findClass_of_methodNamed B.named
  have hlocks := B.notSynchronized
  clear B s₁
  subst hsz
  have hD := hD0.self (sz := s.heap.size)
  clear hD0
  generalize hAe : va_A ([] : va_W) s.heap.size = A at hD hE ⊢
  have hA : ∀ q : Nat, s.heap.size ≤ q → A q := fun q h => by rw [← hAe]; exact Or.inr h
  clear hAe
  have hS : va_S A s.heap s.heap [] := va_S.rf
  refine cutQ (fun Q hQ => ?_)
  refine entryW (vs := [.int v0]) hargs (Nat.le_of_ble_eq_true rfl) (fun ls hl => ?_)
  replace hl : lv_has ls 1 [(0, .int v0)] := hl
  unfold mX7_isNight at hM
  refine lv_iload_n hx hb dX7_isNight_0 rfl (lv_at hl 0 rfl) ?_
  refine lv_iconst (v := 0) hx hb dX7_isNight_1 (by decide) ?_
  refine lv_sipush (v := 500) hx hb dX7_isNight_2 (by decide) ?_
  obtain ⟨x_1, hr_2, hM⟩ := bn_some hM
  refine gv_i (r0 := x_1) (wn := ([] : va_W)) (va_runS (As := [.int v0, .int (0 : Int32), .int (500 : Int32)]) (rest := []) ⟨hx, hb, hml, hown, hts⟩ (kX7_isIn l dC dI ct _ v0 (0 : Int32) (500 : Int32) _ hr_2) (va_cwS 3 hts gX7_isNight_X7_isIn rfl rfl rfl hvX7_isIn.2 ⟨Nat.le_of_ble_eq_true rfl, Nat.le_of_ble_eq_true rfl⟩) (preS_of E0_ok hK hP hD (is := []) rfl rfl e_0) rfl rfl hl.1 rfl (lv_room (Nat.le_of_ble_eq_true rfl)) dX7_isNight_5 ⟨Nat.le_of_ble_eq_true rfl, Nat.le_of_ble_eq_true rfl⟩) hP hD hS hA [] [] [] rfl rfl rfl (by decide) rfl rfl (fun H locs hP hD hS => ?_)
  obtain ⟨hbz, hM⟩ := gb_some hM
  have hR := som hM
  rw [hR] at hQ
  exact ret_z hQ hx hb hr hlocks hbz hP hK hD hS dX7_isNight_8
abbrev rmX7_asked : Room := { frames := 0, cells := 0, slots := 0, locals := 0 }
set_option maxHeartbeats 4000000 in
set_option maxRecDepth 100000 in
theorem kX7_asked (l : Launch) (dC : Nat → ClassId) (dI : Nat → Nat → Nat) (ct : Nat → ClassId) (sz : Nat) (v0 : Int32) (v1 : Int32) (v2 : Int32) (res : Int32) (hM : mX7_asked v0 v1 v2 = some res) : Met l yX7_asked wsX7_asked rmX7_asked (va_Pc [.int v0, .int v1, .int v2] (PB (dC, dI) ct E0 sz ([] : va_W))) (Qi (dC, dI) ct (va_A ([] : va_W) sz) res ([] : va_W)) 0 0 (va_A ([] : va_W) sz) := by
  refine Met.ofW (cc := cX7_asked) (maxL := 3) (ret := (some .int)) (by decide) rfl ?_
  intro p e s m args below meth c s₁ B hml hv
  obtain ⟨hargs, hsz, hP, hK, hD0, hE⟩ := hv
  have hx := B.exec
  have hb := B.bytes
  have hr := B.returns
  have hts := atoms_spec (ws := wsX7_asked) B.pre
  have hown : s.vm.findClass RX7 = some m.cls := findClass_of_methodNamed B.named
  have hlocks := B.notSynchronized
  clear B s₁
  subst hsz
  have hD := hD0.self (sz := s.heap.size)
  clear hD0
  generalize hAe : va_A ([] : va_W) s.heap.size = A at hD hE ⊢
  have hA : ∀ q : Nat, s.heap.size ≤ q → A q := fun q h => by rw [← hAe]; exact Or.inr h
  clear hAe
  have hS : va_S A s.heap s.heap [] := va_S.rf
  refine cutQ (fun Q hQ => ?_)
  refine entryW (vs := [.int v0, .int v1, .int v2]) hargs (Nat.le_of_ble_eq_true rfl) (fun ls hl => ?_)
  replace hl : lv_has ls 3 [(0, .int v0), (1, .int v1), (2, .int v2)] := hl
  unfold mX7_asked at hM
  refine lv_iload_n hx hb dX7_asked_0 rfl (lv_at hl 1 rfl) ?_
  refine lv_iconst (v := 1) hx hb dX7_asked_1 (by decide) ?_
  refine lv_icmp_ge (tgt := 9) hx hb dX7_asked_2 (by decide) (fun hc_1 => ?_) (fun hc_1 => ?_)
  · have hM := it_p hc_1 hM
    refine lv_iload_n hx hb dX7_asked_9 rfl (lv_at hl 0 rfl) ?_
    refine lv_iload_n hx hb dX7_asked_10 rfl (lv_at hl 1 rfl) ?_
    refine lv_iload_n hx hb dX7_asked_11 rfl (lv_at hl 2 rfl) ?_
    refine lv_isub hx hb dX7_asked_12 ?_
    refine lv_imul hx hb dX7_asked_13 ?_
    refine lv_iload_n hx hb dX7_asked_14 rfl (lv_at hl 1 rfl) ?_
    obtain ⟨hz, hM⟩ := gz_some hM
    refine lv_idiv hx hb dX7_asked_15 hz ?_
    refine lv_topi (fun x_2 ex_2 => ?_)
    have hM := nm_at ex_2 hM
    have hR := som hM
    rw [hR] at hQ
    exact ret_i hQ hx hb hr hlocks hP hK hD hS dX7_asked_16
  · have hM := it_n hc_1 hM
    refine lv_iconst (v := 0) hx hb dX7_asked_5 (by decide) ?_
    refine lv_goto (tgt := 16) hx hb dX7_asked_6 (by decide) ?_
    have hR := som hM
    rw [hR] at hQ
    exact ret_i hQ hx hb hr hlocks hP hK hD hS dX7_asked_16
abbrev rmX7_power : Room := { frames := 0, cells := 0, slots := 0, locals := 0 }
set_option maxHeartbeats 4000000 in
set_option maxRecDepth 100000 in
theorem kX7_power (l : Launch) (dC : Nat → ClassId) (dI : Nat → Nat → Nat) (ct : Nat → ClassId) (sz : Nat) (v0 : Int32) (v1 : Int32) (res : Int64) (hM : mX7_power v0 v1 = some res) : Met l yX7_power wsX7_power rmX7_power (va_Pc [.int v0, .int v1] (PB (dC, dI) ct E0 sz ([] : va_W))) (Ql (dC, dI) ct (va_A ([] : va_W) sz) res ([] : va_W)) 0 0 (va_A ([] : va_W) sz) := by
  refine Met.ofW (cc := cX7_power) (maxL := 5) (ret := (some .long)) (by decide) rfl ?_
  intro p e s m args below meth c s₁ B hml hv
  obtain ⟨hargs, hsz, hP, hK, hD0, hE⟩ := hv
  have hx := B.exec
  have hb := B.bytes
  have hr := B.returns
  have hts := atoms_spec (ws := wsX7_power) B.pre
  have hown : s.vm.findClass RX7 = some m.cls := findClass_of_methodNamed B.named
  have hlocks := B.notSynchronized
  clear B s₁
  subst hsz
  have hD := hD0.self (sz := s.heap.size)
  clear hD0
  generalize hAe : va_A ([] : va_W) s.heap.size = A at hD hE ⊢
  have hA : ∀ q : Nat, s.heap.size ≤ q → A q := fun q h => by rw [← hAe]; exact Or.inr h
  clear hAe
  have hS : va_S A s.heap s.heap [] := va_S.rf
  refine cutQ (fun Q hQ => ?_)
  refine entryW (vs := [.int v0, .int v1]) hargs (Nat.le_of_ble_eq_true rfl) (fun ls hl => ?_)
  replace hl : lv_has ls 5 [(0, .int v0), (1, .int v1)] := hl
  unfold mX7_power at hM
  have N5 : ∀ (v0 : Int32) (v1 : Int32) (v2 : Int64) (v4 : Int32), mX7_power_L5 v0 v1 v2 v4 = some res → ∀ (H : Heap) (locs : List Loc), va_P (dC, dI) vwCl ([] : va_W) H → va_D A ([] : va_W) → va_S A s.heap H locs → ∀ ls : Array Slot, lv_has ls 5 [(0, .int v0), (1, .int v1), (2, .long v2), (4, .int v4)] → W p l e (headSpec wsX7_power rmX7_power).room s m args below meth c H locs 0 0 Q (F0 m 5 ls []) := by
    intro v0 v1 v2 v4 hM H locs hP hD hS ls hl
    unfold mX7_power_L5 at hM
    obtain ⟨ex5, hit5, hM⟩ := bn_some hM
    have X5_0 : ∀ (v2 : Int64), ex5 = v2 → ∀ (H : Heap) (locs : List Loc), va_P (dC, dI) vwCl ([] : va_W) H → va_D A ([] : va_W) → va_S A s.heap H locs → ∀ ls : Array Slot, lv_has ls 5 [(2, .long v2)] → W p l e (headSpec wsX7_power rmX7_power).room s m args below meth c H locs 0 0 Q (F0 m 22 ls []) := by
      intro v2 hex H locs hP hD hS ls hl
      rw [hex] at hM
      have hM := nm_at (y := v2) rfl hM
      refine lv_lload_n hx hb dX7_power_22 rfl (lv_at hl 0 rfl) ?_
      have hR := som hM
      rw [hR] at hQ
      exact ret_l hQ hx hb hr hlocks hP hK hD hS dX7_power_23
    have I5 : ∀ (n : Nat) (v2 : Int64) (v4 : Int32), itr (fun q => mX7_power_s5 v0 v1 q.1 q.2) n (v2, v4) = some ex5 → ∀ (H : Heap) (locs : List Loc), va_P (dC, dI) vwCl ([] : va_W) H → va_D A ([] : va_W) → va_S A s.heap H locs → ∀ ls : Array Slot, lv_has ls 5 [(0, .int v0), (1, .int v1), (2, .long v2), (4, .int v4)] → W p l e (headSpec wsX7_power rmX7_power).room s m args below meth c H locs 0 0 Q (F0 m 5 ls []) := by
      intro n
      induction n with
      | zero => intro v2 v4 hit; exact (itr_zero hit).elim
      | succ n ih5 =>
        intro v2 v4 hit H locs hP hD hS ls hl
        obtain ⟨o5, hM, hbk5, hex5⟩ := itr_succ hit
        replace hM : mX7_power_s5 v0 v1 v2 v4 = some o5 := hM
        unfold mX7_power_s5 at hM
        refine lv_iload hx hb dX7_power_5 (lv_at hl 3 rfl) ?_
        refine lv_iload_n hx hb dX7_power_7 rfl (lv_at hl 1 rfl) ?_
        refine lv_icmp_ge (tgt := 22) hx hb dX7_power_8 (by decide) (fun hc_1 => ?_) (fun hc_1 => ?_)
        · have hM := it_p hc_1 hM
          have hR := som hM
          exact X5_0 v2 (hex5 _ hR).symm _ _ hP hD hS _ (lv_sub hl [2] rfl)
        · have hM := it_n hc_1 hM
          refine lv_lload_n hx hb dX7_power_11 rfl (lv_at hl 2 rfl) ?_
          refine lv_iload_n hx hb dX7_power_12 rfl (lv_at hl 0 rfl) ?_
          refine lv_i2l hx hb dX7_power_13 rfl ?_
          refine lv_lmul hx hb dX7_power_14 ?_
          refine lv_topl (fun x_2 ex_2 => ?_)
          have hM := nm_at ex_2 hM
          refine lv_lstore_n (lv' := [(2, .long x_2), (0, .int v0), (1, .int v1), (4, .int v4)]) hx hb dX7_power_15 rfl hl (by decide) rfl (fun ls hl => ?_)
          obtain ⟨x_3, ex_3⟩ : ∃ y : Int32, y = (v4 + (1 : Int32)) := ⟨_, rfl⟩
          have hM := nm_at ex_3 hM
          refine lv_iinc (v := x_3) (lv' := [(4, .int x_3), (2, .long x_2), (0, .int v0), (1, .int v1)]) hx hb dX7_power_16 hl (k := 3) rfl (by rw [ex_3]; rfl) (by decide) rfl (fun ls hl => ?_)
          refine lv_goto (tgt := 5) hx hb dX7_power_19 (by decide) ?_
          have hR := som hM
          exact ih5 x_2 x_3 (hbk5 _ hR) _ _ hP hD hS _ (lv_sub hl [2, 3, 1, 0] rfl)
    exact I5 FU v2 v4 hit5 _ _ hP hD hS _ hl
  refine lv_lconst (v := 1) hx hb dX7_power_0 (by decide) ?_
  refine lv_lstore_n (lv' := [(2, .long (1 : Int64)), (0, .int v0), (1, .int v1)]) hx hb dX7_power_1 rfl hl (by decide) rfl (fun ls hl => ?_)
  refine lv_iconst (v := 0) hx hb dX7_power_2 (by decide) ?_
  refine lv_istore (lv' := [(4, .int (0 : Int32)), (2, .long (1 : Int64)), (0, .int v0), (1, .int v1)]) hx hb dX7_power_3 hl (by decide) rfl (fun ls hl => ?_)
  exact N5 v0 v1 (1 : Int64) (0 : Int32) hM _ _ hP hD hS _ (lv_sub hl [2, 3, 1, 0] rfl)
abbrev rmX7_choices : Room := { frames := 0, cells := 0, slots := 0, locals := 0 }
set_option maxHeartbeats 4000000 in
set_option maxRecDepth 100000 in
theorem kX7_choices (l : Launch) (dC : Nat → ClassId) (dI : Nat → Nat → Nat) (ct : Nat → ClassId) (sz : Nat) (v0 : Int32) (v1 : Int32) (res : Int64) (hM : mX7_choices v0 v1 = some res) : Met l yX7_choices wsX7_choices rmX7_choices (va_Pc [.int v0, .int v1] (PB (dC, dI) ct E0 sz ([] : va_W))) (Ql (dC, dI) ct (va_A ([] : va_W) sz) res ([] : va_W)) 0 0 (va_A ([] : va_W) sz) := by
  refine Met.ofW (cc := cX7_choices) (maxL := 5) (ret := (some .long)) (by decide) rfl ?_
  intro p e s m args below meth c s₁ B hml hv
  obtain ⟨hargs, hsz, hP, hK, hD0, hE⟩ := hv
  have hx := B.exec
  have hb := B.bytes
  have hr := B.returns
  have hts := atoms_spec (ws := wsX7_choices) B.pre
  have hown : s.vm.findClass RX7 = some m.cls := findClass_of_methodNamed B.named
  have hlocks := B.notSynchronized
  clear B s₁
  subst hsz
  have hD := hD0.self (sz := s.heap.size)
  clear hD0
  generalize hAe : va_A ([] : va_W) s.heap.size = A at hD hE ⊢
  have hA : ∀ q : Nat, s.heap.size ≤ q → A q := fun q h => by rw [← hAe]; exact Or.inr h
  clear hAe
  have hS : va_S A s.heap s.heap [] := va_S.rf
  refine cutQ (fun Q hQ => ?_)
  refine entryW (vs := [.int v0, .int v1]) hargs (Nat.le_of_ble_eq_true rfl) (fun ls hl => ?_)
  replace hl : lv_has ls 5 [(0, .int v0), (1, .int v1)] := hl
  unfold mX7_choices at hM
  have N5 : ∀ (v0 : Int32) (v1 : Int32) (v2 : Int64) (v4 : Int32), mX7_choices_L5 v0 v1 v2 v4 = some res → ∀ (H : Heap) (locs : List Loc), va_P (dC, dI) vwCl ([] : va_W) H → va_D A ([] : va_W) → va_S A s.heap H locs → ∀ ls : Array Slot, lv_has ls 5 [(0, .int v0), (1, .int v1), (2, .long v2), (4, .int v4)] → W p l e (headSpec wsX7_choices rmX7_choices).room s m args below meth c H locs 0 0 Q (F0 m 5 ls []) := by
    intro v0 v1 v2 v4 hM H locs hP hD hS ls hl
    unfold mX7_choices_L5 at hM
    obtain ⟨ex5, hit5, hM⟩ := bn_some hM
    have X5_0 : ∀ (v2 : Int64), ex5 = v2 → ∀ (H : Heap) (locs : List Loc), va_P (dC, dI) vwCl ([] : va_W) H → va_D A ([] : va_W) → va_S A s.heap H locs → ∀ ls : Array Slot, lv_has ls 5 [(2, .long v2)] → W p l e (headSpec wsX7_choices rmX7_choices).room s m args below meth c H locs 0 0 Q (F0 m 31 ls []) := by
      intro v2 hex H locs hP hD hS ls hl
      rw [hex] at hM
      have hM := nm_at (y := v2) rfl hM
      refine lv_lload_n hx hb dX7_choices_31 rfl (lv_at hl 0 rfl) ?_
      have hR := som hM
      rw [hR] at hQ
      exact ret_l hQ hx hb hr hlocks hP hK hD hS dX7_choices_32
    have I5 : ∀ (n : Nat) (v2 : Int64) (v4 : Int32), itr (fun q => mX7_choices_s5 v0 v1 q.1 q.2) n (v2, v4) = some ex5 → ∀ (H : Heap) (locs : List Loc), va_P (dC, dI) vwCl ([] : va_W) H → va_D A ([] : va_W) → va_S A s.heap H locs → ∀ ls : Array Slot, lv_has ls 5 [(0, .int v0), (1, .int v1), (2, .long v2), (4, .int v4)] → W p l e (headSpec wsX7_choices rmX7_choices).room s m args below meth c H locs 0 0 Q (F0 m 5 ls []) := by
      intro n
      induction n with
      | zero => intro v2 v4 hit; exact (itr_zero hit).elim
      | succ n ih5 =>
        intro v2 v4 hit H locs hP hD hS ls hl
        obtain ⟨o5, hM, hbk5, hex5⟩ := itr_succ hit
        replace hM : mX7_choices_s5 v0 v1 v2 v4 = some o5 := hM
        unfold mX7_choices_s5 at hM
        refine lv_iload hx hb dX7_choices_5 (lv_at hl 3 rfl) ?_
        refine lv_iload_n hx hb dX7_choices_7 rfl (lv_at hl 1 rfl) ?_
        refine lv_icmp_gt (tgt := 31) hx hb dX7_choices_8 (by decide) (fun hc_1 => ?_) (fun hc_1 => ?_)
        · have hM := it_p hc_1 hM
          have hR := som hM
          exact X5_0 v2 (hex5 _ hR).symm _ _ hP hD hS _ (lv_sub hl [2] rfl)
        · have hM := it_n hc_1 hM
          refine lv_lload_n hx hb dX7_choices_11 rfl (lv_at hl 2 rfl) ?_
          refine lv_iload_n hx hb dX7_choices_12 rfl (lv_at hl 0 rfl) ?_
          refine lv_iload_n hx hb dX7_choices_13 rfl (lv_at hl 1 rfl) ?_
          refine lv_isub hx hb dX7_choices_14 ?_
          refine lv_iload hx hb dX7_choices_15 (lv_at hl 3 rfl) ?_
          refine lv_iadd hx hb dX7_choices_17 ?_
          refine lv_i2l hx hb dX7_choices_18 rfl ?_
          refine lv_lmul hx hb dX7_choices_19 ?_
          refine lv_iload hx hb dX7_choices_20 (lv_at hl 3 rfl) ?_
          refine lv_i2l hx hb dX7_choices_22 rfl ?_
          obtain ⟨hz, hM⟩ := gzl_some hM
          refine lv_ldiv hx hb dX7_choices_23 hz ?_
          refine lv_topl (fun x_2 ex_2 => ?_)
          have hM := nm_at ex_2 hM
          refine lv_lstore_n (lv' := [(2, .long x_2), (0, .int v0), (1, .int v1), (4, .int v4)]) hx hb dX7_choices_24 rfl hl (by decide) rfl (fun ls hl => ?_)
          obtain ⟨x_3, ex_3⟩ : ∃ y : Int32, y = (v4 + (1 : Int32)) := ⟨_, rfl⟩
          have hM := nm_at ex_3 hM
          refine lv_iinc (v := x_3) (lv' := [(4, .int x_3), (2, .long x_2), (0, .int v0), (1, .int v1)]) hx hb dX7_choices_25 hl (k := 3) rfl (by rw [ex_3]; rfl) (by decide) rfl (fun ls hl => ?_)
          refine lv_goto (tgt := 5) hx hb dX7_choices_28 (by decide) ?_
          have hR := som hM
          exact ih5 x_2 x_3 (hbk5 _ hR) _ _ hP hD hS _ (lv_sub hl [2, 3, 1, 0] rfl)
    exact I5 FU v2 v4 hit5 _ _ hP hD hS _ hl
  refine lv_lconst (v := 1) hx hb dX7_choices_0 (by decide) ?_
  refine lv_lstore_n (lv' := [(2, .long (1 : Int64)), (0, .int v0), (1, .int v1)]) hx hb dX7_choices_1 rfl hl (by decide) rfl (fun ls hl => ?_)
  refine lv_iconst (v := 1) hx hb dX7_choices_2 (by decide) ?_
  refine lv_istore (lv' := [(4, .int (1 : Int32)), (2, .long (1 : Int64)), (0, .int v0), (1, .int v1)]) hx hb dX7_choices_3 hl (by decide) rfl (fun ls hl => ?_)
  exact N5 v0 v1 (1 : Int64) (1 : Int32) hM _ _ hP hD hS _ (lv_sub hl [2, 3, 1, 0] rfl)
