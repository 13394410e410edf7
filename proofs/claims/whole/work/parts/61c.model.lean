abbrev rmX8_isGain : Room := { frames := 1, cells := 0, slots := 0, locals := 22 }
set_option maxHeartbeats 4000000 in
set_option maxRecDepth 100000 in
theorem kX8_isGain (l : Launch) (dC : Nat → ClassId) (dI : Nat → Nat → Nat) (ct : Nat → ClassId) (sz : Nat) (v0 : Int32) (v1 : Int32) (res : Int32) (hM : mX8_isGain v0 v1 = some res) : Met l yX8_isGain wsX8_isGain rmX8_isGain (va_Pc [.int v0, .int v1] (PB (dC, dI) ct E0 sz ([] : va_W))) (Qi (dC, dI) ct (va_A ([] : va_W) sz) res ([] : va_W)) 0 0 (va_A ([] : va_W) sz) := by
  refine Met.ofW (cc := cX8_isGain) (maxL := 2) (ret := (some .boolean)) (by decide) rfl ?_
  intro p e s m args below meth c s₁ B hml hv
  obtain ⟨hargs, hsz, hP, hK, hD0, hE⟩ := hv
  have hx := B.exec
  have hb := B.bytes
  have hr := B.returns
  have hts := atoms_spec (ws := wsX8_isGain) B.pre
  have hown : s.vm.findClass RX8 = some m.cls := findClass_of_methodNamed B.named
  have hlocks := B.notSynchronized
  clear B s₁
  subst hsz
  have hD := hD0.self (sz := s.heap.size)
  clear hD0
  generalize hAe : va_A ([] : va_W) s.heap.size = A at hD hE ⊢
  have hA : ∀ q : Nat, s.heap.size ≤ q → A q := fun q h => by rw [← hAe]; exact Or.inr h
  clear hAe
  have hS : va_S A s.heap s.heap [] := va_S.rf
  refine cutQ (fun Q hQ => ?_)
  refine entryW (vs := [.int v0, .int v1]) hargs (Nat.le_of_ble_eq_true rfl) (fun ls hl => ?_)
  replace hl : lv_has ls 2 [(0, .int v0), (1, .int v1)] := hl
  unfold mX8_isGain at hM
  refine lv_iload_n hx hb dX8_isGain_0 rfl (lv_at hl 0 rfl) ?_
  refine lv_iconst (v := 0) hx hb dX8_isGain_1 (by decide) ?_
  refine lv_sipush (v := 999) hx hb dX8_isGain_2 (by decide) ?_
  obtain ⟨x_1, hr_2, hM⟩ := bn_some hM
  refine gv_i (r0 := x_1) (wn := ([] : va_W)) (va_runS (As := [.int v0, .int (0 : Int32), .int (999 : Int32)]) (rest := []) ⟨hx, hb, hml, hown, hts⟩ (kX8_in l dC dI ct _ v0 (0 : Int32) (999 : Int32) _ hr_2) (va_cwS 3 hts gX8_isGain_X8_in rfl rfl rfl hvX8_in.2 ⟨Nat.le_of_ble_eq_true rfl, Nat.le_of_ble_eq_true rfl⟩) (preS_of E0_ok hK hP hD (is := []) rfl rfl e_0) rfl rfl hl.1 rfl (lv_room (Nat.le_of_ble_eq_true rfl)) dX8_isGain_5 ⟨Nat.le_of_ble_eq_true rfl, Nat.le_of_ble_eq_true rfl⟩) hP hD hS hA [] [] [] rfl rfl rfl (by decide) rfl rfl (fun H locs hP hD hS => ?_)
  refine lv_if_eq (tgt := 25) hx hb dX8_isGain_8 (by decide) (fun hc_4 => ?_) (fun hc_4 => ?_)
  · have hM := it_p hc_4 hM
    refine lv_iconst (v := 0) hx hb dX8_isGain_25 (by decide) ?_
    have hR := som hM
    rw [hR] at hQ
    exact ret_z hQ hx hb hr hlocks rfl hP hK hD hS dX8_isGain_26
  · have hM := it_n hc_4 hM
    refine lv_iload_n hx hb dX8_isGain_11 rfl (lv_at hl 1 rfl) ?_
    refine lv_iconst (v := 0) hx hb dX8_isGain_12 (by decide) ?_
    refine lv_bipush (v := 15) hx hb dX8_isGain_13 (by decide) ?_
    obtain ⟨x_5, hr_6, hM⟩ := bn_some hM
    refine gv_i (r0 := x_5) (wn := ([] : va_W)) (va_runS (As := [.int v1, .int (0 : Int32), .int (15 : Int32)]) (rest := []) ⟨hx, hb, hml, hown, hts⟩ (kX8_in l dC dI ct _ v1 (0 : Int32) (15 : Int32) _ hr_6) (va_cwS 3 hts gX8_isGain_X8_in rfl rfl rfl hvX8_in.2 ⟨Nat.le_of_ble_eq_true rfl, Nat.le_of_ble_eq_true rfl⟩) (preS_of E0_ok hK hP hD (is := []) rfl rfl e_0) rfl rfl hl.1 rfl (lv_room (Nat.le_of_ble_eq_true rfl)) dX8_isGain_15 ⟨Nat.le_of_ble_eq_true rfl, Nat.le_of_ble_eq_true rfl⟩) hP hD hS hA [] [] [] rfl rfl rfl (by decide) rfl rfl (fun H locs hP hD hS => ?_)
    refine lv_if_eq (tgt := 25) hx hb dX8_isGain_18 (by decide) (fun hc_8 => ?_) (fun hc_8 => ?_)
    · have hM := it_p hc_8 hM
      refine lv_iconst (v := 0) hx hb dX8_isGain_25 (by decide) ?_
      have hR := som hM
      rw [hR] at hQ
      exact ret_z hQ hx hb hr hlocks rfl hP hK hD hS dX8_isGain_26
    · have hM := it_n hc_8 hM
      refine lv_iconst (v := 1) hx hb dX8_isGain_21 (by decide) ?_
      refine lv_goto (tgt := 26) hx hb dX8_isGain_22 (by decide) ?_
      have hR := som hM
      rw [hR] at hQ
      exact ret_z hQ hx hb hr hlocks rfl hP hK hD hS dX8_isGain_26
abbrev rmX8_ones : Room := { frames := 0, cells := 0, slots := 0, locals := 0 }
set_option maxHeartbeats 4000000 in
set_option maxRecDepth 100000 in
theorem kX8_ones (l : Launch) (dC : Nat → ClassId) (dI : Nat → Nat → Nat) (ct : Nat → ClassId) (sz : Nat) (v0 : Int32) (res : Int32) (hM : mX8_ones v0 = some res) : Met l yX8_ones wsX8_ones rmX8_ones (va_Pc [.int v0] (PB (dC, dI) ct E0 sz ([] : va_W))) (Qi (dC, dI) ct (va_A ([] : va_W) sz) res ([] : va_W)) 0 0 (va_A ([] : va_W) sz) := by
  refine Met.ofW (cc := cX8_ones) (maxL := 3) (ret := (some .int)) (by decide) rfl ?_
  intro p e s m args below meth c s₁ B hml hv
  obtain ⟨hargs, hsz, hP, hK, hD0, hE⟩ := hv
  have hx := B.exec
  have hb := B.bytes
  have hr := B.returns
  have hts := atoms_spec (ws := wsX8_ones) B.pre
  have hown : s.vm.findClass RX8 = some m.cls := findClass_of_methodNamed B.named
  have hlocks := B.notSynchronized
  clear B s₁
  subst hsz
  have hD := hD0.self (sz := s.heap.size)
  clear hD0
  generalize hAe : va_A ([] : va_W) s.heap.size = A at hD hE ⊢
  have hA : ∀ q : Nat, s.heap.size ≤ q → A q := fun q h => by rw [← hAe]; exact Or.inr h
  clear hAe
  have hS : va_S A s.heap s.heap [] := va_S.rf
  refine cutQ (fun Q hQ => ?_)
  refine entryW (vs := [.int v0]) hargs (Nat.le_of_ble_eq_true rfl) (fun ls hl => ?_)
  replace hl : lv_has ls 3 [(0, .int v0)] := hl
  unfold mX8_ones at hM
  have N4 : ∀ (v0 : Int32) (v1 : Int32) (v2 : Int32), mX8_ones_L4 v0 v1 v2 = some res → ∀ (H : Heap) (locs : List Loc), va_P (dC, dI) vwCl ([] : va_W) H → va_D A ([] : va_W) → va_S A s.heap H locs → ∀ ls : Array Slot, lv_has ls 3 [(0, .int v0), (1, .int v1), (2, .int v2)] → W p l e (headSpec wsX8_ones rmX8_ones).room s m args below meth c H locs 0 0 Q (F0 m 4 ls []) := by
    intro v0 v1 v2 hM H locs hP hD hS ls hl
    unfold mX8_ones_L4 at hM
    obtain ⟨ex4, hit4, hM⟩ := bn_some hM
    have X4_0 : ∀ (v1 : Int32), ex4 = v1 → ∀ (H : Heap) (locs : List Loc), va_P (dC, dI) vwCl ([] : va_W) H → va_D A ([] : va_W) → va_S A s.heap H locs → ∀ ls : Array Slot, lv_has ls 3 [(1, .int v1)] → W p l e (headSpec wsX8_ones rmX8_ones).room s m args below meth c H locs 0 0 Q (F0 m 23 ls []) := by
      intro v1 hex H locs hP hD hS ls hl
      rw [hex] at hM
      have hM := nm_at (y := v1) rfl hM
      refine lv_iload_n hx hb dX8_ones_23 rfl (lv_at hl 0 rfl) ?_
      have hR := som hM
      rw [hR] at hQ
      exact ret_i hQ hx hb hr hlocks hP hK hD hS dX8_ones_24
    have I4 : ∀ (n : Nat) (v1 : Int32) (v2 : Int32), itr (fun q => mX8_ones_s4 v0 q.1 q.2) n (v1, v2) = some ex4 → ∀ (H : Heap) (locs : List Loc), va_P (dC, dI) vwCl ([] : va_W) H → va_D A ([] : va_W) → va_S A s.heap H locs → ∀ ls : Array Slot, lv_has ls 3 [(0, .int v0), (1, .int v1), (2, .int v2)] → W p l e (headSpec wsX8_ones rmX8_ones).room s m args below meth c H locs 0 0 Q (F0 m 4 ls []) := by
      intro n
      induction n with
      | zero => intro v1 v2 hit; exact (itr_zero hit).elim
      | succ n ih4 =>
        intro v1 v2 hit H locs hP hD hS ls hl
        obtain ⟨o4, hM, hbk4, hex4⟩ := itr_succ hit
        replace hM : mX8_ones_s4 v0 v1 v2 = some o4 := hM
        unfold mX8_ones_s4 at hM
        refine lv_iload_n hx hb dX8_ones_4 rfl (lv_at hl 2 rfl) ?_
        refine lv_iconst (v := 5) hx hb dX8_ones_5 (by decide) ?_
        refine lv_icmp_ge (tgt := 23) hx hb dX8_ones_6 (by decide) (fun hc_1 => ?_) (fun hc_1 => ?_)
        · have hM := it_p hc_1 hM
          have hR := som hM
          exact X4_0 v1 (hex4 _ hR).symm _ _ hP hD hS _ (lv_sub hl [1] rfl)
        · have hM := it_n hc_1 hM
          refine lv_iload_n hx hb dX8_ones_9 rfl (lv_at hl 1 rfl) ?_
          refine lv_iload_n hx hb dX8_ones_10 rfl (lv_at hl 0 rfl) ?_
          refine lv_iload_n hx hb dX8_ones_11 rfl (lv_at hl 2 rfl) ?_
          refine lv_ishr hx hb dX8_ones_12 ?_
          refine lv_iconst (v := 1) hx hb dX8_ones_13 (by decide) ?_
          refine lv_iand hx hb dX8_ones_14 ?_
          refine lv_iadd hx hb dX8_ones_15 ?_
          refine lv_topi (fun x_2 ex_2 => ?_)
          have hM := nm_at ex_2 hM
          refine lv_istore_n (lv' := [(1, .int x_2), (0, .int v0), (2, .int v2)]) hx hb dX8_ones_16 rfl hl (by decide) rfl (fun ls hl => ?_)
          obtain ⟨x_3, ex_3⟩ : ∃ y : Int32, y = (v2 + (1 : Int32)) := ⟨_, rfl⟩
          have hM := nm_at ex_3 hM
          refine lv_iinc (v := x_3) (lv' := [(2, .int x_3), (1, .int x_2), (0, .int v0)]) hx hb dX8_ones_17 hl (k := 2) rfl (by rw [ex_3]; rfl) (by decide) rfl (fun ls hl => ?_)
          refine lv_goto (tgt := 4) hx hb dX8_ones_20 (by decide) ?_
          have hR := som hM
          exact ih4 x_2 x_3 (hbk4 _ hR) _ _ hP hD hS _ (lv_sub hl [2, 1, 0] rfl)
    exact I4 FU v1 v2 hit4 _ _ hP hD hS _ hl
  refine lv_iconst (v := 0) hx hb dX8_ones_0 (by decide) ?_
  refine lv_istore_n (lv' := [(1, .int (0 : Int32)), (0, .int v0)]) hx hb dX8_ones_1 rfl hl (by decide) rfl (fun ls hl => ?_)
  refine lv_iconst (v := 0) hx hb dX8_ones_2 (by decide) ?_
  refine lv_istore_n (lv' := [(2, .int (0 : Int32)), (1, .int (0 : Int32)), (0, .int v0)]) hx hb dX8_ones_3 rfl hl (by decide) rfl (fun ls hl => ?_)
  exact N4 v0 (0 : Int32) (0 : Int32) hM _ _ hP hD hS _ (lv_sub hl [2, 1, 0] rfl)
abbrev rmX8_partOf : Room := { frames := 0, cells := 0, slots := 0, locals := 0 }
set_option maxHeartbeats 4000000 in
set_option maxRecDepth 100000 in
theorem kX8_partOf (l : Launch) (dC : Nat → ClassId) (dI : Nat → Nat → Nat) (ct : Nat → ClassId) (sz : Nat) (v0 : Int32) (v1 : Int32) (v2 : Int32) (res : Int32) (hM : mX8_partOf v0 v1 v2 = some res) : Met l yX8_partOf wsX8_partOf rmX8_partOf (va_Pc [.int v0, .int v1, .int v2] (PB (dC, dI) ct E0 sz ([] : va_W))) (Qi (dC, dI) ct (va_A ([] : va_W) sz) res ([] : va_W)) 0 0 (va_A ([] : va_W) sz) := by
  refine Met.ofW (cc := cX8_partOf) (maxL := 3) (ret := (some .int)) (by decide) rfl ?_
  intro p e s m args below meth c s₁ B hml hv
  obtain ⟨hargs, hsz, hP, hK, hD0, hE⟩ := hv
  have hx := B.exec
  have hb := B.bytes
  have hr := B.returns
  have hts := atoms_spec (ws := wsX8_partOf) B.pre
  have hown : s.vm.findClass RX8 = some m.cls := findClass_of_methodNamed B.named
  have hlocks := B.notSynchronized
  clear B s₁
  subst hsz
  have hD := hD0.self (sz := s.heap.size)
  clear hD0
  generalize hAe : va_A ([] : va_W) s.heap.size = A at hD hE ⊢
  have hA : ∀ q : Nat, s.heap.size ≤ q → A q := fun q h => by rw [← hAe]; exact Or.inr h
  clear hAe
  have hS : va_S A s.heap s.heap [] := va_S.rf
  refine cutQ (fun Q hQ => ?_)
  refine entryW (vs := [.int v0, .int v1, .int v2]) hargs (Nat.le_of_ble_eq_true rfl) (fun ls hl => ?_)
  replace hl : lv_has ls 3 [(0, .int v0), (1, .int v1), (2, .int v2)] := hl
  unfold mX8_partOf at hM
  refine lv_iload_n hx hb dX8_partOf_0 rfl (lv_at hl 0 rfl) ?_
  refine lv_iload_n hx hb dX8_partOf_1 rfl (lv_at hl 1 rfl) ?_
  refine lv_iload_n hx hb dX8_partOf_2 rfl (lv_at hl 2 rfl) ?_
  refine lv_isub hx hb dX8_partOf_3 ?_
  refine lv_imul hx hb dX8_partOf_4 ?_
  refine lv_iload_n hx hb dX8_partOf_5 rfl (lv_at hl 1 rfl) ?_
  obtain ⟨hz, hM⟩ := gz_some hM
  refine lv_idiv hx hb dX8_partOf_6 hz ?_
  refine lv_topi (fun x_1 ex_1 => ?_)
  have hM := nm_at ex_1 hM
  have hR := som hM
  rw [hR] at hQ
  exact ret_i hQ hx hb hr hlocks hP hK hD hS dX8_partOf_7
abbrev rmX8_entry : Room := { frames := 3, cells := 0, slots := 0, locals := 67 }
theorem iwX8_entry_X8 : ∀ w ∈ wsX80, w ∈ wsX8_entry := fun _ h => List.mem_cons_of_mem _ (List.mem_append_right _ (h))
set_option maxHeartbeats 4000000 in
set_option maxRecDepth 100000 in
theorem kX8_entry (l : Launch) (dC : Nat → ClassId) (dI : Nat → Nat → Nat) (ct : Nat → ClassId) (aO : Nat → Nat) (sz : Nat) (mO : Mem) (mO64 : Lem) (v1 : Int32) (v2 : Int32) (v3 : Int32) (res : (Int32 × Mem)) (hM : mX8_entry mO mO64 v1 v2 v3 = some res) : Met l yX8_entry wsX8_entry rmX8_entry (va_Pc [.ref (aO 0), .int v1, .int v2, .int v3] (PB (dC, dI) ct E0 sz (wO ct aO mO mO64))) (Qi (dC, dI) ct (va_A (wO ct aO mO mO64) sz) res.1 (wO ct aO res.2 mO64)) 0 0 (va_A (wO ct aO mO mO64) sz) := by
  refine Met.ofW (cc := cX8_entry) (maxL := 5) (ret := (some .int)) (by decide) rfl ?_
  intro p e s m args below meth c s₁ B hml hv
  obtain ⟨hargs, hsz, hP, hK, hD0, hE⟩ := hv
  have hx := B.exec
  have hb := B.bytes
  have hr := B.returns
  have hts := atoms_spec (ws := wsX8_entry) B.pre
  have hown : s.vm.findClass RX8 = some m.cls := findClass_of_methodNamed B.named
  have hlocks := B.notSynchronized
  clear B s₁
  subst hsz
  have hD := hD0.self (sz := s.heap.size)
  clear hD0
  generalize hAe : va_A (wO ct aO mO mO64) s.heap.size = A at hD hE ⊢
  have hA : ∀ q : Nat, s.heap.size ≤ q → A q := fun q h => by rw [← hAe]; exact Or.inr h
  clear hAe
  have hS : va_S A s.heap s.heap [] := va_S.rf
  refine cutQ (fun Q hQ => ?_)
  refine entryW (vs := [.ref (aO 0), .int v1, .int v2, .int v3]) hargs (Nat.le_of_ble_eq_true rfl) (fun ls hl => ?_)
  replace hl : lv_has ls 5 [(0, .ref (aO 0)), (1, .int v1), (2, .int v2), (3, .int v3)] := hl
  unfold mX8_entry at hM
  have N60 : ∀ (v1 : Int32) (v2 : Int32) (v3 : Int32) (mO : Mem), mX8_entry_j60 v1 v2 v3 mO mO64 = some res → ∀ (H : Heap) (locs : List Loc), va_P (dC, dI) vwCl (wO ct aO mO mO64) H → va_D A (wO ct aO mO mO64) → va_S A s.heap H locs → ∀ ls : Array Slot, lv_has ls 5 [(0, .ref (aO 0)), (1, .int v1), (2, .int v2), (3, .int v3)] → W p l e (headSpec wsX8_entry rmX8_entry).room s m args below meth c H locs 0 0 Q (F0 m 60 ls []) := by
    intro v1 v2 v3 mO hM H locs hP hD hS ls hl
    unfold mX8_entry_j60 at hM
    refine lv_aload_n hx hb dX8_entry_60 rfl (lv_at hl 0 rfl) ?_
    refine lv_iload_n hx hb dX8_entry_61 rfl (lv_at hl 2 rfl) ?_
    refine lv_bipush (v := 100) hx hb dX8_entry_62 (by decide) ?_
    refine lv_irem hx hb dX8_entry_64 (by decide) ?_
    refine lv_iload_n hx hb dX8_entry_65 rfl (lv_at hl 2 rfl) ?_
    refine lv_bipush (v := 100) hx hb dX8_entry_66 (by decide) ?_
    refine lv_idiv hx hb dX8_entry_68 (by decide) ?_
    refine lv_iload_n hx hb dX8_entry_69 rfl (lv_at hl 3 rfl) ?_
    refine lv_sipush (v := 1000) hx hb dX8_entry_70 (by decide) ?_
    refine lv_idiv hx hb dX8_entry_73 (by decide) ?_
    refine lv_iload_n hx hb dX8_entry_74 rfl (lv_at hl 3 rfl) ?_
    refine lv_sipush (v := 1000) hx hb dX8_entry_75 (by decide) ?_
    refine lv_irem hx hb dX8_entry_78 (by decide) ?_
    obtain ⟨x_1, hr_2, hM⟩ := bn_some hM
    refine gv_i (r0 := x_1) (wn := (wO ct aO mO mO64)) (va_runV (As := [.int (v2 - v2 / (100 : Int32) * (100 : Int32)), .int (v2 / (100 : Int32)), .int (v3 / (1000 : Int32)), .int (v3 - v3 / (1000 : Int32) * (1000 : Int32))]) (rest := []) ⟨hx, hb, hml, hown, hts⟩ (kX8_isLoan l dC dI ct aO _ mO mO64 (v2 - v2 / (100 : Int32) * (100 : Int32)) (v2 / (100 : Int32)) (v3 / (1000 : Int32)) (v3 - v3 / (1000 : Int32) * (1000 : Int32)) _ hr_2) (cwV 4 hts gX8_entry_X8_isLoan rfl rfl rfl hvX8_isLoan ⟨Nat.le_of_ble_eq_true rfl, Nat.le_of_ble_eq_true rfl⟩) (preV_of E0_ok hK hP hD (is := [0, 1, 2, 3, 4, 5, 6, 7, 8, 9, 10, 11, 12, 13, 14, 15, 16, 17, 18, 19, 20, 21, 22, 23, 24, 25]) rfl rfl rfl (ci := 8) rfl 0 rfl e_0) rfl rfl hl.1 rfl (lv_room (Nat.le_of_ble_eq_true rfl)) dX8_entry_79 ⟨Nat.le_of_ble_eq_true rfl, Nat.le_of_ble_eq_true rfl⟩) hP hD hS hA [0, 1, 2, 3, 4, 5, 6, 7, 8, 9, 10, 11, 12, 13, 14, 15, 16, 17, 18, 19, 20, 21, 22, 23, 24, 25] [] [0, 1, 2, 3, 4, 5, 6, 7, 8, 9, 10, 11, 12, 13, 14, 15, 16, 17, 18, 19, 20, 21, 22, 23, 24, 25] rfl rfl rfl (by decide) rfl rfl (fun H locs hP hD hS => ?_)
    refine lv_if_ne (tgt := 87) hx hb dX8_entry_82 (by decide) (fun hc_4 => ?_) (fun hc_4 => ?_)
    · have hM := it_p hc_4 hM
      refine lv_bipush (v := 6) hx hb dX8_entry_87 (by decide) ?_
      refine lv_aload_n hx hb dX8_entry_89 rfl (lv_at hl 0 rfl) ?_
      refine va_get (D := (dC, dI)) (ci := 8) (v := .int (mO 0 28)) (C := RX8) (T := TX8) (N := 45) hx hb hts iwX8_entry_X8 hown hK hP 0 rfl rfl 28 (by decide) (hts _ (List.mem_of_getElem? (i := 2) rfl)) (fun _ h9 => h9) rfl dX8_entry_90 ?_
      refine lv_imul hx hb dX8_entry_93 ?_
      refine lv_topi (fun x_5 ex_5 => ?_)
      have hM := nm_at ex_5 hM
      refine lv_istore (lv' := [(4, .int x_5), (0, .ref (aO 0)), (1, .int v1), (2, .int v2), (3, .int v3)]) hx hb dX8_entry_94 hl (by decide) rfl (fun ls hl => ?_)
      refine lv_aload_n hx hb dX8_entry_96 rfl (lv_at hl 1 rfl) ?_
      refine va_get (D := (dC, dI)) (ci := 8) (v := .ref (aO 11)) (C := RX8) (T := TX8) (N := 45) hx hb hts iwX8_entry_X8 hown hK hP 0 rfl rfl 29 (by decide) (hts _ (List.mem_of_getElem? (i := 3) rfl)) (fun _ h9 => h9) rfl dX8_entry_97 ?_
      refine lv_iload hx hb dX8_entry_100 (lv_at hl 0 rfl) ?_
      refine lv_iload_n hx hb dX8_entry_102 rfl (lv_at hl 2 rfl) ?_
      obtain ⟨hi, hM⟩ := gi_some hM
      refine st_i (wf := fun z => (wO ct aO z mO64)) (m1 := upi mO 11 x_5.toNatClampNeg v1) hx hb hK hP hD hS 11 rfl hi dX8_entry_103 rfl (fun mO_6 emO_6 H locs hP hD hS => ?_)
      have hM := nm_at emO_6 hM
      refine lv_aload_n hx hb dX8_entry_104 rfl (lv_at hl 1 rfl) ?_
      refine va_get (D := (dC, dI)) (ci := 8) (v := .ref (aO 11)) (C := RX8) (T := TX8) (N := 45) hx hb hts iwX8_entry_X8 hown hK hP 0 rfl rfl 29 (by decide) (hts _ (List.mem_of_getElem? (i := 3) rfl)) (fun _ h9 => h9) rfl dX8_entry_105 ?_
      refine lv_iload hx hb dX8_entry_108 (lv_at hl 0 rfl) ?_
      refine lv_iconst (v := 1) hx hb dX8_entry_110 (by decide) ?_
      refine lv_iadd hx hb dX8_entry_111 ?_
      refine lv_iload_n hx hb dX8_entry_112 rfl (lv_at hl 3 rfl) ?_
      refine lv_bipush (v := 100) hx hb dX8_entry_113 (by decide) ?_
      refine lv_irem hx hb dX8_entry_115 (by decide) ?_
      refine lv_bipush (v := 10) hx hb dX8_entry_116 (by decide) ?_
      refine lv_idiv hx hb dX8_entry_118 (by decide) ?_
      obtain ⟨hi, hM⟩ := gi_some hM
      refine st_i (wf := fun z => (wO ct aO z mO64)) (m1 := upi mO_6 11 (x_5 + (1 : Int32)).toNatClampNeg ((v2 - v2 / (100 : Int32) * (100 : Int32)) / (10 : Int32))) hx hb hK hP hD hS 11 rfl hi dX8_entry_119 rfl (fun mO_7 emO_7 H locs hP hD hS => ?_)
      have hM := nm_at emO_7 hM
      refine lv_aload_n hx hb dX8_entry_120 rfl (lv_at hl 1 rfl) ?_
      refine va_get (D := (dC, dI)) (ci := 8) (v := .ref (aO 11)) (C := RX8) (T := TX8) (N := 45) hx hb hts iwX8_entry_X8 hown hK hP 0 rfl rfl 29 (by decide) (hts _ (List.mem_of_getElem? (i := 3) rfl)) (fun _ h9 => h9) rfl dX8_entry_121 ?_
      refine lv_iload hx hb dX8_entry_124 (lv_at hl 0 rfl) ?_
      refine lv_iconst (v := 2) hx hb dX8_entry_126 (by decide) ?_
      refine lv_iadd hx hb dX8_entry_127 ?_
      refine lv_iload_n hx hb dX8_entry_128 rfl (lv_at hl 3 rfl) ?_
      refine lv_bipush (v := 10) hx hb dX8_entry_129 (by decide) ?_
      refine lv_irem hx hb dX8_entry_131 (by decide) ?_
      obtain ⟨hi, hM⟩ := gi_some hM
      refine st_i (wf := fun z => (wO ct aO z mO64)) (m1 := upi mO_7 11 (x_5 + (2 : Int32)).toNatClampNeg (v2 - v2 / (10 : Int32) * (10 : Int32))) hx hb hK hP hD hS 11 rfl hi dX8_entry_132 rfl (fun mO_8 emO_8 H locs hP hD hS => ?_)
      have hM := nm_at emO_8 hM
      refine lv_aload_n hx hb dX8_entry_133 rfl (lv_at hl 1 rfl) ?_
      refine va_get (D := (dC, dI)) (ci := 8) (v := .ref (aO 11)) (C := RX8) (T := TX8) (N := 45) hx hb hts iwX8_entry_X8 hown hK hP 0 rfl rfl 29 (by decide) (hts _ (List.mem_of_getElem? (i := 3) rfl)) (fun _ h9 => h9) rfl dX8_entry_134 ?_
      refine lv_iload hx hb dX8_entry_137 (lv_at hl 0 rfl) ?_
      refine lv_iconst (v := 3) hx hb dX8_entry_139 (by decide) ?_
      refine lv_iadd hx hb dX8_entry_140 ?_
      refine lv_iload_n hx hb dX8_entry_141 rfl (lv_at hl 3 rfl) ?_
      refine lv_bipush (v := 100) hx hb dX8_entry_142 (by decide) ?_
      refine lv_idiv hx hb dX8_entry_144 (by decide) ?_
      obtain ⟨hi, hM⟩ := gi_some hM
      refine st_i (wf := fun z => (wO ct aO z mO64)) (m1 := upi mO_8 11 (x_5 + (3 : Int32)).toNatClampNeg (v2 / (100 : Int32))) hx hb hK hP hD hS 11 rfl hi dX8_entry_145 rfl (fun mO_9 emO_9 H locs hP hD hS => ?_)
      have hM := nm_at emO_9 hM
      refine lv_aload_n hx hb dX8_entry_146 rfl (lv_at hl 1 rfl) ?_
      refine va_get (D := (dC, dI)) (ci := 8) (v := .ref (aO 11)) (C := RX8) (T := TX8) (N := 45) hx hb hts iwX8_entry_X8 hown hK hP 0 rfl rfl 29 (by decide) (hts _ (List.mem_of_getElem? (i := 3) rfl)) (fun _ h9 => h9) rfl dX8_entry_147 ?_
      refine lv_iload hx hb dX8_entry_150 (lv_at hl 0 rfl) ?_
      refine lv_iconst (v := 4) hx hb dX8_entry_152 (by decide) ?_
      refine lv_iadd hx hb dX8_entry_153 ?_
      refine lv_iload_n hx hb dX8_entry_154 rfl (lv_at hl 4 rfl) ?_
      refine lv_sipush (v := 1000) hx hb dX8_entry_155 (by decide) ?_
      refine lv_idiv hx hb dX8_entry_158 (by decide) ?_
      obtain ⟨hi, hM⟩ := gi_some hM
      refine st_i (wf := fun z => (wO ct aO z mO64)) (m1 := upi mO_9 11 (x_5 + (4 : Int32)).toNatClampNeg (v3 / (1000 : Int32))) hx hb hK hP hD hS 11 rfl hi dX8_entry_159 rfl (fun mO_10 emO_10 H locs hP hD hS => ?_)
      have hM := nm_at emO_10 hM
      refine lv_aload_n hx hb dX8_entry_160 rfl (lv_at hl 1 rfl) ?_
      refine va_get (D := (dC, dI)) (ci := 8) (v := .ref (aO 11)) (C := RX8) (T := TX8) (N := 45) hx hb hts iwX8_entry_X8 hown hK hP 0 rfl rfl 29 (by decide) (hts _ (List.mem_of_getElem? (i := 3) rfl)) (fun _ h9 => h9) rfl dX8_entry_161 ?_
      refine lv_iload hx hb dX8_entry_164 (lv_at hl 0 rfl) ?_
      refine lv_iconst (v := 5) hx hb dX8_entry_166 (by decide) ?_
      refine lv_iadd hx hb dX8_entry_167 ?_
      refine lv_iload_n hx hb dX8_entry_168 rfl (lv_at hl 4 rfl) ?_
      refine lv_sipush (v := 1000) hx hb dX8_entry_169 (by decide) ?_
      refine lv_irem hx hb dX8_entry_172 (by decide) ?_
      obtain ⟨hi, hM⟩ := gi_some hM
      refine st_i (wf := fun z => (wO ct aO z mO64)) (m1 := upi mO_10 11 (x_5 + (5 : Int32)).toNatClampNeg (v3 - v3 / (1000 : Int32) * (1000 : Int32))) hx hb hK hP hD hS 11 rfl hi dX8_entry_173 rfl (fun mO_11 emO_11 H locs hP hD hS => ?_)
      have hM := nm_at emO_11 hM
      refine lv_aload_n hx hb dX8_entry_174 rfl (lv_at hl 1 rfl) ?_
      refine lv_dup hx hb dX8_entry_175 rfl ?_
      refine va_get (D := (dC, dI)) (ci := 8) (v := .int (mO_11 0 28)) (C := RX8) (T := TX8) (N := 45) hx hb hts iwX8_entry_X8 hown hK hP 0 rfl rfl 28 (by decide) (hts _ (List.mem_of_getElem? (i := 2) rfl)) (fun _ h9 => h9) rfl dX8_entry_176 ?_
      refine lv_iconst (v := 1) hx hb dX8_entry_179 (by decide) ?_
      refine lv_iadd hx hb dX8_entry_180 ?_
      refine pf_i (wf := fun z => (wO ct aO z mO64)) (m1 := upf mO_11 28 ((mO_11 0 28) + (1 : Int32))) hx hb hts iwX8_entry_X8 tyX8 tyX8_ok nmX8 hown hK hP hD hS 0 rfl rfl 28 (by decide) (hts _ (List.mem_of_getElem? (i := 2) rfl)) (fun _ h9 => h9) rfl rfl rfl (Nat.le_of_ble_eq_true rfl) dX8_entry_181 rfl (fun mO_12 emO_12 H locs hP hD hS => ?_)
      have hM := nm_at emO_12 hM
      refine lv_aload_n hx hb dX8_entry_184 rfl (lv_at hl 1 rfl) ?_
      refine va_get (D := (dC, dI)) (ci := 8) (v := .int (mO_12 0 28)) (C := RX8) (T := TX8) (N := 45) hx hb hts iwX8_entry_X8 hown hK hP 0 rfl rfl 28 (by decide) (hts _ (List.mem_of_getElem? (i := 2) rfl)) (fun _ h9 => h9) rfl dX8_entry_185 ?_
      refine lv_topi (fun x_13 ex_13 => ?_)
      have hM := nm_at ex_13 hM
      have hR := som hM
      rw [hR] at hQ
      exact ret_i hQ hx hb hr hlocks hP hK hD hS dX8_entry_188
    · have hM := it_nn hc_4 hM
      refine lv_iconst (v := -1) hx hb dX8_entry_85 (by decide) ?_
      have hR := som hM
      rw [hR] at hQ
      exact ret_i hQ hx hb hr hlocks hP hK hD hS dX8_entry_86
  refine lv_aload_n hx hb dX8_entry_0 rfl (lv_at hl 0 rfl) ?_
  refine va_get (D := (dC, dI)) (ci := 8) (v := .int (mO 0 18)) (C := RX8) (T := TX8) (N := 45) hx hb hts iwX8_entry_X8 hown hK hP 0 rfl rfl 18 (by decide) (hts _ (List.mem_of_getElem? (i := 1) rfl)) (fun _ h9 => h9) rfl dX8_entry_1 ?_
  refine lv_if_eq (tgt := 58) hx hb dX8_entry_4 (by decide) (fun hc_14 => ?_) (fun hc_14 => ?_)
  · have hM := it_p hc_14 hM
    refine lv_iconst (v := -1) hx hb dX8_entry_58 (by decide) ?_
    have hR := som hM
    rw [hR] at hQ
    exact ret_i hQ hx hb hr hlocks hP hK hD hS dX8_entry_59
  · have hM := it_n hc_14 hM
    refine lv_aload_n hx hb dX8_entry_7 rfl (lv_at hl 0 rfl) ?_
    refine lv_iload_n hx hb dX8_entry_8 rfl (lv_at hl 1 rfl) ?_
    obtain ⟨x_15, hr_16, hM⟩ := bn_some hM
    refine gv_i (r0 := x_15) (wn := (wO ct aO mO mO64)) (va_runV (As := [.int v1]) (rest := []) ⟨hx, hb, hml, hown, hts⟩ (kX8_isNight l dC dI ct aO _ mO mO64 v1 _ hr_16) (cwV 1 hts gX8_entry_X8_isNight rfl rfl rfl hvX8_isNight ⟨Nat.le_of_ble_eq_true rfl, Nat.le_of_ble_eq_true rfl⟩) (preV_of E0_ok hK hP hD (is := [0, 1, 2, 3, 4, 5, 6, 7, 8, 9, 10, 11, 12, 13, 14, 15, 16, 17, 18, 19, 20, 21, 22, 23, 24, 25]) rfl rfl rfl (ci := 8) rfl 0 rfl e_0) rfl rfl hl.1 rfl (lv_room (Nat.le_of_ble_eq_true rfl)) dX8_entry_9 ⟨Nat.le_of_ble_eq_true rfl, Nat.le_of_ble_eq_true rfl⟩) hP hD hS hA [0, 1, 2, 3, 4, 5, 6, 7, 8, 9, 10, 11, 12, 13, 14, 15, 16, 17, 18, 19, 20, 21, 22, 23, 24, 25] [] [0, 1, 2, 3, 4, 5, 6, 7, 8, 9, 10, 11, 12, 13, 14, 15, 16, 17, 18, 19, 20, 21, 22, 23, 24, 25] rfl rfl rfl (by decide) rfl rfl (fun H locs hP hD hS => ?_)
    refine lv_if_eq (tgt := 58) hx hb dX8_entry_12 (by decide) (fun hc_18 => ?_) (fun hc_18 => ?_)
    · have hM := it_p hc_18 hM
      refine lv_iconst (v := -1) hx hb dX8_entry_58 (by decide) ?_
      have hR := som hM
      rw [hR] at hQ
      exact ret_i hQ hx hb hr hlocks hP hK hD hS dX8_entry_59
    · have hM := it_n hc_18 hM
      refine lv_iload_n hx hb dX8_entry_15 rfl (lv_at hl 2 rfl) ?_
      refine lv_if_lt (tgt := 58) hx hb dX8_entry_16 (by decide) (fun hc_19 => ?_) (fun hc_19 => ?_)
      · have hM := it_p hc_19 hM
        refine lv_iconst (v := -1) hx hb dX8_entry_58 (by decide) ?_
        have hR := som hM
        rw [hR] at hQ
        exact ret_i hQ hx hb hr hlocks hP hK hD hS dX8_entry_59
      · have hM := it_n hc_19 hM
        refine lv_iload_n hx hb dX8_entry_19 rfl (lv_at hl 3 rfl) ?_
        refine lv_if_lt (tgt := 58) hx hb dX8_entry_20 (by decide) (fun hc_20 => ?_) (fun hc_20 => ?_)
        · have hM := it_p hc_20 hM
          refine lv_iconst (v := -1) hx hb dX8_entry_58 (by decide) ?_
          have hR := som hM
          rw [hR] at hQ
          exact ret_i hQ hx hb hr hlocks hP hK hD hS dX8_entry_59
        · have hM := it_n hc_20 hM
          refine lv_aload_n hx hb dX8_entry_23 rfl (lv_at hl 0 rfl) ?_
          refine va_get (D := (dC, dI)) (ci := 8) (v := .int (mO 0 28)) (C := RX8) (T := TX8) (N := 45) hx hb hts iwX8_entry_X8 hown hK hP 0 rfl rfl 28 (by decide) (hts _ (List.mem_of_getElem? (i := 2) rfl)) (fun _ h9 => h9) rfl dX8_entry_24 ?_
          refine lv_bipush (v := 20) hx hb dX8_entry_27 (by decide) ?_
          refine lv_icmp_eq (tgt := 58) hx hb dX8_entry_29 (by decide) (fun hc_21 => ?_) (fun hc_21 => ?_)
          · have hM := it_p hc_21 hM
            refine lv_iconst (v := -1) hx hb dX8_entry_58 (by decide) ?_
            have hR := som hM
            rw [hR] at hQ
            exact ret_i hQ hx hb hr hlocks hP hK hD hS dX8_entry_59
          · have hM := it_n hc_21 hM
            refine lv_aload_n hx hb dX8_entry_32 rfl (lv_at hl 0 rfl) ?_
            refine va_get (D := (dC, dI)) (ci := 8) (v := .int (mO 0 28)) (C := RX8) (T := TX8) (N := 45) hx hb hts iwX8_entry_X8 hown hK hP 0 rfl rfl 28 (by decide) (hts _ (List.mem_of_getElem? (i := 2) rfl)) (fun _ h9 => h9) rfl dX8_entry_33 ?_
            refine lv_if_le (tgt := 60) hx hb dX8_entry_36 (by decide) (fun hc_22 => ?_) (fun hc_22 => ?_)
            · have hM := it_p hc_22 hM
              exact N60 v1 v2 v3 mO hM _ _ hP hD hS _ (lv_sub hl [0, 1, 2, 3] rfl)
            · have hM := it_n hc_22 hM
              refine lv_iload_n hx hb dX8_entry_39 rfl (lv_at hl 1 rfl) ?_
              refine lv_aload_n hx hb dX8_entry_40 rfl (lv_at hl 0 rfl) ?_
              refine va_get (D := (dC, dI)) (ci := 8) (v := .ref (aO 11)) (C := RX8) (T := TX8) (N := 45) hx hb hts iwX8_entry_X8 hown hK hP 0 rfl rfl 29 (by decide) (hts _ (List.mem_of_getElem? (i := 3) rfl)) (fun _ h9 => h9) rfl dX8_entry_41 ?_
              refine lv_bipush (v := 6) hx hb dX8_entry_44 (by decide) ?_
              refine lv_aload_n hx hb dX8_entry_46 rfl (lv_at hl 0 rfl) ?_
              refine va_get (D := (dC, dI)) (ci := 8) (v := .int (mO 0 28)) (C := RX8) (T := TX8) (N := 45) hx hb hts iwX8_entry_X8 hown hK hP 0 rfl rfl 28 (by decide) (hts _ (List.mem_of_getElem? (i := 2) rfl)) (fun _ h9 => h9) rfl dX8_entry_47 ?_
              refine lv_imul hx hb dX8_entry_50 ?_
              refine lv_bipush (v := 6) hx hb dX8_entry_51 (by decide) ?_
              refine lv_isub hx hb dX8_entry_53 ?_
              obtain ⟨hi, hM⟩ := gi_some hM
              refine va_iald hx hb hK hP 11 0 rfl rfl hi dX8_entry_54 ?_
              refine lv_icmp_ge (tgt := 60) hx hb dX8_entry_55 (by decide) (fun hc_23 => ?_) (fun hc_23 => ?_)
              · have hM := it_p hc_23 hM
                exact N60 v1 v2 v3 mO hM _ _ hP hD hS _ (lv_sub hl [0, 1, 2, 3] rfl)
              · have hM := it_n hc_23 hM
                refine lv_iconst (v := -1) hx hb dX8_entry_58 (by decide) ?_
                have hR := som hM
                rw [hR] at hQ
                exact ret_i hQ hx hb hr hlocks hP hK hD hS dX8_entry_59
abbrev rmX8_clear : Room := { frames := 0, cells := 0, slots := 0, locals := 0 }
theorem iwX8_clear_X8 : ∀ w ∈ wsX80, w ∈ wsX8_clear := fun _ h => List.mem_cons_of_mem _ (List.mem_append_right _ (h))
set_option maxHeartbeats 4000000 in
set_option maxRecDepth 100000 in
theorem kX8_clear (l : Launch) (dC : Nat → ClassId) (dI : Nat → Nat → Nat) (ct : Nat → ClassId) (aO : Nat → Nat) (sz : Nat) (mO : Mem) (mO64 : Lem) (res : (Int32 × Mem)) (hM : mX8_clear mO mO64 = some res) : Met l yX8_clear wsX8_clear rmX8_clear (va_Pc [.ref (aO 0)] (PB (dC, dI) ct E0 sz (wO ct aO mO mO64))) (Qi (dC, dI) ct (va_A (wO ct aO mO mO64) sz) res.1 (wO ct aO res.2 mO64)) 0 0 (va_A (wO ct aO mO mO64) sz) := by
  refine Met.ofW (cc := cX8_clear) (maxL := 2) (ret := (some .int)) (by decide) rfl ?_
  intro p e s m args below meth c s₁ B hml hv
  obtain ⟨hargs, hsz, hP, hK, hD0, hE⟩ := hv
  have hx := B.exec
  have hb := B.bytes
  have hr := B.returns
  have hts := atoms_spec (ws := wsX8_clear) B.pre
  have hown : s.vm.findClass RX8 = some m.cls := findClass_of_methodNamed B.named
  have hlocks := B.notSynchronized
  clear B s₁
  subst hsz
  have hD := hD0.self (sz := s.heap.size)
  clear hD0
  generalize hAe : va_A (wO ct aO mO mO64) s.heap.size = A at hD hE ⊢
  have hA : ∀ q : Nat, s.heap.size ≤ q → A q := fun q h => by rw [← hAe]; exact Or.inr h
  clear hAe
  have hS : va_S A s.heap s.heap [] := va_S.rf
  refine cutQ (fun Q hQ => ?_)
  refine entryW (vs := [.ref (aO 0)]) hargs (Nat.le_of_ble_eq_true rfl) (fun ls hl => ?_)
  replace hl : lv_has ls 2 [(0, .ref (aO 0))] := hl
  unfold mX8_clear at hM
  refine lv_aload_n hx hb dX8_clear_0 rfl (lv_at hl 0 rfl) ?_
  refine va_get (D := (dC, dI)) (ci := 8) (v := .int (mO 0 28)) (C := RX8) (T := TX8) (N := 45) hx hb hts iwX8_clear_X8 hown hK hP 0 rfl rfl 28 (by decide) (hts _ (List.mem_of_getElem? (i := 1) rfl)) (fun _ h9 => h9) rfl dX8_clear_1 ?_
  refine lv_topi (fun x_1 ex_1 => ?_)
  have hM := nm_at ex_1 hM
  refine lv_istore_n (lv' := [(1, .int x_1), (0, .ref (aO 0))]) hx hb dX8_clear_4 rfl hl (by decide) rfl (fun ls hl => ?_)
  refine lv_aload_n hx hb dX8_clear_5 rfl (lv_at hl 1 rfl) ?_
  refine lv_iconst (v := 0) hx hb dX8_clear_6 (by decide) ?_
  refine pf_i (wf := fun z => (wO ct aO z mO64)) (m1 := upf mO 28 (0 : Int32)) hx hb hts iwX8_clear_X8 tyX8 tyX8_ok nmX8 hown hK hP hD hS 0 rfl rfl 28 (by decide) (hts _ (List.mem_of_getElem? (i := 1) rfl)) (fun _ h9 => h9) rfl rfl rfl (Nat.le_of_ble_eq_true rfl) dX8_clear_7 rfl (fun mO_2 emO_2 H locs hP hD hS => ?_)
  have hM := nm_at emO_2 hM
  refine lv_iload_n hx hb dX8_clear_10 rfl (lv_at hl 0 rfl) ?_
  have hR := som hM
  rw [hR] at hQ
  exact ret_i hQ hx hb hr hlocks hP hK hD hS dX8_clear_11
abbrev rmX8_judge : Room := { frames := 3, cells := 0, slots := 0, locals := 69 }
theorem iwX8_judge_X8 : ∀ w ∈ wsX80, w ∈ wsX8_judge := fun _ h => List.mem_cons_of_mem _ (List.mem_append_right _ (h))
set_option maxHeartbeats 4000000 in
set_option maxRecDepth 100000 in
theorem kX8_judge (l : Launch) (dC : Nat → ClassId) (dI : Nat → Nat → Nat) (ct : Nat → ClassId) (aO : Nat → Nat) (sz : Nat) (mO : Mem) (mO64 : Lem) (v1 : Int32) (res : (Int32 × Mem × Lem)) (hM : mX8_judge mO mO64 v1 = some res) : Met l yX8_judge wsX8_judge rmX8_judge (va_Pc [.ref (aO 0), .int v1] (PB (dC, dI) ct E0 sz (wO ct aO mO mO64))) (Qi (dC, dI) ct (va_A (wO ct aO mO mO64) sz) res.1 (wO ct aO res.2.1 res.2.2)) 0 0 (va_A (wO ct aO mO mO64) sz) := by
  refine Met.ofW (cc := cX8_judge) (maxL := 7) (ret := (some .int)) (by decide) rfl ?_
  intro p e s m args below meth c s₁ B hml hv
  obtain ⟨hargs, hsz, hP, hK, hD0, hE⟩ := hv
  have hx := B.exec
  have hb := B.bytes
  have hr := B.returns
  have hts := atoms_spec (ws := wsX8_judge) B.pre
  have hown : s.vm.findClass RX8 = some m.cls := findClass_of_methodNamed B.named
  have hlocks := B.notSynchronized
  clear B s₁
  subst hsz
  have hD := hD0.self (sz := s.heap.size)
  clear hD0
  generalize hAe : va_A (wO ct aO mO mO64) s.heap.size = A at hD hE ⊢
  have hA : ∀ q : Nat, s.heap.size ≤ q → A q := fun q h => by rw [← hAe]; exact Or.inr h
  clear hAe
  have hS : va_S A s.heap s.heap [] := va_S.rf
  refine cutQ (fun Q hQ => ?_)
  refine entryW (vs := [.ref (aO 0), .int v1]) hargs (Nat.le_of_ble_eq_true rfl) (fun ls hl => ?_)
  replace hl : lv_has ls 7 [(0, .ref (aO 0)), (1, .int v1)] := hl
  unfold mX8_judge at hM
  have N306 : ∀ (v1 : Int32) (v3 : Int32) (v4 : Int32) (mO : Mem) (mO64 : Lem), mX8_judge_L306 v1 v3 v4 mO mO64 = some res → ∀ (H : Heap) (locs : List Loc), va_P (dC, dI) vwCl (wO ct aO mO mO64) H → va_D A (wO ct aO mO mO64) → va_S A s.heap H locs → ∀ ls : Array Slot, lv_has ls 7 [(0, .ref (aO 0)), (1, .int v1), (3, .int v3), (4, .int v4)] → W p l e (headSpec wsX8_judge rmX8_judge).room s m args below meth c H locs 0 0 Q (F0 m 306 ls []) := by
    intro v1 v3 v4 mO mO64 hM H locs hP hD hS ls hl
    unfold mX8_judge_L306 at hM
    obtain ⟨ex306, hit306, hM⟩ := bn_some hM
    have X306_0 : ∀ (mO : Mem), ex306 = mO → ∀ (H : Heap) (locs : List Loc), va_P (dC, dI) vwCl (wO ct aO mO mO64) H → va_D A (wO ct aO mO mO64) → va_S A s.heap H locs → ∀ ls : Array Slot, lv_has ls 7 [(0, .ref (aO 0)), (1, .int v1), (3, .int v3)] → W p l e (headSpec wsX8_judge rmX8_judge).room s m args below meth c H locs 0 0 Q (F0 m 334 ls []) := by
      intro mO hex H locs hP hD hS ls hl
      rw [hex] at hM
      have hM := nm_at (y := mO) rfl hM
      refine lv_iload_n hx hb dX8_judge_334 rfl (lv_at hl 1 rfl) ?_
      refine lv_iconst (v := -1) hx hb dX8_judge_335 (by decide) ?_
      refine lv_icmp_ne (tgt := 343) hx hb dX8_judge_336 (by decide) (fun hc_1 => ?_) (fun hc_1 => ?_)
      · have hM := it_p hc_1 hM
        refine lv_aload_n hx hb dX8_judge_343 rfl (lv_at hl 0 rfl) ?_
        refine va_get (D := (dC, dI)) (ci := 8) (v := .ref (aO 21)) (C := RX8) (T := TX8) (N := 45) hx hb hts iwX8_judge_X8 hown hK hP 0 rfl rfl 40 (by decide) (hts _ (List.mem_of_getElem? (i := 10) rfl)) (fun _ h9 => h9) rfl dX8_judge_344 ?_
        refine lv_iload_n hx hb dX8_judge_347 rfl (lv_at hl 1 rfl) ?_
        obtain ⟨hi, hM⟩ := gi_some hM
        refine va_iald hx hb hK hP 21 0 rfl rfl hi dX8_judge_348 ?_
        refine lv_topi (fun x_2 ex_2 => ?_)
        have hM := nm_at ex_2 hM
        have hR := som hM
        rw [hR] at hQ
        exact ret_i hQ hx hb hr hlocks hP hK hD hS dX8_judge_349
      · have hM := it_nn hc_1 hM
        refine lv_iload_n hx hb dX8_judge_339 rfl (lv_at hl 2 rfl) ?_
        refine lv_goto (tgt := 349) hx hb dX8_judge_340 (by decide) ?_
        have hR := som hM
        rw [hR] at hQ
        exact ret_i hQ hx hb hr hlocks hP hK hD hS dX8_judge_349
    have I306 : ∀ (n : Nat) (v4 : Int32) (mO : Mem), itr (fun q => mX8_judge_s306 v1 v3 mO64 q.1 q.2) n (v4, mO) = some ex306 → ∀ (H : Heap) (locs : List Loc), va_P (dC, dI) vwCl (wO ct aO mO mO64) H → va_D A (wO ct aO mO mO64) → va_S A s.heap H locs → ∀ ls : Array Slot, lv_has ls 7 [(0, .ref (aO 0)), (1, .int v1), (3, .int v3), (4, .int v4)] → W p l e (headSpec wsX8_judge rmX8_judge).room s m args below meth c H locs 0 0 Q (F0 m 306 ls []) := by
      intro n
      induction n with
      | zero => intro v4 mO hit; exact (itr_zero hit).elim
      | succ n ih306 =>
        intro v4 mO hit H locs hP hD hS ls hl
        obtain ⟨o306, hM, hbk306, hex306⟩ := itr_succ hit
        replace hM : mX8_judge_s306 v1 v3 mO64 v4 mO = some o306 := hM
        unfold mX8_judge_s306 at hM
        refine lv_iload hx hb dX8_judge_306 (lv_at hl 3 rfl) ?_
        refine lv_sipush (v := 240) hx hb dX8_judge_308 (by decide) ?_
        refine lv_icmp_ge (tgt := 334) hx hb dX8_judge_311 (by decide) (fun hc_3 => ?_) (fun hc_3 => ?_)
        · have hM := it_p hc_3 hM
          have hR := som hM
          exact X306_0 mO (hex306 _ hR).symm _ _ hP hD hS _ (lv_sub hl [0, 1, 2] rfl)
        · have hM := it_n hc_3 hM
          refine lv_aload_n hx hb dX8_judge_314 rfl (lv_at hl 0 rfl) ?_
          refine va_get (D := (dC, dI)) (ci := 8) (v := .ref (aO 10)) (C := RX8) (T := TX8) (N := 45) hx hb hts iwX8_judge_X8 hown hK hP 0 rfl rfl 26 (by decide) (hts _ (List.mem_of_getElem? (i := 9) rfl)) (fun _ h9 => h9) rfl dX8_judge_315 ?_
          refine lv_iload hx hb dX8_judge_318 (lv_at hl 3 rfl) ?_
          refine lv_aload_n hx hb dX8_judge_320 rfl (lv_at hl 0 rfl) ?_
          refine va_get (D := (dC, dI)) (ci := 8) (v := .ref (aO 24)) (C := RX8) (T := TX8) (N := 45) hx hb hts iwX8_judge_X8 hown hK hP 0 rfl rfl 43 (by decide) (hts _ (List.mem_of_getElem? (i := 8) rfl)) (fun _ h9 => h9) rfl dX8_judge_321 ?_
          refine lv_iload hx hb dX8_judge_324 (lv_at hl 3 rfl) ?_
          obtain ⟨hi, hM⟩ := gi_some hM
          refine va_iald hx hb hK hP 24 0 rfl rfl hi dX8_judge_326 ?_
          obtain ⟨hi, hM⟩ := gi_some hM
          refine st_i (wf := fun z => (wO ct aO z mO64)) (m1 := upi mO 10 v4.toNatClampNeg (mO 24 v4.toNatClampNeg)) hx hb hK hP hD hS 10 rfl hi dX8_judge_327 rfl (fun mO_4 emO_4 H locs hP hD hS => ?_)
          have hM := nm_at emO_4 hM
          obtain ⟨x_5, ex_5⟩ : ∃ y : Int32, y = (v4 + (1 : Int32)) := ⟨_, rfl⟩
          have hM := nm_at ex_5 hM
          refine lv_iinc (v := x_5) (lv' := [(4, .int x_5), (0, .ref (aO 0)), (1, .int v1), (3, .int v3)]) hx hb dX8_judge_328 hl (k := 3) rfl (by rw [ex_5]; rfl) (by decide) rfl (fun ls hl => ?_)
          refine lv_goto (tgt := 306) hx hb dX8_judge_331 (by decide) ?_
          have hR := som hM
          exact ih306 x_5 mO_4 (hbk306 _ hR) _ _ hP hD hS _ (lv_sub hl [1, 2, 3, 0] rfl)
    exact I306 FU v4 mO hit306 _ _ hP hD hS _ hl
  have N262 : ∀ (v1 : Int32) (v3 : Int32) (v4 : Int32) (mO : Mem) (mO64 : Lem), mX8_judge_L262 v1 v3 v4 mO mO64 = some res → ∀ (H : Heap) (locs : List Loc), va_P (dC, dI) vwCl (wO ct aO mO mO64) H → va_D A (wO ct aO mO mO64) → va_S A s.heap H locs → ∀ ls : Array Slot, lv_has ls 7 [(0, .ref (aO 0)), (1, .int v1), (3, .int v3), (4, .int v4)] → W p l e (headSpec wsX8_judge rmX8_judge).room s m args below meth c H locs 0 0 Q (F0 m 262 ls []) := by
    intro v1 v3 v4 mO mO64 hM H locs hP hD hS ls hl
    unfold mX8_judge_L262 at hM
    obtain ⟨ex262, hit262, hM⟩ := bn_some hM
    have X262_0 : ∀ (mO : Mem), ex262 = mO → ∀ (H : Heap) (locs : List Loc), va_P (dC, dI) vwCl (wO ct aO mO mO64) H → va_D A (wO ct aO mO mO64) → va_S A s.heap H locs → ∀ ls : Array Slot, lv_has ls 7 [(0, .ref (aO 0)), (1, .int v1), (3, .int v3)] → W p l e (headSpec wsX8_judge rmX8_judge).room s m args below meth c H locs 0 0 Q (F0 m 303 ls []) := by
      intro mO hex H locs hP hD hS ls hl
      rw [hex] at hM
      have hM := nm_at (y := mO) rfl hM
      refine lv_iconst (v := 0) hx hb dX8_judge_303 (by decide) ?_
      refine lv_istore (lv' := [(4, .int (0 : Int32)), (0, .ref (aO 0)), (1, .int v1), (3, .int v3)]) hx hb dX8_judge_304 hl (by decide) rfl (fun ls hl => ?_)
      exact N306 v1 v3 (0 : Int32) mO mO64 hM _ _ hP hD hS _ (lv_sub hl [1, 2, 3, 0] rfl)
    have I262 : ∀ (n : Nat) (v4 : Int32) (mO : Mem), itr (fun q => mX8_judge_s262 v1 v3 mO64 q.1 q.2) n (v4, mO) = some ex262 → ∀ (H : Heap) (locs : List Loc), va_P (dC, dI) vwCl (wO ct aO mO mO64) H → va_D A (wO ct aO mO mO64) → va_S A s.heap H locs → ∀ ls : Array Slot, lv_has ls 7 [(0, .ref (aO 0)), (1, .int v1), (3, .int v3), (4, .int v4)] → W p l e (headSpec wsX8_judge rmX8_judge).room s m args below meth c H locs 0 0 Q (F0 m 262 ls []) := by
      intro n
      induction n with
      | zero => intro v4 mO hit; exact (itr_zero hit).elim
      | succ n ih262 =>
        intro v4 mO hit H locs hP hD hS ls hl
        obtain ⟨o262, hM, hbk262, hex262⟩ := itr_succ hit
        replace hM : mX8_judge_s262 v1 v3 mO64 v4 mO = some o262 := hM
        unfold mX8_judge_s262 at hM
        refine lv_iload hx hb dX8_judge_262 (lv_at hl 3 rfl) ?_
        refine lv_bipush (v := 6) hx hb dX8_judge_264 (by decide) ?_
        refine lv_icmp_ge (tgt := 303) hx hb dX8_judge_266 (by decide) (fun hc_6 => ?_) (fun hc_6 => ?_)
        · have hM := it_p hc_6 hM
          have hR := som hM
          exact X262_0 mO (hex262 _ hR).symm _ _ hP hD hS _ (lv_sub hl [0, 1, 2] rfl)
        · have hM := it_n hc_6 hM
          refine lv_aload_n hx hb dX8_judge_269 rfl (lv_at hl 0 rfl) ?_
          refine va_get (D := (dC, dI)) (ci := 8) (v := .ref (aO 8)) (C := RX8) (T := TX8) (N := 45) hx hb hts iwX8_judge_X8 hown hK hP 0 rfl rfl 24 (by decide) (hts _ (List.mem_of_getElem? (i := 5) rfl)) (fun _ h9 => h9) rfl dX8_judge_270 ?_
          refine lv_iload hx hb dX8_judge_273 (lv_at hl 3 rfl) ?_
          refine lv_aload_n hx hb dX8_judge_275 rfl (lv_at hl 0 rfl) ?_
          refine va_get (D := (dC, dI)) (ci := 8) (v := .ref (aO 22)) (C := RX8) (T := TX8) (N := 45) hx hb hts iwX8_judge_X8 hown hK hP 0 rfl rfl 41 (by decide) (hts _ (List.mem_of_getElem? (i := 4) rfl)) (fun _ h9 => h9) rfl dX8_judge_276 ?_
          refine lv_iload hx hb dX8_judge_279 (lv_at hl 3 rfl) ?_
          obtain ⟨hi, hM⟩ := gi_some hM
          refine va_iald hx hb hK hP 22 0 rfl rfl hi dX8_judge_281 ?_
          obtain ⟨hi, hM⟩ := gi_some hM
          refine st_i (wf := fun z => (wO ct aO z mO64)) (m1 := upi mO 8 v4.toNatClampNeg (mO 22 v4.toNatClampNeg)) hx hb hK hP hD hS 8 rfl hi dX8_judge_282 rfl (fun mO_7 emO_7 H locs hP hD hS => ?_)
          have hM := nm_at emO_7 hM
          refine lv_aload_n hx hb dX8_judge_283 rfl (lv_at hl 0 rfl) ?_
          refine va_get (D := (dC, dI)) (ci := 8) (v := .ref (aO 9)) (C := RX8) (T := TX8) (N := 45) hx hb hts iwX8_judge_X8 hown hK hP 0 rfl rfl 25 (by decide) (hts _ (List.mem_of_getElem? (i := 7) rfl)) (fun _ h9 => h9) rfl dX8_judge_284 ?_
          refine lv_iload hx hb dX8_judge_287 (lv_at hl 3 rfl) ?_
          refine lv_aload_n hx hb dX8_judge_289 rfl (lv_at hl 0 rfl) ?_
          refine va_get (D := (dC, dI)) (ci := 8) (v := .ref (aO 23)) (C := RX8) (T := TX8) (N := 45) hx hb hts iwX8_judge_X8 hown hK hP 0 rfl rfl 42 (by decide) (hts _ (List.mem_of_getElem? (i := 6) rfl)) (fun _ h9 => h9) rfl dX8_judge_290 ?_
          refine lv_iload hx hb dX8_judge_293 (lv_at hl 3 rfl) ?_
          obtain ⟨hi, hM⟩ := gi_some hM
          refine va_iald hx hb hK hP 23 0 rfl rfl hi dX8_judge_295 ?_
          obtain ⟨hi, hM⟩ := gi_some hM
          refine st_i (wf := fun z => (wO ct aO z mO64)) (m1 := upi mO_7 9 v4.toNatClampNeg (mO_7 23 v4.toNatClampNeg)) hx hb hK hP hD hS 9 rfl hi dX8_judge_296 rfl (fun mO_8 emO_8 H locs hP hD hS => ?_)
          have hM := nm_at emO_8 hM
          obtain ⟨x_9, ex_9⟩ : ∃ y : Int32, y = (v4 + (1 : Int32)) := ⟨_, rfl⟩
          have hM := nm_at ex_9 hM
          refine lv_iinc (v := x_9) (lv' := [(4, .int x_9), (0, .ref (aO 0)), (1, .int v1), (3, .int v3)]) hx hb dX8_judge_297 hl (k := 3) rfl (by rw [ex_9]; rfl) (by decide) rfl (fun ls hl => ?_)
          refine lv_goto (tgt := 262) hx hb dX8_judge_300 (by decide) ?_
          have hR := som hM
          exact ih262 x_9 mO_8 (hbk262 _ hR) _ _ hP hD hS _ (lv_sub hl [1, 2, 3, 0] rfl)
    exact I262 FU v4 mO hit262 _ _ hP hD hS _ hl
  have N133 : ∀ (v1 : Int32) (v2 : Int32) (v3 : Int32) (v4 : Int32) (mO : Mem) (mO64 : Lem), mX8_judge_L133 v1 v2 v3 v4 mO mO64 = some res → ∀ (H : Heap) (locs : List Loc), va_P (dC, dI) vwCl (wO ct aO mO mO64) H → va_D A (wO ct aO mO mO64) → va_S A s.heap H locs → ∀ ls : Array Slot, lv_has ls 7 [(0, .ref (aO 0)), (1, .int v1), (2, .int v2), (3, .int v3), (4, .int v4)] → W p l e (headSpec wsX8_judge rmX8_judge).room s m args below meth c H locs 0 0 Q (F0 m 133 ls []) := by
    intro v1 v2 v3 v4 mO mO64 hM H locs hP hD hS ls hl
    unfold mX8_judge_L133 at hM
    obtain ⟨ex133, hit133, hM⟩ := bn_some hM
    have X133_0 : ∀ (v3 : Int32) (mO : Mem) (mO64 : Lem), ex133 = (v3, mO, mO64) → ∀ (H : Heap) (locs : List Loc), va_P (dC, dI) vwCl (wO ct aO mO mO64) H → va_D A (wO ct aO mO mO64) → va_S A s.heap H locs → ∀ ls : Array Slot, lv_has ls 7 [(0, .ref (aO 0)), (1, .int v1), (2, .int v2), (3, .int v3)] → W p l e (headSpec wsX8_judge rmX8_judge).room s m args below meth c H locs 0 0 Q (F0 m 254 ls []) := by
      intro v3 mO mO64 hex H locs hP hD hS ls hl
      rw [hex] at hM
      have hM := nm_at (y := v3) rfl hM
      have hM := nm_at (y := mO) rfl hM
      have hM := nm_at (y := mO64) rfl hM
      refine lv_aload_n hx hb dX8_judge_254 rfl (lv_at hl 0 rfl) ?_
      refine lv_iload_n hx hb dX8_judge_255 rfl (lv_at hl 2 rfl) ?_
      refine pf_i (wf := fun z => (wO ct aO z mO64)) (m1 := upf mO 23 v2) hx hb hts iwX8_judge_X8 tyX8 tyX8_ok nmX8 hown hK hP hD hS 0 rfl rfl 23 (by decide) (hts _ (List.mem_of_getElem? (i := 3) rfl)) (fun _ h9 => h9) rfl rfl rfl (Nat.le_of_ble_eq_true rfl) dX8_judge_256 rfl (fun mO_10 emO_10 H locs hP hD hS => ?_)
      have hM := nm_at emO_10 hM
      refine lv_iconst (v := 0) hx hb dX8_judge_259 (by decide) ?_
      refine lv_istore (lv' := [(4, .int (0 : Int32)), (0, .ref (aO 0)), (1, .int v1), (2, .int v2), (3, .int v3)]) hx hb dX8_judge_260 hl (by decide) rfl (fun ls hl => ?_)
      exact N262 v1 v3 (0 : Int32) mO_10 mO64 hM _ _ hP hD hS _ (lv_sub hl [1, 2, 4, 0] rfl)
    have I133 : ∀ (n : Nat) (v3 : Int32) (v4 : Int32) (mO : Mem) (mO64 : Lem), itr (fun q => mX8_judge_s133 v1 v2 q.1 q.2.1 q.2.2.1 q.2.2.2) n (v3, v4, mO, mO64) = some ex133 → ∀ (H : Heap) (locs : List Loc), va_P (dC, dI) vwCl (wO ct aO mO mO64) H → va_D A (wO ct aO mO mO64) → va_S A s.heap H locs → ∀ ls : Array Slot, lv_has ls 7 [(0, .ref (aO 0)), (1, .int v1), (2, .int v2), (3, .int v3), (4, .int v4)] → W p l e (headSpec wsX8_judge rmX8_judge).room s m args below meth c H locs 0 0 Q (F0 m 133 ls []) := by
      intro n
      induction n with
      | zero => intro v3 v4 mO mO64 hit; exact (itr_zero hit).elim
      | succ n ih133 =>
        intro v3 v4 mO mO64 hit H locs hP hD hS ls hl
        obtain ⟨o133, hM, hbk133, hex133⟩ := itr_succ hit
        replace hM : mX8_judge_s133 v1 v2 v3 v4 mO mO64 = some o133 := hM
        have N154 : ∀ (v3 : Int32) (v4 : Int32) (v5 : Int32) (mO : Mem) (mO64 : Lem), mX8_judge_L154 v1 v2 v3 v4 v5 mO mO64 = some o133 → ∀ (H : Heap) (locs : List Loc), va_P (dC, dI) vwCl (wO ct aO mO mO64) H → va_D A (wO ct aO mO mO64) → va_S A s.heap H locs → ∀ ls : Array Slot, lv_has ls 7 [(0, .ref (aO 0)), (1, .int v1), (2, .int v2), (3, .int v3), (4, .int v4), (5, .int v5)] → W p l e (headSpec wsX8_judge rmX8_judge).room s m args below meth c H locs 0 0 Q (F0 m 154 ls []) := by
          intro v3 v4 v5 mO mO64 hM H locs hP hD hS ls hl
          unfold mX8_judge_L154 at hM
          obtain ⟨ex154, hit154, hM⟩ := bn_some hM
          have X154_0 : ∀ (mO : Mem) (mO64 : Lem), ex154 = (mO, mO64) → ∀ (H : Heap) (locs : List Loc), va_P (dC, dI) vwCl (wO ct aO mO mO64) H → va_D A (wO ct aO mO mO64) → va_S A s.heap H locs → ∀ ls : Array Slot, lv_has ls 7 [(0, .ref (aO 0)), (1, .int v1), (2, .int v2), (3, .int v3), (4, .int v4), (5, .int v5)] → W p l e (headSpec wsX8_judge rmX8_judge).room s m args below meth c H locs 0 0 Q (F0 m 176 ls []) := by
            intro mO mO64 hex H locs hP hD hS ls hl
            rw [hex] at hM
            have hM := nm_at (y := mO) rfl hM
            have hM := nm_at (y := mO64) rfl hM
            refine lv_aload_n hx hb dX8_judge_176 rfl (lv_at hl 0 rfl) ?_
            refine lv_aload_n hx hb dX8_judge_177 rfl (lv_at hl 0 rfl) ?_
            refine va_get (D := (dC, dI)) (ci := 8) (v := .ref (aO 11)) (C := RX8) (T := TX8) (N := 45) hx hb hts iwX8_judge_X8 hown hK hP 0 rfl rfl 29 (by decide) (hts _ (List.mem_of_getElem? (i := 11) rfl)) (fun _ h9 => h9) rfl dX8_judge_178 ?_
            refine lv_iload hx hb dX8_judge_181 (lv_at hl 5 rfl) ?_
            refine lv_iconst (v := 1) hx hb dX8_judge_183 (by decide) ?_
            refine lv_iadd hx hb dX8_judge_184 ?_
            obtain ⟨hi, hM⟩ := gi_some hM
            refine va_iald hx hb hK hP 11 0 rfl rfl hi dX8_judge_185 ?_
            refine lv_aload_n hx hb dX8_judge_186 rfl (lv_at hl 0 rfl) ?_
            refine va_get (D := (dC, dI)) (ci := 8) (v := .ref (aO 11)) (C := RX8) (T := TX8) (N := 45) hx hb hts iwX8_judge_X8 hown hK hP 0 rfl rfl 29 (by decide) (hts _ (List.mem_of_getElem? (i := 11) rfl)) (fun _ h9 => h9) rfl dX8_judge_187 ?_
            refine lv_iload hx hb dX8_judge_190 (lv_at hl 5 rfl) ?_
            refine lv_iconst (v := 2) hx hb dX8_judge_192 (by decide) ?_
            refine lv_iadd hx hb dX8_judge_193 ?_
            obtain ⟨hi, hM⟩ := gi_some hM
            refine va_iald hx hb hK hP 11 0 rfl rfl hi dX8_judge_194 ?_
            refine lv_aload_n hx hb dX8_judge_195 rfl (lv_at hl 0 rfl) ?_
            refine va_get (D := (dC, dI)) (ci := 8) (v := .ref (aO 11)) (C := RX8) (T := TX8) (N := 45) hx hb hts iwX8_judge_X8 hown hK hP 0 rfl rfl 29 (by decide) (hts _ (List.mem_of_getElem? (i := 11) rfl)) (fun _ h9 => h9) rfl dX8_judge_196 ?_
            refine lv_iload hx hb dX8_judge_199 (lv_at hl 5 rfl) ?_
            refine lv_iconst (v := 3) hx hb dX8_judge_201 (by decide) ?_
            refine lv_iadd hx hb dX8_judge_202 ?_
            obtain ⟨hi, hM⟩ := gi_some hM
            refine va_iald hx hb hK hP 11 0 rfl rfl hi dX8_judge_203 ?_
            refine lv_aload_n hx hb dX8_judge_204 rfl (lv_at hl 0 rfl) ?_
            refine va_get (D := (dC, dI)) (ci := 8) (v := .ref (aO 11)) (C := RX8) (T := TX8) (N := 45) hx hb hts iwX8_judge_X8 hown hK hP 0 rfl rfl 29 (by decide) (hts _ (List.mem_of_getElem? (i := 11) rfl)) (fun _ h9 => h9) rfl dX8_judge_205 ?_
            refine lv_iload hx hb dX8_judge_208 (lv_at hl 5 rfl) ?_
            refine lv_iconst (v := 4) hx hb dX8_judge_210 (by decide) ?_
            refine lv_iadd hx hb dX8_judge_211 ?_
            obtain ⟨hi, hM⟩ := gi_some hM
            refine va_iald hx hb hK hP 11 0 rfl rfl hi dX8_judge_212 ?_
            refine lv_aload_n hx hb dX8_judge_213 rfl (lv_at hl 0 rfl) ?_
            refine va_get (D := (dC, dI)) (ci := 8) (v := .ref (aO 11)) (C := RX8) (T := TX8) (N := 45) hx hb hts iwX8_judge_X8 hown hK hP 0 rfl rfl 29 (by decide) (hts _ (List.mem_of_getElem? (i := 11) rfl)) (fun _ h9 => h9) rfl dX8_judge_214 ?_
            refine lv_iload hx hb dX8_judge_217 (lv_at hl 5 rfl) ?_
            refine lv_iconst (v := 5) hx hb dX8_judge_219 (by decide) ?_
            refine lv_iadd hx hb dX8_judge_220 ?_
            obtain ⟨hi, hM⟩ := gi_some hM
            refine va_iald hx hb hK hP 11 0 rfl rfl hi dX8_judge_221 ?_
            obtain ⟨q_14, hr_13, hM⟩ := bn_some hM
            obtain ⟨x_11, mO_12⟩ := q_14
            have hM := nm_at (y := x_11) rfl hM
            have hM := nm_at (y := mO_12) rfl hM
            refine gv_i (r0 := x_11) (wn := (wO ct aO mO_12 mO64)) (va_runV (As := [.int (mO 11 (v5 + (1 : Int32)).toNatClampNeg), .int (mO 11 (v5 + (2 : Int32)).toNatClampNeg), .int (mO 11 (v5 + (3 : Int32)).toNatClampNeg), .int (mO 11 (v5 + (4 : Int32)).toNatClampNeg), .int (mO 11 (v5 + (5 : Int32)).toNatClampNeg)]) (rest := []) ⟨hx, hb, hml, hown, hts⟩ (kX8_makes l dC dI ct aO _ mO mO64 (mO 11 (v5 + (1 : Int32)).toNatClampNeg) (mO 11 (v5 + (2 : Int32)).toNatClampNeg) (mO 11 (v5 + (3 : Int32)).toNatClampNeg) (mO 11 (v5 + (4 : Int32)).toNatClampNeg) (mO 11 (v5 + (5 : Int32)).toNatClampNeg) _ hr_13) (cwV 5 hts gX8_judge_X8_makes rfl rfl rfl hvX8_makes ⟨Nat.le_of_ble_eq_true rfl, Nat.le_of_ble_eq_true rfl⟩) (preV_of E0_ok hK hP hD (is := [0, 1, 2, 3, 4, 5, 6, 7, 8, 9, 10, 11, 12, 13, 14, 15, 16, 17, 18, 19, 20, 21, 22, 23, 24, 25]) rfl rfl rfl (ci := 8) rfl 0 rfl e_0) rfl rfl hl.1 rfl (lv_room (Nat.le_of_ble_eq_true rfl)) dX8_judge_222 ⟨Nat.le_of_ble_eq_true rfl, Nat.le_of_ble_eq_true rfl⟩) hP hD hS hA [0, 1, 2, 3, 4, 5, 6, 7, 8, 9, 10, 11, 12, 13, 14, 15, 16, 17, 18, 19, 20, 21, 22, 23, 24, 25] [] [0, 1, 2, 3, 4, 5, 6, 7, 8, 9, 10, 11, 12, 13, 14, 15, 16, 17, 18, 19, 20, 21, 22, 23, 24, 25] rfl rfl rfl (by decide) rfl rfl (fun H locs hP hD hS => ?_)
            refine lv_istore (lv' := [(6, .int x_11), (0, .ref (aO 0)), (1, .int v1), (2, .int v2), (3, .int v3), (4, .int v4), (5, .int v5)]) hx hb dX8_judge_225 hl (by decide) rfl (fun ls hl => ?_)
            refine lv_iload hx hb dX8_judge_227 (lv_at hl 0 rfl) ?_
            refine lv_iconst (v := -1) hx hb dX8_judge_229 (by decide) ?_
            refine lv_icmp_ne (tgt := 239) hx hb dX8_judge_230 (by decide) (fun hc_15 => ?_) (fun hc_15 => ?_)
            · have hM := it_p hc_15 hM
              refine lv_aload_n hx hb dX8_judge_239 rfl (lv_at hl 1 rfl) ?_
              refine va_get (D := (dC, dI)) (ci := 8) (v := .ref (aO 20)) (C := RX8) (T := TX8) (N := 45) hx hb hts iwX8_judge_X8 hown hK hP 0 rfl rfl 39 (by decide) (hts _ (List.mem_of_getElem? (i := 12) rfl)) (fun _ h9 => h9) rfl dX8_judge_240 ?_
              refine lv_iload hx hb dX8_judge_243 (lv_at hl 0 rfl) ?_
              refine lv_iload hx hb dX8_judge_245 (lv_at hl 5 rfl) ?_
              obtain ⟨hi, hM⟩ := gi_some hM
              refine st_i (wf := fun z => (wO ct aO z mO64)) (m1 := upi mO_12 20 x_11.toNatClampNeg v4) hx hb hK hP hD hS 20 rfl hi dX8_judge_247 rfl (fun mO_16 emO_16 H locs hP hD hS => ?_)
              have hM := nm_at emO_16 hM
              obtain ⟨x_17, ex_17⟩ : ∃ y : Int32, y = (v4 + (1 : Int32)) := ⟨_, rfl⟩
              have hM := nm_at ex_17 hM
              refine lv_iinc (v := x_17) (lv' := [(4, .int x_17), (6, .int x_11), (0, .ref (aO 0)), (1, .int v1), (2, .int v2), (3, .int v3), (5, .int v5)]) hx hb dX8_judge_248 hl (k := 5) rfl (by rw [ex_17]; rfl) (by decide) rfl (fun ls hl => ?_)
              refine lv_goto (tgt := 133) hx hb dX8_judge_251 (by decide) ?_
              have hR := som hM
              exact ih133 v3 x_17 mO_16 mO64 (hbk133 _ hR) _ _ hP hD hS _ (lv_sub hl [2, 3, 4, 5, 0] rfl)
            · have hM := it_nn hc_15 hM
              refine lv_iload hx hb dX8_judge_233 (lv_at hl 5 rfl) ?_
              refine lv_istore_n (lv' := [(3, .int v4), (6, .int x_11), (0, .ref (aO 0)), (1, .int v1), (2, .int v2), (4, .int v4), (5, .int v5)]) hx hb dX8_judge_235 rfl hl (by decide) rfl (fun ls hl => ?_)
              refine lv_goto (tgt := 248) hx hb dX8_judge_236 (by decide) ?_
              obtain ⟨x_18, ex_18⟩ : ∃ y : Int32, y = (v4 + (1 : Int32)) := ⟨_, rfl⟩
              have hM := nm_at ex_18 hM
              refine lv_iinc (v := x_18) (lv' := [(4, .int x_18), (3, .int v4), (6, .int x_11), (0, .ref (aO 0)), (1, .int v1), (2, .int v2), (5, .int v5)]) hx hb dX8_judge_248 hl (k := 5) rfl (by rw [ex_18]; rfl) (by decide) rfl (fun ls hl => ?_)
              refine lv_goto (tgt := 133) hx hb dX8_judge_251 (by decide) ?_
              have hR := som hM
              exact ih133 v4 x_18 mO_12 mO64 (hbk133 _ hR) _ _ hP hD hS _ (lv_sub hl [3, 4, 5, 1, 0] rfl)
          have I154 : ∀ (n : Nat) (mO : Mem) (mO64 : Lem), itr (fun q => mX8_judge_s154 v1 v2 v3 v4 v5 q.1 q.2) n (mO, mO64) = some ex154 → ∀ (H : Heap) (locs : List Loc), va_P (dC, dI) vwCl (wO ct aO mO mO64) H → va_D A (wO ct aO mO mO64) → va_S A s.heap H locs → ∀ ls : Array Slot, lv_has ls 7 [(0, .ref (aO 0)), (1, .int v1), (2, .int v2), (3, .int v3), (4, .int v4), (5, .int v5)] → W p l e (headSpec wsX8_judge rmX8_judge).room s m args below meth c H locs 0 0 Q (F0 m 154 ls []) := by
            intro n
            induction n with
            | zero => intro mO mO64 hit; exact (itr_zero hit).elim
            | succ n ih154 =>
              intro mO mO64 hit H locs hP hD hS ls hl
              obtain ⟨o154, hM, hbk154, hex154⟩ := itr_succ hit
              replace hM : mX8_judge_s154 v1 v2 v3 v4 v5 mO mO64 = some o154 := hM
              unfold mX8_judge_s154 at hM
              refine lv_aload_n hx hb dX8_judge_154 rfl (lv_at hl 0 rfl) ?_
              refine va_get (D := (dC, dI)) (ci := 8) (v := .int (mO 0 23)) (C := RX8) (T := TX8) (N := 45) hx hb hts iwX8_judge_X8 hown hK hP 0 rfl rfl 23 (by decide) (hts _ (List.mem_of_getElem? (i := 3) rfl)) (fun _ h9 => h9) rfl dX8_judge_155 ?_
              refine lv_aload_n hx hb dX8_judge_158 rfl (lv_at hl 0 rfl) ?_
              refine va_get (D := (dC, dI)) (ci := 8) (v := .ref (aO 11)) (C := RX8) (T := TX8) (N := 45) hx hb hts iwX8_judge_X8 hown hK hP 0 rfl rfl 29 (by decide) (hts _ (List.mem_of_getElem? (i := 11) rfl)) (fun _ h9 => h9) rfl dX8_judge_159 ?_
              refine lv_iload hx hb dX8_judge_162 (lv_at hl 5 rfl) ?_
              obtain ⟨hi, hM⟩ := gi_some hM
              refine va_iald hx hb hK hP 11 0 rfl rfl hi dX8_judge_164 ?_
              refine lv_icmp_ge (tgt := 176) hx hb dX8_judge_165 (by decide) (fun hc_19 => ?_) (fun hc_19 => ?_)
              · have hM := it_p hc_19 hM
                have hR := som hM
                exact X154_0 mO mO64 (hex154 _ hR).symm _ _ hP hD hS _ (lv_sub hl [0, 1, 2, 3, 4, 5] rfl)
              · have hM := it_n hc_19 hM
                refine lv_aload_n hx hb dX8_judge_168 rfl (lv_at hl 0 rfl) ?_
                refine lv_iconst (v := 1) hx hb dX8_judge_169 (by decide) ?_
                obtain ⟨q_23, hr_22, hM⟩ := bn_some hM
                obtain ⟨mO_20, mO64_21⟩ := q_23
                have hM := nm_at (y := mO_20) rfl hM
                have hM := nm_at (y := mO64_21) rfl hM
                refine gv_v (wn := (wO ct aO mO_20 mO64_21)) (va_runV (As := [.int (1 : Int32)]) (rest := []) ⟨hx, hb, hml, hown, hts⟩ (kX8_goesOn l dC dI ct aO _ mO mO64 (1 : Int32) _ hr_22) (cwV 1 hts gX8_judge_X8_goesOn rfl rfl rfl hvX8_goesOn ⟨Nat.le_of_ble_eq_true rfl, Nat.le_of_ble_eq_true rfl⟩) (preV_of E0_ok hK hP hD (is := [0, 1, 2, 3, 4, 5, 6, 7, 8, 9, 10, 11, 12, 13, 14, 15, 16, 17, 18, 19, 20, 21, 22, 23, 24, 25]) rfl rfl rfl (ci := 8) rfl 0 rfl e_0) rfl rfl hl.1 rfl (lv_room (Nat.le_of_ble_eq_true rfl)) dX8_judge_170 ⟨Nat.le_of_ble_eq_true rfl, Nat.le_of_ble_eq_true rfl⟩) hP hD hS hA [0, 1, 2, 3, 4, 5, 6, 7, 8, 9, 10, 11, 12, 13, 14, 15, 16, 17, 18, 19, 20, 21, 22, 23, 24, 25] [] [0, 1, 2, 3, 4, 5, 6, 7, 8, 9, 10, 11, 12, 13, 14, 15, 16, 17, 18, 19, 20, 21, 22, 23, 24, 25] rfl rfl rfl (by decide) rfl rfl (fun H locs hP hD hS => ?_)
                refine lv_goto (tgt := 154) hx hb dX8_judge_173 (by decide) ?_
                have hR := som hM
                exact ih154 mO_20 mO64_21 (hbk154 _ hR) _ _ hP hD hS _ (lv_sub hl [0, 1, 2, 3, 4, 5] rfl)
          exact I154 FU mO mO64 hit154 _ _ hP hD hS _ hl
        unfold mX8_judge_s133 at hM
        refine lv_iload hx hb dX8_judge_133 (lv_at hl 4 rfl) ?_
        refine lv_aload_n hx hb dX8_judge_135 rfl (lv_at hl 0 rfl) ?_
        refine va_get (D := (dC, dI)) (ci := 8) (v := .int (mO 0 28)) (C := RX8) (T := TX8) (N := 45) hx hb hts iwX8_judge_X8 hown hK hP 0 rfl rfl 28 (by decide) (hts _ (List.mem_of_getElem? (i := 1) rfl)) (fun _ h9 => h9) rfl dX8_judge_136 ?_
        refine lv_icmp_ge (tgt := 254) hx hb dX8_judge_139 (by decide) (fun hc_24 => ?_) (fun hc_24 => ?_)
        · have hM := it_p hc_24 hM
          have hR := som hM
          exact X133_0 v3 mO mO64 (hex133 _ hR).symm _ _ hP hD hS _ (lv_sub hl [0, 1, 2, 3] rfl)
        · have hM := it_n hc_24 hM
          refine lv_iload_n hx hb dX8_judge_142 rfl (lv_at hl 3 rfl) ?_
          refine lv_iconst (v := -1) hx hb dX8_judge_143 (by decide) ?_
          refine lv_icmp_ne (tgt := 254) hx hb dX8_judge_144 (by decide) (fun hc_25 => ?_) (fun hc_25 => ?_)
          · have hM := it_p hc_25 hM
            have hR := som hM
            exact X133_0 v3 mO mO64 (hex133 _ hR).symm _ _ hP hD hS _ (lv_sub hl [0, 1, 2, 3] rfl)
          · have hM := it_nn hc_25 hM
            refine lv_bipush (v := 6) hx hb dX8_judge_147 (by decide) ?_
            refine lv_iload hx hb dX8_judge_149 (lv_at hl 4 rfl) ?_
            refine lv_imul hx hb dX8_judge_151 ?_
            refine lv_topi (fun x_26 ex_26 => ?_)
            have hM := nm_at ex_26 hM
            refine lv_istore (lv' := [(5, .int x_26), (0, .ref (aO 0)), (1, .int v1), (2, .int v2), (3, .int v3), (4, .int v4)]) hx hb dX8_judge_152 hl (by decide) rfl (fun ls hl => ?_)
            exact N154 v3 v4 x_26 mO mO64 hM _ _ hP hD hS _ (lv_sub hl [1, 2, 3, 4, 5, 0] rfl)
    exact I133 FU v3 v4 mO mO64 hit133 _ _ hP hD hS _ hl
  have N107 : ∀ (v1 : Int32) (v2 : Int32) (v3 : Int32) (v4 : Int32) (mO : Mem) (mO64 : Lem), mX8_judge_L107 v1 v2 v3 v4 mO mO64 = some res → ∀ (H : Heap) (locs : List Loc), va_P (dC, dI) vwCl (wO ct aO mO mO64) H → va_D A (wO ct aO mO mO64) → va_S A s.heap H locs → ∀ ls : Array Slot, lv_has ls 7 [(0, .ref (aO 0)), (1, .int v1), (2, .int v2), (3, .int v3), (4, .int v4)] → W p l e (headSpec wsX8_judge rmX8_judge).room s m args below meth c H locs 0 0 Q (F0 m 107 ls []) := by
    intro v1 v2 v3 v4 mO mO64 hM H locs hP hD hS ls hl
    unfold mX8_judge_L107 at hM
    obtain ⟨ex107, hit107, hM⟩ := bn_some hM
    have X107_0 : ∀ (mO : Mem), ex107 = mO → ∀ (H : Heap) (locs : List Loc), va_P (dC, dI) vwCl (wO ct aO mO mO64) H → va_D A (wO ct aO mO mO64) → va_S A s.heap H locs → ∀ ls : Array Slot, lv_has ls 7 [(0, .ref (aO 0)), (1, .int v1), (2, .int v2), (3, .int v3)] → W p l e (headSpec wsX8_judge rmX8_judge).room s m args below meth c H locs 0 0 Q (F0 m 130 ls []) := by
      intro mO hex H locs hP hD hS ls hl
      rw [hex] at hM
      have hM := nm_at (y := mO) rfl hM
      refine lv_iconst (v := 0) hx hb dX8_judge_130 (by decide) ?_
      refine lv_istore (lv' := [(4, .int (0 : Int32)), (0, .ref (aO 0)), (1, .int v1), (2, .int v2), (3, .int v3)]) hx hb dX8_judge_131 hl (by decide) rfl (fun ls hl => ?_)
      exact N133 v1 v2 v3 (0 : Int32) mO mO64 hM _ _ hP hD hS _ (lv_sub hl [1, 2, 3, 4, 0] rfl)
    have I107 : ∀ (n : Nat) (v4 : Int32) (mO : Mem), itr (fun q => mX8_judge_s107 v1 v2 v3 mO64 q.1 q.2) n (v4, mO) = some ex107 → ∀ (H : Heap) (locs : List Loc), va_P (dC, dI) vwCl (wO ct aO mO mO64) H → va_D A (wO ct aO mO mO64) → va_S A s.heap H locs → ∀ ls : Array Slot, lv_has ls 7 [(0, .ref (aO 0)), (1, .int v1), (2, .int v2), (3, .int v3), (4, .int v4)] → W p l e (headSpec wsX8_judge rmX8_judge).room s m args below meth c H locs 0 0 Q (F0 m 107 ls []) := by
      intro n
      induction n with
      | zero => intro v4 mO hit; exact (itr_zero hit).elim
      | succ n ih107 =>
        intro v4 mO hit H locs hP hD hS ls hl
        obtain ⟨o107, hM, hbk107, hex107⟩ := itr_succ hit
        replace hM : mX8_judge_s107 v1 v2 v3 mO64 v4 mO = some o107 := hM
        unfold mX8_judge_s107 at hM
        refine lv_iload hx hb dX8_judge_107 (lv_at hl 4 rfl) ?_
        refine lv_aload_n hx hb dX8_judge_109 rfl (lv_at hl 0 rfl) ?_
        refine va_get (D := (dC, dI)) (ci := 8) (v := .int (mO 0 28)) (C := RX8) (T := TX8) (N := 45) hx hb hts iwX8_judge_X8 hown hK hP 0 rfl rfl 28 (by decide) (hts _ (List.mem_of_getElem? (i := 1) rfl)) (fun _ h9 => h9) rfl dX8_judge_110 ?_
        refine lv_icmp_ge (tgt := 130) hx hb dX8_judge_113 (by decide) (fun hc_27 => ?_) (fun hc_27 => ?_)
        · have hM := it_p hc_27 hM
          have hR := som hM
          exact X107_0 mO (hex107 _ hR).symm _ _ hP hD hS _ (lv_sub hl [0, 1, 2, 3] rfl)
        · have hM := it_n hc_27 hM
          refine lv_aload_n hx hb dX8_judge_116 rfl (lv_at hl 0 rfl) ?_
          refine va_get (D := (dC, dI)) (ci := 8) (v := .ref (aO 21)) (C := RX8) (T := TX8) (N := 45) hx hb hts iwX8_judge_X8 hown hK hP 0 rfl rfl 40 (by decide) (hts _ (List.mem_of_getElem? (i := 10) rfl)) (fun _ h9 => h9) rfl dX8_judge_117 ?_
          refine lv_iload hx hb dX8_judge_120 (lv_at hl 4 rfl) ?_
          refine lv_iconst (v := 0) hx hb dX8_judge_122 (by decide) ?_
          obtain ⟨hi, hM⟩ := gi_some hM
          refine st_i (wf := fun z => (wO ct aO z mO64)) (m1 := upi mO 21 v4.toNatClampNeg (0 : Int32)) hx hb hK hP hD hS 21 rfl hi dX8_judge_123 rfl (fun mO_28 emO_28 H locs hP hD hS => ?_)
          have hM := nm_at emO_28 hM
          obtain ⟨x_29, ex_29⟩ : ∃ y : Int32, y = (v4 + (1 : Int32)) := ⟨_, rfl⟩
          have hM := nm_at ex_29 hM
          refine lv_iinc (v := x_29) (lv' := [(4, .int x_29), (0, .ref (aO 0)), (1, .int v1), (2, .int v2), (3, .int v3)]) hx hb dX8_judge_124 hl (k := 4) rfl (by rw [ex_29]; rfl) (by decide) rfl (fun ls hl => ?_)
          refine lv_goto (tgt := 107) hx hb dX8_judge_127 (by decide) ?_
          have hR := som hM
          exact ih107 x_29 mO_28 (hbk107 _ hR) _ _ hP hD hS _ (lv_sub hl [1, 2, 3, 4, 0] rfl)
    exact I107 FU v4 mO hit107 _ _ hP hD hS _ hl
  have N73 : ∀ (v1 : Int32) (v2 : Int32) (v3 : Int32) (mO : Mem) (mO64 : Lem), mX8_judge_L73 v1 v2 v3 mO mO64 = some res → ∀ (H : Heap) (locs : List Loc), va_P (dC, dI) vwCl (wO ct aO mO mO64) H → va_D A (wO ct aO mO mO64) → va_S A s.heap H locs → ∀ ls : Array Slot, lv_has ls 7 [(0, .ref (aO 0)), (1, .int v1), (2, .int v2), (3, .int v3)] → W p l e (headSpec wsX8_judge rmX8_judge).room s m args below meth c H locs 0 0 Q (F0 m 73 ls []) := by
    intro v1 v2 v3 mO mO64 hM H locs hP hD hS ls hl
    unfold mX8_judge_L73 at hM
    obtain ⟨ex73, hit73, hM⟩ := bn_some hM
    have X73_0 : ∀ (mO : Mem), ex73 = mO → ∀ (H : Heap) (locs : List Loc), va_P (dC, dI) vwCl (wO ct aO mO mO64) H → va_D A (wO ct aO mO mO64) → va_S A s.heap H locs → ∀ ls : Array Slot, lv_has ls 7 [(0, .ref (aO 0)), (1, .int v1), (2, .int v2)] → W p l e (headSpec wsX8_judge rmX8_judge).room s m args below meth c H locs 0 0 Q (F0 m 98 ls []) := by
      intro mO hex H locs hP hD hS ls hl
      rw [hex] at hM
      have hM := nm_at (y := mO) rfl hM
      refine lv_aload_n hx hb dX8_judge_98 rfl (lv_at hl 0 rfl) ?_
      obtain ⟨mO_30, hr_31, hM⟩ := bn_some hM
      refine gv_v (wn := (wO ct aO mO_30 mO64)) (va_runV (As := []) (rest := []) ⟨hx, hb, hml, hown, hts⟩ (kX8_begins l dC dI ct aO _ mO mO64 _ hr_31) (cwV 0 hts gX8_judge_X8_begins rfl rfl rfl hvX8_begins ⟨Nat.le_of_ble_eq_true rfl, Nat.le_of_ble_eq_true rfl⟩) (preV_of E0_ok hK hP hD (is := [0, 1, 2, 3, 4, 5, 6, 7, 8, 9, 10, 11, 12, 13, 14, 15, 16, 17, 18, 19, 20, 21, 22, 23, 24, 25]) rfl rfl rfl (ci := 8) rfl 0 rfl e_0) rfl rfl hl.1 rfl (lv_room (Nat.le_of_ble_eq_true rfl)) dX8_judge_99 ⟨Nat.le_of_ble_eq_true rfl, Nat.le_of_ble_eq_true rfl⟩) hP hD hS hA [0, 1, 2, 3, 4, 5, 6, 7, 8, 9, 10, 11, 12, 13, 14, 15, 16, 17, 18, 19, 20, 21, 22, 23, 24, 25] [] [0, 1, 2, 3, 4, 5, 6, 7, 8, 9, 10, 11, 12, 13, 14, 15, 16, 17, 18, 19, 20, 21, 22, 23, 24, 25] rfl rfl rfl (by decide) rfl rfl (fun H locs hP hD hS => ?_)
      refine lv_iconst (v := -1) hx hb dX8_judge_102 (by decide) ?_
      refine lv_istore_n (lv' := [(3, .int (-1 : Int32)), (0, .ref (aO 0)), (1, .int v1), (2, .int v2)]) hx hb dX8_judge_103 rfl hl (by decide) rfl (fun ls hl => ?_)
      refine lv_iconst (v := 0) hx hb dX8_judge_104 (by decide) ?_
      refine lv_istore (lv' := [(4, .int (0 : Int32)), (3, .int (-1 : Int32)), (0, .ref (aO 0)), (1, .int v1), (2, .int v2)]) hx hb dX8_judge_105 hl (by decide) rfl (fun ls hl => ?_)
      exact N107 v1 v2 (-1 : Int32) (0 : Int32) mO_30 mO64 hM _ _ hP hD hS _ (lv_sub hl [2, 3, 4, 1, 0] rfl)
    have I73 : ∀ (n : Nat) (v3 : Int32) (mO : Mem), itr (fun q => mX8_judge_s73 v1 v2 mO64 q.1 q.2) n (v3, mO) = some ex73 → ∀ (H : Heap) (locs : List Loc), va_P (dC, dI) vwCl (wO ct aO mO mO64) H → va_D A (wO ct aO mO mO64) → va_S A s.heap H locs → ∀ ls : Array Slot, lv_has ls 7 [(0, .ref (aO 0)), (1, .int v1), (2, .int v2), (3, .int v3)] → W p l e (headSpec wsX8_judge rmX8_judge).room s m args below meth c H locs 0 0 Q (F0 m 73 ls []) := by
      intro n
      induction n with
      | zero => intro v3 mO hit; exact (itr_zero hit).elim
      | succ n ih73 =>
        intro v3 mO hit H locs hP hD hS ls hl
        obtain ⟨o73, hM, hbk73, hex73⟩ := itr_succ hit
        replace hM : mX8_judge_s73 v1 v2 mO64 v3 mO = some o73 := hM
        unfold mX8_judge_s73 at hM
        refine lv_iload_n hx hb dX8_judge_73 rfl (lv_at hl 3 rfl) ?_
        refine lv_sipush (v := 240) hx hb dX8_judge_74 (by decide) ?_
        refine lv_icmp_ge (tgt := 98) hx hb dX8_judge_77 (by decide) (fun hc_33 => ?_) (fun hc_33 => ?_)
        · have hM := it_p hc_33 hM
          have hR := som hM
          exact X73_0 mO (hex73 _ hR).symm _ _ hP hD hS _ (lv_sub hl [0, 1, 2] rfl)
        · have hM := it_n hc_33 hM
          refine lv_aload_n hx hb dX8_judge_80 rfl (lv_at hl 0 rfl) ?_
          refine va_get (D := (dC, dI)) (ci := 8) (v := .ref (aO 24)) (C := RX8) (T := TX8) (N := 45) hx hb hts iwX8_judge_X8 hown hK hP 0 rfl rfl 43 (by decide) (hts _ (List.mem_of_getElem? (i := 8) rfl)) (fun _ h9 => h9) rfl dX8_judge_81 ?_
          refine lv_iload_n hx hb dX8_judge_84 rfl (lv_at hl 3 rfl) ?_
          refine lv_aload_n hx hb dX8_judge_85 rfl (lv_at hl 0 rfl) ?_
          refine va_get (D := (dC, dI)) (ci := 8) (v := .ref (aO 10)) (C := RX8) (T := TX8) (N := 45) hx hb hts iwX8_judge_X8 hown hK hP 0 rfl rfl 26 (by decide) (hts _ (List.mem_of_getElem? (i := 9) rfl)) (fun _ h9 => h9) rfl dX8_judge_86 ?_
          refine lv_iload_n hx hb dX8_judge_89 rfl (lv_at hl 3 rfl) ?_
          obtain ⟨hi, hM⟩ := gi_some hM
          refine va_iald hx hb hK hP 10 0 rfl rfl hi dX8_judge_90 ?_
          obtain ⟨hi, hM⟩ := gi_some hM
          refine st_i (wf := fun z => (wO ct aO z mO64)) (m1 := upi mO 24 v3.toNatClampNeg (mO 10 v3.toNatClampNeg)) hx hb hK hP hD hS 24 rfl hi dX8_judge_91 rfl (fun mO_34 emO_34 H locs hP hD hS => ?_)
          have hM := nm_at emO_34 hM
          obtain ⟨x_35, ex_35⟩ : ∃ y : Int32, y = (v3 + (1 : Int32)) := ⟨_, rfl⟩
          have hM := nm_at ex_35 hM
          refine lv_iinc (v := x_35) (lv' := [(3, .int x_35), (0, .ref (aO 0)), (1, .int v1), (2, .int v2)]) hx hb dX8_judge_92 hl (k := 3) rfl (by rw [ex_35]; rfl) (by decide) rfl (fun ls hl => ?_)
          refine lv_goto (tgt := 73) hx hb dX8_judge_95 (by decide) ?_
          have hR := som hM
          exact ih73 x_35 mO_34 (hbk73 _ hR) _ _ hP hD hS _ (lv_sub hl [1, 2, 3, 0] rfl)
    exact I73 FU v3 mO hit73 _ _ hP hD hS _ hl
  have N35 : ∀ (v1 : Int32) (v2 : Int32) (v3 : Int32) (mO : Mem) (mO64 : Lem), mX8_judge_L35 v1 v2 v3 mO mO64 = some res → ∀ (H : Heap) (locs : List Loc), va_P (dC, dI) vwCl (wO ct aO mO mO64) H → va_D A (wO ct aO mO mO64) → va_S A s.heap H locs → ∀ ls : Array Slot, lv_has ls 7 [(0, .ref (aO 0)), (1, .int v1), (2, .int v2), (3, .int v3)] → W p l e (headSpec wsX8_judge rmX8_judge).room s m args below meth c H locs 0 0 Q (F0 m 35 ls []) := by
    intro v1 v2 v3 mO mO64 hM H locs hP hD hS ls hl
    unfold mX8_judge_L35 at hM
    obtain ⟨ex35, hit35, hM⟩ := bn_some hM
    have X35_0 : ∀ (mO : Mem), ex35 = mO → ∀ (H : Heap) (locs : List Loc), va_P (dC, dI) vwCl (wO ct aO mO mO64) H → va_D A (wO ct aO mO mO64) → va_S A s.heap H locs → ∀ ls : Array Slot, lv_has ls 7 [(0, .ref (aO 0)), (1, .int v1), (2, .int v2)] → W p l e (headSpec wsX8_judge rmX8_judge).room s m args below meth c H locs 0 0 Q (F0 m 71 ls []) := by
      intro mO hex H locs hP hD hS ls hl
      rw [hex] at hM
      have hM := nm_at (y := mO) rfl hM
      refine lv_iconst (v := 0) hx hb dX8_judge_71 (by decide) ?_
      refine lv_istore_n (lv' := [(3, .int (0 : Int32)), (0, .ref (aO 0)), (1, .int v1), (2, .int v2)]) hx hb dX8_judge_72 rfl hl (by decide) rfl (fun ls hl => ?_)
      exact N73 v1 v2 (0 : Int32) mO mO64 hM _ _ hP hD hS _ (lv_sub hl [1, 2, 3, 0] rfl)
    have I35 : ∀ (n : Nat) (v3 : Int32) (mO : Mem), itr (fun q => mX8_judge_s35 v1 v2 mO64 q.1 q.2) n (v3, mO) = some ex35 → ∀ (H : Heap) (locs : List Loc), va_P (dC, dI) vwCl (wO ct aO mO mO64) H → va_D A (wO ct aO mO mO64) → va_S A s.heap H locs → ∀ ls : Array Slot, lv_has ls 7 [(0, .ref (aO 0)), (1, .int v1), (2, .int v2), (3, .int v3)] → W p l e (headSpec wsX8_judge rmX8_judge).room s m args below meth c H locs 0 0 Q (F0 m 35 ls []) := by
      intro n
      induction n with
      | zero => intro v3 mO hit; exact (itr_zero hit).elim
      | succ n ih35 =>
        intro v3 mO hit H locs hP hD hS ls hl
        obtain ⟨o35, hM, hbk35, hex35⟩ := itr_succ hit
        replace hM : mX8_judge_s35 v1 v2 mO64 v3 mO = some o35 := hM
        unfold mX8_judge_s35 at hM
        refine lv_iload_n hx hb dX8_judge_35 rfl (lv_at hl 3 rfl) ?_
        refine lv_bipush (v := 6) hx hb dX8_judge_36 (by decide) ?_
        refine lv_icmp_ge (tgt := 71) hx hb dX8_judge_38 (by decide) (fun hc_36 => ?_) (fun hc_36 => ?_)
        · have hM := it_p hc_36 hM
          have hR := som hM
          exact X35_0 mO (hex35 _ hR).symm _ _ hP hD hS _ (lv_sub hl [0, 1, 2] rfl)
        · have hM := it_n hc_36 hM
          refine lv_aload_n hx hb dX8_judge_41 rfl (lv_at hl 0 rfl) ?_
          refine va_get (D := (dC, dI)) (ci := 8) (v := .ref (aO 22)) (C := RX8) (T := TX8) (N := 45) hx hb hts iwX8_judge_X8 hown hK hP 0 rfl rfl 41 (by decide) (hts _ (List.mem_of_getElem? (i := 4) rfl)) (fun _ h9 => h9) rfl dX8_judge_42 ?_
          refine lv_iload_n hx hb dX8_judge_45 rfl (lv_at hl 3 rfl) ?_
          refine lv_aload_n hx hb dX8_judge_46 rfl (lv_at hl 0 rfl) ?_
          refine va_get (D := (dC, dI)) (ci := 8) (v := .ref (aO 8)) (C := RX8) (T := TX8) (N := 45) hx hb hts iwX8_judge_X8 hown hK hP 0 rfl rfl 24 (by decide) (hts _ (List.mem_of_getElem? (i := 5) rfl)) (fun _ h9 => h9) rfl dX8_judge_47 ?_
          refine lv_iload_n hx hb dX8_judge_50 rfl (lv_at hl 3 rfl) ?_
          obtain ⟨hi, hM⟩ := gi_some hM
          refine va_iald hx hb hK hP 8 0 rfl rfl hi dX8_judge_51 ?_
          obtain ⟨hi, hM⟩ := gi_some hM
          refine st_i (wf := fun z => (wO ct aO z mO64)) (m1 := upi mO 22 v3.toNatClampNeg (mO 8 v3.toNatClampNeg)) hx hb hK hP hD hS 22 rfl hi dX8_judge_52 rfl (fun mO_37 emO_37 H locs hP hD hS => ?_)
          have hM := nm_at emO_37 hM
          refine lv_aload_n hx hb dX8_judge_53 rfl (lv_at hl 0 rfl) ?_
          refine va_get (D := (dC, dI)) (ci := 8) (v := .ref (aO 23)) (C := RX8) (T := TX8) (N := 45) hx hb hts iwX8_judge_X8 hown hK hP 0 rfl rfl 42 (by decide) (hts _ (List.mem_of_getElem? (i := 6) rfl)) (fun _ h9 => h9) rfl dX8_judge_54 ?_
          refine lv_iload_n hx hb dX8_judge_57 rfl (lv_at hl 3 rfl) ?_
          refine lv_aload_n hx hb dX8_judge_58 rfl (lv_at hl 0 rfl) ?_
          refine va_get (D := (dC, dI)) (ci := 8) (v := .ref (aO 9)) (C := RX8) (T := TX8) (N := 45) hx hb hts iwX8_judge_X8 hown hK hP 0 rfl rfl 25 (by decide) (hts _ (List.mem_of_getElem? (i := 7) rfl)) (fun _ h9 => h9) rfl dX8_judge_59 ?_
          refine lv_iload_n hx hb dX8_judge_62 rfl (lv_at hl 3 rfl) ?_
          obtain ⟨hi, hM⟩ := gi_some hM
          refine va_iald hx hb hK hP 9 0 rfl rfl hi dX8_judge_63 ?_
          obtain ⟨hi, hM⟩ := gi_some hM
          refine st_i (wf := fun z => (wO ct aO z mO64)) (m1 := upi mO_37 23 v3.toNatClampNeg (mO_37 9 v3.toNatClampNeg)) hx hb hK hP hD hS 23 rfl hi dX8_judge_64 rfl (fun mO_38 emO_38 H locs hP hD hS => ?_)
          have hM := nm_at emO_38 hM
          obtain ⟨x_39, ex_39⟩ : ∃ y : Int32, y = (v3 + (1 : Int32)) := ⟨_, rfl⟩
          have hM := nm_at ex_39 hM
          refine lv_iinc (v := x_39) (lv' := [(3, .int x_39), (0, .ref (aO 0)), (1, .int v1), (2, .int v2)]) hx hb dX8_judge_65 hl (k := 3) rfl (by rw [ex_39]; rfl) (by decide) rfl (fun ls hl => ?_)
          refine lv_goto (tgt := 35) hx hb dX8_judge_68 (by decide) ?_
          have hR := som hM
          exact ih35 x_39 mO_38 (hbk35 _ hR) _ _ hP hD hS _ (lv_sub hl [1, 2, 3, 0] rfl)
    exact I35 FU v3 mO hit35 _ _ hP hD hS _ hl
  have N19 : ∀ (v1 : Int32) (mO : Mem) (mO64 : Lem), mX8_judge_j19 v1 mO mO64 = some res → ∀ (H : Heap) (locs : List Loc), va_P (dC, dI) vwCl (wO ct aO mO mO64) H → va_D A (wO ct aO mO mO64) → va_S A s.heap H locs → ∀ ls : Array Slot, lv_has ls 7 [(0, .ref (aO 0)), (1, .int v1)] → W p l e (headSpec wsX8_judge rmX8_judge).room s m args below meth c H locs 0 0 Q (F0 m 19 ls []) := by
    intro v1 mO mO64 hM H locs hP hD hS ls hl
    unfold mX8_judge_j19 at hM
    refine lv_aload_n hx hb dX8_judge_19 rfl (lv_at hl 0 rfl) ?_
    refine va_get (D := (dC, dI)) (ci := 8) (v := .int (mO 0 18)) (C := RX8) (T := TX8) (N := 45) hx hb hts iwX8_judge_X8 hown hK hP 0 rfl rfl 18 (by decide) (hts _ (List.mem_of_getElem? (i := 2) rfl)) (fun _ h9 => h9) rfl dX8_judge_20 ?_
    refine lv_if_ne (tgt := 28) hx hb dX8_judge_23 (by decide) (fun hc_40 => ?_) (fun hc_40 => ?_)
    · have hM := it_p hc_40 hM
      refine lv_aload_n hx hb dX8_judge_28 rfl (lv_at hl 0 rfl) ?_
      refine va_get (D := (dC, dI)) (ci := 8) (v := .int (mO 0 23)) (C := RX8) (T := TX8) (N := 45) hx hb hts iwX8_judge_X8 hown hK hP 0 rfl rfl 23 (by decide) (hts _ (List.mem_of_getElem? (i := 3) rfl)) (fun _ h9 => h9) rfl dX8_judge_29 ?_
      refine lv_topi (fun x_41 ex_41 => ?_)
      have hM := nm_at ex_41 hM
      refine lv_istore_n (lv' := [(2, .int x_41), (0, .ref (aO 0)), (1, .int v1)]) hx hb dX8_judge_32 rfl hl (by decide) rfl (fun ls hl => ?_)
      refine lv_iconst (v := 0) hx hb dX8_judge_33 (by decide) ?_
      refine lv_istore_n (lv' := [(3, .int (0 : Int32)), (2, .int x_41), (0, .ref (aO 0)), (1, .int v1)]) hx hb dX8_judge_34 rfl hl (by decide) rfl (fun ls hl => ?_)
      exact N35 v1 x_41 (0 : Int32) mO mO64 hM _ _ hP hD hS _ (lv_sub hl [2, 3, 1, 0] rfl)
    · have hM := it_nn hc_40 hM
      refine lv_iconst (v := -1) hx hb dX8_judge_26 (by decide) ?_
      have hR := som hM
      rw [hR] at hQ
      exact ret_i hQ hx hb hr hlocks hP hK hD hS dX8_judge_27
  refine lv_iload_n hx hb dX8_judge_0 rfl (lv_at hl 1 rfl) ?_
  refine lv_iconst (v := -1) hx hb dX8_judge_1 (by decide) ?_
  refine lv_icmp_eq (tgt := 19) hx hb dX8_judge_2 (by decide) (fun hc_42 => ?_) (fun hc_42 => ?_)
  · have hM := it_p hc_42 hM
    exact N19 v1 mO mO64 hM _ _ hP hD hS _ (lv_sub hl [0, 1] rfl)
  · have hM := it_n hc_42 hM
    refine lv_iload_n hx hb dX8_judge_5 rfl (lv_at hl 1 rfl) ?_
    refine lv_iconst (v := 0) hx hb dX8_judge_6 (by decide) ?_
    refine lv_aload_n hx hb dX8_judge_7 rfl (lv_at hl 0 rfl) ?_
    refine va_get (D := (dC, dI)) (ci := 8) (v := .int (mO 0 28)) (C := RX8) (T := TX8) (N := 45) hx hb hts iwX8_judge_X8 hown hK hP 0 rfl rfl 28 (by decide) (hts _ (List.mem_of_getElem? (i := 1) rfl)) (fun _ h9 => h9) rfl dX8_judge_8 ?_
    refine lv_iconst (v := 1) hx hb dX8_judge_11 (by decide) ?_
    refine lv_isub hx hb dX8_judge_12 ?_
    obtain ⟨x_43, hr_44, hM⟩ := bn_some hM
    refine gv_i (r0 := x_43) (wn := (wO ct aO mO mO64)) (va_runS (As := [.int v1, .int (0 : Int32), .int ((mO 0 28) - (1 : Int32))]) (rest := []) ⟨hx, hb, hml, hown, hts⟩ (kX8_in l dC dI ct _ v1 (0 : Int32) ((mO 0 28) - (1 : Int32)) _ hr_44) (va_cwS 3 hts gX8_judge_X8_in rfl rfl rfl hvX8_in.2 ⟨Nat.le_of_ble_eq_true rfl, Nat.le_of_ble_eq_true rfl⟩) (preS_of E0_ok hK hP hD (is := []) rfl rfl e_0) rfl rfl hl.1 rfl (lv_room (Nat.le_of_ble_eq_true rfl)) dX8_judge_13 ⟨Nat.le_of_ble_eq_true rfl, Nat.le_of_ble_eq_true rfl⟩) hP hD hS hA [] [0, 1, 2, 3, 4, 5, 6, 7, 8, 9, 10, 11, 12, 13, 14, 15, 16, 17, 18, 19, 20, 21, 22, 23, 24, 25] [0, 1, 2, 3, 4, 5, 6, 7, 8, 9, 10, 11, 12, 13, 14, 15, 16, 17, 18, 19, 20, 21, 22, 23, 24, 25] rfl rfl rfl (by decide) rfl rfl (fun H locs hP hD hS => ?_)
    refine lv_if_eq (tgt := 26) hx hb dX8_judge_16 (by decide) (fun hc_46 => ?_) (fun hc_46 => ?_)
    · have hM := it_p hc_46 hM
      refine lv_iconst (v := -1) hx hb dX8_judge_26 (by decide) ?_
      have hR := som hM
      rw [hR] at hQ
      exact ret_i hQ hx hb hr hlocks hP hK hD hS dX8_judge_27
    · have hM := it_n hc_46 hM
      exact N19 v1 mO mO64 hM _ _ hP hD hS _ (lv_sub hl [0, 1] rfl)
abbrev rmX8_holds : Room := { frames := 2, cells := 0, slots := 0, locals := 43 }
set_option maxHeartbeats 4000000 in
set_option maxRecDepth 100000 in
theorem kX8_holds (l : Launch) (dC : Nat → ClassId) (dI : Nat → Nat → Nat) (ct : Nat → ClassId) (aO : Nat → Nat) (sz : Nat) (mO : Mem) (mO64 : Lem) (v1 : Int32) (v2 : Int32) (v3 : Int32) (res : Int32) (hM : mX8_holds mO mO64 v1 v2 v3 = some res) : Met l yX8_holds wsX8_holds rmX8_holds (va_Pc [.ref (aO 0), .int v1, .int v2, .int v3] (PB (dC, dI) ct E0 sz (wO ct aO mO mO64))) (Qi (dC, dI) ct (va_A (wO ct aO mO mO64) sz) res (wO ct aO mO mO64)) 0 0 (va_A (wO ct aO mO mO64) sz) := by
  refine Met.ofW (cc := cX8_holds) (maxL := 4) (ret := (some .int)) (by decide) rfl ?_
  intro p e s m args below meth c s₁ B hml hv
  obtain ⟨hargs, hsz, hP, hK, hD0, hE⟩ := hv
  have hx := B.exec
  have hb := B.bytes
  have hr := B.returns
  have hts := atoms_spec (ws := wsX8_holds) B.pre
  have hown : s.vm.findClass RX8 = some m.cls := findClass_of_methodNamed B.named
  have hlocks := B.notSynchronized
  clear B s₁
  subst hsz
  have hD := hD0.self (sz := s.heap.size)
  clear hD0
  generalize hAe : va_A (wO ct aO mO mO64) s.heap.size = A at hD hE ⊢
  have hA : ∀ q : Nat, s.heap.size ≤ q → A q := fun q h => by rw [← hAe]; exact Or.inr h
  clear hAe
  have hS : va_S A s.heap s.heap [] := va_S.rf
  refine cutQ (fun Q hQ => ?_)
  refine entryW (vs := [.ref (aO 0), .int v1, .int v2, .int v3]) hargs (Nat.le_of_ble_eq_true rfl) (fun ls hl => ?_)
  replace hl : lv_has ls 4 [(0, .ref (aO 0)), (1, .int v1), (2, .int v2), (3, .int v3)] := hl
  unfold mX8_holds at hM
  refine lv_iload_n hx hb dX8_holds_0 rfl (lv_at hl 1 rfl) ?_
  refine lv_iconst (v := 1) hx hb dX8_holds_1 (by decide) ?_
  refine lv_sipush (v := 9999) hx hb dX8_holds_2 (by decide) ?_
  obtain ⟨x_1, hr_2, hM⟩ := bn_some hM
  refine gv_i (r0 := x_1) (wn := (wO ct aO mO mO64)) (va_runS (As := [.int v1, .int (1 : Int32), .int (9999 : Int32)]) (rest := []) ⟨hx, hb, hml, hown, hts⟩ (kX8_in l dC dI ct _ v1 (1 : Int32) (9999 : Int32) _ hr_2) (va_cwS 3 hts gX8_holds_X8_in rfl rfl rfl hvX8_in.2 ⟨Nat.le_of_ble_eq_true rfl, Nat.le_of_ble_eq_true rfl⟩) (preS_of E0_ok hK hP hD (is := []) rfl rfl e_0) rfl rfl hl.1 rfl (lv_room (Nat.le_of_ble_eq_true rfl)) dX8_holds_5 ⟨Nat.le_of_ble_eq_true rfl, Nat.le_of_ble_eq_true rfl⟩) hP hD hS hA [] [0, 1, 2, 3, 4, 5, 6, 7, 8, 9, 10, 11, 12, 13, 14, 15, 16, 17, 18, 19, 20, 21, 22, 23, 24, 25] [0, 1, 2, 3, 4, 5, 6, 7, 8, 9, 10, 11, 12, 13, 14, 15, 16, 17, 18, 19, 20, 21, 22, 23, 24, 25] rfl rfl rfl (by decide) rfl rfl (fun H locs hP hD hS => ?_)
  refine lv_if_eq (tgt := 19) hx hb dX8_holds_8 (by decide) (fun hc_4 => ?_) (fun hc_4 => ?_)
  · have hM := it_p hc_4 hM
    refine lv_iconst (v := -1) hx hb dX8_holds_19 (by decide) ?_
    refine lv_goto (tgt := 40) hx hb dX8_holds_20 (by decide) ?_
    have hR := som hM
    rw [hR] at hQ
    exact ret_i hQ hx hb hr hlocks hP hK hD hS dX8_holds_40
  · have hM := it_n hc_4 hM
    refine lv_iload_n hx hb dX8_holds_11 rfl (lv_at hl 2 rfl) ?_
    refine lv_iload_n hx hb dX8_holds_12 rfl (lv_at hl 3 rfl) ?_
    obtain ⟨x_5, hr_6, hM⟩ := bn_some hM
    refine gv_i (r0 := x_5) (wn := (wO ct aO mO mO64)) (va_runS (As := [.int v2, .int v3]) (rest := []) ⟨hx, hb, hml, hown, hts⟩ (kX8_isGain l dC dI ct _ v2 v3 _ hr_6) (va_cwS 2 hts gX8_holds_X8_isGain rfl rfl rfl hvX8_isGain.2 ⟨Nat.le_of_ble_eq_true rfl, Nat.le_of_ble_eq_true rfl⟩) (preS_of E0_ok hK hP hD (is := []) rfl rfl e_0) rfl rfl hl.1 rfl (lv_room (Nat.le_of_ble_eq_true rfl)) dX8_holds_13 ⟨Nat.le_of_ble_eq_true rfl, Nat.le_of_ble_eq_true rfl⟩) hP hD hS hA [] [0, 1, 2, 3, 4, 5, 6, 7, 8, 9, 10, 11, 12, 13, 14, 15, 16, 17, 18, 19, 20, 21, 22, 23, 24, 25] [0, 1, 2, 3, 4, 5, 6, 7, 8, 9, 10, 11, 12, 13, 14, 15, 16, 17, 18, 19, 20, 21, 22, 23, 24, 25] rfl rfl rfl (by decide) rfl rfl (fun H locs hP hD hS => ?_)
    refine lv_if_ne (tgt := 23) hx hb dX8_holds_16 (by decide) (fun hc_8 => ?_) (fun hc_8 => ?_)
    · have hM := it_p hc_8 hM
      refine lv_iload_n hx hb dX8_holds_23 rfl (lv_at hl 2 rfl) ?_
      refine lv_iload_n hx hb dX8_holds_24 rfl (lv_at hl 3 rfl) ?_
      refine lv_imul hx hb dX8_holds_25 ?_
      refine lv_iload_n hx hb dX8_holds_26 rfl (lv_at hl 1 rfl) ?_
      refine lv_bipush (v := 16) hx hb dX8_holds_27 (by decide) ?_
      refine lv_iload_n hx hb dX8_holds_29 rfl (lv_at hl 3 rfl) ?_
      refine lv_isub hx hb dX8_holds_30 ?_
      refine lv_imul hx hb dX8_holds_31 ?_
      refine lv_icmp_lt (tgt := 39) hx hb dX8_holds_32 (by decide) (fun hc_9 => ?_) (fun hc_9 => ?_)
      · have hM := it_p hc_9 hM
        refine lv_iconst (v := 0) hx hb dX8_holds_39 (by decide) ?_
        have hR := som hM
        rw [hR] at hQ
        exact ret_i hQ hx hb hr hlocks hP hK hD hS dX8_holds_40
      · have hM := it_n hc_9 hM
        refine lv_iconst (v := 1) hx hb dX8_holds_35 (by decide) ?_
        refine lv_goto (tgt := 40) hx hb dX8_holds_36 (by decide) ?_
        have hR := som hM
        rw [hR] at hQ
        exact ret_i hQ hx hb hr hlocks hP hK hD hS dX8_holds_40
    · have hM := it_nn hc_8 hM
      refine lv_iconst (v := -1) hx hb dX8_holds_19 (by decide) ?_
      refine lv_goto (tgt := 40) hx hb dX8_holds_20 (by decide) ?_
      have hR := som hM
      rw [hR] at hQ
      exact ret_i hQ hx hb hr hlocks hP hK hD hS dX8_holds_40
abbrev rmX8_greatest : Room := { frames := 2, cells := 0, slots := 0, locals := 43 }
set_option maxHeartbeats 4000000 in
set_option maxRecDepth 100000 in
theorem kX8_greatest (l : Launch) (dC : Nat → ClassId) (dI : Nat → Nat → Nat) (ct : Nat → ClassId) (aO : Nat → Nat) (sz : Nat) (mO : Mem) (mO64 : Lem) (v1 : Int32) (v2 : Int32) (res : Int32) (hM : mX8_greatest mO mO64 v1 v2 = some res) : Met l yX8_greatest wsX8_greatest rmX8_greatest (va_Pc [.ref (aO 0), .int v1, .int v2] (PB (dC, dI) ct E0 sz (wO ct aO mO mO64))) (Qi (dC, dI) ct (va_A (wO ct aO mO mO64) sz) res (wO ct aO mO mO64)) 0 0 (va_A (wO ct aO mO mO64) sz) := by
  refine Met.ofW (cc := cX8_greatest) (maxL := 3) (ret := (some .int)) (by decide) rfl ?_
  intro p e s m args below meth c s₁ B hml hv
  obtain ⟨hargs, hsz, hP, hK, hD0, hE⟩ := hv
  have hx := B.exec
  have hb := B.bytes
  have hr := B.returns
  have hts := atoms_spec (ws := wsX8_greatest) B.pre
  have hown : s.vm.findClass RX8 = some m.cls := findClass_of_methodNamed B.named
  have hlocks := B.notSynchronized
  clear B s₁
  subst hsz
  have hD := hD0.self (sz := s.heap.size)
  clear hD0
  generalize hAe : va_A (wO ct aO mO mO64) s.heap.size = A at hD hE ⊢
  have hA : ∀ q : Nat, s.heap.size ≤ q → A q := fun q h => by rw [← hAe]; exact Or.inr h
  clear hAe
  have hS : va_S A s.heap s.heap [] := va_S.rf
  refine cutQ (fun Q hQ => ?_)
  refine entryW (vs := [.ref (aO 0), .int v1, .int v2]) hargs (Nat.le_of_ble_eq_true rfl) (fun ls hl => ?_)
  replace hl : lv_has ls 3 [(0, .ref (aO 0)), (1, .int v1), (2, .int v2)] := hl
  unfold mX8_greatest at hM
  refine lv_iload_n hx hb dX8_greatest_0 rfl (lv_at hl 1 rfl) ?_
  refine lv_iload_n hx hb dX8_greatest_1 rfl (lv_at hl 2 rfl) ?_
  obtain ⟨x_1, hr_2, hM⟩ := bn_some hM
  refine gv_i (r0 := x_1) (wn := (wO ct aO mO mO64)) (va_runS (As := [.int v1, .int v2]) (rest := []) ⟨hx, hb, hml, hown, hts⟩ (kX8_isGain l dC dI ct _ v1 v2 _ hr_2) (va_cwS 2 hts gX8_greatest_X8_isGain rfl rfl rfl hvX8_isGain.2 ⟨Nat.le_of_ble_eq_true rfl, Nat.le_of_ble_eq_true rfl⟩) (preS_of E0_ok hK hP hD (is := []) rfl rfl e_0) rfl rfl hl.1 rfl (lv_room (Nat.le_of_ble_eq_true rfl)) dX8_greatest_2 ⟨Nat.le_of_ble_eq_true rfl, Nat.le_of_ble_eq_true rfl⟩) hP hD hS hA [] [0, 1, 2, 3, 4, 5, 6, 7, 8, 9, 10, 11, 12, 13, 14, 15, 16, 17, 18, 19, 20, 21, 22, 23, 24, 25] [0, 1, 2, 3, 4, 5, 6, 7, 8, 9, 10, 11, 12, 13, 14, 15, 16, 17, 18, 19, 20, 21, 22, 23, 24, 25] rfl rfl rfl (by decide) rfl rfl (fun H locs hP hD hS => ?_)
  refine lv_if_eq (tgt := 25) hx hb dX8_greatest_5 (by decide) (fun hc_4 => ?_) (fun hc_4 => ?_)
  · have hM := it_p hc_4 hM
    refine lv_iconst (v := -1) hx hb dX8_greatest_25 (by decide) ?_
    have hR := som hM
    rw [hR] at hQ
    exact ret_i hQ hx hb hr hlocks hP hK hD hS dX8_greatest_26
  · have hM := it_n hc_4 hM
    refine lv_ldcw (v := 99999) hx hb hown (hts _ (List.mem_of_getElem? (i := 1) rfl)) dX8_greatest_8 ?_
    refine lv_iload_n hx hb dX8_greatest_11 rfl (lv_at hl 1 rfl) ?_
    refine lv_iload_n hx hb dX8_greatest_12 rfl (lv_at hl 2 rfl) ?_
    refine lv_imul hx hb dX8_greatest_13 ?_
    refine lv_bipush (v := 16) hx hb dX8_greatest_14 (by decide) ?_
    refine lv_iload_n hx hb dX8_greatest_16 rfl (lv_at hl 2 rfl) ?_
    refine lv_isub hx hb dX8_greatest_17 ?_
    obtain ⟨hz, hM⟩ := gz_some hM
    refine lv_idiv hx hb dX8_greatest_18 hz ?_
    refine va_mmin hx hb (hml.trans hl.1.symm) hown (hts _ (List.mem_of_getElem? (i := 2) rfl)) (hts _ (List.mem_of_getElem? (i := 3) rfl)) (hts _ (List.mem_of_getElem? (i := 4) rfl)) (hts _ (List.mem_of_getElem? (i := 5) rfl)) (Nat.le_of_ble_eq_true rfl) (Nat.le_of_ble_eq_true rfl) (Nat.le_of_ble_eq_true rfl) (Nat.le_of_ble_eq_true rfl) dX8_greatest_19 ?_
    refine lv_topi (fun x_5 ex_5 => ?_)
    have hM := nm_at ex_5 hM
    refine lv_goto (tgt := 26) hx hb dX8_greatest_22 (by decide) ?_
    have hR := som hM
    rw [hR] at hQ
    exact ret_i hQ hx hb hr hlocks hP hK hD hS dX8_greatest_26
abbrev rmX8_names : Room := { frames := 1, cells := 0, slots := 0, locals := 22 }
set_option maxHeartbeats 4000000 in
set_option maxRecDepth 100000 in
theorem kX8_names (l : Launch) (dC : Nat → ClassId) (dI : Nat → Nat → Nat) (ct : Nat → ClassId) (aO : Nat → Nat) (sz : Nat) (mO : Mem) (mO64 : Lem) (v1 : Int32) (v2 : Int32) (res : Int32) (hM : mX8_names mO mO64 v1 v2 = some res) : Met l yX8_names wsX8_names rmX8_names (va_Pc [.ref (aO 0), .int v1, .int v2] (PB (dC, dI) ct E0 sz (wO ct aO mO mO64))) (Qi (dC, dI) ct (va_A (wO ct aO mO mO64) sz) res (wO ct aO mO mO64)) 0 0 (va_A (wO ct aO mO mO64) sz) := by
  refine Met.ofW (cc := cX8_names) (maxL := 8) (ret := (some .int)) (by decide) rfl ?_
  intro p e s m args below meth c s₁ B hml hv
  obtain ⟨hargs, hsz, hP, hK, hD0, hE⟩ := hv
  have hx := B.exec
  have hb := B.bytes
  have hr := B.returns
  have hts := atoms_spec (ws := wsX8_names) B.pre
  have hown : s.vm.findClass RX8 = some m.cls := findClass_of_methodNamed B.named
  have hlocks := B.notSynchronized
  clear B s₁
  subst hsz
  have hD := hD0.self (sz := s.heap.size)
  clear hD0
  generalize hAe : va_A (wO ct aO mO mO64) s.heap.size = A at hD hE ⊢
  have hA : ∀ q : Nat, s.heap.size ≤ q → A q := fun q h => by rw [← hAe]; exact Or.inr h
  clear hAe
  have hS : va_S A s.heap s.heap [] := va_S.rf
  refine cutQ (fun Q hQ => ?_)
  refine entryW (vs := [.ref (aO 0), .int v1, .int v2]) hargs (Nat.le_of_ble_eq_true rfl) (fun ls hl => ?_)
  replace hl : lv_has ls 8 [(0, .ref (aO 0)), (1, .int v1), (2, .int v2)] := hl
  unfold mX8_names at hM
  have N30 : ∀ (v1 : Int32) (v2 : Int32) (v3 : Int64) (v5 : Int64) (v7 : Int32), mX8_names_L30 v1 v2 v3 v5 v7 mO mO64 = some res → ∀ (H : Heap) (locs : List Loc), va_P (dC, dI) vwCl (wO ct aO mO mO64) H → va_D A (wO ct aO mO mO64) → va_S A s.heap H locs → ∀ ls : Array Slot, lv_has ls 8 [(1, .int v1), (2, .int v2), (3, .long v3), (5, .long v5), (7, .int v7)] → W p l e (headSpec wsX8_names rmX8_names).room s m args below meth c H locs 0 0 Q (F0 m 30 ls []) := by
    intro v1 v2 v3 v5 v7 hM H locs hP hD hS ls hl
    unfold mX8_names_L30 at hM
    obtain ⟨ex30, hit30, hM⟩ := bn_some hM
    have X30_0 : ∀ (v7 : Int32), ex30 = (Sum.inl v7) → ∀ (H : Heap) (locs : List Loc), va_P (dC, dI) vwCl (wO ct aO mO mO64) H → va_D A (wO ct aO mO mO64) → va_S A s.heap H locs → ∀ ls : Array Slot, lv_has ls 8 [(7, .int v7)] → W p l e (headSpec wsX8_names rmX8_names).room s m args below meth c H locs 0 0 Q (F0 m 76 ls []) := by
      intro v7 hex H locs hP hD hS ls hl
      have hM := el_l hex hM
      refine lv_iload hx hb dX8_names_76 (lv_at hl 0 rfl) ?_
      have hR := som hM
      rw [hR] at hQ
      exact ret_i hQ hx hb hr hlocks hP hK hD hS dX8_names_78
    have X30_1 : ex30 = (Sum.inr ()) → ∀ (H : Heap) (locs : List Loc), va_P (dC, dI) vwCl (wO ct aO mO mO64) H → va_D A (wO ct aO mO mO64) → va_S A s.heap H locs → ∀ ls : Array Slot, lv_has ls 8 [] → W p l e (headSpec wsX8_names rmX8_names).room s m args below meth c H locs 0 0 Q (F0 m 85 ls []) := by
      intro hex H locs hP hD hS ls hl
      have hM := el_r hex hM
      refine lv_iconst (v := -1) hx hb dX8_names_85 (by decide) ?_
      have hR := som hM
      rw [hR] at hQ
      exact ret_i hQ hx hb hr hlocks hP hK hD hS dX8_names_86
    have I30 : ∀ (n : Nat) (v3 : Int64) (v5 : Int64) (v7 : Int32), itr (fun q => mX8_names_s30 v1 v2 mO mO64 q.1 q.2.1 q.2.2) n (v3, v5, v7) = some ex30 → ∀ (H : Heap) (locs : List Loc), va_P (dC, dI) vwCl (wO ct aO mO mO64) H → va_D A (wO ct aO mO mO64) → va_S A s.heap H locs → ∀ ls : Array Slot, lv_has ls 8 [(1, .int v1), (2, .int v2), (3, .long v3), (5, .long v5), (7, .int v7)] → W p l e (headSpec wsX8_names rmX8_names).room s m args below meth c H locs 0 0 Q (F0 m 30 ls []) := by
      intro n
      induction n with
      | zero => intro v3 v5 v7 hit; exact (itr_zero hit).elim
      | succ n ih30 =>
        intro v3 v5 v7 hit H locs hP hD hS ls hl
        obtain ⟨o30, hM, hbk30, hex30⟩ := itr_succ hit
        replace hM : mX8_names_s30 v1 v2 mO mO64 v3 v5 v7 = some o30 := hM
        unfold mX8_names_s30 at hM
        refine lv_iload hx hb dX8_names_30 (lv_at hl 4 rfl) ?_
        refine lv_iload_n hx hb dX8_names_32 rfl (lv_at hl 0 rfl) ?_
        refine lv_icmp_gt (tgt := 85) hx hb dX8_names_33 (by decide) (fun hc_1 => ?_) (fun hc_1 => ?_)
        · have hM := it_p hc_1 hM
          have hR := som hM
          exact X30_1 (hex30 _ hR).symm _ _ hP hD hS _ (lv_sub hl [] rfl)
        · have hM := it_n hc_1 hM
          refine lv_iload hx hb dX8_names_36 (lv_at hl 4 rfl) ?_
          refine lv_bipush (v := 12) hx hb dX8_names_38 (by decide) ?_
          refine lv_icmp_gt (tgt := 85) hx hb dX8_names_40 (by decide) (fun hc_2 => ?_) (fun hc_2 => ?_)
          · have hM := it_p hc_2 hM
            have hR := som hM
            exact X30_1 (hex30 _ hR).symm _ _ hP hD hS _ (lv_sub hl [] rfl)
          · have hM := it_n hc_2 hM
            refine lv_lload_n hx hb dX8_names_43 rfl (lv_at hl 2 rfl) ?_
            refine lv_ldc2 (v := 16) hx hb hown (hts _ (List.mem_of_getElem? (i := 1) rfl)) dX8_names_44 ?_
            refine lv_lmul hx hb dX8_names_47 ?_
            refine lv_topl (fun x_3 ex_3 => ?_)
            have hM := nm_at ex_3 hM
            refine lv_lstore_n (lv' := [(3, .long x_3), (1, .int v1), (2, .int v2), (5, .long v5), (7, .int v7)]) hx hb dX8_names_48 rfl hl (by decide) rfl (fun ls hl => ?_)
            refine lv_lload hx hb dX8_names_49 (lv_at hl 3 rfl) ?_
            refine lv_bipush (v := 16) hx hb dX8_names_51 (by decide) ?_
            refine lv_iload_n hx hb dX8_names_53 rfl (lv_at hl 2 rfl) ?_
            refine lv_isub hx hb dX8_names_54 ?_
            refine lv_i2l hx hb dX8_names_55 rfl ?_
            refine lv_lmul hx hb dX8_names_56 ?_
            refine lv_topl (fun x_4 ex_4 => ?_)
            have hM := nm_at ex_4 hM
            refine lv_lstore (lv' := [(5, .long x_4), (3, .long x_3), (1, .int v1), (2, .int v2), (7, .int v7)]) hx hb dX8_names_57 hl (by decide) rfl (fun ls hl => ?_)
            refine lv_ldc2 (v := 16) hx hb hown (hts _ (List.mem_of_getElem? (i := 1) rfl)) dX8_names_59 ?_
            refine lv_lload_n hx hb dX8_names_62 rfl (lv_at hl 1 rfl) ?_
            refine lv_lload hx hb dX8_names_63 (lv_at hl 0 rfl) ?_
            refine lv_lsub hx hb dX8_names_65 ?_
            refine lv_lmul hx hb dX8_names_66 ?_
            refine lv_ldc2 (v := 12) hx hb hown (hts _ (List.mem_of_getElem? (i := 2) rfl)) dX8_names_67 ?_
            refine lv_lload_n hx hb dX8_names_70 rfl (lv_at hl 1 rfl) ?_
            refine lv_lmul hx hb dX8_names_71 ?_
            refine W.lcmp hx hb dX8_names_72 ?_
            refine lv_if_lt (tgt := 79) hx hb dX8_names_73 (by decide) (fun hc_5 => ?_) (fun hc_5 => ?_)
            · have hM := it_p hc_5 hM
              obtain ⟨x_6, ex_6⟩ : ∃ y : Int32, y = (v7 + (1 : Int32)) := ⟨_, rfl⟩
              have hM := nm_at ex_6 hM
              refine lv_iinc (v := x_6) (lv' := [(7, .int x_6), (5, .long x_4), (3, .long x_3), (1, .int v1), (2, .int v2)]) hx hb dX8_names_79 hl (k := 4) rfl (by rw [ex_6]; rfl) (by decide) rfl (fun ls hl => ?_)
              refine lv_goto (tgt := 30) hx hb dX8_names_82 (by decide) ?_
              have hR := som hM
              exact ih30 x_3 x_4 x_6 (hbk30 _ hR) _ _ hP hD hS _ (lv_sub hl [3, 4, 2, 1, 0] rfl)
            · have hM := it_n hc_5 hM
              have hR := som hM
              exact X30_0 v7 (hex30 _ hR).symm _ _ hP hD hS _ (lv_sub hl [4] rfl)
    exact I30 FU v3 v5 v7 hit30 _ _ hP hD hS _ hl
  refine lv_iload_n hx hb dX8_names_0 rfl (lv_at hl 1 rfl) ?_
  refine lv_iconst (v := 1) hx hb dX8_names_1 (by decide) ?_
  refine lv_bipush (v := 60) hx hb dX8_names_2 (by decide) ?_
  obtain ⟨x_7, hr_8, hM⟩ := bn_some hM
  refine gv_i (r0 := x_7) (wn := (wO ct aO mO mO64)) (va_runS (As := [.int v1, .int (1 : Int32), .int (60 : Int32)]) (rest := []) ⟨hx, hb, hml, hown, hts⟩ (kX8_in l dC dI ct _ v1 (1 : Int32) (60 : Int32) _ hr_8) (va_cwS 3 hts gX8_names_X8_in rfl rfl rfl hvX8_in.2 ⟨Nat.le_of_ble_eq_true rfl, Nat.le_of_ble_eq_true rfl⟩) (preS_of E0_ok hK hP hD (is := []) rfl rfl e_0) rfl rfl hl.1 rfl (lv_room (Nat.le_of_ble_eq_true rfl)) dX8_names_4 ⟨Nat.le_of_ble_eq_true rfl, Nat.le_of_ble_eq_true rfl⟩) hP hD hS hA [] [0, 1, 2, 3, 4, 5, 6, 7, 8, 9, 10, 11, 12, 13, 14, 15, 16, 17, 18, 19, 20, 21, 22, 23, 24, 25] [0, 1, 2, 3, 4, 5, 6, 7, 8, 9, 10, 11, 12, 13, 14, 15, 16, 17, 18, 19, 20, 21, 22, 23, 24, 25] rfl rfl rfl (by decide) rfl rfl (fun H locs hP hD hS => ?_)
  refine lv_if_eq (tgt := 20) hx hb dX8_names_7 (by decide) (fun hc_10 => ?_) (fun hc_10 => ?_)
  · have hM := it_p hc_10 hM
    refine lv_iconst (v := -1) hx hb dX8_names_20 (by decide) ?_
    have hR := som hM
    rw [hR] at hQ
    exact ret_i hQ hx hb hr hlocks hP hK hD hS dX8_names_21
  · have hM := it_n hc_10 hM
    refine lv_iload_n hx hb dX8_names_10 rfl (lv_at hl 2 rfl) ?_
    refine lv_iconst (v := 0) hx hb dX8_names_11 (by decide) ?_
    refine lv_bipush (v := 16) hx hb dX8_names_12 (by decide) ?_
    obtain ⟨x_11, hr_12, hM⟩ := bn_some hM
    refine gv_i (r0 := x_11) (wn := (wO ct aO mO mO64)) (va_runS (As := [.int v2, .int (0 : Int32), .int (16 : Int32)]) (rest := []) ⟨hx, hb, hml, hown, hts⟩ (kX8_in l dC dI ct _ v2 (0 : Int32) (16 : Int32) _ hr_12) (va_cwS 3 hts gX8_names_X8_in rfl rfl rfl hvX8_in.2 ⟨Nat.le_of_ble_eq_true rfl, Nat.le_of_ble_eq_true rfl⟩) (preS_of E0_ok hK hP hD (is := []) rfl rfl e_0) rfl rfl hl.1 rfl (lv_room (Nat.le_of_ble_eq_true rfl)) dX8_names_14 ⟨Nat.le_of_ble_eq_true rfl, Nat.le_of_ble_eq_true rfl⟩) hP hD hS hA [] [0, 1, 2, 3, 4, 5, 6, 7, 8, 9, 10, 11, 12, 13, 14, 15, 16, 17, 18, 19, 20, 21, 22, 23, 24, 25] [0, 1, 2, 3, 4, 5, 6, 7, 8, 9, 10, 11, 12, 13, 14, 15, 16, 17, 18, 19, 20, 21, 22, 23, 24, 25] rfl rfl rfl (by decide) rfl rfl (fun H locs hP hD hS => ?_)
    refine lv_if_ne (tgt := 22) hx hb dX8_names_17 (by decide) (fun hc_14 => ?_) (fun hc_14 => ?_)
    · have hM := it_p hc_14 hM
      refine lv_lconst (v := 1) hx hb dX8_names_22 (by decide) ?_
      refine lv_lstore_n (lv' := [(3, .long (1 : Int64)), (0, .ref (aO 0)), (1, .int v1), (2, .int v2)]) hx hb dX8_names_23 rfl hl (by decide) rfl (fun ls hl => ?_)
      refine lv_lconst (v := 1) hx hb dX8_names_24 (by decide) ?_
      refine lv_lstore (lv' := [(5, .long (1 : Int64)), (3, .long (1 : Int64)), (0, .ref (aO 0)), (1, .int v1), (2, .int v2)]) hx hb dX8_names_25 hl (by decide) rfl (fun ls hl => ?_)
      refine lv_iconst (v := 1) hx hb dX8_names_27 (by decide) ?_
      refine lv_istore (lv' := [(7, .int (1 : Int32)), (5, .long (1 : Int64)), (3, .long (1 : Int64)), (0, .ref (aO 0)), (1, .int v1), (2, .int v2)]) hx hb dX8_names_28 hl (by decide) rfl (fun ls hl => ?_)
      exact N30 v1 v2 (1 : Int64) (1 : Int64) (1 : Int32) hM _ _ hP hD hS _ (lv_sub hl [4, 5, 2, 1, 0] rfl)
    · have hM := it_nn hc_14 hM
      refine lv_iconst (v := -1) hx hb dX8_names_20 (by decide) ?_
      have hR := som hM
      rw [hR] at hQ
      exact ret_i hQ hx hb hr hlocks hP hK hD hS dX8_names_21
abbrev rmX8_finds : Room := { frames := 0, cells := 0, slots := 0, locals := 0 }
theorem iwX8_finds_X8 : ∀ w ∈ wsX80, w ∈ wsX8_finds := fun _ h => List.mem_cons_of_mem _ (List.mem_append_right _ (h))
set_option maxHeartbeats 4000000 in
set_option maxRecDepth 100000 in
theorem kX8_finds (l : Launch) (dC : Nat → ClassId) (dI : Nat → Nat → Nat) (ct : Nat → ClassId) (aO : Nat → Nat) (sz : Nat) (mO : Mem) (mO64 : Lem) (v1 : Int32) (res : Mem) (hM : mX8_finds mO mO64 v1 = some res) : Met l yX8_finds wsX8_finds rmX8_finds (va_Pc [.ref (aO 0), .int v1] (PB (dC, dI) ct E0 sz (wO ct aO mO mO64))) (Qv (dC, dI) ct (va_A (wO ct aO mO mO64) sz) (wO ct aO res mO64)) 0 0 (va_A (wO ct aO mO mO64) sz) := by
  refine Met.ofW (cc := cX8_finds) (maxL := 6) (ret := none) (by decide) rfl ?_
  intro p e s m args below meth c s₁ B hml hv
  obtain ⟨hargs, hsz, hP, hK, hD0, hE⟩ := hv
  have hx := B.exec
  have hb := B.bytes
  have hr := B.returns
  have hts := atoms_spec (ws := wsX8_finds) B.pre
  have hown : s.vm.findClass RX8 = some m.cls := findClass_of_methodNamed B.named
  have hlocks := B.notSynchronized
  clear B s₁
  subst hsz
  have hD := hD0.self (sz := s.heap.size)
  clear hD0
  generalize hAe : va_A (wO ct aO mO mO64) s.heap.size = A at hD hE ⊢
  have hA : ∀ q : Nat, s.heap.size ≤ q → A q := fun q h => by rw [← hAe]; exact Or.inr h
  clear hAe
  have hS : va_S A s.heap s.heap [] := va_S.rf
  refine cutQ (fun Q hQ => ?_)
  refine entryW (vs := [.ref (aO 0), .int v1]) hargs (Nat.le_of_ble_eq_true rfl) (fun ls hl => ?_)
  replace hl : lv_has ls 6 [(0, .ref (aO 0)), (1, .int v1)] := hl
  unfold mX8_finds at hM
  have N37 : ∀ (v1 : Int32) (v2 : Int32) (mO : Mem), mX8_finds_L37 v1 v2 mO mO64 = some res → ∀ (H : Heap) (locs : List Loc), va_P (dC, dI) vwCl (wO ct aO mO mO64) H → va_D A (wO ct aO mO mO64) → va_S A s.heap H locs → ∀ ls : Array Slot, lv_has ls 6 [(0, .ref (aO 0)), (1, .int v1), (2, .int v2)] → W p l e (headSpec wsX8_finds rmX8_finds).room s m args below meth c H locs 0 0 Q (F0 m 37 ls []) := by
    intro v1 v2 mO hM H locs hP hD hS ls hl
    unfold mX8_finds_L37 at hM
    obtain ⟨ex37, hit37, hM⟩ := bn_some hM
    have X37_0 : ∀ (mO : Mem), ex37 = mO → ∀ (H : Heap) (locs : List Loc), va_P (dC, dI) vwCl (wO ct aO mO mO64) H → va_D A (wO ct aO mO mO64) → va_S A s.heap H locs → ∀ ls : Array Slot, lv_has ls 6 [] → W p l e (headSpec wsX8_finds rmX8_finds).room s m args below meth c H locs 0 0 Q (F0 m 137 ls []) := by
      intro mO hex H locs hP hD hS ls hl
      rw [hex] at hM
      have hM := nm_at (y := mO) rfl hM
      have hR := som hM
      rw [hR] at hQ
      exact ret_v hQ hx hb hr hlocks hP hK hD hS dX8_finds_137
    have I37 : ∀ (n : Nat) (v2 : Int32) (mO : Mem), itr (fun q => mX8_finds_s37 v1 mO64 q.1 q.2) n (v2, mO) = some ex37 → ∀ (H : Heap) (locs : List Loc), va_P (dC, dI) vwCl (wO ct aO mO mO64) H → va_D A (wO ct aO mO mO64) → va_S A s.heap H locs → ∀ ls : Array Slot, lv_has ls 6 [(0, .ref (aO 0)), (1, .int v1), (2, .int v2)] → W p l e (headSpec wsX8_finds rmX8_finds).room s m args below meth c H locs 0 0 Q (F0 m 37 ls []) := by
      intro n
      induction n with
      | zero => intro v2 mO hit; exact (itr_zero hit).elim
      | succ n ih37 =>
        intro v2 mO hit H locs hP hD hS ls hl
        obtain ⟨o37, hM, hbk37, hex37⟩ := itr_succ hit
        replace hM : mX8_finds_s37 v1 mO64 v2 mO = some o37 := hM
        have N44 : ∀ (v2 : Int32) (v3 : Int32) (mO : Mem), mX8_finds_L44 v1 v2 v3 mO mO64 = some o37 → ∀ (H : Heap) (locs : List Loc), va_P (dC, dI) vwCl (wO ct aO mO mO64) H → va_D A (wO ct aO mO mO64) → va_S A s.heap H locs → ∀ ls : Array Slot, lv_has ls 6 [(0, .ref (aO 0)), (1, .int v1), (2, .int v2), (3, .int v3)] → W p l e (headSpec wsX8_finds rmX8_finds).room s m args below meth c H locs 0 0 Q (F0 m 44 ls []) := by
          intro v2 v3 mO hM H locs hP hD hS ls hl
          unfold mX8_finds_L44 at hM
          obtain ⟨ex44, hit44, hM⟩ := bn_some hM
          have X44_0 : ∀ (mO : Mem), ex44 = mO → ∀ (H : Heap) (locs : List Loc), va_P (dC, dI) vwCl (wO ct aO mO mO64) H → va_D A (wO ct aO mO mO64) → va_S A s.heap H locs → ∀ ls : Array Slot, lv_has ls 6 [(0, .ref (aO 0)), (1, .int v1), (2, .int v2)] → W p l e (headSpec wsX8_finds rmX8_finds).room s m args below meth c H locs 0 0 Q (F0 m 131 ls []) := by
            intro mO hex H locs hP hD hS ls hl
            rw [hex] at hM
            have hM := nm_at (y := mO) rfl hM
            obtain ⟨x_1, ex_1⟩ : ∃ y : Int32, y = (v2 + (1 : Int32)) := ⟨_, rfl⟩
            have hM := nm_at ex_1 hM
            refine lv_iinc (v := x_1) (lv' := [(2, .int x_1), (0, .ref (aO 0)), (1, .int v1)]) hx hb dX8_finds_131 hl (k := 2) rfl (by rw [ex_1]; rfl) (by decide) rfl (fun ls hl => ?_)
            refine lv_goto (tgt := 37) hx hb dX8_finds_134 (by decide) ?_
            have hR := som hM
            exact ih37 x_1 mO (hbk37 _ hR) _ _ hP hD hS _ (lv_sub hl [1, 2, 0] rfl)
          have I44 : ∀ (n : Nat) (v3 : Int32) (mO : Mem), itr (fun q => mX8_finds_s44 v1 v2 mO64 q.1 q.2) n (v3, mO) = some ex44 → ∀ (H : Heap) (locs : List Loc), va_P (dC, dI) vwCl (wO ct aO mO mO64) H → va_D A (wO ct aO mO mO64) → va_S A s.heap H locs → ∀ ls : Array Slot, lv_has ls 6 [(0, .ref (aO 0)), (1, .int v1), (2, .int v2), (3, .int v3)] → W p l e (headSpec wsX8_finds rmX8_finds).room s m args below meth c H locs 0 0 Q (F0 m 44 ls []) := by
            intro n
            induction n with
            | zero => intro v3 mO hit; exact (itr_zero hit).elim
            | succ n ih44 =>
              intro v3 mO hit H locs hP hD hS ls hl
              obtain ⟨o44, hM, hbk44, hex44⟩ := itr_succ hit
              replace hM : mX8_finds_s44 v1 v2 mO64 v3 mO = some o44 := hM
              unfold mX8_finds_s44 at hM
              refine lv_iload_n hx hb dX8_finds_44 rfl (lv_at hl 3 rfl) ?_
              refine lv_aload_n hx hb dX8_finds_45 rfl (lv_at hl 0 rfl) ?_
              refine va_get (D := (dC, dI)) (ci := 8) (v := .int (mO 0 21)) (C := RX8) (T := TX8) (N := 45) hx hb hts iwX8_finds_X8 hown hK hP 0 rfl rfl 21 (by decide) (hts _ (List.mem_of_getElem? (i := 3) rfl)) (fun _ h9 => h9) rfl dX8_finds_46 ?_
              refine lv_icmp_ge (tgt := 131) hx hb dX8_finds_49 (by decide) (fun hc_2 => ?_) (fun hc_2 => ?_)
              · have hM := it_p hc_2 hM
                have hR := som hM
                exact X44_0 mO (hex44 _ hR).symm _ _ hP hD hS _ (lv_sub hl [0, 1, 2] rfl)
              · have hM := it_n hc_2 hM
                refine lv_aload_n hx hb dX8_finds_52 rfl (lv_at hl 0 rfl) ?_
                refine va_get (D := (dC, dI)) (ci := 8) (v := .ref (aO 7)) (C := RX8) (T := TX8) (N := 45) hx hb hts iwX8_finds_X8 hown hK hP 0 rfl rfl 22 (by decide) (hts _ (List.mem_of_getElem? (i := 4) rfl)) (fun _ h9 => h9) rfl dX8_finds_53 ?_
                refine lv_iconst (v := 3) hx hb dX8_finds_56 (by decide) ?_
                refine lv_iload_n hx hb dX8_finds_57 rfl (lv_at hl 3 rfl) ?_
                refine lv_imul hx hb dX8_finds_58 ?_
                obtain ⟨hi, hM⟩ := gi_some hM
                refine va_iald hx hb hK hP 7 0 rfl rfl hi dX8_finds_59 ?_
                refine lv_topi (fun x_3 ex_3 => ?_)
                have hM := nm_at ex_3 hM
                refine lv_istore (lv' := [(4, .int x_3), (0, .ref (aO 0)), (1, .int v1), (2, .int v2), (3, .int v3)]) hx hb dX8_finds_60 hl (by decide) rfl (fun ls hl => ?_)
                refine lv_aload_n hx hb dX8_finds_62 rfl (lv_at hl 1 rfl) ?_
                refine va_get (D := (dC, dI)) (ci := 8) (v := .ref (aO 25)) (C := RX8) (T := TX8) (N := 45) hx hb hts iwX8_finds_X8 hown hK hP 0 rfl rfl 44 (by decide) (hts _ (List.mem_of_getElem? (i := 1) rfl)) (fun _ h9 => h9) rfl dX8_finds_63 ?_
                refine lv_aload_n hx hb dX8_finds_66 rfl (lv_at hl 1 rfl) ?_
                refine va_get (D := (dC, dI)) (ci := 8) (v := .ref (aO 7)) (C := RX8) (T := TX8) (N := 45) hx hb hts iwX8_finds_X8 hown hK hP 0 rfl rfl 22 (by decide) (hts _ (List.mem_of_getElem? (i := 4) rfl)) (fun _ h9 => h9) rfl dX8_finds_67 ?_
                refine lv_iconst (v := 3) hx hb dX8_finds_70 (by decide) ?_
                refine lv_iload_n hx hb dX8_finds_71 rfl (lv_at hl 4 rfl) ?_
                refine lv_imul hx hb dX8_finds_72 ?_
                refine lv_iconst (v := 1) hx hb dX8_finds_73 (by decide) ?_
                refine lv_iadd hx hb dX8_finds_74 ?_
                obtain ⟨hi, hM⟩ := gi_some hM
                refine va_iald hx hb hK hP 7 0 rfl rfl hi dX8_finds_75 ?_
                obtain ⟨hi, hM⟩ := gi_some hM
                refine va_iald hx hb hK hP 25 0 rfl rfl hi dX8_finds_76 ?_
                refine lv_bipush (v := 100) hx hb dX8_finds_77 (by decide) ?_
                refine lv_aload_n hx hb dX8_finds_79 rfl (lv_at hl 1 rfl) ?_
                refine va_get (D := (dC, dI)) (ci := 8) (v := .ref (aO 7)) (C := RX8) (T := TX8) (N := 45) hx hb hts iwX8_finds_X8 hown hK hP 0 rfl rfl 22 (by decide) (hts _ (List.mem_of_getElem? (i := 4) rfl)) (fun _ h9 => h9) rfl dX8_finds_80 ?_
                refine lv_iconst (v := 3) hx hb dX8_finds_83 (by decide) ?_
                refine lv_iload_n hx hb dX8_finds_84 rfl (lv_at hl 4 rfl) ?_
                refine lv_imul hx hb dX8_finds_85 ?_
                refine lv_iconst (v := 2) hx hb dX8_finds_86 (by decide) ?_
                refine lv_iadd hx hb dX8_finds_87 ?_
                obtain ⟨hi, hM⟩ := gi_some hM
                refine va_iald hx hb hK hP 7 0 rfl rfl hi dX8_finds_88 ?_
                refine lv_imul hx hb dX8_finds_89 ?_
                refine lv_iadd hx hb dX8_finds_90 ?_
                refine lv_iconst (v := 1) hx hb dX8_finds_91 (by decide) ?_
                refine lv_iadd hx hb dX8_finds_92 ?_
                refine lv_topi (fun x_4 ex_4 => ?_)
                have hM := nm_at ex_4 hM
                refine lv_istore (lv' := [(5, .int x_4), (4, .int x_3), (0, .ref (aO 0)), (1, .int v1), (2, .int v2), (3, .int v3)]) hx hb dX8_finds_93 hl (by decide) rfl (fun ls hl => ?_)
                refine lv_iload_n hx hb dX8_finds_95 rfl (lv_at hl 3 rfl) ?_
                refine lv_iload hx hb dX8_finds_96 (lv_at hl 1 rfl) ?_
                refine lv_ishr hx hb dX8_finds_98 ?_
                refine lv_iconst (v := 1) hx hb dX8_finds_99 (by decide) ?_
                refine lv_iand hx hb dX8_finds_100 ?_
                refine lv_if_ne (tgt := 125) hx hb dX8_finds_101 (by decide) (fun hc_5 => ?_) (fun hc_5 => ?_)
                · have hM := it_p hc_5 hM
                  obtain ⟨x_6, ex_6⟩ : ∃ y : Int32, y = (v3 + (1 : Int32)) := ⟨_, rfl⟩
                  have hM := nm_at ex_6 hM
                  refine lv_iinc (v := x_6) (lv' := [(3, .int x_6), (5, .int x_4), (4, .int x_3), (0, .ref (aO 0)), (1, .int v1), (2, .int v2)]) hx hb dX8_finds_125 hl (k := 5) rfl (by rw [ex_6]; rfl) (by decide) rfl (fun ls hl => ?_)
                  refine lv_goto (tgt := 44) hx hb dX8_finds_128 (by decide) ?_
                  have hR := som hM
                  exact ih44 x_6 mO (hbk44 _ hR) _ _ hP hD hS _ (lv_sub hl [3, 4, 5, 0] rfl)
                · have hM := it_nn hc_5 hM
                  refine lv_iload hx hb dX8_finds_104 (lv_at hl 0 rfl) ?_
                  refine lv_aload_n hx hb dX8_finds_106 rfl (lv_at hl 2 rfl) ?_
                  refine va_get (D := (dC, dI)) (ci := 8) (v := .ref (aO 25)) (C := RX8) (T := TX8) (N := 45) hx hb hts iwX8_finds_X8 hown hK hP 0 rfl rfl 44 (by decide) (hts _ (List.mem_of_getElem? (i := 1) rfl)) (fun _ h9 => h9) rfl dX8_finds_107 ?_
                  refine lv_iload hx hb dX8_finds_110 (lv_at hl 1 rfl) ?_
                  obtain ⟨hi, hM⟩ := gi_some hM
                  refine va_iald hx hb hK hP 25 0 rfl rfl hi dX8_finds_112 ?_
                  refine lv_icmp_ge (tgt := 125) hx hb dX8_finds_113 (by decide) (fun hc_7 => ?_) (fun hc_7 => ?_)
                  · have hM := it_p hc_7 hM
                    obtain ⟨x_8, ex_8⟩ : ∃ y : Int32, y = (v3 + (1 : Int32)) := ⟨_, rfl⟩
                    have hM := nm_at ex_8 hM
                    refine lv_iinc (v := x_8) (lv' := [(3, .int x_8), (5, .int x_4), (4, .int x_3), (0, .ref (aO 0)), (1, .int v1), (2, .int v2)]) hx hb dX8_finds_125 hl (k := 5) rfl (by rw [ex_8]; rfl) (by decide) rfl (fun ls hl => ?_)
                    refine lv_goto (tgt := 44) hx hb dX8_finds_128 (by decide) ?_
                    have hR := som hM
                    exact ih44 x_8 mO (hbk44 _ hR) _ _ hP hD hS _ (lv_sub hl [3, 4, 5, 0] rfl)
                  · have hM := it_n hc_7 hM
                    refine lv_aload_n hx hb dX8_finds_116 rfl (lv_at hl 2 rfl) ?_
                    refine va_get (D := (dC, dI)) (ci := 8) (v := .ref (aO 25)) (C := RX8) (T := TX8) (N := 45) hx hb hts iwX8_finds_X8 hown hK hP 0 rfl rfl 44 (by decide) (hts _ (List.mem_of_getElem? (i := 1) rfl)) (fun _ h9 => h9) rfl dX8_finds_117 ?_
                    refine lv_iload hx hb dX8_finds_120 (lv_at hl 1 rfl) ?_
                    refine lv_iload hx hb dX8_finds_122 (lv_at hl 0 rfl) ?_
                    obtain ⟨hi, hM⟩ := gi_some hM
                    refine st_i (wf := fun z => (wO ct aO z mO64)) (m1 := upi mO 25 x_3.toNatClampNeg x_4) hx hb hK hP hD hS 25 rfl hi dX8_finds_124 rfl (fun mO_9 emO_9 H locs hP hD hS => ?_)
                    have hM := nm_at emO_9 hM
                    obtain ⟨x_10, ex_10⟩ : ∃ y : Int32, y = (v3 + (1 : Int32)) := ⟨_, rfl⟩
                    have hM := nm_at ex_10 hM
                    refine lv_iinc (v := x_10) (lv' := [(3, .int x_10), (5, .int x_4), (4, .int x_3), (0, .ref (aO 0)), (1, .int v1), (2, .int v2)]) hx hb dX8_finds_125 hl (k := 5) rfl (by rw [ex_10]; rfl) (by decide) rfl (fun ls hl => ?_)
                    refine lv_goto (tgt := 44) hx hb dX8_finds_128 (by decide) ?_
                    have hR := som hM
                    exact ih44 x_10 mO_9 (hbk44 _ hR) _ _ hP hD hS _ (lv_sub hl [3, 4, 5, 0] rfl)
          exact I44 FU v3 mO hit44 _ _ hP hD hS _ hl
        unfold mX8_finds_s37 at hM
        refine lv_iload_n hx hb dX8_finds_37 rfl (lv_at hl 2 rfl) ?_
        refine lv_iconst (v := 5) hx hb dX8_finds_38 (by decide) ?_
        refine lv_icmp_ge (tgt := 137) hx hb dX8_finds_39 (by decide) (fun hc_11 => ?_) (fun hc_11 => ?_)
        · have hM := it_p hc_11 hM
          have hR := som hM
          exact X37_0 mO (hex37 _ hR).symm _ _ hP hD hS _ (lv_sub hl [] rfl)
        · have hM := it_n hc_11 hM
          refine lv_iconst (v := 0) hx hb dX8_finds_42 (by decide) ?_
          refine lv_istore_n (lv' := [(3, .int (0 : Int32)), (0, .ref (aO 0)), (1, .int v1), (2, .int v2)]) hx hb dX8_finds_43 rfl hl (by decide) rfl (fun ls hl => ?_)
          exact N44 v2 (0 : Int32) mO hM _ _ hP hD hS _ (lv_sub hl [1, 2, 3, 0] rfl)
    exact I37 FU v2 mO hit37 _ _ hP hD hS _ hl
  have N2 : ∀ (v1 : Int32) (v2 : Int32) (mO : Mem), mX8_finds_L2 v1 v2 mO mO64 = some res → ∀ (H : Heap) (locs : List Loc), va_P (dC, dI) vwCl (wO ct aO mO mO64) H → va_D A (wO ct aO mO mO64) → va_S A s.heap H locs → ∀ ls : Array Slot, lv_has ls 6 [(0, .ref (aO 0)), (1, .int v1), (2, .int v2)] → W p l e (headSpec wsX8_finds rmX8_finds).room s m args below meth c H locs 0 0 Q (F0 m 2 ls []) := by
    intro v1 v2 mO hM H locs hP hD hS ls hl
    unfold mX8_finds_L2 at hM
    obtain ⟨ex2, hit2, hM⟩ := bn_some hM
    have X2_0 : ∀ (mO : Mem), ex2 = mO → ∀ (H : Heap) (locs : List Loc), va_P (dC, dI) vwCl (wO ct aO mO mO64) H → va_D A (wO ct aO mO mO64) → va_S A s.heap H locs → ∀ ls : Array Slot, lv_has ls 6 [(0, .ref (aO 0)), (1, .int v1)] → W p l e (headSpec wsX8_finds rmX8_finds).room s m args below meth c H locs 0 0 Q (F0 m 35 ls []) := by
      intro mO hex H locs hP hD hS ls hl
      rw [hex] at hM
      have hM := nm_at (y := mO) rfl hM
      refine lv_iconst (v := 0) hx hb dX8_finds_35 (by decide) ?_
      refine lv_istore_n (lv' := [(2, .int (0 : Int32)), (0, .ref (aO 0)), (1, .int v1)]) hx hb dX8_finds_36 rfl hl (by decide) rfl (fun ls hl => ?_)
      exact N37 v1 (0 : Int32) mO hM _ _ hP hD hS _ (lv_sub hl [1, 2, 0] rfl)
    have I2 : ∀ (n : Nat) (v2 : Int32) (mO : Mem), itr (fun q => mX8_finds_s2 v1 mO64 q.1 q.2) n (v2, mO) = some ex2 → ∀ (H : Heap) (locs : List Loc), va_P (dC, dI) vwCl (wO ct aO mO mO64) H → va_D A (wO ct aO mO mO64) → va_S A s.heap H locs → ∀ ls : Array Slot, lv_has ls 6 [(0, .ref (aO 0)), (1, .int v1), (2, .int v2)] → W p l e (headSpec wsX8_finds rmX8_finds).room s m args below meth c H locs 0 0 Q (F0 m 2 ls []) := by
      intro n
      induction n with
      | zero => intro v2 mO hit; exact (itr_zero hit).elim
      | succ n ih2 =>
        intro v2 mO hit H locs hP hD hS ls hl
        obtain ⟨o2, hM, hbk2, hex2⟩ := itr_succ hit
        replace hM : mX8_finds_s2 v1 mO64 v2 mO = some o2 := hM
        have N28 : ∀ (v2 : Int32) (t1 : Int32) (t2 : Int32) (mO : Mem), mX8_finds_j28 v1 v2 t1 t2 mO mO64 = some o2 → ∀ (H : Heap) (locs : List Loc), va_P (dC, dI) vwCl (wO ct aO mO mO64) H → va_D A (wO ct aO mO mO64) → va_S A s.heap H locs → ∀ ls : Array Slot, lv_has ls 6 [(0, .ref (aO 0)), (1, .int v1), (2, .int v2)] → W p l e (headSpec wsX8_finds rmX8_finds).room s m args below meth c H locs 0 0 Q (F0 m 28 ls [.int t2, .int t1, .ref (aO 25)]) := by
          intro v2 t1 t2 mO hM H locs hP hD hS ls hl
          unfold mX8_finds_j28 at hM
          obtain ⟨hi, hM⟩ := gi_some hM
          refine st_i (wf := fun z => (wO ct aO z mO64)) (m1 := upi mO 25 t1.toNatClampNeg t2) hx hb hK hP hD hS 25 rfl hi dX8_finds_28 rfl (fun mO_12 emO_12 H locs hP hD hS => ?_)
          have hM := nm_at emO_12 hM
          obtain ⟨x_13, ex_13⟩ : ∃ y : Int32, y = (v2 + (1 : Int32)) := ⟨_, rfl⟩
          have hM := nm_at ex_13 hM
          refine lv_iinc (v := x_13) (lv' := [(2, .int x_13), (0, .ref (aO 0)), (1, .int v1)]) hx hb dX8_finds_29 hl (k := 2) rfl (by rw [ex_13]; rfl) (by decide) rfl (fun ls hl => ?_)
          refine lv_goto (tgt := 2) hx hb dX8_finds_32 (by decide) ?_
          have hR := som hM
          exact ih2 x_13 mO_12 (hbk2 _ hR) _ _ hP hD hS _ (lv_sub hl [1, 2, 0] rfl)
        unfold mX8_finds_s2 at hM
        refine lv_iload_n hx hb dX8_finds_2 rfl (lv_at hl 2 rfl) ?_
        refine lv_iconst (v := 5) hx hb dX8_finds_3 (by decide) ?_
        refine lv_icmp_ge (tgt := 35) hx hb dX8_finds_4 (by decide) (fun hc_14 => ?_) (fun hc_14 => ?_)
        · have hM := it_p hc_14 hM
          have hR := som hM
          exact X2_0 mO (hex2 _ hR).symm _ _ hP hD hS _ (lv_sub hl [0, 1] rfl)
        · have hM := it_n hc_14 hM
          refine lv_aload_n hx hb dX8_finds_7 rfl (lv_at hl 0 rfl) ?_
          refine va_get (D := (dC, dI)) (ci := 8) (v := .ref (aO 25)) (C := RX8) (T := TX8) (N := 45) hx hb hts iwX8_finds_X8 hown hK hP 0 rfl rfl 44 (by decide) (hts _ (List.mem_of_getElem? (i := 1) rfl)) (fun _ h9 => h9) rfl dX8_finds_8 ?_
          refine lv_iload_n hx hb dX8_finds_11 rfl (lv_at hl 2 rfl) ?_
          refine lv_iload_n hx hb dX8_finds_12 rfl (lv_at hl 1 rfl) ?_
          refine lv_iload_n hx hb dX8_finds_13 rfl (lv_at hl 2 rfl) ?_
          refine lv_ishr hx hb dX8_finds_14 ?_
          refine lv_iconst (v := 1) hx hb dX8_finds_15 (by decide) ?_
          refine lv_iand hx hb dX8_finds_16 ?_
          refine lv_iconst (v := 1) hx hb dX8_finds_17 (by decide) ?_
          refine lv_icmp_ne (tgt := 25) hx hb dX8_finds_18 (by decide) (fun hc_15 => ?_) (fun hc_15 => ?_)
          · have hM := it_p hc_15 hM
            refine lv_ldcw (v := 1000000) hx hb hown (hts _ (List.mem_of_getElem? (i := 2) rfl)) dX8_finds_25 ?_
            exact N28 v2 v2 (1000000 : Int32) mO hM _ _ hP hD hS _ (lv_sub hl [0, 1, 2] rfl)
          · have hM := it_nn hc_15 hM
            refine lv_iconst (v := 0) hx hb dX8_finds_21 (by decide) ?_
            refine lv_goto (tgt := 28) hx hb dX8_finds_22 (by decide) ?_
            exact N28 v2 v2 (0 : Int32) mO hM _ _ hP hD hS _ (lv_sub hl [0, 1, 2] rfl)
    exact I2 FU v2 mO hit2 _ _ hP hD hS _ hl
  refine lv_iconst (v := 0) hx hb dX8_finds_0 (by decide) ?_
  refine lv_istore_n (lv' := [(2, .int (0 : Int32)), (0, .ref (aO 0)), (1, .int v1)]) hx hb dX8_finds_1 rfl hl (by decide) rfl (fun ls hl => ?_)
  exact N2 v1 (0 : Int32) mO hM _ _ hP hD hS _ (lv_sub hl [1, 2, 0] rfl)
abbrev rmX8_round : Room := { frames := 1, cells := 0, slots := 0, locals := 25 }
theorem iwX8_round_X8 : ∀ w ∈ wsX80, w ∈ wsX8_round := fun _ h => List.mem_cons_of_mem _ (List.mem_append_right _ (h))
set_option maxHeartbeats 4000000 in
set_option maxRecDepth 100000 in
theorem kX8_round (l : Launch) (dC : Nat → ClassId) (dI : Nat → Nat → Nat) (ct : Nat → ClassId) (aO : Nat → Nat) (sz : Nat) (mO : Mem) (mO64 : Lem) (v1 : Int32) (v2 : Int32) (res : (Int32 × Mem)) (hM : mX8_round mO mO64 v1 v2 = some res) : Met l yX8_round wsX8_round rmX8_round (va_Pc [.ref (aO 0), .int v1, .int v2] (PB (dC, dI) ct E0 sz (wO ct aO mO mO64))) (Qi (dC, dI) ct (va_A (wO ct aO mO mO64) sz) res.1 (wO ct aO res.2 mO64)) 0 0 (va_A (wO ct aO mO mO64) sz) := by
  refine Met.ofW (cc := cX8_round) (maxL := 6) (ret := (some .int)) (by decide) rfl ?_
  intro p e s m args below meth c s₁ B hml hv
  obtain ⟨hargs, hsz, hP, hK, hD0, hE⟩ := hv
  have hx := B.exec
  have hb := B.bytes
  have hr := B.returns
  have hts := atoms_spec (ws := wsX8_round) B.pre
  have hown : s.vm.findClass RX8 = some m.cls := findClass_of_methodNamed B.named
  have hlocks := B.notSynchronized
  clear B s₁
  subst hsz
  have hD := hD0.self (sz := s.heap.size)
  clear hD0
  generalize hAe : va_A (wO ct aO mO mO64) s.heap.size = A at hD hE ⊢
  have hA : ∀ q : Nat, s.heap.size ≤ q → A q := fun q h => by rw [← hAe]; exact Or.inr h
  clear hAe
  have hS : va_S A s.heap s.heap [] := va_S.rf
  refine cutQ (fun Q hQ => ?_)
  refine entryW (vs := [.ref (aO 0), .int v1, .int v2]) hargs (Nat.le_of_ble_eq_true rfl) (fun ls hl => ?_)
  replace hl : lv_has ls 6 [(0, .ref (aO 0)), (1, .int v1), (2, .int v2)] := hl
  unfold mX8_round at hM
  have N65 : ∀ (v2 : Int32) (v3 : Int32) (v4 : Int32) (mO : Mem), mX8_round_L65 v2 v3 v4 mO mO64 = some res → ∀ (H : Heap) (locs : List Loc), va_P (dC, dI) vwCl (wO ct aO mO mO64) H → va_D A (wO ct aO mO mO64) → va_S A s.heap H locs → ∀ ls : Array Slot, lv_has ls 6 [(0, .ref (aO 0)), (2, .int v2), (3, .int v3), (4, .int v4)] → W p l e (headSpec wsX8_round rmX8_round).room s m args below meth c H locs 0 0 Q (F0 m 65 ls []) := by
    intro v2 v3 v4 mO hM H locs hP hD hS ls hl
    unfold mX8_round_L65 at hM
    obtain ⟨ex65, hit65, hM⟩ := bn_some hM
    have X65_0 : ∀ (v5 : Int32), ex65 = (Sum.inl v5) → ∀ (H : Heap) (locs : List Loc), va_P (dC, dI) vwCl (wO ct aO mO mO64) H → va_D A (wO ct aO mO mO64) → va_S A s.heap H locs → ∀ ls : Array Slot, lv_has ls 6 [(5, .int v5)] → W p l e (headSpec wsX8_round rmX8_round).room s m args below meth c H locs 0 0 Q (F0 m 144 ls []) := by
      intro v5 hex H locs hP hD hS ls hl
      have hM := el_l hex hM
      refine lv_iload hx hb dX8_round_144 (lv_at hl 0 rfl) ?_
      have hR := som hM
      rw [hR] at hQ
      exact ret_i hQ hx hb hr hlocks hP hK hD hS dX8_round_146
    have X65_1 : ex65 = (Sum.inr ()) → ∀ (H : Heap) (locs : List Loc), va_P (dC, dI) vwCl (wO ct aO mO mO64) H → va_D A (wO ct aO mO mO64) → va_S A s.heap H locs → ∀ ls : Array Slot, lv_has ls 6 [] → W p l e (headSpec wsX8_round rmX8_round).room s m args below meth c H locs 0 0 Q (F0 m 165 ls []) := by
      intro hex H locs hP hD hS ls hl
      have hM := el_r hex hM
      refine lv_iconst (v := -1) hx hb dX8_round_165 (by decide) ?_
      have hR := som hM
      rw [hR] at hQ
      exact ret_i hQ hx hb hr hlocks hP hK hD hS dX8_round_166
    have I65 : ∀ (n : Nat) (v3 : Int32) (v4 : Int32), itr (fun q => mX8_round_s65 v2 mO mO64 q.1 q.2) n (v3, v4) = some ex65 → ∀ (H : Heap) (locs : List Loc), va_P (dC, dI) vwCl (wO ct aO mO mO64) H → va_D A (wO ct aO mO mO64) → va_S A s.heap H locs → ∀ ls : Array Slot, lv_has ls 6 [(0, .ref (aO 0)), (2, .int v2), (3, .int v3), (4, .int v4)] → W p l e (headSpec wsX8_round rmX8_round).room s m args below meth c H locs 0 0 Q (F0 m 65 ls []) := by
      intro n
      induction n with
      | zero => intro v3 v4 hit; exact (itr_zero hit).elim
      | succ n ih65 =>
        intro v3 v4 hit H locs hP hD hS ls hl
        obtain ⟨o65, hM, hbk65, hex65⟩ := itr_succ hit
        replace hM : mX8_round_s65 v2 mO mO64 v3 v4 = some o65 := hM
        have N77 : ∀ (v3 : Int32) (v4 : Int32) (v5 : Int32), mX8_round_L77 v2 v3 v4 v5 mO mO64 = some o65 → ∀ (H : Heap) (locs : List Loc), va_P (dC, dI) vwCl (wO ct aO mO mO64) H → va_D A (wO ct aO mO mO64) → va_S A s.heap H locs → ∀ ls : Array Slot, lv_has ls 6 [(0, .ref (aO 0)), (2, .int v2), (3, .int v3), (4, .int v4), (5, .int v5)] → W p l e (headSpec wsX8_round rmX8_round).room s m args below meth c H locs 0 0 Q (F0 m 77 ls []) := by
          intro v3 v4 v5 hM H locs hP hD hS ls hl
          unfold mX8_round_L77 at hM
          obtain ⟨ex77, hit77, hM⟩ := bn_some hM
          have X77_0 : ∀ (v5 : Int32), ex77 = v5 → ∀ (H : Heap) (locs : List Loc), va_P (dC, dI) vwCl (wO ct aO mO mO64) H → va_D A (wO ct aO mO mO64) → va_S A s.heap H locs → ∀ ls : Array Slot, lv_has ls 6 [(0, .ref (aO 0)), (2, .int v2), (4, .int v4), (5, .int v5)] → W p l e (headSpec wsX8_round rmX8_round).room s m args below meth c H locs 0 0 Q (F0 m 138 ls []) := by
            intro v5 hex H locs hP hD hS ls hl
            rw [hex] at hM
            have hM := nm_at (y := v5) rfl hM
            refine lv_iload hx hb dX8_round_138 (lv_at hl 2 rfl) ?_
            refine lv_iload_n hx hb dX8_round_140 rfl (lv_at hl 1 rfl) ?_
            refine lv_icmp_ne (tgt := 147) hx hb dX8_round_141 (by decide) (fun hc_1 => ?_) (fun hc_1 => ?_)
            · have hM := it_p hc_1 hM
              obtain ⟨x_2, ex_2⟩ : ∃ y : Int32, y = (v4 + (1 : Int32)) := ⟨_, rfl⟩
              have hM := nm_at ex_2 hM
              refine lv_iinc (v := x_2) (lv' := [(4, .int x_2), (0, .ref (aO 0)), (2, .int v2), (5, .int v5)]) hx hb dX8_round_147 hl (k := 2) rfl (by rw [ex_2]; rfl) (by decide) rfl (fun ls hl => ?_)
              refine lv_aload_n hx hb dX8_round_150 rfl (lv_at hl 1 rfl) ?_
              refine va_get (D := (dC, dI)) (ci := 8) (v := .ref (aO 7)) (C := RX8) (T := TX8) (N := 45) hx hb hts iwX8_round_X8 hown hK hP 0 rfl rfl 22 (by decide) (hts _ (List.mem_of_getElem? (i := 5) rfl)) (fun _ h9 => h9) rfl dX8_round_151 ?_
              refine lv_iconst (v := 3) hx hb dX8_round_154 (by decide) ?_
              refine lv_iload hx hb dX8_round_155 (lv_at hl 3 rfl) ?_
              refine lv_imul hx hb dX8_round_157 ?_
              refine lv_iconst (v := 1) hx hb dX8_round_158 (by decide) ?_
              refine lv_iadd hx hb dX8_round_159 ?_
              obtain ⟨hi, hM⟩ := gi_some hM
              refine va_iald hx hb hK hP 7 0 rfl rfl hi dX8_round_160 ?_
              refine lv_topi (fun x_3 ex_3 => ?_)
              have hM := nm_at ex_3 hM
              refine lv_istore_n (lv' := [(3, .int x_3), (4, .int x_2), (0, .ref (aO 0)), (2, .int v2), (5, .int v5)]) hx hb dX8_round_161 rfl hl (by decide) rfl (fun ls hl => ?_)
              refine lv_goto (tgt := 65) hx hb dX8_round_162 (by decide) ?_
              have hR := som hM
              exact ih65 x_3 x_2 (hbk65 _ hR) _ _ hP hD hS _ (lv_sub hl [2, 3, 0, 1] rfl)
            · have hM := it_nn hc_1 hM
              have hR := som hM
              exact X65_0 v5 (hex65 _ hR).symm _ _ hP hD hS _ (lv_sub hl [3] rfl)
          have I77 : ∀ (n : Nat) (v5 : Int32), itr (fun q => mX8_round_s77 v2 v3 v4 mO mO64 q) n v5 = some ex77 → ∀ (H : Heap) (locs : List Loc), va_P (dC, dI) vwCl (wO ct aO mO mO64) H → va_D A (wO ct aO mO mO64) → va_S A s.heap H locs → ∀ ls : Array Slot, lv_has ls 6 [(0, .ref (aO 0)), (2, .int v2), (3, .int v3), (4, .int v4), (5, .int v5)] → W p l e (headSpec wsX8_round rmX8_round).room s m args below meth c H locs 0 0 Q (F0 m 77 ls []) := by
            intro n
            induction n with
            | zero => intro v5 hit; exact (itr_zero hit).elim
            | succ n ih77 =>
              intro v5 hit H locs hP hD hS ls hl
              obtain ⟨o77, hM, hbk77, hex77⟩ := itr_succ hit
              replace hM : mX8_round_s77 v2 v3 v4 mO mO64 v5 = some o77 := hM
              unfold mX8_round_s77 at hM
              refine lv_aload_n hx hb dX8_round_77 rfl (lv_at hl 0 rfl) ?_
              refine va_get (D := (dC, dI)) (ci := 8) (v := .ref (aO 7)) (C := RX8) (T := TX8) (N := 45) hx hb hts iwX8_round_X8 hown hK hP 0 rfl rfl 22 (by decide) (hts _ (List.mem_of_getElem? (i := 5) rfl)) (fun _ h9 => h9) rfl dX8_round_78 ?_
              refine lv_iconst (v := 3) hx hb dX8_round_81 (by decide) ?_
              refine lv_iload hx hb dX8_round_82 (lv_at hl 4 rfl) ?_
              refine lv_imul hx hb dX8_round_84 ?_
              obtain ⟨hi, hM⟩ := gi_some hM
              refine va_iald hx hb hK hP 7 0 rfl rfl hi dX8_round_85 ?_
              refine lv_iload_n hx hb dX8_round_86 rfl (lv_at hl 2 rfl) ?_
              refine lv_icmp_ne (tgt := 132) hx hb dX8_round_87 (by decide) (fun hc_4 => ?_) (fun hc_4 => ?_)
              · have hM := it_p hc_4 hM
                obtain ⟨x_5, ex_5⟩ : ∃ y : Int32, y = (v5 + (1 : Int32)) := ⟨_, rfl⟩
                have hM := nm_at ex_5 hM
                refine lv_iinc (v := x_5) (lv' := [(5, .int x_5), (0, .ref (aO 0)), (2, .int v2), (3, .int v3), (4, .int v4)]) hx hb dX8_round_132 hl (k := 4) rfl (by rw [ex_5]; rfl) (by decide) rfl (fun ls hl => ?_)
                refine lv_goto (tgt := 77) hx hb dX8_round_135 (by decide) ?_
                have hR := som hM
                exact ih77 x_5 (hbk77 _ hR) _ _ hP hD hS _ (lv_sub hl [1, 2, 3, 4, 0] rfl)
              · have hM := it_nn hc_4 hM
                refine lv_aload_n hx hb dX8_round_90 rfl (lv_at hl 0 rfl) ?_
                refine va_get (D := (dC, dI)) (ci := 8) (v := .ref (aO 25)) (C := RX8) (T := TX8) (N := 45) hx hb hts iwX8_round_X8 hown hK hP 0 rfl rfl 44 (by decide) (hts _ (List.mem_of_getElem? (i := 3) rfl)) (fun _ h9 => h9) rfl dX8_round_91 ?_
                refine lv_aload_n hx hb dX8_round_94 rfl (lv_at hl 0 rfl) ?_
                refine va_get (D := (dC, dI)) (ci := 8) (v := .ref (aO 7)) (C := RX8) (T := TX8) (N := 45) hx hb hts iwX8_round_X8 hown hK hP 0 rfl rfl 22 (by decide) (hts _ (List.mem_of_getElem? (i := 5) rfl)) (fun _ h9 => h9) rfl dX8_round_95 ?_
                refine lv_iconst (v := 3) hx hb dX8_round_98 (by decide) ?_
                refine lv_iload hx hb dX8_round_99 (lv_at hl 4 rfl) ?_
                refine lv_imul hx hb dX8_round_101 ?_
                refine lv_iconst (v := 1) hx hb dX8_round_102 (by decide) ?_
                refine lv_iadd hx hb dX8_round_103 ?_
                obtain ⟨hi, hM⟩ := gi_some hM
                refine va_iald hx hb hK hP 7 0 rfl rfl hi dX8_round_104 ?_
                obtain ⟨hi, hM⟩ := gi_some hM
                refine va_iald hx hb hK hP 25 0 rfl rfl hi dX8_round_105 ?_
                refine lv_bipush (v := 100) hx hb dX8_round_106 (by decide) ?_
                refine lv_aload_n hx hb dX8_round_108 rfl (lv_at hl 0 rfl) ?_
                refine va_get (D := (dC, dI)) (ci := 8) (v := .ref (aO 7)) (C := RX8) (T := TX8) (N := 45) hx hb hts iwX8_round_X8 hown hK hP 0 rfl rfl 22 (by decide) (hts _ (List.mem_of_getElem? (i := 5) rfl)) (fun _ h9 => h9) rfl dX8_round_109 ?_
                refine lv_iconst (v := 3) hx hb dX8_round_112 (by decide) ?_
                refine lv_iload hx hb dX8_round_113 (lv_at hl 4 rfl) ?_
                refine lv_imul hx hb dX8_round_115 ?_
                refine lv_iconst (v := 2) hx hb dX8_round_116 (by decide) ?_
                refine lv_iadd hx hb dX8_round_117 ?_
                obtain ⟨hi, hM⟩ := gi_some hM
                refine va_iald hx hb hK hP 7 0 rfl rfl hi dX8_round_118 ?_
                refine lv_imul hx hb dX8_round_119 ?_
                refine lv_iadd hx hb dX8_round_120 ?_
                refine lv_iconst (v := 1) hx hb dX8_round_121 (by decide) ?_
                refine lv_iadd hx hb dX8_round_122 ?_
                refine lv_aload_n hx hb dX8_round_123 rfl (lv_at hl 0 rfl) ?_
                refine va_get (D := (dC, dI)) (ci := 8) (v := .ref (aO 25)) (C := RX8) (T := TX8) (N := 45) hx hb hts iwX8_round_X8 hown hK hP 0 rfl rfl 44 (by decide) (hts _ (List.mem_of_getElem? (i := 3) rfl)) (fun _ h9 => h9) rfl dX8_round_124 ?_
                refine lv_iload_n hx hb dX8_round_127 rfl (lv_at hl 2 rfl) ?_
                obtain ⟨hi, hM⟩ := gi_some hM
                refine va_iald hx hb hK hP 25 0 rfl rfl hi dX8_round_128 ?_
                refine lv_icmp_eq (tgt := 138) hx hb dX8_round_129 (by decide) (fun hc_6 => ?_) (fun hc_6 => ?_)
                · have hM := it_p hc_6 hM
                  have hR := som hM
                  exact X77_0 v5 (hex77 _ hR).symm _ _ hP hD hS _ (lv_sub hl [0, 1, 3, 4] rfl)
                · have hM := it_n hc_6 hM
                  obtain ⟨x_7, ex_7⟩ : ∃ y : Int32, y = (v5 + (1 : Int32)) := ⟨_, rfl⟩
                  have hM := nm_at ex_7 hM
                  refine lv_iinc (v := x_7) (lv' := [(5, .int x_7), (0, .ref (aO 0)), (2, .int v2), (3, .int v3), (4, .int v4)]) hx hb dX8_round_132 hl (k := 4) rfl (by rw [ex_7]; rfl) (by decide) rfl (fun ls hl => ?_)
                  refine lv_goto (tgt := 77) hx hb dX8_round_135 (by decide) ?_
                  have hR := som hM
                  exact ih77 x_7 (hbk77 _ hR) _ _ hP hD hS _ (lv_sub hl [1, 2, 3, 4, 0] rfl)
          exact I77 FU v5 hit77 _ _ hP hD hS _ hl
        unfold mX8_round_s65 at hM
        refine lv_aload_n hx hb dX8_round_65 rfl (lv_at hl 0 rfl) ?_
        refine va_get (D := (dC, dI)) (ci := 8) (v := .ref (aO 25)) (C := RX8) (T := TX8) (N := 45) hx hb hts iwX8_round_X8 hown hK hP 0 rfl rfl 44 (by decide) (hts _ (List.mem_of_getElem? (i := 3) rfl)) (fun _ h9 => h9) rfl dX8_round_66 ?_
        refine lv_iload_n hx hb dX8_round_69 rfl (lv_at hl 2 rfl) ?_
        obtain ⟨hi, hM⟩ := gi_some hM
        refine va_iald hx hb hK hP 25 0 rfl rfl hi dX8_round_70 ?_
        refine lv_if_le (tgt := 165) hx hb dX8_round_71 (by decide) (fun hc_8 => ?_) (fun hc_8 => ?_)
        · have hM := it_p hc_8 hM
          have hR := som hM
          exact X65_1 (hex65 _ hR).symm _ _ hP hD hS _ (lv_sub hl [] rfl)
        · have hM := it_n hc_8 hM
          refine lv_iconst (v := 0) hx hb dX8_round_74 (by decide) ?_
          refine lv_istore (lv' := [(5, .int (0 : Int32)), (0, .ref (aO 0)), (2, .int v2), (3, .int v3), (4, .int v4)]) hx hb dX8_round_75 hl (by decide) rfl (fun ls hl => ?_)
          exact N77 v3 v4 (0 : Int32) hM _ _ hP hD hS _ (lv_sub hl [1, 2, 3, 4, 0] rfl)
    exact I65 FU v3 v4 hit65 _ _ hP hD hS _ hl
  refine lv_aload_n hx hb dX8_round_0 rfl (lv_at hl 0 rfl) ?_
  refine va_get (D := (dC, dI)) (ci := 8) (v := .int (mO 0 18)) (C := RX8) (T := TX8) (N := 45) hx hb hts iwX8_round_X8 hown hK hP 0 rfl rfl 18 (by decide) (hts _ (List.mem_of_getElem? (i := 1) rfl)) (fun _ h9 => h9) rfl dX8_round_1 ?_
  refine lv_if_eq (tgt := 21) hx hb dX8_round_4 (by decide) (fun hc_9 => ?_) (fun hc_9 => ?_)
  · have hM := it_p hc_9 hM
    refine lv_iconst (v := -1) hx hb dX8_round_21 (by decide) ?_
    have hR := som hM
    rw [hR] at hQ
    exact ret_i hQ hx hb hr hlocks hP hK hD hS dX8_round_22
  · have hM := it_n hc_9 hM
    refine lv_iload_n hx hb dX8_round_7 rfl (lv_at hl 1 rfl) ?_
    refine lv_iconst (v := 0) hx hb dX8_round_8 (by decide) ?_
    refine lv_iconst (v := 4) hx hb dX8_round_9 (by decide) ?_
    obtain ⟨x_10, hr_11, hM⟩ := bn_some hM
    refine gv_i (r0 := x_10) (wn := (wO ct aO mO mO64)) (va_runS (As := [.int v1, .int (0 : Int32), .int (4 : Int32)]) (rest := []) ⟨hx, hb, hml, hown, hts⟩ (kX8_in l dC dI ct _ v1 (0 : Int32) (4 : Int32) _ hr_11) (va_cwS 3 hts gX8_round_X8_in rfl rfl rfl hvX8_in.2 ⟨Nat.le_of_ble_eq_true rfl, Nat.le_of_ble_eq_true rfl⟩) (preS_of E0_ok hK hP hD (is := []) rfl rfl e_0) rfl rfl hl.1 rfl (lv_room (Nat.le_of_ble_eq_true rfl)) dX8_round_10 ⟨Nat.le_of_ble_eq_true rfl, Nat.le_of_ble_eq_true rfl⟩) hP hD hS hA [] [0, 1, 2, 3, 4, 5, 6, 7, 8, 9, 10, 11, 12, 13, 14, 15, 16, 17, 18, 19, 20, 21, 22, 23, 24, 25] [0, 1, 2, 3, 4, 5, 6, 7, 8, 9, 10, 11, 12, 13, 14, 15, 16, 17, 18, 19, 20, 21, 22, 23, 24, 25] rfl rfl rfl (by decide) rfl rfl (fun H locs hP hD hS => ?_)
    refine lv_if_eq (tgt := 21) hx hb dX8_round_13 (by decide) (fun hc_13 => ?_) (fun hc_13 => ?_)
    · have hM := it_p hc_13 hM
      refine lv_iconst (v := -1) hx hb dX8_round_21 (by decide) ?_
      have hR := som hM
      rw [hR] at hQ
      exact ret_i hQ hx hb hr hlocks hP hK hD hS dX8_round_22
    · have hM := it_n hc_13 hM
      refine lv_iload_n hx hb dX8_round_16 rfl (lv_at hl 2 rfl) ?_
      refine lv_iconst (v := -1) hx hb dX8_round_17 (by decide) ?_
      refine lv_icmp_ge (tgt := 23) hx hb dX8_round_18 (by decide) (fun hc_14 => ?_) (fun hc_14 => ?_)
      · have hM := it_p hc_14 hM
        refine lv_aload_n hx hb dX8_round_23 rfl (lv_at hl 0 rfl) ?_
        refine lv_aload_n hx hb dX8_round_24 rfl (lv_at hl 0 rfl) ?_
        refine va_get (D := (dC, dI)) (ci := 8) (v := .int (mO 0 20)) (C := RX8) (T := TX8) (N := 45) hx hb hts iwX8_round_X8 hown hK hP 0 rfl rfl 20 (by decide) (hts _ (List.mem_of_getElem? (i := 2) rfl)) (fun _ h9 => h9) rfl dX8_round_25 ?_
        obtain ⟨mO_15, hr_16, hM⟩ := bn_some hM
        refine gv_v (wn := (wO ct aO mO_15 mO64)) (va_runV (As := [.int (mO 0 20)]) (rest := []) ⟨hx, hb, hml, hown, hts⟩ (kX8_finds l dC dI ct aO _ mO mO64 (mO 0 20) _ hr_16) (cwV 1 hts gX8_round_X8_finds rfl rfl rfl hvX8_finds ⟨Nat.le_of_ble_eq_true rfl, Nat.le_of_ble_eq_true rfl⟩) (preV_of E0_ok hK hP hD (is := [0, 1, 2, 3, 4, 5, 6, 7, 8, 9, 10, 11, 12, 13, 14, 15, 16, 17, 18, 19, 20, 21, 22, 23, 24, 25]) rfl rfl rfl (ci := 8) rfl 0 rfl e_0) rfl rfl hl.1 rfl (lv_room (Nat.le_of_ble_eq_true rfl)) dX8_round_28 ⟨Nat.le_of_ble_eq_true rfl, Nat.le_of_ble_eq_true rfl⟩) hP hD hS hA [0, 1, 2, 3, 4, 5, 6, 7, 8, 9, 10, 11, 12, 13, 14, 15, 16, 17, 18, 19, 20, 21, 22, 23, 24, 25] [] [0, 1, 2, 3, 4, 5, 6, 7, 8, 9, 10, 11, 12, 13, 14, 15, 16, 17, 18, 19, 20, 21, 22, 23, 24, 25] rfl rfl rfl (by decide) rfl rfl (fun H locs hP hD hS => ?_)
        refine lv_aload_n hx hb dX8_round_31 rfl (lv_at hl 0 rfl) ?_
        refine va_get (D := (dC, dI)) (ci := 8) (v := .ref (aO 25)) (C := RX8) (T := TX8) (N := 45) hx hb hts iwX8_round_X8 hown hK hP 0 rfl rfl 44 (by decide) (hts _ (List.mem_of_getElem? (i := 3) rfl)) (fun _ h9 => h9) rfl dX8_round_32 ?_
        refine lv_iload_n hx hb dX8_round_35 rfl (lv_at hl 1 rfl) ?_
        obtain ⟨hi, hM⟩ := gi_some hM
        refine va_iald hx hb hK hP 25 0 rfl rfl hi dX8_round_36 ?_
        refine lv_ldcw (v := 1000000) hx hb hown (hts _ (List.mem_of_getElem? (i := 4) rfl)) dX8_round_37 ?_
        refine lv_icmp_lt (tgt := 45) hx hb dX8_round_40 (by decide) (fun hc_18 => ?_) (fun hc_18 => ?_)
        · have hM := it_p hc_18 hM
          refine lv_iload_n hx hb dX8_round_45 rfl (lv_at hl 2 rfl) ?_
          refine lv_iconst (v := -1) hx hb dX8_round_46 (by decide) ?_
          refine lv_icmp_ne (tgt := 60) hx hb dX8_round_47 (by decide) (fun hc_19 => ?_) (fun hc_19 => ?_)
          · have hM := it_p hc_19 hM
            refine lv_iload_n hx hb dX8_round_60 rfl (lv_at hl 1 rfl) ?_
            refine lv_istore_n (lv' := [(3, .int v1), (0, .ref (aO 0)), (1, .int v1), (2, .int v2)]) hx hb dX8_round_61 rfl hl (by decide) rfl (fun ls hl => ?_)
            refine lv_iconst (v := 0) hx hb dX8_round_62 (by decide) ?_
            refine lv_istore (lv' := [(4, .int (0 : Int32)), (3, .int v1), (0, .ref (aO 0)), (1, .int v1), (2, .int v2)]) hx hb dX8_round_63 hl (by decide) rfl (fun ls hl => ?_)
            exact N65 v2 v1 (0 : Int32) mO_15 hM _ _ hP hD hS _ (lv_sub hl [2, 4, 1, 0] rfl)
          · have hM := it_nn hc_19 hM
            refine lv_aload_n hx hb dX8_round_50 rfl (lv_at hl 0 rfl) ?_
            refine va_get (D := (dC, dI)) (ci := 8) (v := .ref (aO 25)) (C := RX8) (T := TX8) (N := 45) hx hb hts iwX8_round_X8 hown hK hP 0 rfl rfl 44 (by decide) (hts _ (List.mem_of_getElem? (i := 3) rfl)) (fun _ h9 => h9) rfl dX8_round_51 ?_
            refine lv_iload_n hx hb dX8_round_54 rfl (lv_at hl 1 rfl) ?_
            obtain ⟨hi, hM⟩ := gi_some hM
            refine va_iald hx hb hK hP 25 0 rfl rfl hi dX8_round_55 ?_
            refine lv_bipush (v := 100) hx hb dX8_round_56 (by decide) ?_
            refine lv_idiv hx hb dX8_round_58 (by decide) ?_
            refine lv_topi (fun x_20 ex_20 => ?_)
            have hM := nm_at ex_20 hM
            have hR := som hM
            rw [hR] at hQ
            exact ret_i hQ hx hb hr hlocks hP hK hD hS dX8_round_59
        · have hM := it_n hc_18 hM
          refine lv_iconst (v := -1) hx hb dX8_round_43 (by decide) ?_
          have hR := som hM
          rw [hR] at hQ
          exact ret_i hQ hx hb hr hlocks hP hK hD hS dX8_round_44
      · have hM := it_n hc_14 hM
        refine lv_iconst (v := -1) hx hb dX8_round_21 (by decide) ?_
        have hR := som hM
        rw [hR] at hQ
        exact ret_i hQ hx hb hr hlocks hP hK hD hS dX8_round_22
abbrev rmX8_words : Room := { frames := 1, cells := 0, slots := 0, locals := 25 }
theorem iwX8_words_X8 : ∀ w ∈ wsX80, w ∈ wsX8_words := fun _ h => List.mem_cons_of_mem _ (List.mem_append_right _ (h))
set_option maxHeartbeats 4000000 in
set_option maxRecDepth 100000 in
theorem kX8_words (l : Launch) (dC : Nat → ClassId) (dI : Nat → Nat → Nat) (ct : Nat → ClassId) (aO : Nat → Nat) (sz : Nat) (mO : Mem) (mO64 : Lem) (v1 : Int32) (v2 : Int32) (res : (Int32 × Mem)) (hM : mX8_words mO mO64 v1 v2 = some res) : Met l yX8_words wsX8_words rmX8_words (va_Pc [.ref (aO 0), .int v1, .int v2] (PB (dC, dI) ct E0 sz (wO ct aO mO mO64))) (Qi (dC, dI) ct (va_A (wO ct aO mO mO64) sz) res.1 (wO ct aO res.2 mO64)) 0 0 (va_A (wO ct aO mO mO64) sz) := by
  refine Met.ofW (cc := cX8_words) (maxL := 7) (ret := (some .int)) (by decide) rfl ?_
  intro p e s m args below meth c s₁ B hml hv
  obtain ⟨hargs, hsz, hP, hK, hD0, hE⟩ := hv
  have hx := B.exec
  have hb := B.bytes
  have hr := B.returns
  have hts := atoms_spec (ws := wsX8_words) B.pre
  have hown : s.vm.findClass RX8 = some m.cls := findClass_of_methodNamed B.named
  have hlocks := B.notSynchronized
  clear B s₁
  subst hsz
  have hD := hD0.self (sz := s.heap.size)
  clear hD0
  generalize hAe : va_A (wO ct aO mO mO64) s.heap.size = A at hD hE ⊢
  have hA : ∀ q : Nat, s.heap.size ≤ q → A q := fun q h => by rw [← hAe]; exact Or.inr h
  clear hAe
  have hS : va_S A s.heap s.heap [] := va_S.rf
  refine cutQ (fun Q hQ => ?_)
  refine entryW (vs := [.ref (aO 0), .int v1, .int v2]) hargs (Nat.le_of_ble_eq_true rfl) (fun ls hl => ?_)
  replace hl : lv_has ls 7 [(0, .ref (aO 0)), (1, .int v1), (2, .int v2)] := hl
  unfold mX8_words at hM
  have N35 : ∀ (v1 : Int32) (v2 : Int32) (v3 : Int32) (v4 : Int32) (mO : Mem), mX8_words_L35 v1 v2 v3 v4 mO mO64 = some res → ∀ (H : Heap) (locs : List Loc), va_P (dC, dI) vwCl (wO ct aO mO mO64) H → va_D A (wO ct aO mO mO64) → va_S A s.heap H locs → ∀ ls : Array Slot, lv_has ls 7 [(0, .ref (aO 0)), (1, .int v1), (2, .int v2), (3, .int v3), (4, .int v4)] → W p l e (headSpec wsX8_words rmX8_words).room s m args below meth c H locs 0 0 Q (F0 m 35 ls []) := by
    intro v1 v2 v3 v4 mO hM H locs hP hD hS ls hl
    unfold mX8_words_L35 at hM
    obtain ⟨ex35, hit35, hM⟩ := bn_some hM
    have X35_0 : ∀ (v3 : Int32) (mO : Mem), ex35 = (v3, mO) → ∀ (H : Heap) (locs : List Loc), va_P (dC, dI) vwCl (wO ct aO mO mO64) H → va_D A (wO ct aO mO mO64) → va_S A s.heap H locs → ∀ ls : Array Slot, lv_has ls 7 [(3, .int v3)] → W p l e (headSpec wsX8_words rmX8_words).room s m args below meth c H locs 0 0 Q (F0 m 189 ls []) := by
      intro v3 mO hex H locs hP hD hS ls hl
      rw [hex] at hM
      have hM := nm_at (y := v3) rfl hM
      have hM := nm_at (y := mO) rfl hM
      refine lv_iload_n hx hb dX8_words_189 rfl (lv_at hl 0 rfl) ?_
      have hR := som hM
      rw [hR] at hQ
      exact ret_i hQ hx hb hr hlocks hP hK hD hS dX8_words_190
    have I35 : ∀ (n : Nat) (v3 : Int32) (v4 : Int32) (mO : Mem), itr (fun q => mX8_words_s35 v1 v2 mO64 q.1 q.2.1 q.2.2) n (v3, v4, mO) = some ex35 → ∀ (H : Heap) (locs : List Loc), va_P (dC, dI) vwCl (wO ct aO mO mO64) H → va_D A (wO ct aO mO mO64) → va_S A s.heap H locs → ∀ ls : Array Slot, lv_has ls 7 [(0, .ref (aO 0)), (1, .int v1), (2, .int v2), (3, .int v3), (4, .int v4)] → W p l e (headSpec wsX8_words rmX8_words).room s m args below meth c H locs 0 0 Q (F0 m 35 ls []) := by
      intro n
      induction n with
      | zero => intro v3 v4 mO hit; exact (itr_zero hit).elim
      | succ n ih35 =>
        intro v3 v4 mO hit H locs hP hD hS ls hl
        obtain ⟨o35, hM, hbk35, hex35⟩ := itr_succ hit
        replace hM : mX8_words_s35 v1 v2 mO64 v3 v4 mO = some o35 := hM
        have N100 : ∀ (v3 : Int32) (v4 : Int32) (v5 : Int32) (v6 : Int32) (mO : Mem), mX8_words_L100 v1 v2 v3 v4 v5 v6 mO mO64 = some o35 → ∀ (H : Heap) (locs : List Loc), va_P (dC, dI) vwCl (wO ct aO mO mO64) H → va_D A (wO ct aO mO mO64) → va_S A s.heap H locs → ∀ ls : Array Slot, lv_has ls 7 [(0, .ref (aO 0)), (1, .int v1), (2, .int v2), (3, .int v3), (4, .int v4), (5, .int v5), (6, .int v6)] → W p l e (headSpec wsX8_words rmX8_words).room s m args below meth c H locs 0 0 Q (F0 m 100 ls []) := by
          intro v3 v4 v5 v6 mO hM H locs hP hD hS ls hl
          unfold mX8_words_L100 at hM
          obtain ⟨ex100, hit100, hM⟩ := bn_some hM
          have X100_0 : ∀ (v5 : Int32), ex100 = v5 → ∀ (H : Heap) (locs : List Loc), va_P (dC, dI) vwCl (wO ct aO mO mO64) H → va_D A (wO ct aO mO mO64) → va_S A s.heap H locs → ∀ ls : Array Slot, lv_has ls 7 [(0, .ref (aO 0)), (1, .int v1), (2, .int v2), (3, .int v3), (4, .int v4), (5, .int v5)] → W p l e (headSpec wsX8_words rmX8_words).room s m args below meth c H locs 0 0 Q (F0 m 175 ls []) := by
            intro v5 hex H locs hP hD hS ls hl
            rw [hex] at hM
            have hM := nm_at (y := v5) rfl hM
            refine lv_iload hx hb dX8_words_175 (lv_at hl 5 rfl) ?_
            refine lv_if_eq (tgt := 183) hx hb dX8_words_177 (by decide) (fun hc_1 => ?_) (fun hc_1 => ?_)
            · have hM := it_p hc_1 hM
              obtain ⟨x_2, ex_2⟩ : ∃ y : Int32, y = (v4 + (1 : Int32)) := ⟨_, rfl⟩
              have hM := nm_at ex_2 hM
              refine lv_iinc (v := x_2) (lv' := [(4, .int x_2), (0, .ref (aO 0)), (1, .int v1), (2, .int v2), (3, .int v3), (5, .int v5)]) hx hb dX8_words_183 hl (k := 4) rfl (by rw [ex_2]; rfl) (by decide) rfl (fun ls hl => ?_)
              refine lv_goto (tgt := 35) hx hb dX8_words_186 (by decide) ?_
              have hR := som hM
              exact ih35 v3 x_2 mO (hbk35 _ hR) _ _ hP hD hS _ (lv_sub hl [1, 2, 3, 4, 0] rfl)
            · have hM := it_n hc_1 hM
              refine lv_iload hx hb dX8_words_180 (lv_at hl 4 rfl) ?_
              refine lv_istore_n (lv' := [(3, .int v4), (0, .ref (aO 0)), (1, .int v1), (2, .int v2), (4, .int v4), (5, .int v5)]) hx hb dX8_words_182 rfl hl (by decide) rfl (fun ls hl => ?_)
              obtain ⟨x_3, ex_3⟩ : ∃ y : Int32, y = (v4 + (1 : Int32)) := ⟨_, rfl⟩
              have hM := nm_at ex_3 hM
              refine lv_iinc (v := x_3) (lv' := [(4, .int x_3), (3, .int v4), (0, .ref (aO 0)), (1, .int v1), (2, .int v2), (5, .int v5)]) hx hb dX8_words_183 hl (k := 4) rfl (by rw [ex_3]; rfl) (by decide) rfl (fun ls hl => ?_)
              refine lv_goto (tgt := 35) hx hb dX8_words_186 (by decide) ?_
              have hR := som hM
              exact ih35 v4 x_3 mO (hbk35 _ hR) _ _ hP hD hS _ (lv_sub hl [2, 3, 4, 1, 0] rfl)
          have I100 : ∀ (n : Nat) (v5 : Int32) (v6 : Int32), itr (fun q => mX8_words_s100 v1 v2 v3 v4 mO mO64 q.1 q.2) n (v5, v6) = some ex100 → ∀ (H : Heap) (locs : List Loc), va_P (dC, dI) vwCl (wO ct aO mO mO64) H → va_D A (wO ct aO mO mO64) → va_S A s.heap H locs → ∀ ls : Array Slot, lv_has ls 7 [(0, .ref (aO 0)), (1, .int v1), (2, .int v2), (3, .int v3), (4, .int v4), (5, .int v5), (6, .int v6)] → W p l e (headSpec wsX8_words rmX8_words).room s m args below meth c H locs 0 0 Q (F0 m 100 ls []) := by
            intro n
            induction n with
            | zero => intro v5 v6 hit; exact (itr_zero hit).elim
            | succ n ih100 =>
              intro v5 v6 hit H locs hP hD hS ls hl
              obtain ⟨o100, hM, hbk100, hex100⟩ := itr_succ hit
              replace hM : mX8_words_s100 v1 v2 v3 v4 mO mO64 v5 v6 = some o100 := hM
              have N167 : ∀ (v6 : Int32) (t0 : Int32), mX8_words_j167 v1 v2 v3 v4 v6 t0 mO mO64 = some o100 → ∀ (H : Heap) (locs : List Loc), va_P (dC, dI) vwCl (wO ct aO mO mO64) H → va_D A (wO ct aO mO mO64) → va_S A s.heap H locs → ∀ ls : Array Slot, lv_has ls 7 [(0, .ref (aO 0)), (1, .int v1), (2, .int v2), (3, .int v3), (4, .int v4), (6, .int v6)] → W p l e (headSpec wsX8_words rmX8_words).room s m args below meth c H locs 0 0 Q (F0 m 167 ls [.int t0]) := by
                intro v6 t0 hM H locs hP hD hS ls hl
                unfold mX8_words_j167 at hM
                refine lv_istore (lv' := [(5, .int t0), (0, .ref (aO 0)), (1, .int v1), (2, .int v2), (3, .int v3), (4, .int v4), (6, .int v6)]) hx hb dX8_words_167 hl (by decide) rfl (fun ls hl => ?_)
                obtain ⟨x_4, ex_4⟩ : ∃ y : Int32, y = (v6 + (1 : Int32)) := ⟨_, rfl⟩
                have hM := nm_at ex_4 hM
                refine lv_iinc (v := x_4) (lv' := [(6, .int x_4), (5, .int t0), (0, .ref (aO 0)), (1, .int v1), (2, .int v2), (3, .int v3), (4, .int v4)]) hx hb dX8_words_169 hl (k := 6) rfl (by rw [ex_4]; rfl) (by decide) rfl (fun ls hl => ?_)
                refine lv_goto (tgt := 100) hx hb dX8_words_172 (by decide) ?_
                have hR := som hM
                exact ih100 t0 x_4 (hbk100 _ hR) _ _ hP hD hS _ (lv_sub hl [2, 3, 4, 5, 6, 1, 0] rfl)
              have N166 : ∀ (v6 : Int32), mX8_words_j166 v1 v2 v3 v4 v6 mO mO64 = some o100 → ∀ (H : Heap) (locs : List Loc), va_P (dC, dI) vwCl (wO ct aO mO mO64) H → va_D A (wO ct aO mO mO64) → va_S A s.heap H locs → ∀ ls : Array Slot, lv_has ls 7 [(0, .ref (aO 0)), (1, .int v1), (2, .int v2), (3, .int v3), (4, .int v4), (6, .int v6)] → W p l e (headSpec wsX8_words rmX8_words).room s m args below meth c H locs 0 0 Q (F0 m 166 ls []) := by
                intro v6 hM H locs hP hD hS ls hl
                unfold mX8_words_j166 at hM
                refine lv_iconst (v := 0) hx hb dX8_words_166 (by decide) ?_
                exact N167 v6 (0 : Int32) hM _ _ hP hD hS _ (lv_sub hl [0, 1, 2, 3, 4, 5] rfl)
              have N157 : ∀ (v6 : Int32) (t0 : Int32) (t1 : Int32), mX8_words_j157 v1 v2 v3 v4 v6 t0 t1 mO mO64 = some o100 → ∀ (H : Heap) (locs : List Loc), va_P (dC, dI) vwCl (wO ct aO mO mO64) H → va_D A (wO ct aO mO mO64) → va_S A s.heap H locs → ∀ ls : Array Slot, lv_has ls 7 [(0, .ref (aO 0)), (1, .int v1), (2, .int v2), (3, .int v3), (4, .int v4), (6, .int v6)] → W p l e (headSpec wsX8_words rmX8_words).room s m args below meth c H locs 0 0 Q (F0 m 157 ls [.int t1, .int t0]) := by
                intro v6 t0 t1 hM H locs hP hD hS ls hl
                unfold mX8_words_j157 at hM
                refine lv_ior hx hb dX8_words_157 ?_
                refine lv_iconst (v := 1) hx hb dX8_words_158 (by decide) ?_
                refine lv_icmp_ne (tgt := 166) hx hb dX8_words_159 (by decide) (fun hc_5 => ?_) (fun hc_5 => ?_)
                · have hM := it_p hc_5 hM
                  exact N166 v6 hM _ _ hP hD hS _ (lv_sub hl [0, 1, 2, 3, 4, 5] rfl)
                · have hM := it_nn hc_5 hM
                  refine lv_iconst (v := 1) hx hb dX8_words_162 (by decide) ?_
                  refine lv_goto (tgt := 167) hx hb dX8_words_163 (by decide) ?_
                  exact N167 v6 (1 : Int32) hM _ _ hP hD hS _ (lv_sub hl [0, 1, 2, 3, 4, 5] rfl)
              have N152 : ∀ (v6 : Int32) (t0 : Int32), mX8_words_j152 v1 v2 v3 v4 v6 t0 mO mO64 = some o100 → ∀ (H : Heap) (locs : List Loc), va_P (dC, dI) vwCl (wO ct aO mO mO64) H → va_D A (wO ct aO mO mO64) → va_S A s.heap H locs → ∀ ls : Array Slot, lv_has ls 7 [(0, .ref (aO 0)), (1, .int v1), (2, .int v2), (3, .int v3), (4, .int v4), (6, .int v6)] → W p l e (headSpec wsX8_words rmX8_words).room s m args below meth c H locs 0 0 Q (F0 m 152 ls [.int t0]) := by
                intro v6 t0 hM H locs hP hD hS ls hl
                unfold mX8_words_j152 at hM
                refine lv_iconst (v := 1) hx hb dX8_words_152 (by decide) ?_
                refine lv_goto (tgt := 157) hx hb dX8_words_153 (by decide) ?_
                exact N157 v6 t0 (1 : Int32) hM _ _ hP hD hS _ (lv_sub hl [0, 1, 2, 3, 4, 5] rfl)
              unfold mX8_words_s100 at hM
              refine lv_iload hx hb dX8_words_100 (lv_at hl 6 rfl) ?_
              refine lv_iconst (v := 5) hx hb dX8_words_102 (by decide) ?_
              refine lv_icmp_ge (tgt := 175) hx hb dX8_words_103 (by decide) (fun hc_6 => ?_) (fun hc_6 => ?_)
              · have hM := it_p hc_6 hM
                have hR := som hM
                exact X100_0 v5 (hex100 _ hR).symm _ _ hP hD hS _ (lv_sub hl [0, 1, 2, 3, 4, 5] rfl)
              · have hM := it_n hc_6 hM
                refine lv_iload hx hb dX8_words_106 (lv_at hl 5 rfl) ?_
                refine lv_if_eq (tgt := 166) hx hb dX8_words_108 (by decide) (fun hc_7 => ?_) (fun hc_7 => ?_)
                · have hM := it_p hc_7 hM
                  exact N166 v6 hM _ _ hP hD hS _ (lv_sub hl [0, 1, 2, 3, 4, 6] rfl)
                · have hM := it_n hc_7 hM
                  refine lv_aload_n hx hb dX8_words_111 rfl (lv_at hl 0 rfl) ?_
                  refine va_get (D := (dC, dI)) (ci := 8) (v := .int (mO 0 20)) (C := RX8) (T := TX8) (N := 45) hx hb hts iwX8_words_X8 hown hK hP 0 rfl rfl 20 (by decide) (hts _ (List.mem_of_getElem? (i := 2) rfl)) (fun _ h9 => h9) rfl dX8_words_112 ?_
                  refine lv_iload hx hb dX8_words_115 (lv_at hl 4 rfl) ?_
                  refine lv_iconst (v := -1) hx hb dX8_words_117 (by decide) ?_
                  refine lv_ixor hx hb dX8_words_118 ?_
                  refine lv_iand hx hb dX8_words_119 ?_
                  refine lv_iload hx hb dX8_words_120 (lv_at hl 6 rfl) ?_
                  refine lv_ishr hx hb dX8_words_122 ?_
                  refine lv_iconst (v := 1) hx hb dX8_words_123 (by decide) ?_
                  refine lv_iand hx hb dX8_words_124 ?_
                  refine lv_aload_n hx hb dX8_words_125 rfl (lv_at hl 0 rfl) ?_
                  refine va_get (D := (dC, dI)) (ci := 8) (v := .ref (aO 25)) (C := RX8) (T := TX8) (N := 45) hx hb hts iwX8_words_X8 hown hK hP 0 rfl rfl 44 (by decide) (hts _ (List.mem_of_getElem? (i := 3) rfl)) (fun _ h9 => h9) rfl dX8_words_126 ?_
                  refine lv_iload hx hb dX8_words_129 (lv_at hl 6 rfl) ?_
                  obtain ⟨hi, hM⟩ := gi_some hM
                  refine va_iald hx hb hK hP 25 0 rfl rfl hi dX8_words_131 ?_
                  refine lv_ldcw (v := 1000000) hx hb hown (hts _ (List.mem_of_getElem? (i := 4) rfl)) dX8_words_132 ?_
                  refine lv_icmp_ge (tgt := 152) hx hb dX8_words_135 (by decide) (fun hc_8 => ?_) (fun hc_8 => ?_)
                  · have hM := it_p hc_8 hM
                    exact N152 v6 ((((mO 0 20) &&& (v4 ^^^ (-1 : Int32))) >>> (v6 &&& 31)) &&& (1 : Int32)) hM _ _ hP hD hS _ (lv_sub hl [0, 1, 2, 3, 4, 6] rfl)
                  · have hM := it_n hc_8 hM
                    refine lv_aload_n hx hb dX8_words_138 rfl (lv_at hl 0 rfl) ?_
                    refine va_get (D := (dC, dI)) (ci := 8) (v := .ref (aO 25)) (C := RX8) (T := TX8) (N := 45) hx hb hts iwX8_words_X8 hown hK hP 0 rfl rfl 44 (by decide) (hts _ (List.mem_of_getElem? (i := 3) rfl)) (fun _ h9 => h9) rfl dX8_words_139 ?_
                    refine lv_iload hx hb dX8_words_142 (lv_at hl 6 rfl) ?_
                    obtain ⟨hi, hM⟩ := gi_some hM
                    refine va_iald hx hb hK hP 25 0 rfl rfl hi dX8_words_144 ?_
                    refine lv_bipush (v := 100) hx hb dX8_words_145 (by decide) ?_
                    refine lv_idiv hx hb dX8_words_147 (by decide) ?_
                    refine lv_iload_n hx hb dX8_words_148 rfl (lv_at hl 2 rfl) ?_
                    refine lv_icmp_le (tgt := 156) hx hb dX8_words_149 (by decide) (fun hc_9 => ?_) (fun hc_9 => ?_)
                    · have hM := it_p hc_9 hM
                      refine lv_iconst (v := 0) hx hb dX8_words_156 (by decide) ?_
                      exact N157 v6 ((((mO 0 20) &&& (v4 ^^^ (-1 : Int32))) >>> (v6 &&& 31)) &&& (1 : Int32)) (0 : Int32) hM _ _ hP hD hS _ (lv_sub hl [0, 1, 2, 3, 4, 6] rfl)
                    · have hM := it_n hc_9 hM
                      exact N152 v6 ((((mO 0 20) &&& (v4 ^^^ (-1 : Int32))) >>> (v6 &&& 31)) &&& (1 : Int32)) hM _ _ hP hD hS _ (lv_sub hl [0, 1, 2, 3, 4, 6] rfl)
          exact I100 FU v5 v6 hit100 _ _ hP hD hS _ hl
        have N81 : ∀ (v3 : Int32) (v4 : Int32) (mO : Mem), mX8_words_j81 v1 v2 v3 v4 mO mO64 = some o35 → ∀ (H : Heap) (locs : List Loc), va_P (dC, dI) vwCl (wO ct aO mO mO64) H → va_D A (wO ct aO mO mO64) → va_S A s.heap H locs → ∀ ls : Array Slot, lv_has ls 7 [(0, .ref (aO 0)), (1, .int v1), (2, .int v2), (3, .int v3), (4, .int v4)] → W p l e (headSpec wsX8_words rmX8_words).room s m args below meth c H locs 0 0 Q (F0 m 81 ls []) := by
          intro v3 v4 mO hM H locs hP hD hS ls hl
          unfold mX8_words_j81 at hM
          refine lv_aload_n hx hb dX8_words_81 rfl (lv_at hl 0 rfl) ?_
          refine lv_aload_n hx hb dX8_words_82 rfl (lv_at hl 0 rfl) ?_
          refine va_get (D := (dC, dI)) (ci := 8) (v := .int (mO 0 20)) (C := RX8) (T := TX8) (N := 45) hx hb hts iwX8_words_X8 hown hK hP 0 rfl rfl 20 (by decide) (hts _ (List.mem_of_getElem? (i := 2) rfl)) (fun _ h9 => h9) rfl dX8_words_83 ?_
          refine lv_iload hx hb dX8_words_86 (lv_at hl 4 rfl) ?_
          refine lv_iconst (v := -1) hx hb dX8_words_88 (by decide) ?_
          refine lv_ixor hx hb dX8_words_89 ?_
          refine lv_iand hx hb dX8_words_90 ?_
          obtain ⟨mO_10, hr_11, hM⟩ := bn_some hM
          refine gv_v (wn := (wO ct aO mO_10 mO64)) (va_runV (As := [.int ((mO 0 20) &&& (v4 ^^^ (-1 : Int32)))]) (rest := []) ⟨hx, hb, hml, hown, hts⟩ (kX8_finds l dC dI ct aO _ mO mO64 ((mO 0 20) &&& (v4 ^^^ (-1 : Int32))) _ hr_11) (cwV 1 hts gX8_words_X8_finds rfl rfl rfl hvX8_finds ⟨Nat.le_of_ble_eq_true rfl, Nat.le_of_ble_eq_true rfl⟩) (preV_of E0_ok hK hP hD (is := [0, 1, 2, 3, 4, 5, 6, 7, 8, 9, 10, 11, 12, 13, 14, 15, 16, 17, 18, 19, 20, 21, 22, 23, 24, 25]) rfl rfl rfl (ci := 8) rfl 0 rfl e_0) rfl rfl hl.1 rfl (lv_room (Nat.le_of_ble_eq_true rfl)) dX8_words_91 ⟨Nat.le_of_ble_eq_true rfl, Nat.le_of_ble_eq_true rfl⟩) hP hD hS hA [0, 1, 2, 3, 4, 5, 6, 7, 8, 9, 10, 11, 12, 13, 14, 15, 16, 17, 18, 19, 20, 21, 22, 23, 24, 25] [] [0, 1, 2, 3, 4, 5, 6, 7, 8, 9, 10, 11, 12, 13, 14, 15, 16, 17, 18, 19, 20, 21, 22, 23, 24, 25] rfl rfl rfl (by decide) rfl rfl (fun H locs hP hD hS => ?_)
          refine lv_iconst (v := 1) hx hb dX8_words_94 (by decide) ?_
          refine lv_istore (lv' := [(5, .int (1 : Int32)), (0, .ref (aO 0)), (1, .int v1), (2, .int v2), (3, .int v3), (4, .int v4)]) hx hb dX8_words_95 hl (by decide) rfl (fun ls hl => ?_)
          refine lv_iconst (v := 0) hx hb dX8_words_97 (by decide) ?_
          refine lv_istore (lv' := [(6, .int (0 : Int32)), (5, .int (1 : Int32)), (0, .ref (aO 0)), (1, .int v1), (2, .int v2), (3, .int v3), (4, .int v4)]) hx hb dX8_words_98 hl (by decide) rfl (fun ls hl => ?_)
          exact N100 v3 v4 (1 : Int32) (0 : Int32) mO_10 hM _ _ hP hD hS _ (lv_sub hl [2, 3, 4, 5, 6, 1, 0] rfl)
        unfold mX8_words_s35 at hM
        refine lv_iload hx hb dX8_words_35 (lv_at hl 4 rfl) ?_
        refine lv_bipush (v := 32) hx hb dX8_words_37 (by decide) ?_
        refine lv_icmp_ge (tgt := 189) hx hb dX8_words_39 (by decide) (fun hc_13 => ?_) (fun hc_13 => ?_)
        · have hM := it_p hc_13 hM
          have hR := som hM
          exact X35_0 v3 mO (hex35 _ hR).symm _ _ hP hD hS _ (lv_sub hl [3] rfl)
        · have hM := it_n hc_13 hM
          refine lv_iload hx hb dX8_words_42 (lv_at hl 4 rfl) ?_
          refine lv_aload_n hx hb dX8_words_44 rfl (lv_at hl 0 rfl) ?_
          refine va_get (D := (dC, dI)) (ci := 8) (v := .int (mO 0 20)) (C := RX8) (T := TX8) (N := 45) hx hb hts iwX8_words_X8 hown hK hP 0 rfl rfl 20 (by decide) (hts _ (List.mem_of_getElem? (i := 2) rfl)) (fun _ h9 => h9) rfl dX8_words_45 ?_
          refine lv_iconst (v := -1) hx hb dX8_words_48 (by decide) ?_
          refine lv_ixor hx hb dX8_words_49 ?_
          refine lv_iand hx hb dX8_words_50 ?_
          refine lv_if_ne (tgt := 183) hx hb dX8_words_51 (by decide) (fun hc_14 => ?_) (fun hc_14 => ?_)
          · have hM := it_p hc_14 hM
            obtain ⟨x_15, ex_15⟩ : ∃ y : Int32, y = (v4 + (1 : Int32)) := ⟨_, rfl⟩
            have hM := nm_at ex_15 hM
            refine lv_iinc (v := x_15) (lv' := [(4, .int x_15), (0, .ref (aO 0)), (1, .int v1), (2, .int v2), (3, .int v3)]) hx hb dX8_words_183 hl (k := 4) rfl (by rw [ex_15]; rfl) (by decide) rfl (fun ls hl => ?_)
            refine lv_goto (tgt := 35) hx hb dX8_words_186 (by decide) ?_
            have hR := som hM
            exact ih35 v3 x_15 mO (hbk35 _ hR) _ _ hP hD hS _ (lv_sub hl [1, 2, 3, 4, 0] rfl)
          · have hM := it_nn hc_14 hM
            refine lv_iload hx hb dX8_words_54 (lv_at hl 4 rfl) ?_
            refine lv_iload_n hx hb dX8_words_56 rfl (lv_at hl 1 rfl) ?_
            refine lv_iand hx hb dX8_words_57 ?_
            refine lv_if_ne (tgt := 183) hx hb dX8_words_58 (by decide) (fun hc_16 => ?_) (fun hc_16 => ?_)
            · have hM := it_p hc_16 hM
              obtain ⟨x_17, ex_17⟩ : ∃ y : Int32, y = (v4 + (1 : Int32)) := ⟨_, rfl⟩
              have hM := nm_at ex_17 hM
              refine lv_iinc (v := x_17) (lv' := [(4, .int x_17), (0, .ref (aO 0)), (1, .int v1), (2, .int v2), (3, .int v3)]) hx hb dX8_words_183 hl (k := 4) rfl (by rw [ex_17]; rfl) (by decide) rfl (fun ls hl => ?_)
              refine lv_goto (tgt := 35) hx hb dX8_words_186 (by decide) ?_
              have hR := som hM
              exact ih35 v3 x_17 mO (hbk35 _ hR) _ _ hP hD hS _ (lv_sub hl [1, 2, 3, 4, 0] rfl)
            · have hM := it_nn hc_16 hM
              refine lv_iload_n hx hb dX8_words_61 rfl (lv_at hl 3 rfl) ?_
              refine lv_iconst (v := -1) hx hb dX8_words_62 (by decide) ?_
              refine lv_icmp_eq (tgt := 81) hx hb dX8_words_63 (by decide) (fun hc_18 => ?_) (fun hc_18 => ?_)
              · have hM := it_p hc_18 hM
                exact N81 v3 v4 mO hM _ _ hP hD hS _ (lv_sub hl [0, 1, 2, 3, 4] rfl)
              · have hM := it_n hc_18 hM
                refine lv_iload hx hb dX8_words_66 (lv_at hl 4 rfl) ?_
                obtain ⟨x_19, hr_20, hM⟩ := bn_some hM
                refine gv_i (r0 := x_19) (wn := (wO ct aO mO mO64)) (va_runS (As := [.int v4]) (rest := []) ⟨hx, hb, hml, hown, hts⟩ (kX8_ones l dC dI ct _ v4 _ hr_20) (va_cwS 1 hts gX8_words_X8_ones rfl rfl rfl hvX8_ones.2 ⟨Nat.le_of_ble_eq_true rfl, Nat.le_of_ble_eq_true rfl⟩) (preS_of E0_ok hK hP hD (is := []) rfl rfl e_0) rfl rfl hl.1 rfl (lv_room (Nat.le_of_ble_eq_true rfl)) dX8_words_68 ⟨Nat.le_of_ble_eq_true rfl, Nat.le_of_ble_eq_true rfl⟩) hP hD hS hA [] [0, 1, 2, 3, 4, 5, 6, 7, 8, 9, 10, 11, 12, 13, 14, 15, 16, 17, 18, 19, 20, 21, 22, 23, 24, 25] [0, 1, 2, 3, 4, 5, 6, 7, 8, 9, 10, 11, 12, 13, 14, 15, 16, 17, 18, 19, 20, 21, 22, 23, 24, 25] rfl rfl rfl (by decide) rfl rfl (fun H locs hP hD hS => ?_)
                refine lv_iload_n hx hb dX8_words_71 rfl (lv_at hl 3 rfl) ?_
                obtain ⟨x_22, hr_23, hM⟩ := bn_some hM
                refine gv_i (r0 := x_22) (wn := (wO ct aO mO mO64)) (va_runS (As := [.int v3]) (rest := [.int x_19]) ⟨hx, hb, hml, hown, hts⟩ (kX8_ones l dC dI ct _ v3 _ hr_23) (va_cwS 1 hts gX8_words_X8_ones rfl rfl rfl hvX8_ones.2 ⟨Nat.le_of_ble_eq_true rfl, Nat.le_of_ble_eq_true rfl⟩) (preS_of E0_ok hK hP hD (is := []) rfl rfl e_0) rfl rfl hl.1 rfl (lv_room (Nat.le_of_ble_eq_true rfl)) dX8_words_72 ⟨Nat.le_of_ble_eq_true rfl, Nat.le_of_ble_eq_true rfl⟩) hP hD hS hA [] [0, 1, 2, 3, 4, 5, 6, 7, 8, 9, 10, 11, 12, 13, 14, 15, 16, 17, 18, 19, 20, 21, 22, 23, 24, 25] [0, 1, 2, 3, 4, 5, 6, 7, 8, 9, 10, 11, 12, 13, 14, 15, 16, 17, 18, 19, 20, 21, 22, 23, 24, 25] rfl rfl rfl (by decide) rfl rfl (fun H locs hP hD hS => ?_)
                refine lv_icmp_lt (tgt := 81) hx hb dX8_words_75 (by decide) (fun hc_25 => ?_) (fun hc_25 => ?_)
                · have hM := it_p hc_25 hM
                  exact N81 v3 v4 mO hM _ _ hP hD hS _ (lv_sub hl [0, 1, 2, 3, 4] rfl)
                · have hM := it_n hc_25 hM
                  refine lv_goto (tgt := 183) hx hb dX8_words_78 (by decide) ?_
                  obtain ⟨x_26, ex_26⟩ : ∃ y : Int32, y = (v4 + (1 : Int32)) := ⟨_, rfl⟩
                  have hM := nm_at ex_26 hM
                  refine lv_iinc (v := x_26) (lv' := [(4, .int x_26), (0, .ref (aO 0)), (1, .int v1), (2, .int v2), (3, .int v3)]) hx hb dX8_words_183 hl (k := 4) rfl (by rw [ex_26]; rfl) (by decide) rfl (fun ls hl => ?_)
                  refine lv_goto (tgt := 35) hx hb dX8_words_186 (by decide) ?_
                  have hR := som hM
                  exact ih35 v3 x_26 mO (hbk35 _ hR) _ _ hP hD hS _ (lv_sub hl [1, 2, 3, 4, 0] rfl)
    exact I35 FU v3 v4 mO hit35 _ _ hP hD hS _ hl
  refine lv_aload_n hx hb dX8_words_0 rfl (lv_at hl 0 rfl) ?_
  refine va_get (D := (dC, dI)) (ci := 8) (v := .int (mO 0 18)) (C := RX8) (T := TX8) (N := 45) hx hb hts iwX8_words_X8 hown hK hP 0 rfl rfl 18 (by decide) (hts _ (List.mem_of_getElem? (i := 1) rfl)) (fun _ h9 => h9) rfl dX8_words_1 ?_
  refine lv_if_eq (tgt := 28) hx hb dX8_words_4 (by decide) (fun hc_27 => ?_) (fun hc_27 => ?_)
  · have hM := it_p hc_27 hM
    refine lv_iconst (v := -1) hx hb dX8_words_28 (by decide) ?_
    have hR := som hM
    rw [hR] at hQ
    exact ret_i hQ hx hb hr hlocks hP hK hD hS dX8_words_29
  · have hM := it_n hc_27 hM
    refine lv_iload_n hx hb dX8_words_7 rfl (lv_at hl 1 rfl) ?_
    refine lv_iconst (v := 0) hx hb dX8_words_8 (by decide) ?_
    refine lv_bipush (v := 31) hx hb dX8_words_9 (by decide) ?_
    obtain ⟨x_28, hr_29, hM⟩ := bn_some hM
    refine gv_i (r0 := x_28) (wn := (wO ct aO mO mO64)) (va_runS (As := [.int v1, .int (0 : Int32), .int (31 : Int32)]) (rest := []) ⟨hx, hb, hml, hown, hts⟩ (kX8_in l dC dI ct _ v1 (0 : Int32) (31 : Int32) _ hr_29) (va_cwS 3 hts gX8_words_X8_in rfl rfl rfl hvX8_in.2 ⟨Nat.le_of_ble_eq_true rfl, Nat.le_of_ble_eq_true rfl⟩) (preS_of E0_ok hK hP hD (is := []) rfl rfl e_0) rfl rfl hl.1 rfl (lv_room (Nat.le_of_ble_eq_true rfl)) dX8_words_11 ⟨Nat.le_of_ble_eq_true rfl, Nat.le_of_ble_eq_true rfl⟩) hP hD hS hA [] [0, 1, 2, 3, 4, 5, 6, 7, 8, 9, 10, 11, 12, 13, 14, 15, 16, 17, 18, 19, 20, 21, 22, 23, 24, 25] [0, 1, 2, 3, 4, 5, 6, 7, 8, 9, 10, 11, 12, 13, 14, 15, 16, 17, 18, 19, 20, 21, 22, 23, 24, 25] rfl rfl rfl (by decide) rfl rfl (fun H locs hP hD hS => ?_)
    refine lv_if_eq (tgt := 28) hx hb dX8_words_14 (by decide) (fun hc_31 => ?_) (fun hc_31 => ?_)
    · have hM := it_p hc_31 hM
      refine lv_iconst (v := -1) hx hb dX8_words_28 (by decide) ?_
      have hR := som hM
      rw [hR] at hQ
      exact ret_i hQ hx hb hr hlocks hP hK hD hS dX8_words_29
    · have hM := it_n hc_31 hM
      refine lv_iload_n hx hb dX8_words_17 rfl (lv_at hl 2 rfl) ?_
      refine lv_iconst (v := 0) hx hb dX8_words_18 (by decide) ?_
      refine lv_sipush (v := 2000) hx hb dX8_words_19 (by decide) ?_
      obtain ⟨x_32, hr_33, hM⟩ := bn_some hM
      refine gv_i (r0 := x_32) (wn := (wO ct aO mO mO64)) (va_runS (As := [.int v2, .int (0 : Int32), .int (2000 : Int32)]) (rest := []) ⟨hx, hb, hml, hown, hts⟩ (kX8_in l dC dI ct _ v2 (0 : Int32) (2000 : Int32) _ hr_33) (va_cwS 3 hts gX8_words_X8_in rfl rfl rfl hvX8_in.2 ⟨Nat.le_of_ble_eq_true rfl, Nat.le_of_ble_eq_true rfl⟩) (preS_of E0_ok hK hP hD (is := []) rfl rfl e_0) rfl rfl hl.1 rfl (lv_room (Nat.le_of_ble_eq_true rfl)) dX8_words_22 ⟨Nat.le_of_ble_eq_true rfl, Nat.le_of_ble_eq_true rfl⟩) hP hD hS hA [] [0, 1, 2, 3, 4, 5, 6, 7, 8, 9, 10, 11, 12, 13, 14, 15, 16, 17, 18, 19, 20, 21, 22, 23, 24, 25] [0, 1, 2, 3, 4, 5, 6, 7, 8, 9, 10, 11, 12, 13, 14, 15, 16, 17, 18, 19, 20, 21, 22, 23, 24, 25] rfl rfl rfl (by decide) rfl rfl (fun H locs hP hD hS => ?_)
      refine lv_if_ne (tgt := 30) hx hb dX8_words_25 (by decide) (fun hc_35 => ?_) (fun hc_35 => ?_)
      · have hM := it_p hc_35 hM
        refine lv_iconst (v := -1) hx hb dX8_words_30 (by decide) ?_
        refine lv_istore_n (lv' := [(3, .int (-1 : Int32)), (0, .ref (aO 0)), (1, .int v1), (2, .int v2)]) hx hb dX8_words_31 rfl hl (by decide) rfl (fun ls hl => ?_)
        refine lv_iconst (v := 0) hx hb dX8_words_32 (by decide) ?_
        refine lv_istore (lv' := [(4, .int (0 : Int32)), (3, .int (-1 : Int32)), (0, .ref (aO 0)), (1, .int v1), (2, .int v2)]) hx hb dX8_words_33 hl (by decide) rfl (fun ls hl => ?_)
        exact N35 v1 v2 (-1 : Int32) (0 : Int32) mO hM _ _ hP hD hS _ (lv_sub hl [2, 3, 4, 1, 0] rfl)
      · have hM := it_nn hc_35 hM
        refine lv_iconst (v := -1) hx hb dX8_words_28 (by decide) ?_
        have hR := som hM
        rw [hR] at hQ
        exact ret_i hQ hx hb hr hlocks hP hK hD hS dX8_words_29
abbrev rmX8_purse : Room := { frames := 2, cells := 0, slots := 0, locals := 48 }
theorem iwX8_purse_X8 : ∀ w ∈ wsX80, w ∈ wsX8_purse := fun _ h => List.mem_cons_of_mem _ (List.mem_append_right _ (h))
set_option maxHeartbeats 4000000 in
set_option maxRecDepth 100000 in
theorem kX8_purse (l : Launch) (dC : Nat → ClassId) (dI : Nat → Nat → Nat) (ct : Nat → ClassId) (aO : Nat → Nat) (sz : Nat) (mO : Mem) (mO64 : Lem) (v1 : Int32) (v2 : Int32) (res : Int32) (hM : mX8_purse mO mO64 v1 v2 = some res) : Met l yX8_purse wsX8_purse rmX8_purse (va_Pc [.ref (aO 0), .int v1, .int v2] (PB (dC, dI) ct E0 sz (wO ct aO mO mO64))) (Qi (dC, dI) ct (va_A (wO ct aO mO mO64) sz) res (wO ct aO mO mO64)) 0 0 (va_A (wO ct aO mO mO64) sz) := by
  refine Met.ofW (cc := cX8_purse) (maxL := 6) (ret := (some .int)) (by decide) rfl ?_
  intro p e s m args below meth c s₁ B hml hv
  obtain ⟨hargs, hsz, hP, hK, hD0, hE⟩ := hv
  have hx := B.exec
  have hb := B.bytes
  have hr := B.returns
  have hts := atoms_spec (ws := wsX8_purse) B.pre
  have hown : s.vm.findClass RX8 = some m.cls := findClass_of_methodNamed B.named
  have hlocks := B.notSynchronized
  clear B s₁
  subst hsz
  have hD := hD0.self (sz := s.heap.size)
  clear hD0
  generalize hAe : va_A (wO ct aO mO mO64) s.heap.size = A at hD hE ⊢
  have hA : ∀ q : Nat, s.heap.size ≤ q → A q := fun q h => by rw [← hAe]; exact Or.inr h
  clear hAe
  have hS : va_S A s.heap s.heap [] := va_S.rf
  refine cutQ (fun Q hQ => ?_)
  refine entryW (vs := [.ref (aO 0), .int v1, .int v2]) hargs (Nat.le_of_ble_eq_true rfl) (fun ls hl => ?_)
  replace hl : lv_has ls 6 [(0, .ref (aO 0)), (1, .int v1), (2, .int v2)] := hl
  unfold mX8_purse at hM
  have N33 : ∀ (v1 : Int32) (v2 : Int32) (v3 : Int32) (v4 : Int32), mX8_purse_L33 v1 v2 v3 v4 mO mO64 = some res → ∀ (H : Heap) (locs : List Loc), va_P (dC, dI) vwCl (wO ct aO mO mO64) H → va_D A (wO ct aO mO mO64) → va_S A s.heap H locs → ∀ ls : Array Slot, lv_has ls 6 [(0, .ref (aO 0)), (1, .int v1), (2, .int v2), (3, .int v3), (4, .int v4)] → W p l e (headSpec wsX8_purse rmX8_purse).room s m args below meth c H locs 0 0 Q (F0 m 33 ls []) := by
    intro v1 v2 v3 v4 hM H locs hP hD hS ls hl
    unfold mX8_purse_L33 at hM
    obtain ⟨ex33, hit33, hM⟩ := bn_some hM
    have X33_0 : ∀ (v3 : Int32), ex33 = v3 → ∀ (H : Heap) (locs : List Loc), va_P (dC, dI) vwCl (wO ct aO mO mO64) H → va_D A (wO ct aO mO mO64) → va_S A s.heap H locs → ∀ ls : Array Slot, lv_has ls 6 [(3, .int v3)] → W p l e (headSpec wsX8_purse rmX8_purse).room s m args below meth c H locs 0 0 Q (F0 m 143 ls []) := by
      intro v3 hex H locs hP hD hS ls hl
      rw [hex] at hM
      have hM := nm_at (y := v3) rfl hM
      refine lv_iload_n hx hb dX8_purse_143 rfl (lv_at hl 0 rfl) ?_
      have hR := som hM
      rw [hR] at hQ
      exact ret_i hQ hx hb hr hlocks hP hK hD hS dX8_purse_144
    have I33 : ∀ (n : Nat) (v3 : Int32) (v4 : Int32), itr (fun q => mX8_purse_s33 v1 v2 mO mO64 q.1 q.2) n (v3, v4) = some ex33 → ∀ (H : Heap) (locs : List Loc), va_P (dC, dI) vwCl (wO ct aO mO mO64) H → va_D A (wO ct aO mO mO64) → va_S A s.heap H locs → ∀ ls : Array Slot, lv_has ls 6 [(0, .ref (aO 0)), (1, .int v1), (2, .int v2), (3, .int v3), (4, .int v4)] → W p l e (headSpec wsX8_purse rmX8_purse).room s m args below meth c H locs 0 0 Q (F0 m 33 ls []) := by
      intro n
      induction n with
      | zero => intro v3 v4 hit; exact (itr_zero hit).elim
      | succ n ih33 =>
        intro v3 v4 hit H locs hP hD hS ls hl
        obtain ⟨o33, hM, hbk33, hex33⟩ := itr_succ hit
        replace hM : mX8_purse_s33 v1 v2 mO mO64 v3 v4 = some o33 := hM
        have N135 : ∀ (v4 : Int32) (t0 : Int32) (t1 : Int32), mX8_purse_j135 v1 v2 v4 t0 t1 mO mO64 = some o33 → ∀ (H : Heap) (locs : List Loc), va_P (dC, dI) vwCl (wO ct aO mO mO64) H → va_D A (wO ct aO mO mO64) → va_S A s.heap H locs → ∀ ls : Array Slot, lv_has ls 6 [(0, .ref (aO 0)), (1, .int v1), (2, .int v2), (4, .int v4)] → W p l e (headSpec wsX8_purse rmX8_purse).room s m args below meth c H locs 0 0 Q (F0 m 135 ls [.int t1, .int t0]) := by
          intro v4 t0 t1 hM H locs hP hD hS ls hl
          unfold mX8_purse_j135 at hM
          refine lv_iadd hx hb dX8_purse_135 ?_
          refine lv_topi (fun x_1 ex_1 => ?_)
          have hM := nm_at ex_1 hM
          refine lv_istore_n (lv' := [(3, .int x_1), (0, .ref (aO 0)), (1, .int v1), (2, .int v2), (4, .int v4)]) hx hb dX8_purse_136 rfl hl (by decide) rfl (fun ls hl => ?_)
          obtain ⟨x_2, ex_2⟩ : ∃ y : Int32, y = (v4 + (1 : Int32)) := ⟨_, rfl⟩
          have hM := nm_at ex_2 hM
          refine lv_iinc (v := x_2) (lv' := [(4, .int x_2), (3, .int x_1), (0, .ref (aO 0)), (1, .int v1), (2, .int v2)]) hx hb dX8_purse_137 hl (k := 4) rfl (by rw [ex_2]; rfl) (by decide) rfl (fun ls hl => ?_)
          refine lv_goto (tgt := 33) hx hb dX8_purse_140 (by decide) ?_
          have hR := som hM
          exact ih33 x_1 x_2 (hbk33 _ hR) _ _ hP hD hS _ (lv_sub hl [2, 3, 4, 1, 0] rfl)
        unfold mX8_purse_s33 at hM
        refine lv_iload hx hb dX8_purse_33 (lv_at hl 4 rfl) ?_
        refine lv_aload_n hx hb dX8_purse_35 rfl (lv_at hl 0 rfl) ?_
        refine va_get (D := (dC, dI)) (ci := 8) (v := .int (mO 0 18)) (C := RX8) (T := TX8) (N := 45) hx hb hts iwX8_purse_X8 hown hK hP 0 rfl rfl 18 (by decide) (hts _ (List.mem_of_getElem? (i := 1) rfl)) (fun _ h9 => h9) rfl dX8_purse_36 ?_
        refine lv_icmp_ge (tgt := 143) hx hb dX8_purse_39 (by decide) (fun hc_3 => ?_) (fun hc_3 => ?_)
        · have hM := it_p hc_3 hM
          have hR := som hM
          exact X33_0 v3 (hex33 _ hR).symm _ _ hP hD hS _ (lv_sub hl [3] rfl)
        · have hM := it_n hc_3 hM
          refine lv_aload_n hx hb dX8_purse_42 rfl (lv_at hl 0 rfl) ?_
          refine lv_iload hx hb dX8_purse_43 (lv_at hl 4 rfl) ?_
          refine lv_iconst (v := 1) hx hb dX8_purse_45 (by decide) ?_
          obtain ⟨x_4, hr_5, hM⟩ := bn_some hM
          refine gv_i (r0 := x_4) (wn := (wO ct aO mO mO64)) (va_runV (As := [.int v4, .int (1 : Int32)]) (rest := []) ⟨hx, hb, hml, hown, hts⟩ (kX8_of l dC dI ct aO _ mO mO64 v4 (1 : Int32) _ hr_5) (cwV 2 hts gX8_purse_X8_of rfl rfl rfl hvX8_of ⟨Nat.le_of_ble_eq_true rfl, Nat.le_of_ble_eq_true rfl⟩) (preV_of E0_ok hK hP hD (is := [0, 1, 2, 3, 4, 5, 6, 7, 8, 9, 10, 11, 12, 13, 14, 15, 16, 17, 18, 19, 20, 21, 22, 23, 24, 25]) rfl rfl rfl (ci := 8) rfl 0 rfl e_0) rfl rfl hl.1 rfl (lv_room (Nat.le_of_ble_eq_true rfl)) dX8_purse_46 ⟨Nat.le_of_ble_eq_true rfl, Nat.le_of_ble_eq_true rfl⟩) hP hD hS hA [0, 1, 2, 3, 4, 5, 6, 7, 8, 9, 10, 11, 12, 13, 14, 15, 16, 17, 18, 19, 20, 21, 22, 23, 24, 25] [] [0, 1, 2, 3, 4, 5, 6, 7, 8, 9, 10, 11, 12, 13, 14, 15, 16, 17, 18, 19, 20, 21, 22, 23, 24, 25] rfl rfl rfl (by decide) rfl rfl (fun H locs hP hD hS => ?_)
          refine lv_iload_n hx hb dX8_purse_49 rfl (lv_at hl 1 rfl) ?_
          refine lv_icmp_ge (tgt := 137) hx hb dX8_purse_50 (by decide) (fun hc_7 => ?_) (fun hc_7 => ?_)
          · have hM := it_p hc_7 hM
            obtain ⟨x_8, ex_8⟩ : ∃ y : Int32, y = (v4 + (1 : Int32)) := ⟨_, rfl⟩
            have hM := nm_at ex_8 hM
            refine lv_iinc (v := x_8) (lv' := [(4, .int x_8), (0, .ref (aO 0)), (1, .int v1), (2, .int v2), (3, .int v3)]) hx hb dX8_purse_137 hl (k := 4) rfl (by rw [ex_8]; rfl) (by decide) rfl (fun ls hl => ?_)
            refine lv_goto (tgt := 33) hx hb dX8_purse_140 (by decide) ?_
            have hR := som hM
            exact ih33 v3 x_8 (hbk33 _ hR) _ _ hP hD hS _ (lv_sub hl [1, 2, 3, 4, 0] rfl)
          · have hM := it_n hc_7 hM
            refine lv_aload_n hx hb dX8_purse_53 rfl (lv_at hl 0 rfl) ?_
            refine lv_iload hx hb dX8_purse_54 (lv_at hl 4 rfl) ?_
            refine lv_iconst (v := 2) hx hb dX8_purse_56 (by decide) ?_
            obtain ⟨x_9, hr_10, hM⟩ := bn_some hM
            refine gv_i (r0 := x_9) (wn := (wO ct aO mO mO64)) (va_runV (As := [.int v4, .int (2 : Int32)]) (rest := []) ⟨hx, hb, hml, hown, hts⟩ (kX8_of l dC dI ct aO _ mO mO64 v4 (2 : Int32) _ hr_10) (cwV 2 hts gX8_purse_X8_of rfl rfl rfl hvX8_of ⟨Nat.le_of_ble_eq_true rfl, Nat.le_of_ble_eq_true rfl⟩) (preV_of E0_ok hK hP hD (is := [0, 1, 2, 3, 4, 5, 6, 7, 8, 9, 10, 11, 12, 13, 14, 15, 16, 17, 18, 19, 20, 21, 22, 23, 24, 25]) rfl rfl rfl (ci := 8) rfl 0 rfl e_0) rfl rfl hl.1 rfl (lv_room (Nat.le_of_ble_eq_true rfl)) dX8_purse_57 ⟨Nat.le_of_ble_eq_true rfl, Nat.le_of_ble_eq_true rfl⟩) hP hD hS hA [0, 1, 2, 3, 4, 5, 6, 7, 8, 9, 10, 11, 12, 13, 14, 15, 16, 17, 18, 19, 20, 21, 22, 23, 24, 25] [] [0, 1, 2, 3, 4, 5, 6, 7, 8, 9, 10, 11, 12, 13, 14, 15, 16, 17, 18, 19, 20, 21, 22, 23, 24, 25] rfl rfl rfl (by decide) rfl rfl (fun H locs hP hD hS => ?_)
            refine lv_aload_n hx hb dX8_purse_60 rfl (lv_at hl 0 rfl) ?_
            refine lv_iload hx hb dX8_purse_61 (lv_at hl 4 rfl) ?_
            refine lv_iconst (v := 1) hx hb dX8_purse_63 (by decide) ?_
            obtain ⟨x_12, hr_13, hM⟩ := bn_some hM
            refine gv_i (r0 := x_12) (wn := (wO ct aO mO mO64)) (va_runV (As := [.int v4, .int (1 : Int32)]) (rest := [.int x_9]) ⟨hx, hb, hml, hown, hts⟩ (kX8_of l dC dI ct aO _ mO mO64 v4 (1 : Int32) _ hr_13) (cwV 2 hts gX8_purse_X8_of rfl rfl rfl hvX8_of ⟨Nat.le_of_ble_eq_true rfl, Nat.le_of_ble_eq_true rfl⟩) (preV_of E0_ok hK hP hD (is := [0, 1, 2, 3, 4, 5, 6, 7, 8, 9, 10, 11, 12, 13, 14, 15, 16, 17, 18, 19, 20, 21, 22, 23, 24, 25]) rfl rfl rfl (ci := 8) rfl 0 rfl e_0) rfl rfl hl.1 rfl (lv_room (Nat.le_of_ble_eq_true rfl)) dX8_purse_64 ⟨Nat.le_of_ble_eq_true rfl, Nat.le_of_ble_eq_true rfl⟩) hP hD hS hA [0, 1, 2, 3, 4, 5, 6, 7, 8, 9, 10, 11, 12, 13, 14, 15, 16, 17, 18, 19, 20, 21, 22, 23, 24, 25] [] [0, 1, 2, 3, 4, 5, 6, 7, 8, 9, 10, 11, 12, 13, 14, 15, 16, 17, 18, 19, 20, 21, 22, 23, 24, 25] rfl rfl rfl (by decide) rfl rfl (fun H locs hP hD hS => ?_)
            refine lv_icmp_gt (tgt := 73) hx hb dX8_purse_67 (by decide) (fun hc_15 => ?_) (fun hc_15 => ?_)
            · have hM := it_p hc_15 hM
              refine lv_aload_n hx hb dX8_purse_73 rfl (lv_at hl 0 rfl) ?_
              refine lv_iload hx hb dX8_purse_74 (lv_at hl 4 rfl) ?_
              refine lv_iconst (v := 0) hx hb dX8_purse_76 (by decide) ?_
              obtain ⟨x_16, hr_17, hM⟩ := bn_some hM
              refine gv_i (r0 := x_16) (wn := (wO ct aO mO mO64)) (va_runV (As := [.int v4, .int (0 : Int32)]) (rest := []) ⟨hx, hb, hml, hown, hts⟩ (kX8_of l dC dI ct aO _ mO mO64 v4 (0 : Int32) _ hr_17) (cwV 2 hts gX8_purse_X8_of rfl rfl rfl hvX8_of ⟨Nat.le_of_ble_eq_true rfl, Nat.le_of_ble_eq_true rfl⟩) (preV_of E0_ok hK hP hD (is := [0, 1, 2, 3, 4, 5, 6, 7, 8, 9, 10, 11, 12, 13, 14, 15, 16, 17, 18, 19, 20, 21, 22, 23, 24, 25]) rfl rfl rfl (ci := 8) rfl 0 rfl e_0) rfl rfl hl.1 rfl (lv_room (Nat.le_of_ble_eq_true rfl)) dX8_purse_77 ⟨Nat.le_of_ble_eq_true rfl, Nat.le_of_ble_eq_true rfl⟩) hP hD hS hA [0, 1, 2, 3, 4, 5, 6, 7, 8, 9, 10, 11, 12, 13, 14, 15, 16, 17, 18, 19, 20, 21, 22, 23, 24, 25] [] [0, 1, 2, 3, 4, 5, 6, 7, 8, 9, 10, 11, 12, 13, 14, 15, 16, 17, 18, 19, 20, 21, 22, 23, 24, 25] rfl rfl rfl (by decide) rfl rfl (fun H locs hP hD hS => ?_)
              refine lv_aload_n hx hb dX8_purse_80 rfl (lv_at hl 0 rfl) ?_
              refine lv_iload hx hb dX8_purse_81 (lv_at hl 4 rfl) ?_
              refine lv_iconst (v := 2) hx hb dX8_purse_83 (by decide) ?_
              obtain ⟨x_19, hr_20, hM⟩ := bn_some hM
              refine gv_i (r0 := x_19) (wn := (wO ct aO mO mO64)) (va_runV (As := [.int v4, .int (2 : Int32)]) (rest := [.int x_16]) ⟨hx, hb, hml, hown, hts⟩ (kX8_of l dC dI ct aO _ mO mO64 v4 (2 : Int32) _ hr_20) (cwV 2 hts gX8_purse_X8_of rfl rfl rfl hvX8_of ⟨Nat.le_of_ble_eq_true rfl, Nat.le_of_ble_eq_true rfl⟩) (preV_of E0_ok hK hP hD (is := [0, 1, 2, 3, 4, 5, 6, 7, 8, 9, 10, 11, 12, 13, 14, 15, 16, 17, 18, 19, 20, 21, 22, 23, 24, 25]) rfl rfl rfl (ci := 8) rfl 0 rfl e_0) rfl rfl hl.1 rfl (lv_room (Nat.le_of_ble_eq_true rfl)) dX8_purse_84 ⟨Nat.le_of_ble_eq_true rfl, Nat.le_of_ble_eq_true rfl⟩) hP hD hS hA [0, 1, 2, 3, 4, 5, 6, 7, 8, 9, 10, 11, 12, 13, 14, 15, 16, 17, 18, 19, 20, 21, 22, 23, 24, 25] [] [0, 1, 2, 3, 4, 5, 6, 7, 8, 9, 10, 11, 12, 13, 14, 15, 16, 17, 18, 19, 20, 21, 22, 23, 24, 25] rfl rfl rfl (by decide) rfl rfl (fun H locs hP hD hS => ?_)
              refine lv_aload_n hx hb dX8_purse_87 rfl (lv_at hl 0 rfl) ?_
              refine lv_iload hx hb dX8_purse_88 (lv_at hl 4 rfl) ?_
              refine lv_iconst (v := 1) hx hb dX8_purse_90 (by decide) ?_
              obtain ⟨x_22, hr_23, hM⟩ := bn_some hM
              refine gv_i (r0 := x_22) (wn := (wO ct aO mO mO64)) (va_runV (As := [.int v4, .int (1 : Int32)]) (rest := [.int x_19, .int x_16]) ⟨hx, hb, hml, hown, hts⟩ (kX8_of l dC dI ct aO _ mO mO64 v4 (1 : Int32) _ hr_23) (cwV 2 hts gX8_purse_X8_of rfl rfl rfl hvX8_of ⟨Nat.le_of_ble_eq_true rfl, Nat.le_of_ble_eq_true rfl⟩) (preV_of E0_ok hK hP hD (is := [0, 1, 2, 3, 4, 5, 6, 7, 8, 9, 10, 11, 12, 13, 14, 15, 16, 17, 18, 19, 20, 21, 22, 23, 24, 25]) rfl rfl rfl (ci := 8) rfl 0 rfl e_0) rfl rfl hl.1 rfl (lv_room (Nat.le_of_ble_eq_true rfl)) dX8_purse_91 ⟨Nat.le_of_ble_eq_true rfl, Nat.le_of_ble_eq_true rfl⟩) hP hD hS hA [0, 1, 2, 3, 4, 5, 6, 7, 8, 9, 10, 11, 12, 13, 14, 15, 16, 17, 18, 19, 20, 21, 22, 23, 24, 25] [] [0, 1, 2, 3, 4, 5, 6, 7, 8, 9, 10, 11, 12, 13, 14, 15, 16, 17, 18, 19, 20, 21, 22, 23, 24, 25] rfl rfl rfl (by decide) rfl rfl (fun H locs hP hD hS => ?_)
              refine lv_isub hx hb dX8_purse_94 ?_
              refine lv_imul hx hb dX8_purse_95 ?_
              refine lv_topi (fun x_25 ex_25 => ?_)
              have hM := nm_at ex_25 hM
              refine lv_istore (lv' := [(5, .int x_25), (0, .ref (aO 0)), (1, .int v1), (2, .int v2), (3, .int v3), (4, .int v4)]) hx hb dX8_purse_96 hl (by decide) rfl (fun ls hl => ?_)
              refine lv_iload_n hx hb dX8_purse_98 rfl (lv_at hl 4 rfl) ?_
              refine lv_iload_n hx hb dX8_purse_99 rfl (lv_at hl 3 rfl) ?_
              refine lv_if_ne (tgt := 108) hx hb dX8_purse_100 (by decide) (fun hc_26 => ?_) (fun hc_26 => ?_)
              · have hM := it_p hc_26 hM
                refine lv_iload hx hb dX8_purse_108 (lv_at hl 0 rfl) ?_
                refine lv_aload_n hx hb dX8_purse_110 rfl (lv_at hl 1 rfl) ?_
                refine lv_iload hx hb dX8_purse_111 (lv_at hl 5 rfl) ?_
                refine lv_aload_n hx hb dX8_purse_113 rfl (lv_at hl 1 rfl) ?_
                refine va_get (D := (dC, dI)) (ci := 8) (v := .int (mO 0 13)) (C := RX8) (T := TX8) (N := 45) hx hb hts iwX8_purse_X8 hown hK hP 0 rfl rfl 13 (by decide) (hts _ (List.mem_of_getElem? (i := 2) rfl)) (fun _ h9 => h9) rfl dX8_purse_114 ?_
                refine lv_iconst (v := 1) hx hb dX8_purse_117 (by decide) ?_
                refine lv_isub hx hb dX8_purse_118 ?_
                refine lv_aload_n hx hb dX8_purse_119 rfl (lv_at hl 1 rfl) ?_
                refine va_get (D := (dC, dI)) (ci := 8) (v := .int (mO 0 15)) (C := RX8) (T := TX8) (N := 45) hx hb hts iwX8_purse_X8 hown hK hP 0 rfl rfl 15 (by decide) (hts _ (List.mem_of_getElem? (i := 3) rfl)) (fun _ h9 => h9) rfl dX8_purse_120 ?_
                refine lv_aload_n hx hb dX8_purse_123 rfl (lv_at hl 1 rfl) ?_
                refine va_get (D := (dC, dI)) (ci := 8) (v := .int (mO 0 16)) (C := RX8) (T := TX8) (N := 45) hx hb hts iwX8_purse_X8 hown hK hP 0 rfl rfl 16 (by decide) (hts _ (List.mem_of_getElem? (i := 4) rfl)) (fun _ h9 => h9) rfl dX8_purse_124 ?_
                obtain ⟨x_27, hr_28, hM⟩ := bn_some hM
                refine gv_i (r0 := x_27) (wn := (wO ct aO mO mO64)) (va_runV (As := [.int v4, .int ((mO 0 13) - (1 : Int32)), .int (mO 0 15), .int (mO 0 16)]) (rest := [.int x_25, .int v3]) ⟨hx, hb, hml, hown, hts⟩ (kX8_backOf l dC dI ct aO _ mO mO64 v4 ((mO 0 13) - (1 : Int32)) (mO 0 15) (mO 0 16) _ hr_28) (cwV 4 hts gX8_purse_X8_backOf rfl rfl rfl hvX8_backOf ⟨Nat.le_of_ble_eq_true rfl, Nat.le_of_ble_eq_true rfl⟩) (preV_of E0_ok hK hP hD (is := [0, 1, 2, 3, 4, 5, 6, 7, 8, 9, 10, 11, 12, 13, 14, 15, 16, 17, 18, 19, 20, 21, 22, 23, 24, 25]) rfl rfl rfl (ci := 8) rfl 0 rfl e_0) rfl rfl hl.1 rfl (lv_room (Nat.le_of_ble_eq_true rfl)) dX8_purse_127 ⟨Nat.le_of_ble_eq_true rfl, Nat.le_of_ble_eq_true rfl⟩) hP hD hS hA [0, 1, 2, 3, 4, 5, 6, 7, 8, 9, 10, 11, 12, 13, 14, 15, 16, 17, 18, 19, 20, 21, 22, 23, 24, 25] [] [0, 1, 2, 3, 4, 5, 6, 7, 8, 9, 10, 11, 12, 13, 14, 15, 16, 17, 18, 19, 20, 21, 22, 23, 24, 25] rfl rfl rfl (by decide) rfl rfl (fun H locs hP hD hS => ?_)
                refine lv_imul hx hb dX8_purse_130 ?_
                refine lv_sipush (v := 1000) hx hb dX8_purse_131 (by decide) ?_
                refine lv_idiv hx hb dX8_purse_134 (by decide) ?_
                exact N135 v4 v3 ((x_25 * x_27) / (1000 : Int32)) hM _ _ hP hD hS _ (lv_sub hl [1, 2, 3, 5] rfl)
              · have hM := it_nn hc_26 hM
                refine lv_iload hx hb dX8_purse_103 (lv_at hl 0 rfl) ?_
                refine lv_goto (tgt := 135) hx hb dX8_purse_105 (by decide) ?_
                exact N135 v4 v3 x_25 hM _ _ hP hD hS _ (lv_sub hl [1, 2, 3, 5] rfl)
            · have hM := it_n hc_15 hM
              refine lv_goto (tgt := 137) hx hb dX8_purse_70 (by decide) ?_
              obtain ⟨x_30, ex_30⟩ : ∃ y : Int32, y = (v4 + (1 : Int32)) := ⟨_, rfl⟩
              have hM := nm_at ex_30 hM
              refine lv_iinc (v := x_30) (lv' := [(4, .int x_30), (0, .ref (aO 0)), (1, .int v1), (2, .int v2), (3, .int v3)]) hx hb dX8_purse_137 hl (k := 4) rfl (by rw [ex_30]; rfl) (by decide) rfl (fun ls hl => ?_)
              refine lv_goto (tgt := 33) hx hb dX8_purse_140 (by decide) ?_
              have hR := som hM
              exact ih33 v3 x_30 (hbk33 _ hR) _ _ hP hD hS _ (lv_sub hl [1, 2, 3, 4, 0] rfl)
    exact I33 FU v3 v4 hit33 _ _ hP hD hS _ hl
  refine lv_aload_n hx hb dX8_purse_0 rfl (lv_at hl 0 rfl) ?_
  refine va_get (D := (dC, dI)) (ci := 8) (v := .int (mO 0 18)) (C := RX8) (T := TX8) (N := 45) hx hb hts iwX8_purse_X8 hown hK hP 0 rfl rfl 18 (by decide) (hts _ (List.mem_of_getElem? (i := 1) rfl)) (fun _ h9 => h9) rfl dX8_purse_1 ?_
  refine lv_if_eq (tgt := 26) hx hb dX8_purse_4 (by decide) (fun hc_31 => ?_) (fun hc_31 => ?_)
  · have hM := it_p hc_31 hM
    refine lv_iconst (v := -1) hx hb dX8_purse_26 (by decide) ?_
    have hR := som hM
    rw [hR] at hQ
    exact ret_i hQ hx hb hr hlocks hP hK hD hS dX8_purse_27
  · have hM := it_n hc_31 hM
    refine lv_iload_n hx hb dX8_purse_7 rfl (lv_at hl 1 rfl) ?_
    refine lv_iconst (v := 0) hx hb dX8_purse_8 (by decide) ?_
    refine lv_bipush (v := 100) hx hb dX8_purse_9 (by decide) ?_
    obtain ⟨x_32, hr_33, hM⟩ := bn_some hM
    refine gv_i (r0 := x_32) (wn := (wO ct aO mO mO64)) (va_runS (As := [.int v1, .int (0 : Int32), .int (100 : Int32)]) (rest := []) ⟨hx, hb, hml, hown, hts⟩ (kX8_in l dC dI ct _ v1 (0 : Int32) (100 : Int32) _ hr_33) (va_cwS 3 hts gX8_purse_X8_in rfl rfl rfl hvX8_in.2 ⟨Nat.le_of_ble_eq_true rfl, Nat.le_of_ble_eq_true rfl⟩) (preS_of E0_ok hK hP hD (is := []) rfl rfl e_0) rfl rfl hl.1 rfl (lv_room (Nat.le_of_ble_eq_true rfl)) dX8_purse_11 ⟨Nat.le_of_ble_eq_true rfl, Nat.le_of_ble_eq_true rfl⟩) hP hD hS hA [] [0, 1, 2, 3, 4, 5, 6, 7, 8, 9, 10, 11, 12, 13, 14, 15, 16, 17, 18, 19, 20, 21, 22, 23, 24, 25] [0, 1, 2, 3, 4, 5, 6, 7, 8, 9, 10, 11, 12, 13, 14, 15, 16, 17, 18, 19, 20, 21, 22, 23, 24, 25] rfl rfl rfl (by decide) rfl rfl (fun H locs hP hD hS => ?_)
    refine lv_if_eq (tgt := 26) hx hb dX8_purse_14 (by decide) (fun hc_35 => ?_) (fun hc_35 => ?_)
    · have hM := it_p hc_35 hM
      refine lv_iconst (v := -1) hx hb dX8_purse_26 (by decide) ?_
      have hR := som hM
      rw [hR] at hQ
      exact ret_i hQ hx hb hr hlocks hP hK hD hS dX8_purse_27
    · have hM := it_n hc_35 hM
      refine lv_iload_n hx hb dX8_purse_17 rfl (lv_at hl 2 rfl) ?_
      refine lv_iconst (v := 0) hx hb dX8_purse_18 (by decide) ?_
      refine lv_iconst (v := 1) hx hb dX8_purse_19 (by decide) ?_
      obtain ⟨x_36, hr_37, hM⟩ := bn_some hM
      refine gv_i (r0 := x_36) (wn := (wO ct aO mO mO64)) (va_runS (As := [.int v2, .int (0 : Int32), .int (1 : Int32)]) (rest := []) ⟨hx, hb, hml, hown, hts⟩ (kX8_in l dC dI ct _ v2 (0 : Int32) (1 : Int32) _ hr_37) (va_cwS 3 hts gX8_purse_X8_in rfl rfl rfl hvX8_in.2 ⟨Nat.le_of_ble_eq_true rfl, Nat.le_of_ble_eq_true rfl⟩) (preS_of E0_ok hK hP hD (is := []) rfl rfl e_0) rfl rfl hl.1 rfl (lv_room (Nat.le_of_ble_eq_true rfl)) dX8_purse_20 ⟨Nat.le_of_ble_eq_true rfl, Nat.le_of_ble_eq_true rfl⟩) hP hD hS hA [] [0, 1, 2, 3, 4, 5, 6, 7, 8, 9, 10, 11, 12, 13, 14, 15, 16, 17, 18, 19, 20, 21, 22, 23, 24, 25] [0, 1, 2, 3, 4, 5, 6, 7, 8, 9, 10, 11, 12, 13, 14, 15, 16, 17, 18, 19, 20, 21, 22, 23, 24, 25] rfl rfl rfl (by decide) rfl rfl (fun H locs hP hD hS => ?_)
      refine lv_if_ne (tgt := 28) hx hb dX8_purse_23 (by decide) (fun hc_39 => ?_) (fun hc_39 => ?_)
      · have hM := it_p hc_39 hM
        refine lv_iconst (v := 0) hx hb dX8_purse_28 (by decide) ?_
        refine lv_istore_n (lv' := [(3, .int (0 : Int32)), (0, .ref (aO 0)), (1, .int v1), (2, .int v2)]) hx hb dX8_purse_29 rfl hl (by decide) rfl (fun ls hl => ?_)
        refine lv_iconst (v := 0) hx hb dX8_purse_30 (by decide) ?_
        refine lv_istore (lv' := [(4, .int (0 : Int32)), (3, .int (0 : Int32)), (0, .ref (aO 0)), (1, .int v1), (2, .int v2)]) hx hb dX8_purse_31 hl (by decide) rfl (fun ls hl => ?_)
        exact N33 v1 v2 (0 : Int32) (0 : Int32) hM _ _ hP hD hS _ (lv_sub hl [2, 3, 4, 1, 0] rfl)
      · have hM := it_nn hc_39 hM
        refine lv_iconst (v := -1) hx hb dX8_purse_26 (by decide) ?_
        have hR := som hM
        rw [hR] at hQ
        exact ret_i hQ hx hb hr hlocks hP hK hD hS dX8_purse_27
abbrev rmX8_part : Room := { frames := 1, cells := 0, slots := 0, locals := 22 }
set_option maxHeartbeats 4000000 in
set_option maxRecDepth 100000 in
theorem kX8_part (l : Launch) (dC : Nat → ClassId) (dI : Nat → Nat → Nat) (ct : Nat → ClassId) (aO : Nat → Nat) (sz : Nat) (mO : Mem) (mO64 : Lem) (v1 : Int32) (v2 : Int32) (v3 : Int32) (res : Int32) (hM : mX8_part mO mO64 v1 v2 v3 = some res) : Met l yX8_part wsX8_part rmX8_part (va_Pc [.ref (aO 0), .int v1, .int v2, .int v3] (PB (dC, dI) ct E0 sz (wO ct aO mO mO64))) (Qi (dC, dI) ct (va_A (wO ct aO mO mO64) sz) res (wO ct aO mO mO64)) 0 0 (va_A (wO ct aO mO mO64) sz) := by
  refine Met.ofW (cc := cX8_part) (maxL := 4) (ret := (some .int)) (by decide) rfl ?_
  intro p e s m args below meth c s₁ B hml hv
  obtain ⟨hargs, hsz, hP, hK, hD0, hE⟩ := hv
  have hx := B.exec
  have hb := B.bytes
  have hr := B.returns
  have hts := atoms_spec (ws := wsX8_part) B.pre
  have hown : s.vm.findClass RX8 = some m.cls := findClass_of_methodNamed B.named
  have hlocks := B.notSynchronized
  clear B s₁
  subst hsz
  have hD := hD0.self (sz := s.heap.size)
  clear hD0
  generalize hAe : va_A (wO ct aO mO mO64) s.heap.size = A at hD hE ⊢
  have hA : ∀ q : Nat, s.heap.size ≤ q → A q := fun q h => by rw [← hAe]; exact Or.inr h
  clear hAe
  have hS : va_S A s.heap s.heap [] := va_S.rf
  refine cutQ (fun Q hQ => ?_)
  refine entryW (vs := [.ref (aO 0), .int v1, .int v2, .int v3]) hargs (Nat.le_of_ble_eq_true rfl) (fun ls hl => ?_)
  replace hl : lv_has ls 4 [(0, .ref (aO 0)), (1, .int v1), (2, .int v2), (3, .int v3)] := hl
  unfold mX8_part at hM
  refine lv_iload_n hx hb dX8_part_0 rfl (lv_at hl 1 rfl) ?_
  refine lv_iconst (v := 0) hx hb dX8_part_1 (by decide) ?_
  refine lv_ldcw (v := 99999) hx hb hown (hts _ (List.mem_of_getElem? (i := 1) rfl)) dX8_part_2 ?_
  obtain ⟨x_1, hr_2, hM⟩ := bn_some hM
  refine gv_i (r0 := x_1) (wn := (wO ct aO mO mO64)) (va_runS (As := [.int v1, .int (0 : Int32), .int (99999 : Int32)]) (rest := []) ⟨hx, hb, hml, hown, hts⟩ (kX8_in l dC dI ct _ v1 (0 : Int32) (99999 : Int32) _ hr_2) (va_cwS 3 hts gX8_part_X8_in rfl rfl rfl hvX8_in.2 ⟨Nat.le_of_ble_eq_true rfl, Nat.le_of_ble_eq_true rfl⟩) (preS_of E0_ok hK hP hD (is := []) rfl rfl e_0) rfl rfl hl.1 rfl (lv_room (Nat.le_of_ble_eq_true rfl)) dX8_part_5 ⟨Nat.le_of_ble_eq_true rfl, Nat.le_of_ble_eq_true rfl⟩) hP hD hS hA [] [0, 1, 2, 3, 4, 5, 6, 7, 8, 9, 10, 11, 12, 13, 14, 15, 16, 17, 18, 19, 20, 21, 22, 23, 24, 25] [0, 1, 2, 3, 4, 5, 6, 7, 8, 9, 10, 11, 12, 13, 14, 15, 16, 17, 18, 19, 20, 21, 22, 23, 24, 25] rfl rfl rfl (by decide) rfl rfl (fun H locs hP hD hS => ?_)
  refine lv_if_eq (tgt := 41) hx hb dX8_part_8 (by decide) (fun hc_4 => ?_) (fun hc_4 => ?_)
  · have hM := it_p hc_4 hM
    refine lv_iconst (v := -1) hx hb dX8_part_41 (by decide) ?_
    have hR := som hM
    rw [hR] at hQ
    exact ret_i hQ hx hb hr hlocks hP hK hD hS dX8_part_42
  · have hM := it_n hc_4 hM
    refine lv_iload_n hx hb dX8_part_11 rfl (lv_at hl 2 rfl) ?_
    refine lv_iconst (v := 1) hx hb dX8_part_12 (by decide) ?_
    refine lv_bipush (v := 20) hx hb dX8_part_13 (by decide) ?_
    obtain ⟨x_5, hr_6, hM⟩ := bn_some hM
    refine gv_i (r0 := x_5) (wn := (wO ct aO mO mO64)) (va_runS (As := [.int v2, .int (1 : Int32), .int (20 : Int32)]) (rest := []) ⟨hx, hb, hml, hown, hts⟩ (kX8_in l dC dI ct _ v2 (1 : Int32) (20 : Int32) _ hr_6) (va_cwS 3 hts gX8_part_X8_in rfl rfl rfl hvX8_in.2 ⟨Nat.le_of_ble_eq_true rfl, Nat.le_of_ble_eq_true rfl⟩) (preS_of E0_ok hK hP hD (is := []) rfl rfl e_0) rfl rfl hl.1 rfl (lv_room (Nat.le_of_ble_eq_true rfl)) dX8_part_15 ⟨Nat.le_of_ble_eq_true rfl, Nat.le_of_ble_eq_true rfl⟩) hP hD hS hA [] [0, 1, 2, 3, 4, 5, 6, 7, 8, 9, 10, 11, 12, 13, 14, 15, 16, 17, 18, 19, 20, 21, 22, 23, 24, 25] [0, 1, 2, 3, 4, 5, 6, 7, 8, 9, 10, 11, 12, 13, 14, 15, 16, 17, 18, 19, 20, 21, 22, 23, 24, 25] rfl rfl rfl (by decide) rfl rfl (fun H locs hP hD hS => ?_)
    refine lv_if_eq (tgt := 41) hx hb dX8_part_18 (by decide) (fun hc_8 => ?_) (fun hc_8 => ?_)
    · have hM := it_p hc_8 hM
      refine lv_iconst (v := -1) hx hb dX8_part_41 (by decide) ?_
      have hR := som hM
      rw [hR] at hQ
      exact ret_i hQ hx hb hr hlocks hP hK hD hS dX8_part_42
    · have hM := it_n hc_8 hM
      refine lv_iload_n hx hb dX8_part_21 rfl (lv_at hl 3 rfl) ?_
      refine lv_iconst (v := 0) hx hb dX8_part_22 (by decide) ?_
      refine lv_iload_n hx hb dX8_part_23 rfl (lv_at hl 2 rfl) ?_
      refine lv_iconst (v := 1) hx hb dX8_part_24 (by decide) ?_
      refine lv_isub hx hb dX8_part_25 ?_
      obtain ⟨x_9, hr_10, hM⟩ := bn_some hM
      refine gv_i (r0 := x_9) (wn := (wO ct aO mO mO64)) (va_runS (As := [.int v3, .int (0 : Int32), .int (v2 - (1 : Int32))]) (rest := []) ⟨hx, hb, hml, hown, hts⟩ (kX8_in l dC dI ct _ v3 (0 : Int32) (v2 - (1 : Int32)) _ hr_10) (va_cwS 3 hts gX8_part_X8_in rfl rfl rfl hvX8_in.2 ⟨Nat.le_of_ble_eq_true rfl, Nat.le_of_ble_eq_true rfl⟩) (preS_of E0_ok hK hP hD (is := []) rfl rfl e_0) rfl rfl hl.1 rfl (lv_room (Nat.le_of_ble_eq_true rfl)) dX8_part_26 ⟨Nat.le_of_ble_eq_true rfl, Nat.le_of_ble_eq_true rfl⟩) hP hD hS hA [] [0, 1, 2, 3, 4, 5, 6, 7, 8, 9, 10, 11, 12, 13, 14, 15, 16, 17, 18, 19, 20, 21, 22, 23, 24, 25] [0, 1, 2, 3, 4, 5, 6, 7, 8, 9, 10, 11, 12, 13, 14, 15, 16, 17, 18, 19, 20, 21, 22, 23, 24, 25] rfl rfl rfl (by decide) rfl rfl (fun H locs hP hD hS => ?_)
      refine lv_if_eq (tgt := 41) hx hb dX8_part_29 (by decide) (fun hc_12 => ?_) (fun hc_12 => ?_)
      · have hM := it_p hc_12 hM
        refine lv_iconst (v := -1) hx hb dX8_part_41 (by decide) ?_
        have hR := som hM
        rw [hR] at hQ
        exact ret_i hQ hx hb hr hlocks hP hK hD hS dX8_part_42
      · have hM := it_n hc_12 hM
        refine lv_iload_n hx hb dX8_part_32 rfl (lv_at hl 1 rfl) ?_
        refine lv_iload_n hx hb dX8_part_33 rfl (lv_at hl 2 rfl) ?_
        refine lv_iload_n hx hb dX8_part_34 rfl (lv_at hl 3 rfl) ?_
        obtain ⟨x_13, hr_14, hM⟩ := bn_some hM
        refine gv_i (r0 := x_13) (wn := (wO ct aO mO mO64)) (va_runS (As := [.int v1, .int v2, .int v3]) (rest := []) ⟨hx, hb, hml, hown, hts⟩ (kX8_partOf l dC dI ct _ v1 v2 v3 _ hr_14) (va_cwS 3 hts gX8_part_X8_partOf rfl rfl rfl hvX8_partOf.2 ⟨Nat.le_of_ble_eq_true rfl, Nat.le_of_ble_eq_true rfl⟩) (preS_of E0_ok hK hP hD (is := []) rfl rfl e_0) rfl rfl hl.1 rfl (lv_room (Nat.le_of_ble_eq_true rfl)) dX8_part_35 ⟨Nat.le_of_ble_eq_true rfl, Nat.le_of_ble_eq_true rfl⟩) hP hD hS hA [] [0, 1, 2, 3, 4, 5, 6, 7, 8, 9, 10, 11, 12, 13, 14, 15, 16, 17, 18, 19, 20, 21, 22, 23, 24, 25] [0, 1, 2, 3, 4, 5, 6, 7, 8, 9, 10, 11, 12, 13, 14, 15, 16, 17, 18, 19, 20, 21, 22, 23, 24, 25] rfl rfl rfl (by decide) rfl rfl (fun H locs hP hD hS => ?_)
        refine lv_goto (tgt := 42) hx hb dX8_part_38 (by decide) ?_
        have hR := som hM
        rw [hR] at hQ
        exact ret_i hQ hx hb hr hlocks hP hK hD hS dX8_part_42
abbrev rmX8_shrunk : Room := { frames := 1, cells := 0, slots := 0, locals := 22 }
set_option maxHeartbeats 4000000 in
set_option maxRecDepth 100000 in
theorem kX8_shrunk (l : Launch) (dC : Nat → ClassId) (dI : Nat → Nat → Nat) (ct : Nat → ClassId) (aO : Nat → Nat) (sz : Nat) (mO : Mem) (mO64 : Lem) (v1 : Int32) (v2 : Int32) (v3 : Int32) (v4 : Int32) (res : Int32) (hM : mX8_shrunk mO mO64 v1 v2 v3 v4 = some res) : Met l yX8_shrunk wsX8_shrunk rmX8_shrunk (va_Pc [.ref (aO 0), .int v1, .int v2, .int v3, .int v4] (PB (dC, dI) ct E0 sz (wO ct aO mO mO64))) (Qi (dC, dI) ct (va_A (wO ct aO mO mO64) sz) res (wO ct aO mO mO64)) 0 0 (va_A (wO ct aO mO mO64) sz) := by
  refine Met.ofW (cc := cX8_shrunk) (maxL := 9) (ret := (some .int)) (by decide) rfl ?_
  intro p e s m args below meth c s₁ B hml hv
  obtain ⟨hargs, hsz, hP, hK, hD0, hE⟩ := hv
  have hx := B.exec
  have hb := B.bytes
  have hr := B.returns
  have hts := atoms_spec (ws := wsX8_shrunk) B.pre
  have hown : s.vm.findClass RX8 = some m.cls := findClass_of_methodNamed B.named
  have hlocks := B.notSynchronized
  clear B s₁
  subst hsz
  have hD := hD0.self (sz := s.heap.size)
  clear hD0
  generalize hAe : va_A (wO ct aO mO mO64) s.heap.size = A at hD hE ⊢
  have hA : ∀ q : Nat, s.heap.size ≤ q → A q := fun q h => by rw [← hAe]; exact Or.inr h
  clear hAe
  have hS : va_S A s.heap s.heap [] := va_S.rf
  refine cutQ (fun Q hQ => ?_)
  refine entryW (vs := [.ref (aO 0), .int v1, .int v2, .int v3, .int v4]) hargs (Nat.le_of_ble_eq_true rfl) (fun ls hl => ?_)
  replace hl : lv_has ls 9 [(0, .ref (aO 0)), (1, .int v1), (2, .int v2), (3, .int v3), (4, .int v4)] := hl
  unfold mX8_shrunk at hM
  have N80 : ∀ (v3 : Int32) (v4 : Int32) (v5 : Int32) (v6 : Int32) (v7 : Int32) (v8 : Int32), mX8_shrunk_L80 v3 v4 v5 v6 v7 v8 mO mO64 = some res → ∀ (H : Heap) (locs : List Loc), va_P (dC, dI) vwCl (wO ct aO mO mO64) H → va_D A (wO ct aO mO mO64) → va_S A s.heap H locs → ∀ ls : Array Slot, lv_has ls 9 [(3, .int v3), (4, .int v4), (5, .int v5), (6, .int v6), (7, .int v7), (8, .int v8)] → W p l e (headSpec wsX8_shrunk rmX8_shrunk).room s m args below meth c H locs 0 0 Q (F0 m 80 ls []) := by
    intro v3 v4 v5 v6 v7 v8 hM H locs hP hD hS ls hl
    unfold mX8_shrunk_L80 at hM
    obtain ⟨ex80, hit80, hM⟩ := bn_some hM
    have X80_0 : ∀ (v7 : Int32), ex80 = v7 → ∀ (H : Heap) (locs : List Loc), va_P (dC, dI) vwCl (wO ct aO mO mO64) H → va_D A (wO ct aO mO mO64) → va_S A s.heap H locs → ∀ ls : Array Slot, lv_has ls 9 [(7, .int v7)] → W p l e (headSpec wsX8_shrunk rmX8_shrunk).room s m args below meth c H locs 0 0 Q (F0 m 131 ls []) := by
      intro v7 hex H locs hP hD hS ls hl
      rw [hex] at hM
      have hM := nm_at (y := v7) rfl hM
      refine lv_iload hx hb dX8_shrunk_131 (lv_at hl 0 rfl) ?_
      have hR := som hM
      rw [hR] at hQ
      exact ret_i hQ hx hb hr hlocks hP hK hD hS dX8_shrunk_133
    have I80 : ∀ (n : Nat) (v6 : Int32) (v7 : Int32) (v8 : Int32), itr (fun q => mX8_shrunk_s80 v3 v4 v5 mO mO64 q.1 q.2.1 q.2.2) n (v6, v7, v8) = some ex80 → ∀ (H : Heap) (locs : List Loc), va_P (dC, dI) vwCl (wO ct aO mO mO64) H → va_D A (wO ct aO mO mO64) → va_S A s.heap H locs → ∀ ls : Array Slot, lv_has ls 9 [(3, .int v3), (4, .int v4), (5, .int v5), (6, .int v6), (7, .int v7), (8, .int v8)] → W p l e (headSpec wsX8_shrunk rmX8_shrunk).room s m args below meth c H locs 0 0 Q (F0 m 80 ls []) := by
      intro n
      induction n with
      | zero => intro v6 v7 v8 hit; exact (itr_zero hit).elim
      | succ n ih80 =>
        intro v6 v7 v8 hit H locs hP hD hS ls hl
        obtain ⟨o80, hM, hbk80, hex80⟩ := itr_succ hit
        replace hM : mX8_shrunk_s80 v3 v4 v5 mO mO64 v6 v7 v8 = some o80 := hM
        unfold mX8_shrunk_s80 at hM
        refine lv_iload hx hb dX8_shrunk_80 (lv_at hl 5 rfl) ?_
        refine lv_iload hx hb dX8_shrunk_82 (lv_at hl 1 rfl) ?_
        refine lv_icmp_ge (tgt := 131) hx hb dX8_shrunk_84 (by decide) (fun hc_1 => ?_) (fun hc_1 => ?_)
        · have hM := it_p hc_1 hM
          have hR := som hM
          exact X80_0 v7 (hex80 _ hR).symm _ _ hP hD hS _ (lv_sub hl [4] rfl)
        · have hM := it_n hc_1 hM
          refine lv_iload hx hb dX8_shrunk_87 (lv_at hl 4 rfl) ?_
          refine lv_iload hx hb dX8_shrunk_89 (lv_at hl 4 rfl) ?_
          refine lv_iload hx hb dX8_shrunk_91 (lv_at hl 2 rfl) ?_
          refine lv_iload hx hb dX8_shrunk_93 (lv_at hl 3 rfl) ?_
          obtain ⟨x_2, hr_3, hM⟩ := bn_some hM
          refine gv_i (r0 := x_2) (wn := (wO ct aO mO mO64)) (va_runS (As := [.int v7, .int v5, .int v6]) (rest := [.int v7]) ⟨hx, hb, hml, hown, hts⟩ (kX8_partOf l dC dI ct _ v7 v5 v6 _ hr_3) (va_cwS 3 hts gX8_shrunk_X8_partOf rfl rfl rfl hvX8_partOf.2 ⟨Nat.le_of_ble_eq_true rfl, Nat.le_of_ble_eq_true rfl⟩) (preS_of E0_ok hK hP hD (is := []) rfl rfl e_0) rfl rfl hl.1 rfl (lv_room (Nat.le_of_ble_eq_true rfl)) dX8_shrunk_95 ⟨Nat.le_of_ble_eq_true rfl, Nat.le_of_ble_eq_true rfl⟩) hP hD hS hA [] [0, 1, 2, 3, 4, 5, 6, 7, 8, 9, 10, 11, 12, 13, 14, 15, 16, 17, 18, 19, 20, 21, 22, 23, 24, 25] [0, 1, 2, 3, 4, 5, 6, 7, 8, 9, 10, 11, 12, 13, 14, 15, 16, 17, 18, 19, 20, 21, 22, 23, 24, 25] rfl rfl rfl (by decide) rfl rfl (fun H locs hP hD hS => ?_)
          refine lv_iload_n hx hb dX8_shrunk_98 rfl (lv_at hl 0 rfl) ?_
          refine lv_imul hx hb dX8_shrunk_99 ?_
          refine lv_bipush (v := 16) hx hb dX8_shrunk_100 (by decide) ?_
          refine lv_idiv hx hb dX8_shrunk_102 (by decide) ?_
          refine lv_isub hx hb dX8_shrunk_103 ?_
          refine lv_topi (fun x_5 ex_5 => ?_)
          have hM := nm_at ex_5 hM
          refine lv_istore (lv' := [(7, .int x_5), (3, .int v3), (4, .int v4), (5, .int v5), (6, .int v6), (8, .int v8)]) hx hb dX8_shrunk_104 hl (by decide) rfl (fun ls hl => ?_)
          obtain ⟨x_6, ex_6⟩ : ∃ y : Int32, y = (v6 + (1 : Int32)) := ⟨_, rfl⟩
          have hM := nm_at ex_6 hM
          refine lv_iinc (v := x_6) (lv' := [(6, .int x_6), (7, .int x_5), (3, .int v3), (4, .int v4), (5, .int v5), (8, .int v8)]) hx hb dX8_shrunk_106 hl (k := 4) rfl (by rw [ex_6]; rfl) (by decide) rfl (fun ls hl => ?_)
          refine lv_iload hx hb dX8_shrunk_109 (lv_at hl 0 rfl) ?_
          refine lv_iload hx hb dX8_shrunk_111 (lv_at hl 4 rfl) ?_
          refine lv_icmp_ge (tgt := 119) hx hb dX8_shrunk_113 (by decide) (fun hc_7 => ?_) (fun hc_7 => ?_)
          · have hM := it_p hc_7 hM
            refine lv_iconst (v := 0) hx hb dX8_shrunk_119 (by decide) ?_
            refine lv_istore (lv' := [(7, .int (0 : Int32)), (6, .int x_6), (3, .int v3), (4, .int v4), (5, .int v5), (8, .int v8)]) hx hb dX8_shrunk_120 hl (by decide) rfl (fun ls hl => ?_)
            refine lv_iconst (v := 0) hx hb dX8_shrunk_122 (by decide) ?_
            refine lv_istore (lv' := [(6, .int (0 : Int32)), (7, .int (0 : Int32)), (3, .int v3), (4, .int v4), (5, .int v5), (8, .int v8)]) hx hb dX8_shrunk_123 hl (by decide) rfl (fun ls hl => ?_)
            obtain ⟨x_8, ex_8⟩ : ∃ y : Int32, y = (v8 + (1 : Int32)) := ⟨_, rfl⟩
            have hM := nm_at ex_8 hM
            refine lv_iinc (v := x_8) (lv' := [(8, .int x_8), (6, .int (0 : Int32)), (7, .int (0 : Int32)), (3, .int v3), (4, .int v4), (5, .int v5)]) hx hb dX8_shrunk_125 hl (k := 5) rfl (by rw [ex_8]; rfl) (by decide) rfl (fun ls hl => ?_)
            refine lv_goto (tgt := 80) hx hb dX8_shrunk_128 (by decide) ?_
            have hR := som hM
            exact ih80 (0 : Int32) (0 : Int32) x_8 (hbk80 _ hR) _ _ hP hD hS _ (lv_sub hl [3, 4, 5, 1, 2, 0] rfl)
          · have hM := it_n hc_7 hM
            refine lv_goto (tgt := 125) hx hb dX8_shrunk_116 (by decide) ?_
            obtain ⟨x_9, ex_9⟩ : ∃ y : Int32, y = (v8 + (1 : Int32)) := ⟨_, rfl⟩
            have hM := nm_at ex_9 hM
            refine lv_iinc (v := x_9) (lv' := [(8, .int x_9), (6, .int x_6), (7, .int x_5), (3, .int v3), (4, .int v4), (5, .int v5)]) hx hb dX8_shrunk_125 hl (k := 5) rfl (by rw [ex_9]; rfl) (by decide) rfl (fun ls hl => ?_)
            refine lv_goto (tgt := 80) hx hb dX8_shrunk_128 (by decide) ?_
            have hR := som hM
            exact ih80 x_6 x_5 x_9 (hbk80 _ hR) _ _ hP hD hS _ (lv_sub hl [3, 4, 5, 1, 2, 0] rfl)
    exact I80 FU v6 v7 v8 hit80 _ _ hP hD hS _ hl
  refine lv_iload_n hx hb dX8_shrunk_0 rfl (lv_at hl 1 rfl) ?_
  refine lv_iconst (v := 0) hx hb dX8_shrunk_1 (by decide) ?_
  refine lv_ldcw (v := 99999) hx hb hown (hts _ (List.mem_of_getElem? (i := 1) rfl)) dX8_shrunk_2 ?_
  obtain ⟨x_10, hr_11, hM⟩ := bn_some hM
  refine gv_i (r0 := x_10) (wn := (wO ct aO mO mO64)) (va_runS (As := [.int v1, .int (0 : Int32), .int (99999 : Int32)]) (rest := []) ⟨hx, hb, hml, hown, hts⟩ (kX8_in l dC dI ct _ v1 (0 : Int32) (99999 : Int32) _ hr_11) (va_cwS 3 hts gX8_shrunk_X8_in rfl rfl rfl hvX8_in.2 ⟨Nat.le_of_ble_eq_true rfl, Nat.le_of_ble_eq_true rfl⟩) (preS_of E0_ok hK hP hD (is := []) rfl rfl e_0) rfl rfl hl.1 rfl (lv_room (Nat.le_of_ble_eq_true rfl)) dX8_shrunk_5 ⟨Nat.le_of_ble_eq_true rfl, Nat.le_of_ble_eq_true rfl⟩) hP hD hS hA [] [0, 1, 2, 3, 4, 5, 6, 7, 8, 9, 10, 11, 12, 13, 14, 15, 16, 17, 18, 19, 20, 21, 22, 23, 24, 25] [0, 1, 2, 3, 4, 5, 6, 7, 8, 9, 10, 11, 12, 13, 14, 15, 16, 17, 18, 19, 20, 21, 22, 23, 24, 25] rfl rfl rfl (by decide) rfl rfl (fun H locs hP hD hS => ?_)
  refine lv_if_eq (tgt := 60) hx hb dX8_shrunk_8 (by decide) (fun hc_13 => ?_) (fun hc_13 => ?_)
  · have hM := it_p hc_13 hM
    refine lv_iconst (v := -1) hx hb dX8_shrunk_60 (by decide) ?_
    have hR := som hM
    rw [hR] at hQ
    exact ret_i hQ hx hb hr hlocks hP hK hD hS dX8_shrunk_61
  · have hM := it_n hc_13 hM
    refine lv_iload_n hx hb dX8_shrunk_11 rfl (lv_at hl 2 rfl) ?_
    refine lv_if_lt (tgt := 60) hx hb dX8_shrunk_12 (by decide) (fun hc_14 => ?_) (fun hc_14 => ?_)
    · have hM := it_p hc_14 hM
      refine lv_iconst (v := -1) hx hb dX8_shrunk_60 (by decide) ?_
      have hR := som hM
      rw [hR] at hQ
      exact ret_i hQ hx hb hr hlocks hP hK hD hS dX8_shrunk_61
    · have hM := it_n hc_14 hM
      refine lv_iload_n hx hb dX8_shrunk_15 rfl (lv_at hl 2 rfl) ?_
      refine lv_bipush (v := 100) hx hb dX8_shrunk_16 (by decide) ?_
      refine lv_idiv hx hb dX8_shrunk_18 (by decide) ?_
      refine lv_iconst (v := 1) hx hb dX8_shrunk_19 (by decide) ?_
      refine lv_bipush (v := 20) hx hb dX8_shrunk_20 (by decide) ?_
      obtain ⟨x_15, hr_16, hM⟩ := bn_some hM
      refine gv_i (r0 := x_15) (wn := (wO ct aO mO mO64)) (va_runS (As := [.int (v2 / (100 : Int32)), .int (1 : Int32), .int (20 : Int32)]) (rest := []) ⟨hx, hb, hml, hown, hts⟩ (kX8_in l dC dI ct _ (v2 / (100 : Int32)) (1 : Int32) (20 : Int32) _ hr_16) (va_cwS 3 hts gX8_shrunk_X8_in rfl rfl rfl hvX8_in.2 ⟨Nat.le_of_ble_eq_true rfl, Nat.le_of_ble_eq_true rfl⟩) (preS_of E0_ok hK hP hD (is := []) rfl rfl e_0) rfl rfl hl.1 rfl (lv_room (Nat.le_of_ble_eq_true rfl)) dX8_shrunk_22 ⟨Nat.le_of_ble_eq_true rfl, Nat.le_of_ble_eq_true rfl⟩) hP hD hS hA [] [0, 1, 2, 3, 4, 5, 6, 7, 8, 9, 10, 11, 12, 13, 14, 15, 16, 17, 18, 19, 20, 21, 22, 23, 24, 25] [0, 1, 2, 3, 4, 5, 6, 7, 8, 9, 10, 11, 12, 13, 14, 15, 16, 17, 18, 19, 20, 21, 22, 23, 24, 25] rfl rfl rfl (by decide) rfl rfl (fun H locs hP hD hS => ?_)
      refine lv_if_eq (tgt := 60) hx hb dX8_shrunk_25 (by decide) (fun hc_18 => ?_) (fun hc_18 => ?_)
      · have hM := it_p hc_18 hM
        refine lv_iconst (v := -1) hx hb dX8_shrunk_60 (by decide) ?_
        have hR := som hM
        rw [hR] at hQ
        exact ret_i hQ hx hb hr hlocks hP hK hD hS dX8_shrunk_61
      · have hM := it_n hc_18 hM
        refine lv_iload_n hx hb dX8_shrunk_28 rfl (lv_at hl 2 rfl) ?_
        refine lv_bipush (v := 100) hx hb dX8_shrunk_29 (by decide) ?_
        refine lv_irem hx hb dX8_shrunk_31 (by decide) ?_
        refine lv_iload_n hx hb dX8_shrunk_32 rfl (lv_at hl 2 rfl) ?_
        refine lv_bipush (v := 100) hx hb dX8_shrunk_33 (by decide) ?_
        refine lv_idiv hx hb dX8_shrunk_35 (by decide) ?_
        refine lv_icmp_ge (tgt := 60) hx hb dX8_shrunk_36 (by decide) (fun hc_19 => ?_) (fun hc_19 => ?_)
        · have hM := it_p hc_19 hM
          refine lv_iconst (v := -1) hx hb dX8_shrunk_60 (by decide) ?_
          have hR := som hM
          rw [hR] at hQ
          exact ret_i hQ hx hb hr hlocks hP hK hD hS dX8_shrunk_61
        · have hM := it_n hc_19 hM
          refine lv_iload_n hx hb dX8_shrunk_39 rfl (lv_at hl 3 rfl) ?_
          refine lv_iconst (v := 0) hx hb dX8_shrunk_40 (by decide) ?_
          refine lv_bipush (v := 16) hx hb dX8_shrunk_41 (by decide) ?_
          obtain ⟨x_20, hr_21, hM⟩ := bn_some hM
          refine gv_i (r0 := x_20) (wn := (wO ct aO mO mO64)) (va_runS (As := [.int v3, .int (0 : Int32), .int (16 : Int32)]) (rest := []) ⟨hx, hb, hml, hown, hts⟩ (kX8_in l dC dI ct _ v3 (0 : Int32) (16 : Int32) _ hr_21) (va_cwS 3 hts gX8_shrunk_X8_in rfl rfl rfl hvX8_in.2 ⟨Nat.le_of_ble_eq_true rfl, Nat.le_of_ble_eq_true rfl⟩) (preS_of E0_ok hK hP hD (is := []) rfl rfl e_0) rfl rfl hl.1 rfl (lv_room (Nat.le_of_ble_eq_true rfl)) dX8_shrunk_43 ⟨Nat.le_of_ble_eq_true rfl, Nat.le_of_ble_eq_true rfl⟩) hP hD hS hA [] [0, 1, 2, 3, 4, 5, 6, 7, 8, 9, 10, 11, 12, 13, 14, 15, 16, 17, 18, 19, 20, 21, 22, 23, 24, 25] [0, 1, 2, 3, 4, 5, 6, 7, 8, 9, 10, 11, 12, 13, 14, 15, 16, 17, 18, 19, 20, 21, 22, 23, 24, 25] rfl rfl rfl (by decide) rfl rfl (fun H locs hP hD hS => ?_)
          refine lv_if_eq (tgt := 60) hx hb dX8_shrunk_46 (by decide) (fun hc_23 => ?_) (fun hc_23 => ?_)
          · have hM := it_p hc_23 hM
            refine lv_iconst (v := -1) hx hb dX8_shrunk_60 (by decide) ?_
            have hR := som hM
            rw [hR] at hQ
            exact ret_i hQ hx hb hr hlocks hP hK hD hS dX8_shrunk_61
          · have hM := it_n hc_23 hM
            refine lv_iload hx hb dX8_shrunk_49 (lv_at hl 4 rfl) ?_
            refine lv_iconst (v := 1) hx hb dX8_shrunk_51 (by decide) ?_
            refine lv_bipush (v := 40) hx hb dX8_shrunk_52 (by decide) ?_
            obtain ⟨x_24, hr_25, hM⟩ := bn_some hM
            refine gv_i (r0 := x_24) (wn := (wO ct aO mO mO64)) (va_runS (As := [.int v4, .int (1 : Int32), .int (40 : Int32)]) (rest := []) ⟨hx, hb, hml, hown, hts⟩ (kX8_in l dC dI ct _ v4 (1 : Int32) (40 : Int32) _ hr_25) (va_cwS 3 hts gX8_shrunk_X8_in rfl rfl rfl hvX8_in.2 ⟨Nat.le_of_ble_eq_true rfl, Nat.le_of_ble_eq_true rfl⟩) (preS_of E0_ok hK hP hD (is := []) rfl rfl e_0) rfl rfl hl.1 rfl (lv_room (Nat.le_of_ble_eq_true rfl)) dX8_shrunk_54 ⟨Nat.le_of_ble_eq_true rfl, Nat.le_of_ble_eq_true rfl⟩) hP hD hS hA [] [0, 1, 2, 3, 4, 5, 6, 7, 8, 9, 10, 11, 12, 13, 14, 15, 16, 17, 18, 19, 20, 21, 22, 23, 24, 25] [0, 1, 2, 3, 4, 5, 6, 7, 8, 9, 10, 11, 12, 13, 14, 15, 16, 17, 18, 19, 20, 21, 22, 23, 24, 25] rfl rfl rfl (by decide) rfl rfl (fun H locs hP hD hS => ?_)
            refine lv_if_ne (tgt := 62) hx hb dX8_shrunk_57 (by decide) (fun hc_27 => ?_) (fun hc_27 => ?_)
            · have hM := it_p hc_27 hM
              refine lv_iload_n hx hb dX8_shrunk_62 rfl (lv_at hl 2 rfl) ?_
              refine lv_bipush (v := 100) hx hb dX8_shrunk_63 (by decide) ?_
              refine lv_idiv hx hb dX8_shrunk_65 (by decide) ?_
              refine lv_topi (fun x_28 ex_28 => ?_)
              have hM := nm_at ex_28 hM
              refine lv_istore (lv' := [(5, .int x_28), (0, .ref (aO 0)), (1, .int v1), (2, .int v2), (3, .int v3), (4, .int v4)]) hx hb dX8_shrunk_66 hl (by decide) rfl (fun ls hl => ?_)
              refine lv_iload_n hx hb dX8_shrunk_68 rfl (lv_at hl 3 rfl) ?_
              refine lv_bipush (v := 100) hx hb dX8_shrunk_69 (by decide) ?_
              refine lv_irem hx hb dX8_shrunk_71 (by decide) ?_
              refine lv_topi (fun x_29 ex_29 => ?_)
              have hM := nm_at ex_29 hM
              refine lv_istore (lv' := [(6, .int x_29), (5, .int x_28), (0, .ref (aO 0)), (1, .int v1), (2, .int v2), (3, .int v3), (4, .int v4)]) hx hb dX8_shrunk_72 hl (by decide) rfl (fun ls hl => ?_)
              refine lv_iload_n hx hb dX8_shrunk_74 rfl (lv_at hl 3 rfl) ?_
              refine lv_istore (lv' := [(7, .int v1), (6, .int x_29), (5, .int x_28), (0, .ref (aO 0)), (1, .int v1), (2, .int v2), (3, .int v3), (4, .int v4)]) hx hb dX8_shrunk_75 hl (by decide) rfl (fun ls hl => ?_)
              refine lv_iconst (v := 0) hx hb dX8_shrunk_77 (by decide) ?_
              refine lv_istore (lv' := [(8, .int (0 : Int32)), (7, .int v1), (6, .int x_29), (5, .int x_28), (0, .ref (aO 0)), (1, .int v1), (2, .int v2), (3, .int v3), (4, .int v4)]) hx hb dX8_shrunk_78 hl (by decide) rfl (fun ls hl => ?_)
              exact N80 v3 v4 x_28 x_29 v1 (0 : Int32) hM _ _ hP hD hS _ (lv_sub hl [7, 8, 3, 2, 1, 0] rfl)
            · have hM := it_nn hc_27 hM
              refine lv_iconst (v := -1) hx hb dX8_shrunk_60 (by decide) ?_
              have hR := som hM
              rw [hR] at hQ
              exact ret_i hQ hx hb hr hlocks hP hK hD hS dX8_shrunk_61
abbrev rmX8_cloudy : Room := { frames := 1, cells := 0, slots := 0, locals := 22 }
theorem iwX8_cloudy_X8 : ∀ w ∈ wsX80, w ∈ wsX8_cloudy := fun _ h => List.mem_cons_of_mem _ (List.mem_append_right _ (h))
set_option maxHeartbeats 4000000 in
set_option maxRecDepth 100000 in
theorem kX8_cloudy (l : Launch) (dC : Nat → ClassId) (dI : Nat → Nat → Nat) (ct : Nat → ClassId) (aO : Nat → Nat) (sz : Nat) (mO : Mem) (mO64 : Lem) (v1 : Int32) (v2 : Int32) (res : Int32) (hM : mX8_cloudy mO mO64 v1 v2 = some res) : Met l yX8_cloudy wsX8_cloudy rmX8_cloudy (va_Pc [.ref (aO 0), .int v1, .int v2] (PB (dC, dI) ct E0 sz (wO ct aO mO mO64))) (Qi (dC, dI) ct (va_A (wO ct aO mO mO64) sz) res (wO ct aO mO mO64)) 0 0 (va_A (wO ct aO mO mO64) sz) := by
  refine Met.ofW (cc := cX8_cloudy) (maxL := 11) (ret := (some .int)) (by decide) rfl ?_
  intro p e s m args below meth c s₁ B hml hv
  obtain ⟨hargs, hsz, hP, hK, hD0, hE⟩ := hv
  have hx := B.exec
  have hb := B.bytes
  have hr := B.returns
  have hts := atoms_spec (ws := wsX8_cloudy) B.pre
  have hown : s.vm.findClass RX8 = some m.cls := findClass_of_methodNamed B.named
  have hlocks := B.notSynchronized
  clear B s₁
  subst hsz
  have hD := hD0.self (sz := s.heap.size)
  clear hD0
  generalize hAe : va_A (wO ct aO mO mO64) s.heap.size = A at hD hE ⊢
  have hA : ∀ q : Nat, s.heap.size ≤ q → A q := fun q h => by rw [← hAe]; exact Or.inr h
  clear hAe
  have hS : va_S A s.heap s.heap [] := va_S.rf
  refine cutQ (fun Q hQ => ?_)
  refine entryW (vs := [.ref (aO 0), .int v1, .int v2]) hargs (Nat.le_of_ble_eq_true rfl) (fun ls hl => ?_)
  replace hl : lv_has ls 11 [(0, .ref (aO 0)), (1, .int v1), (2, .int v2)] := hl
  unfold mX8_cloudy at hM
  have N57 : ∀ (v1 : Int32) (v3 : Int64) (v5 : Int64) (v7 : Int32), mX8_cloudy_L57 v1 v3 v5 v7 mO mO64 = some res → ∀ (H : Heap) (locs : List Loc), va_P (dC, dI) vwCl (wO ct aO mO mO64) H → va_D A (wO ct aO mO mO64) → va_S A s.heap H locs → ∀ ls : Array Slot, lv_has ls 11 [(0, .ref (aO 0)), (1, .int v1), (3, .long v3), (5, .long v5), (7, .int v7)] → W p l e (headSpec wsX8_cloudy rmX8_cloudy).room s m args below meth c H locs 0 0 Q (F0 m 57 ls []) := by
    intro v1 v3 v5 v7 hM H locs hP hD hS ls hl
    unfold mX8_cloudy_L57 at hM
    obtain ⟨ex57, hit57, hM⟩ := bn_some hM
    have X57_0 : ∀ (v5 : Int64), ex57 = v5 → ∀ (H : Heap) (locs : List Loc), va_P (dC, dI) vwCl (wO ct aO mO mO64) H → va_D A (wO ct aO mO mO64) → va_S A s.heap H locs → ∀ ls : Array Slot, lv_has ls 11 [(3, .long v3), (5, .long v5)] → W p l e (headSpec wsX8_cloudy rmX8_cloudy).room s m args below meth c H locs 0 0 Q (F0 m 155 ls []) := by
      intro v5 hex H locs hP hD hS ls hl
      rw [hex] at hM
      have hM := nm_at (y := v5) rfl hM
      refine lv_ldc2 (v := 1000) hx hb hown (hts _ (List.mem_of_getElem? (i := 4) rfl)) dX8_cloudy_155 ?_
      refine lv_lload hx hb dX8_cloudy_158 (lv_at hl 1 rfl) ?_
      refine lv_lmul hx hb dX8_cloudy_160 ?_
      refine lv_lload_n hx hb dX8_cloudy_161 rfl (lv_at hl 0 rfl) ?_
      obtain ⟨hz, hM⟩ := gzl_some hM
      refine lv_ldiv hx hb dX8_cloudy_162 hz ?_
      refine lv_l2i hx hb dX8_cloudy_163 rfl ?_
      refine lv_topi (fun x_1 ex_1 => ?_)
      have hM := nm_at ex_1 hM
      have hR := som hM
      rw [hR] at hQ
      exact ret_i hQ hx hb hr hlocks hP hK hD hS dX8_cloudy_164
    have I57 : ∀ (n : Nat) (v5 : Int64) (v7 : Int32), itr (fun q => mX8_cloudy_s57 v1 v3 mO mO64 q.1 q.2) n (v5, v7) = some ex57 → ∀ (H : Heap) (locs : List Loc), va_P (dC, dI) vwCl (wO ct aO mO mO64) H → va_D A (wO ct aO mO mO64) → va_S A s.heap H locs → ∀ ls : Array Slot, lv_has ls 11 [(0, .ref (aO 0)), (1, .int v1), (3, .long v3), (5, .long v5), (7, .int v7)] → W p l e (headSpec wsX8_cloudy rmX8_cloudy).room s m args below meth c H locs 0 0 Q (F0 m 57 ls []) := by
      intro n
      induction n with
      | zero => intro v5 v7 hit; exact (itr_zero hit).elim
      | succ n ih57 =>
        intro v5 v7 hit H locs hP hD hS ls hl
        obtain ⟨o57, hM, hbk57, hex57⟩ := itr_succ hit
        replace hM : mX8_cloudy_s57 v1 v3 mO mO64 v5 v7 = some o57 := hM
        have N102 : ∀ (v5 : Int64) (v7 : Int32) (v8 : Int64) (v10 : Int32), mX8_cloudy_L102 v1 v3 v5 v7 v8 v10 mO mO64 = some o57 → ∀ (H : Heap) (locs : List Loc), va_P (dC, dI) vwCl (wO ct aO mO mO64) H → va_D A (wO ct aO mO mO64) → va_S A s.heap H locs → ∀ ls : Array Slot, lv_has ls 11 [(0, .ref (aO 0)), (1, .int v1), (3, .long v3), (5, .long v5), (7, .int v7), (8, .long v8), (10, .int v10)] → W p l e (headSpec wsX8_cloudy rmX8_cloudy).room s m args below meth c H locs 0 0 Q (F0 m 102 ls []) := by
          intro v5 v7 v8 v10 hM H locs hP hD hS ls hl
          unfold mX8_cloudy_L102 at hM
          obtain ⟨ex102, hit102, hM⟩ := bn_some hM
          have X102_0 : ∀ (v8 : Int64), ex102 = v8 → ∀ (H : Heap) (locs : List Loc), va_P (dC, dI) vwCl (wO ct aO mO mO64) H → va_D A (wO ct aO mO mO64) → va_S A s.heap H locs → ∀ ls : Array Slot, lv_has ls 11 [(0, .ref (aO 0)), (1, .int v1), (3, .long v3), (5, .long v5), (7, .int v7), (8, .long v8)] → W p l e (headSpec wsX8_cloudy rmX8_cloudy).room s m args below meth c H locs 0 0 Q (F0 m 142 ls []) := by
            intro v8 hex H locs hP hD hS ls hl
            rw [hex] at hM
            have hM := nm_at (y := v8) rfl hM
            refine lv_lload hx hb dX8_cloudy_142 (lv_at hl 3 rfl) ?_
            refine lv_lload hx hb dX8_cloudy_144 (lv_at hl 5 rfl) ?_
            refine lv_ladd hx hb dX8_cloudy_146 ?_
            refine lv_topl (fun x_2 ex_2 => ?_)
            have hM := nm_at ex_2 hM
            refine lv_lstore (lv' := [(5, .long x_2), (0, .ref (aO 0)), (1, .int v1), (3, .long v3), (7, .int v7), (8, .long v8)]) hx hb dX8_cloudy_147 hl (by decide) rfl (fun ls hl => ?_)
            obtain ⟨x_3, ex_3⟩ : ∃ y : Int32, y = (v7 + (1 : Int32)) := ⟨_, rfl⟩
            have hM := nm_at ex_3 hM
            refine lv_iinc (v := x_3) (lv' := [(7, .int x_3), (5, .long x_2), (0, .ref (aO 0)), (1, .int v1), (3, .long v3), (8, .long v8)]) hx hb dX8_cloudy_149 hl (k := 4) rfl (by rw [ex_3]; rfl) (by decide) rfl (fun ls hl => ?_)
            refine lv_goto (tgt := 57) hx hb dX8_cloudy_152 (by decide) ?_
            have hR := som hM
            exact ih57 x_2 x_3 (hbk57 _ hR) _ _ hP hD hS _ (lv_sub hl [2, 3, 4, 1, 0] rfl)
          have I102 : ∀ (n : Nat) (v8 : Int64) (v10 : Int32), itr (fun q => mX8_cloudy_s102 v1 v3 v5 v7 mO mO64 q.1 q.2) n (v8, v10) = some ex102 → ∀ (H : Heap) (locs : List Loc), va_P (dC, dI) vwCl (wO ct aO mO mO64) H → va_D A (wO ct aO mO mO64) → va_S A s.heap H locs → ∀ ls : Array Slot, lv_has ls 11 [(0, .ref (aO 0)), (1, .int v1), (3, .long v3), (5, .long v5), (7, .int v7), (8, .long v8), (10, .int v10)] → W p l e (headSpec wsX8_cloudy rmX8_cloudy).room s m args below meth c H locs 0 0 Q (F0 m 102 ls []) := by
            intro n
            induction n with
            | zero => intro v8 v10 hit; exact (itr_zero hit).elim
            | succ n ih102 =>
              intro v8 v10 hit H locs hP hD hS ls hl
              obtain ⟨o102, hM, hbk102, hex102⟩ := itr_succ hit
              replace hM : mX8_cloudy_s102 v1 v3 v5 v7 mO mO64 v8 v10 = some o102 := hM
              unfold mX8_cloudy_s102 at hM
              refine lv_iload hx hb dX8_cloudy_102 (lv_at hl 6 rfl) ?_
              refine lv_iload_n hx hb dX8_cloudy_104 rfl (lv_at hl 1 rfl) ?_
              refine lv_icmp_ge (tgt := 142) hx hb dX8_cloudy_105 (by decide) (fun hc_4 => ?_) (fun hc_4 => ?_)
              · have hM := it_p hc_4 hM
                have hR := som hM
                exact X102_0 v8 (hex102 _ hR).symm _ _ hP hD hS _ (lv_sub hl [0, 1, 2, 3, 4, 5] rfl)
              · have hM := it_n hc_4 hM
                refine lv_lload hx hb dX8_cloudy_108 (lv_at hl 5 rfl) ?_
                refine lv_iload hx hb dX8_cloudy_110 (lv_at hl 6 rfl) ?_
                refine lv_iload hx hb dX8_cloudy_112 (lv_at hl 4 rfl) ?_
                refine lv_icmp_ge (tgt := 125) hx hb dX8_cloudy_114 (by decide) (fun hc_5 => ?_) (fun hc_5 => ?_)
                · have hM := it_p hc_5 hM
                  refine lv_bipush (v := 16) hx hb dX8_cloudy_125 (by decide) ?_
                  refine lv_aload_n hx hb dX8_cloudy_127 rfl (lv_at hl 0 rfl) ?_
                  refine va_get (D := (dC, dI)) (ci := 8) (v := .int (mO 0 14)) (C := RX8) (T := TX8) (N := 45) hx hb hts iwX8_cloudy_X8 hown hK hP 0 rfl rfl 14 (by decide) (hts _ (List.mem_of_getElem? (i := 3) rfl)) (fun _ h9 => h9) rfl dX8_cloudy_128 ?_
                  refine lv_isub hx hb dX8_cloudy_131 ?_
                  refine lv_i2l hx hb dX8_cloudy_132 rfl ?_
                  refine lv_lmul hx hb dX8_cloudy_133 ?_
                  refine lv_topl (fun x_6 ex_6 => ?_)
                  have hM := nm_at ex_6 hM
                  refine lv_lstore (lv' := [(8, .long x_6), (0, .ref (aO 0)), (1, .int v1), (3, .long v3), (5, .long v5), (7, .int v7), (10, .int v10)]) hx hb dX8_cloudy_134 hl (by decide) rfl (fun ls hl => ?_)
                  obtain ⟨x_7, ex_7⟩ : ∃ y : Int32, y = (v10 + (1 : Int32)) := ⟨_, rfl⟩
                  have hM := nm_at ex_7 hM
                  refine lv_iinc (v := x_7) (lv' := [(10, .int x_7), (8, .long x_6), (0, .ref (aO 0)), (1, .int v1), (3, .long v3), (5, .long v5), (7, .int v7)]) hx hb dX8_cloudy_136 hl (k := 6) rfl (by rw [ex_7]; rfl) (by decide) rfl (fun ls hl => ?_)
                  refine lv_goto (tgt := 102) hx hb dX8_cloudy_139 (by decide) ?_
                  have hR := som hM
                  exact ih102 x_6 x_7 (hbk102 _ hR) _ _ hP hD hS _ (lv_sub hl [2, 3, 4, 5, 6, 1, 0] rfl)
                · have hM := it_n hc_5 hM
                  refine lv_aload_n hx hb dX8_cloudy_117 rfl (lv_at hl 0 rfl) ?_
                  refine va_get (D := (dC, dI)) (ci := 8) (v := .int (mO 0 14)) (C := RX8) (T := TX8) (N := 45) hx hb hts iwX8_cloudy_X8 hown hK hP 0 rfl rfl 14 (by decide) (hts _ (List.mem_of_getElem? (i := 3) rfl)) (fun _ h9 => h9) rfl dX8_cloudy_118 ?_
                  refine lv_i2l hx hb dX8_cloudy_121 rfl ?_
                  refine lv_goto (tgt := 133) hx hb dX8_cloudy_122 (by decide) ?_
                  refine lv_lmul hx hb dX8_cloudy_133 ?_
                  refine lv_topl (fun x_8 ex_8 => ?_)
                  have hM := nm_at ex_8 hM
                  refine lv_lstore (lv' := [(8, .long x_8), (0, .ref (aO 0)), (1, .int v1), (3, .long v3), (5, .long v5), (7, .int v7), (10, .int v10)]) hx hb dX8_cloudy_134 hl (by decide) rfl (fun ls hl => ?_)
                  obtain ⟨x_9, ex_9⟩ : ∃ y : Int32, y = (v10 + (1 : Int32)) := ⟨_, rfl⟩
                  have hM := nm_at ex_9 hM
                  refine lv_iinc (v := x_9) (lv' := [(10, .int x_9), (8, .long x_8), (0, .ref (aO 0)), (1, .int v1), (3, .long v3), (5, .long v5), (7, .int v7)]) hx hb dX8_cloudy_136 hl (k := 6) rfl (by rw [ex_9]; rfl) (by decide) rfl (fun ls hl => ?_)
                  refine lv_goto (tgt := 102) hx hb dX8_cloudy_139 (by decide) ?_
                  have hR := som hM
                  exact ih102 x_8 x_9 (hbk102 _ hR) _ _ hP hD hS _ (lv_sub hl [2, 3, 4, 5, 6, 1, 0] rfl)
          exact I102 FU v8 v10 hit102 _ _ hP hD hS _ hl
        have N69 : ∀ (v5 : Int64) (v7 : Int32) (v8 : Int64) (v10 : Int32), mX8_cloudy_L69 v1 v3 v5 v7 v8 v10 mO mO64 = some o57 → ∀ (H : Heap) (locs : List Loc), va_P (dC, dI) vwCl (wO ct aO mO mO64) H → va_D A (wO ct aO mO mO64) → va_S A s.heap H locs → ∀ ls : Array Slot, lv_has ls 11 [(0, .ref (aO 0)), (1, .int v1), (3, .long v3), (5, .long v5), (7, .int v7), (8, .long v8), (10, .int v10)] → W p l e (headSpec wsX8_cloudy rmX8_cloudy).room s m args below meth c H locs 0 0 Q (F0 m 69 ls []) := by
          intro v5 v7 v8 v10 hM H locs hP hD hS ls hl
          unfold mX8_cloudy_L69 at hM
          obtain ⟨ex69, hit69, hM⟩ := bn_some hM
          have X69_0 : ∀ (v8 : Int64), ex69 = v8 → ∀ (H : Heap) (locs : List Loc), va_P (dC, dI) vwCl (wO ct aO mO mO64) H → va_D A (wO ct aO mO mO64) → va_S A s.heap H locs → ∀ ls : Array Slot, lv_has ls 11 [(0, .ref (aO 0)), (1, .int v1), (3, .long v3), (5, .long v5), (7, .int v7), (8, .long v8)] → W p l e (headSpec wsX8_cloudy rmX8_cloudy).room s m args below meth c H locs 0 0 Q (F0 m 99 ls []) := by
            intro v8 hex H locs hP hD hS ls hl
            rw [hex] at hM
            have hM := nm_at (y := v8) rfl hM
            refine lv_iconst (v := 0) hx hb dX8_cloudy_99 (by decide) ?_
            refine lv_istore (lv' := [(10, .int (0 : Int32)), (0, .ref (aO 0)), (1, .int v1), (3, .long v3), (5, .long v5), (7, .int v7), (8, .long v8)]) hx hb dX8_cloudy_100 hl (by decide) rfl (fun ls hl => ?_)
            exact N102 v5 v7 v8 (0 : Int32) hM _ _ hP hD hS _ (lv_sub hl [1, 2, 3, 4, 5, 6, 0] rfl)
          have I69 : ∀ (n : Nat) (v8 : Int64) (v10 : Int32), itr (fun q => mX8_cloudy_s69 v1 v3 v5 v7 mO mO64 q.1 q.2) n (v8, v10) = some ex69 → ∀ (H : Heap) (locs : List Loc), va_P (dC, dI) vwCl (wO ct aO mO mO64) H → va_D A (wO ct aO mO mO64) → va_S A s.heap H locs → ∀ ls : Array Slot, lv_has ls 11 [(0, .ref (aO 0)), (1, .int v1), (3, .long v3), (5, .long v5), (7, .int v7), (8, .long v8), (10, .int v10)] → W p l e (headSpec wsX8_cloudy rmX8_cloudy).room s m args below meth c H locs 0 0 Q (F0 m 69 ls []) := by
            intro n
            induction n with
            | zero => intro v8 v10 hit; exact (itr_zero hit).elim
            | succ n ih69 =>
              intro v8 v10 hit H locs hP hD hS ls hl
              obtain ⟨o69, hM, hbk69, hex69⟩ := itr_succ hit
              replace hM : mX8_cloudy_s69 v1 v3 v5 v7 mO mO64 v8 v10 = some o69 := hM
              unfold mX8_cloudy_s69 at hM
              refine lv_iload hx hb dX8_cloudy_69 (lv_at hl 6 rfl) ?_
              refine lv_iload hx hb dX8_cloudy_71 (lv_at hl 4 rfl) ?_
              refine lv_icmp_gt (tgt := 99) hx hb dX8_cloudy_73 (by decide) (fun hc_10 => ?_) (fun hc_10 => ?_)
              · have hM := it_p hc_10 hM
                have hR := som hM
                exact X69_0 v8 (hex69 _ hR).symm _ _ hP hD hS _ (lv_sub hl [0, 1, 2, 3, 4, 5] rfl)
              · have hM := it_n hc_10 hM
                refine lv_lload hx hb dX8_cloudy_76 (lv_at hl 5 rfl) ?_
                refine lv_iload_n hx hb dX8_cloudy_78 rfl (lv_at hl 1 rfl) ?_
                refine lv_iload hx hb dX8_cloudy_79 (lv_at hl 4 rfl) ?_
                refine lv_isub hx hb dX8_cloudy_81 ?_
                refine lv_iload hx hb dX8_cloudy_82 (lv_at hl 6 rfl) ?_
                refine lv_iadd hx hb dX8_cloudy_84 ?_
                refine lv_i2l hx hb dX8_cloudy_85 rfl ?_
                refine lv_lmul hx hb dX8_cloudy_86 ?_
                refine lv_iload hx hb dX8_cloudy_87 (lv_at hl 6 rfl) ?_
                refine lv_i2l hx hb dX8_cloudy_89 rfl ?_
                obtain ⟨hz, hM⟩ := gzl_some hM
                refine lv_ldiv hx hb dX8_cloudy_90 hz ?_
                refine lv_topl (fun x_11 ex_11 => ?_)
                have hM := nm_at ex_11 hM
                refine lv_lstore (lv' := [(8, .long x_11), (0, .ref (aO 0)), (1, .int v1), (3, .long v3), (5, .long v5), (7, .int v7), (10, .int v10)]) hx hb dX8_cloudy_91 hl (by decide) rfl (fun ls hl => ?_)
                obtain ⟨x_12, ex_12⟩ : ∃ y : Int32, y = (v10 + (1 : Int32)) := ⟨_, rfl⟩
                have hM := nm_at ex_12 hM
                refine lv_iinc (v := x_12) (lv' := [(10, .int x_12), (8, .long x_11), (0, .ref (aO 0)), (1, .int v1), (3, .long v3), (5, .long v5), (7, .int v7)]) hx hb dX8_cloudy_93 hl (k := 6) rfl (by rw [ex_12]; rfl) (by decide) rfl (fun ls hl => ?_)
                refine lv_goto (tgt := 69) hx hb dX8_cloudy_96 (by decide) ?_
                have hR := som hM
                exact ih69 x_11 x_12 (hbk69 _ hR) _ _ hP hD hS _ (lv_sub hl [2, 3, 4, 5, 6, 1, 0] rfl)
          exact I69 FU v8 v10 hit69 _ _ hP hD hS _ hl
        unfold mX8_cloudy_s57 at hM
        refine lv_iload hx hb dX8_cloudy_57 (lv_at hl 4 rfl) ?_
        refine lv_iload_n hx hb dX8_cloudy_59 rfl (lv_at hl 1 rfl) ?_
        refine lv_icmp_gt (tgt := 155) hx hb dX8_cloudy_60 (by decide) (fun hc_13 => ?_) (fun hc_13 => ?_)
        · have hM := it_p hc_13 hM
          have hR := som hM
          exact X57_0 v5 (hex57 _ hR).symm _ _ hP hD hS _ (lv_sub hl [2, 3] rfl)
        · have hM := it_n hc_13 hM
          refine lv_lconst (v := 1) hx hb dX8_cloudy_63 (by decide) ?_
          refine lv_lstore (lv' := [(8, .long (1 : Int64)), (0, .ref (aO 0)), (1, .int v1), (3, .long v3), (5, .long v5), (7, .int v7)]) hx hb dX8_cloudy_64 hl (by decide) rfl (fun ls hl => ?_)
          refine lv_iconst (v := 1) hx hb dX8_cloudy_66 (by decide) ?_
          refine lv_istore (lv' := [(10, .int (1 : Int32)), (8, .long (1 : Int64)), (0, .ref (aO 0)), (1, .int v1), (3, .long v3), (5, .long v5), (7, .int v7)]) hx hb dX8_cloudy_67 hl (by decide) rfl (fun ls hl => ?_)
          exact N69 v5 v7 (1 : Int64) (1 : Int32) hM _ _ hP hD hS _ (lv_sub hl [2, 3, 4, 5, 6, 1, 0] rfl)
    exact I57 FU v5 v7 hit57 _ _ hP hD hS _ hl
  have N36 : ∀ (v1 : Int32) (v2 : Int32) (v3 : Int64) (v5 : Int64) (v7 : Int32), mX8_cloudy_L36 v1 v2 v3 v5 v7 mO mO64 = some res → ∀ (H : Heap) (locs : List Loc), va_P (dC, dI) vwCl (wO ct aO mO mO64) H → va_D A (wO ct aO mO mO64) → va_S A s.heap H locs → ∀ ls : Array Slot, lv_has ls 11 [(0, .ref (aO 0)), (1, .int v1), (2, .int v2), (3, .long v3), (5, .long v5), (7, .int v7)] → W p l e (headSpec wsX8_cloudy rmX8_cloudy).room s m args below meth c H locs 0 0 Q (F0 m 36 ls []) := by
    intro v1 v2 v3 v5 v7 hM H locs hP hD hS ls hl
    unfold mX8_cloudy_L36 at hM
    obtain ⟨ex36, hit36, hM⟩ := bn_some hM
    have X36_0 : ∀ (v3 : Int64), ex36 = v3 → ∀ (H : Heap) (locs : List Loc), va_P (dC, dI) vwCl (wO ct aO mO mO64) H → va_D A (wO ct aO mO mO64) → va_S A s.heap H locs → ∀ ls : Array Slot, lv_has ls 11 [(0, .ref (aO 0)), (1, .int v1), (2, .int v2), (3, .long v3), (5, .long v5)] → W p l e (headSpec wsX8_cloudy rmX8_cloudy).room s m args below meth c H locs 0 0 Q (F0 m 54 ls []) := by
      intro v3 hex H locs hP hD hS ls hl
      rw [hex] at hM
      have hM := nm_at (y := v3) rfl hM
      refine lv_iload_n hx hb dX8_cloudy_54 rfl (lv_at hl 2 rfl) ?_
      refine lv_istore (lv' := [(7, .int v2), (0, .ref (aO 0)), (1, .int v1), (2, .int v2), (3, .long v3), (5, .long v5)]) hx hb dX8_cloudy_55 hl (by decide) rfl (fun ls hl => ?_)
      exact N57 v1 v3 v5 v2 hM _ _ hP hD hS _ (lv_sub hl [1, 2, 4, 5, 0] rfl)
    have I36 : ∀ (n : Nat) (v3 : Int64) (v7 : Int32), itr (fun q => mX8_cloudy_s36 v1 v2 v5 mO mO64 q.1 q.2) n (v3, v7) = some ex36 → ∀ (H : Heap) (locs : List Loc), va_P (dC, dI) vwCl (wO ct aO mO mO64) H → va_D A (wO ct aO mO mO64) → va_S A s.heap H locs → ∀ ls : Array Slot, lv_has ls 11 [(0, .ref (aO 0)), (1, .int v1), (2, .int v2), (3, .long v3), (5, .long v5), (7, .int v7)] → W p l e (headSpec wsX8_cloudy rmX8_cloudy).room s m args below meth c H locs 0 0 Q (F0 m 36 ls []) := by
      intro n
      induction n with
      | zero => intro v3 v7 hit; exact (itr_zero hit).elim
      | succ n ih36 =>
        intro v3 v7 hit H locs hP hD hS ls hl
        obtain ⟨o36, hM, hbk36, hex36⟩ := itr_succ hit
        replace hM : mX8_cloudy_s36 v1 v2 v5 mO mO64 v3 v7 = some o36 := hM
        unfold mX8_cloudy_s36 at hM
        refine lv_iload hx hb dX8_cloudy_36 (lv_at hl 5 rfl) ?_
        refine lv_iload_n hx hb dX8_cloudy_38 rfl (lv_at hl 1 rfl) ?_
        refine lv_icmp_ge (tgt := 54) hx hb dX8_cloudy_39 (by decide) (fun hc_14 => ?_) (fun hc_14 => ?_)
        · have hM := it_p hc_14 hM
          have hR := som hM
          exact X36_0 v3 (hex36 _ hR).symm _ _ hP hD hS _ (lv_sub hl [0, 1, 2, 3, 4] rfl)
        · have hM := it_n hc_14 hM
          refine lv_lload_n hx hb dX8_cloudy_42 rfl (lv_at hl 3 rfl) ?_
          refine lv_ldc2 (v := 16) hx hb hown (hts _ (List.mem_of_getElem? (i := 2) rfl)) dX8_cloudy_43 ?_
          refine lv_lmul hx hb dX8_cloudy_46 ?_
          refine lv_topl (fun x_15 ex_15 => ?_)
          have hM := nm_at ex_15 hM
          refine lv_lstore_n (lv' := [(3, .long x_15), (0, .ref (aO 0)), (1, .int v1), (2, .int v2), (5, .long v5), (7, .int v7)]) hx hb dX8_cloudy_47 rfl hl (by decide) rfl (fun ls hl => ?_)
          obtain ⟨x_16, ex_16⟩ : ∃ y : Int32, y = (v7 + (1 : Int32)) := ⟨_, rfl⟩
          have hM := nm_at ex_16 hM
          refine lv_iinc (v := x_16) (lv' := [(7, .int x_16), (3, .long x_15), (0, .ref (aO 0)), (1, .int v1), (2, .int v2), (5, .long v5)]) hx hb dX8_cloudy_48 hl (k := 5) rfl (by rw [ex_16]; rfl) (by decide) rfl (fun ls hl => ?_)
          refine lv_goto (tgt := 36) hx hb dX8_cloudy_51 (by decide) ?_
          have hR := som hM
          exact ih36 x_15 x_16 (hbk36 _ hR) _ _ hP hD hS _ (lv_sub hl [2, 3, 4, 1, 5, 0] rfl)
    exact I36 FU v3 v7 hit36 _ _ hP hD hS _ hl
  refine lv_aload_n hx hb dX8_cloudy_0 rfl (lv_at hl 0 rfl) ?_
  refine va_get (D := (dC, dI)) (ci := 8) (v := .int (mO 0 18)) (C := RX8) (T := TX8) (N := 45) hx hb hts iwX8_cloudy_X8 hown hK hP 0 rfl rfl 18 (by decide) (hts _ (List.mem_of_getElem? (i := 1) rfl)) (fun _ h9 => h9) rfl dX8_cloudy_1 ?_
  refine lv_if_eq (tgt := 26) hx hb dX8_cloudy_4 (by decide) (fun hc_17 => ?_) (fun hc_17 => ?_)
  · have hM := it_p hc_17 hM
    refine lv_iconst (v := -1) hx hb dX8_cloudy_26 (by decide) ?_
    have hR := som hM
    rw [hR] at hQ
    exact ret_i hQ hx hb hr hlocks hP hK hD hS dX8_cloudy_27
  · have hM := it_n hc_17 hM
    refine lv_iload_n hx hb dX8_cloudy_7 rfl (lv_at hl 1 rfl) ?_
    refine lv_iconst (v := 1) hx hb dX8_cloudy_8 (by decide) ?_
    refine lv_bipush (v := 12) hx hb dX8_cloudy_9 (by decide) ?_
    obtain ⟨x_18, hr_19, hM⟩ := bn_some hM
    refine gv_i (r0 := x_18) (wn := (wO ct aO mO mO64)) (va_runS (As := [.int v1, .int (1 : Int32), .int (12 : Int32)]) (rest := []) ⟨hx, hb, hml, hown, hts⟩ (kX8_in l dC dI ct _ v1 (1 : Int32) (12 : Int32) _ hr_19) (va_cwS 3 hts gX8_cloudy_X8_in rfl rfl rfl hvX8_in.2 ⟨Nat.le_of_ble_eq_true rfl, Nat.le_of_ble_eq_true rfl⟩) (preS_of E0_ok hK hP hD (is := []) rfl rfl e_0) rfl rfl hl.1 rfl (lv_room (Nat.le_of_ble_eq_true rfl)) dX8_cloudy_11 ⟨Nat.le_of_ble_eq_true rfl, Nat.le_of_ble_eq_true rfl⟩) hP hD hS hA [] [0, 1, 2, 3, 4, 5, 6, 7, 8, 9, 10, 11, 12, 13, 14, 15, 16, 17, 18, 19, 20, 21, 22, 23, 24, 25] [0, 1, 2, 3, 4, 5, 6, 7, 8, 9, 10, 11, 12, 13, 14, 15, 16, 17, 18, 19, 20, 21, 22, 23, 24, 25] rfl rfl rfl (by decide) rfl rfl (fun H locs hP hD hS => ?_)
    refine lv_if_eq (tgt := 26) hx hb dX8_cloudy_14 (by decide) (fun hc_21 => ?_) (fun hc_21 => ?_)
    · have hM := it_p hc_21 hM
      refine lv_iconst (v := -1) hx hb dX8_cloudy_26 (by decide) ?_
      have hR := som hM
      rw [hR] at hQ
      exact ret_i hQ hx hb hr hlocks hP hK hD hS dX8_cloudy_27
    · have hM := it_n hc_21 hM
      refine lv_iload_n hx hb dX8_cloudy_17 rfl (lv_at hl 2 rfl) ?_
      refine lv_iconst (v := 0) hx hb dX8_cloudy_18 (by decide) ?_
      refine lv_iload_n hx hb dX8_cloudy_19 rfl (lv_at hl 1 rfl) ?_
      obtain ⟨x_22, hr_23, hM⟩ := bn_some hM
      refine gv_i (r0 := x_22) (wn := (wO ct aO mO mO64)) (va_runS (As := [.int v2, .int (0 : Int32), .int v1]) (rest := []) ⟨hx, hb, hml, hown, hts⟩ (kX8_in l dC dI ct _ v2 (0 : Int32) v1 _ hr_23) (va_cwS 3 hts gX8_cloudy_X8_in rfl rfl rfl hvX8_in.2 ⟨Nat.le_of_ble_eq_true rfl, Nat.le_of_ble_eq_true rfl⟩) (preS_of E0_ok hK hP hD (is := []) rfl rfl e_0) rfl rfl hl.1 rfl (lv_room (Nat.le_of_ble_eq_true rfl)) dX8_cloudy_20 ⟨Nat.le_of_ble_eq_true rfl, Nat.le_of_ble_eq_true rfl⟩) hP hD hS hA [] [0, 1, 2, 3, 4, 5, 6, 7, 8, 9, 10, 11, 12, 13, 14, 15, 16, 17, 18, 19, 20, 21, 22, 23, 24, 25] [0, 1, 2, 3, 4, 5, 6, 7, 8, 9, 10, 11, 12, 13, 14, 15, 16, 17, 18, 19, 20, 21, 22, 23, 24, 25] rfl rfl rfl (by decide) rfl rfl (fun H locs hP hD hS => ?_)
      refine lv_if_ne (tgt := 28) hx hb dX8_cloudy_23 (by decide) (fun hc_25 => ?_) (fun hc_25 => ?_)
      · have hM := it_p hc_25 hM
        refine lv_lconst (v := 1) hx hb dX8_cloudy_28 (by decide) ?_
        refine lv_lstore_n (lv' := [(3, .long (1 : Int64)), (0, .ref (aO 0)), (1, .int v1), (2, .int v2)]) hx hb dX8_cloudy_29 rfl hl (by decide) rfl (fun ls hl => ?_)
        refine lv_lconst (v := 0) hx hb dX8_cloudy_30 (by decide) ?_
        refine lv_lstore (lv' := [(5, .long (0 : Int64)), (3, .long (1 : Int64)), (0, .ref (aO 0)), (1, .int v1), (2, .int v2)]) hx hb dX8_cloudy_31 hl (by decide) rfl (fun ls hl => ?_)
        refine lv_iconst (v := 0) hx hb dX8_cloudy_33 (by decide) ?_
        refine lv_istore (lv' := [(7, .int (0 : Int32)), (5, .long (0 : Int64)), (3, .long (1 : Int64)), (0, .ref (aO 0)), (1, .int v1), (2, .int v2)]) hx hb dX8_cloudy_34 hl (by decide) rfl (fun ls hl => ?_)
        exact N36 v1 v2 (1 : Int64) (0 : Int64) (0 : Int32) hM _ _ hP hD hS _ (lv_sub hl [3, 4, 5, 2, 1, 0] rfl)
      · have hM := it_nn hc_25 hM
        refine lv_iconst (v := -1) hx hb dX8_cloudy_26 (by decide) ?_
        have hR := som hM
        rw [hR] at hQ
        exact ret_i hQ hx hb hr hlocks hP hK hD hS dX8_cloudy_27
abbrev rmX8_image : Room := { frames := 1, cells := 0, slots := 0, locals := 22 }
theorem iwX8_image_X8 : ∀ w ∈ wsX80, w ∈ wsX8_image := fun _ h => List.mem_cons_of_mem _ (List.mem_append_right _ (h))
set_option maxHeartbeats 4000000 in
set_option maxRecDepth 100000 in
theorem kX8_image (l : Launch) (dC : Nat → ClassId) (dI : Nat → Nat → Nat) (ct : Nat → ClassId) (aO : Nat → Nat) (sz : Nat) (mO : Mem) (mO64 : Lem) (v1 : Int32) (res : (Int32 × Mem × Lem)) (hM : mX8_image mO mO64 v1 = some res) : Met l yX8_image wsX8_image rmX8_image (va_Pc [.ref (aO 0), .int v1] (PB (dC, dI) ct E0 sz (wO ct aO mO mO64))) (Qi (dC, dI) ct (va_A (wO ct aO mO mO64) sz) res.1 (wO ct aO res.2.1 res.2.2)) 0 0 (va_A (wO ct aO mO mO64) sz) := by
  refine Met.ofW (cc := cX8_image) (maxL := 3) (ret := (some .boolean)) (by decide) rfl ?_
  intro p e s m args below meth c s₁ B hml hv
  obtain ⟨hargs, hsz, hP, hK, hD0, hE⟩ := hv
  have hx := B.exec
  have hb := B.bytes
  have hr := B.returns
  have hts := atoms_spec (ws := wsX8_image) B.pre
  have hown : s.vm.findClass RX8 = some m.cls := findClass_of_methodNamed B.named
  have hlocks := B.notSynchronized
  clear B s₁
  subst hsz
  have hD := hD0.self (sz := s.heap.size)
  clear hD0
  generalize hAe : va_A (wO ct aO mO mO64) s.heap.size = A at hD hE ⊢
  have hA : ∀ q : Nat, s.heap.size ≤ q → A q := fun q h => by rw [← hAe]; exact Or.inr h
  clear hAe
  have hS : va_S A s.heap s.heap [] := va_S.rf
  refine cutQ (fun Q hQ => ?_)
  refine entryW (vs := [.ref (aO 0), .int v1]) hargs (Nat.le_of_ble_eq_true rfl) (fun ls hl => ?_)
  replace hl : lv_has ls 3 [(0, .ref (aO 0)), (1, .int v1)] := hl
  unfold mX8_image at hM
  have N95 : ∀ (v1 : Int32) (v2 : Int32) (mO : Mem) (mO64 : Lem), mX8_image_L95 v1 v2 mO mO64 = some res → ∀ (H : Heap) (locs : List Loc), va_P (dC, dI) vwCl (wO ct aO mO mO64) H → va_D A (wO ct aO mO mO64) → va_S A s.heap H locs → ∀ ls : Array Slot, lv_has ls 3 [(0, .ref (aO 0)), (1, .int v1), (2, .int v2)] → W p l e (headSpec wsX8_image rmX8_image).room s m args below meth c H locs 0 0 Q (F0 m 95 ls []) := by
    intro v1 v2 mO mO64 hM H locs hP hD hS ls hl
    unfold mX8_image_L95 at hM
    obtain ⟨ex95, hit95, hM⟩ := bn_some hM
    have X95_0 : ∀ (mO : Mem), ex95 = mO → ∀ (H : Heap) (locs : List Loc), va_P (dC, dI) vwCl (wO ct aO mO mO64) H → va_D A (wO ct aO mO mO64) → va_S A s.heap H locs → ∀ ls : Array Slot, lv_has ls 3 [] → W p l e (headSpec wsX8_image rmX8_image).room s m args below meth c H locs 0 0 Q (F0 m 126 ls []) := by
      intro mO hex H locs hP hD hS ls hl
      rw [hex] at hM
      have hM := nm_at (y := mO) rfl hM
      refine lv_iconst (v := 1) hx hb dX8_image_126 (by decide) ?_
      have hR := som hM
      rw [hR] at hQ
      exact ret_z hQ hx hb hr hlocks rfl hP hK hD hS dX8_image_127
    have I95 : ∀ (n : Nat) (v2 : Int32) (mO : Mem), itr (fun q => mX8_image_s95 v1 mO64 q.1 q.2) n (v2, mO) = some ex95 → ∀ (H : Heap) (locs : List Loc), va_P (dC, dI) vwCl (wO ct aO mO mO64) H → va_D A (wO ct aO mO mO64) → va_S A s.heap H locs → ∀ ls : Array Slot, lv_has ls 3 [(0, .ref (aO 0)), (1, .int v1), (2, .int v2)] → W p l e (headSpec wsX8_image rmX8_image).room s m args below meth c H locs 0 0 Q (F0 m 95 ls []) := by
      intro n
      induction n with
      | zero => intro v2 mO hit; exact (itr_zero hit).elim
      | succ n ih95 =>
        intro v2 mO hit H locs hP hD hS ls hl
        obtain ⟨o95, hM, hbk95, hex95⟩ := itr_succ hit
        replace hM : mX8_image_s95 v1 mO64 v2 mO = some o95 := hM
        unfold mX8_image_s95 at hM
        refine lv_iload_n hx hb dX8_image_95 rfl (lv_at hl 2 rfl) ?_
        refine lv_sipush (v := 240) hx hb dX8_image_96 (by decide) ?_
        refine lv_icmp_ge (tgt := 126) hx hb dX8_image_99 (by decide) (fun hc_1 => ?_) (fun hc_1 => ?_)
        · have hM := it_p hc_1 hM
          have hR := som hM
          exact X95_0 mO (hex95 _ hR).symm _ _ hP hD hS _ (lv_sub hl [] rfl)
        · have hM := it_n hc_1 hM
          refine lv_aload_n hx hb dX8_image_102 rfl (lv_at hl 0 rfl) ?_
          refine va_get (D := (dC, dI)) (ci := 8) (v := .ref (aO 16)) (C := RX8) (T := TX8) (N := 45) hx hb hts iwX8_image_X8 hown hK hP 0 rfl rfl 34 (by decide) (hts _ (List.mem_of_getElem? (i := 11) rfl)) (fun _ h9 => h9) rfl dX8_image_103 ?_
          refine lv_sipush (v := 240) hx hb dX8_image_106 (by decide) ?_
          refine lv_iload_n hx hb dX8_image_109 rfl (lv_at hl 1 rfl) ?_
          refine lv_imul hx hb dX8_image_110 ?_
          refine lv_iload_n hx hb dX8_image_111 rfl (lv_at hl 2 rfl) ?_
          refine lv_iadd hx hb dX8_image_112 ?_
          refine lv_aload_n hx hb dX8_image_113 rfl (lv_at hl 0 rfl) ?_
          refine va_get (D := (dC, dI)) (ci := 8) (v := .ref (aO 10)) (C := RX8) (T := TX8) (N := 45) hx hb hts iwX8_image_X8 hown hK hP 0 rfl rfl 26 (by decide) (hts _ (List.mem_of_getElem? (i := 12) rfl)) (fun _ h9 => h9) rfl dX8_image_114 ?_
          refine lv_iload_n hx hb dX8_image_117 rfl (lv_at hl 2 rfl) ?_
          obtain ⟨hi, hM⟩ := gi_some hM
          refine va_iald hx hb hK hP 10 0 rfl rfl hi dX8_image_118 ?_
          obtain ⟨hi, hM⟩ := gi_some hM
          refine st_i (wf := fun z => (wO ct aO z mO64)) (m1 := upi mO 16 (((240 : Int32) * v1) + v2).toNatClampNeg (mO 10 v2.toNatClampNeg)) hx hb hK hP hD hS 16 rfl hi dX8_image_119 rfl (fun mO_2 emO_2 H locs hP hD hS => ?_)
          have hM := nm_at emO_2 hM
          obtain ⟨x_3, ex_3⟩ : ∃ y : Int32, y = (v2 + (1 : Int32)) := ⟨_, rfl⟩
          have hM := nm_at ex_3 hM
          refine lv_iinc (v := x_3) (lv' := [(2, .int x_3), (0, .ref (aO 0)), (1, .int v1)]) hx hb dX8_image_120 hl (k := 2) rfl (by rw [ex_3]; rfl) (by decide) rfl (fun ls hl => ?_)
          refine lv_goto (tgt := 95) hx hb dX8_image_123 (by decide) ?_
          have hR := som hM
          exact ih95 x_3 mO_2 (hbk95 _ hR) _ _ hP hD hS _ (lv_sub hl [1, 2, 0] rfl)
    exact I95 FU v2 mO hit95 _ _ hP hD hS _ hl
  have N47 : ∀ (v1 : Int32) (v2 : Int32) (mO : Mem) (mO64 : Lem), mX8_image_L47 v1 v2 mO mO64 = some res → ∀ (H : Heap) (locs : List Loc), va_P (dC, dI) vwCl (wO ct aO mO mO64) H → va_D A (wO ct aO mO mO64) → va_S A s.heap H locs → ∀ ls : Array Slot, lv_has ls 3 [(0, .ref (aO 0)), (1, .int v1), (2, .int v2)] → W p l e (headSpec wsX8_image rmX8_image).room s m args below meth c H locs 0 0 Q (F0 m 47 ls []) := by
    intro v1 v2 mO mO64 hM H locs hP hD hS ls hl
    unfold mX8_image_L47 at hM
    obtain ⟨ex47, hit47, hM⟩ := bn_some hM
    have X47_0 : ∀ (mO : Mem), ex47 = mO → ∀ (H : Heap) (locs : List Loc), va_P (dC, dI) vwCl (wO ct aO mO mO64) H → va_D A (wO ct aO mO mO64) → va_S A s.heap H locs → ∀ ls : Array Slot, lv_has ls 3 [(0, .ref (aO 0)), (1, .int v1)] → W p l e (headSpec wsX8_image rmX8_image).room s m args below meth c H locs 0 0 Q (F0 m 93 ls []) := by
      intro mO hex H locs hP hD hS ls hl
      rw [hex] at hM
      have hM := nm_at (y := mO) rfl hM
      refine lv_iconst (v := 0) hx hb dX8_image_93 (by decide) ?_
      refine lv_istore_n (lv' := [(2, .int (0 : Int32)), (0, .ref (aO 0)), (1, .int v1)]) hx hb dX8_image_94 rfl hl (by decide) rfl (fun ls hl => ?_)
      exact N95 v1 (0 : Int32) mO mO64 hM _ _ hP hD hS _ (lv_sub hl [1, 2, 0] rfl)
    have I47 : ∀ (n : Nat) (v2 : Int32) (mO : Mem), itr (fun q => mX8_image_s47 v1 mO64 q.1 q.2) n (v2, mO) = some ex47 → ∀ (H : Heap) (locs : List Loc), va_P (dC, dI) vwCl (wO ct aO mO mO64) H → va_D A (wO ct aO mO mO64) → va_S A s.heap H locs → ∀ ls : Array Slot, lv_has ls 3 [(0, .ref (aO 0)), (1, .int v1), (2, .int v2)] → W p l e (headSpec wsX8_image rmX8_image).room s m args below meth c H locs 0 0 Q (F0 m 47 ls []) := by
      intro n
      induction n with
      | zero => intro v2 mO hit; exact (itr_zero hit).elim
      | succ n ih47 =>
        intro v2 mO hit H locs hP hD hS ls hl
        obtain ⟨o47, hM, hbk47, hex47⟩ := itr_succ hit
        replace hM : mX8_image_s47 v1 mO64 v2 mO = some o47 := hM
        unfold mX8_image_s47 at hM
        refine lv_iload_n hx hb dX8_image_47 rfl (lv_at hl 2 rfl) ?_
        refine lv_bipush (v := 6) hx hb dX8_image_48 (by decide) ?_
        refine lv_icmp_ge (tgt := 93) hx hb dX8_image_50 (by decide) (fun hc_4 => ?_) (fun hc_4 => ?_)
        · have hM := it_p hc_4 hM
          have hR := som hM
          exact X47_0 mO (hex47 _ hR).symm _ _ hP hD hS _ (lv_sub hl [0, 1] rfl)
        · have hM := it_n hc_4 hM
          refine lv_aload_n hx hb dX8_image_53 rfl (lv_at hl 0 rfl) ?_
          refine va_get (D := (dC, dI)) (ci := 8) (v := .ref (aO 14)) (C := RX8) (T := TX8) (N := 45) hx hb hts iwX8_image_X8 hown hK hP 0 rfl rfl 32 (by decide) (hts _ (List.mem_of_getElem? (i := 7) rfl)) (fun _ h9 => h9) rfl dX8_image_54 ?_
          refine lv_bipush (v := 6) hx hb dX8_image_57 (by decide) ?_
          refine lv_iload_n hx hb dX8_image_59 rfl (lv_at hl 1 rfl) ?_
          refine lv_imul hx hb dX8_image_60 ?_
          refine lv_iload_n hx hb dX8_image_61 rfl (lv_at hl 2 rfl) ?_
          refine lv_iadd hx hb dX8_image_62 ?_
          refine lv_aload_n hx hb dX8_image_63 rfl (lv_at hl 0 rfl) ?_
          refine va_get (D := (dC, dI)) (ci := 8) (v := .ref (aO 8)) (C := RX8) (T := TX8) (N := 45) hx hb hts iwX8_image_X8 hown hK hP 0 rfl rfl 24 (by decide) (hts _ (List.mem_of_getElem? (i := 8) rfl)) (fun _ h9 => h9) rfl dX8_image_64 ?_
          refine lv_iload_n hx hb dX8_image_67 rfl (lv_at hl 2 rfl) ?_
          obtain ⟨hi, hM⟩ := gi_some hM
          refine va_iald hx hb hK hP 8 0 rfl rfl hi dX8_image_68 ?_
          obtain ⟨hi, hM⟩ := gi_some hM
          refine st_i (wf := fun z => (wO ct aO z mO64)) (m1 := upi mO 14 (((6 : Int32) * v1) + v2).toNatClampNeg (mO 8 v2.toNatClampNeg)) hx hb hK hP hD hS 14 rfl hi dX8_image_69 rfl (fun mO_5 emO_5 H locs hP hD hS => ?_)
          have hM := nm_at emO_5 hM
          refine lv_aload_n hx hb dX8_image_70 rfl (lv_at hl 0 rfl) ?_
          refine va_get (D := (dC, dI)) (ci := 8) (v := .ref (aO 15)) (C := RX8) (T := TX8) (N := 45) hx hb hts iwX8_image_X8 hown hK hP 0 rfl rfl 33 (by decide) (hts _ (List.mem_of_getElem? (i := 9) rfl)) (fun _ h9 => h9) rfl dX8_image_71 ?_
          refine lv_bipush (v := 6) hx hb dX8_image_74 (by decide) ?_
          refine lv_iload_n hx hb dX8_image_76 rfl (lv_at hl 1 rfl) ?_
          refine lv_imul hx hb dX8_image_77 ?_
          refine lv_iload_n hx hb dX8_image_78 rfl (lv_at hl 2 rfl) ?_
          refine lv_iadd hx hb dX8_image_79 ?_
          refine lv_aload_n hx hb dX8_image_80 rfl (lv_at hl 0 rfl) ?_
          refine va_get (D := (dC, dI)) (ci := 8) (v := .ref (aO 9)) (C := RX8) (T := TX8) (N := 45) hx hb hts iwX8_image_X8 hown hK hP 0 rfl rfl 25 (by decide) (hts _ (List.mem_of_getElem? (i := 10) rfl)) (fun _ h9 => h9) rfl dX8_image_81 ?_
          refine lv_iload_n hx hb dX8_image_84 rfl (lv_at hl 2 rfl) ?_
          obtain ⟨hi, hM⟩ := gi_some hM
          refine va_iald hx hb hK hP 9 0 rfl rfl hi dX8_image_85 ?_
          obtain ⟨hi, hM⟩ := gi_some hM
          refine st_i (wf := fun z => (wO ct aO z mO64)) (m1 := upi mO_5 15 (((6 : Int32) * v1) + v2).toNatClampNeg (mO_5 9 v2.toNatClampNeg)) hx hb hK hP hD hS 15 rfl hi dX8_image_86 rfl (fun mO_6 emO_6 H locs hP hD hS => ?_)
          have hM := nm_at emO_6 hM
          obtain ⟨x_7, ex_7⟩ : ∃ y : Int32, y = (v2 + (1 : Int32)) := ⟨_, rfl⟩
          have hM := nm_at ex_7 hM
          refine lv_iinc (v := x_7) (lv' := [(2, .int x_7), (0, .ref (aO 0)), (1, .int v1)]) hx hb dX8_image_87 hl (k := 2) rfl (by rw [ex_7]; rfl) (by decide) rfl (fun ls hl => ?_)
          refine lv_goto (tgt := 47) hx hb dX8_image_90 (by decide) ?_
          have hR := som hM
          exact ih47 x_7 mO_6 (hbk47 _ hR) _ _ hP hD hS _ (lv_sub hl [1, 2, 0] rfl)
    exact I47 FU v2 mO hit47 _ _ hP hD hS _ hl
  refine lv_aload_n hx hb dX8_image_0 rfl (lv_at hl 0 rfl) ?_
  refine va_get (D := (dC, dI)) (ci := 8) (v := .int (mO 0 18)) (C := RX8) (T := TX8) (N := 45) hx hb hts iwX8_image_X8 hown hK hP 0 rfl rfl 18 (by decide) (hts _ (List.mem_of_getElem? (i := 1) rfl)) (fun _ h9 => h9) rfl dX8_image_1 ?_
  refine lv_if_eq (tgt := 16) hx hb dX8_image_4 (by decide) (fun hc_8 => ?_) (fun hc_8 => ?_)
  · have hM := it_p hc_8 hM
    refine lv_iconst (v := 0) hx hb dX8_image_16 (by decide) ?_
    have hR := som hM
    rw [hR] at hQ
    exact ret_z hQ hx hb hr hlocks rfl hP hK hD hS dX8_image_17
  · have hM := it_n hc_8 hM
    refine lv_iload_n hx hb dX8_image_7 rfl (lv_at hl 1 rfl) ?_
    refine lv_iconst (v := 0) hx hb dX8_image_8 (by decide) ?_
    refine lv_iconst (v := 2) hx hb dX8_image_9 (by decide) ?_
    obtain ⟨x_9, hr_10, hM⟩ := bn_some hM
    refine gv_i (r0 := x_9) (wn := (wO ct aO mO mO64)) (va_runS (As := [.int v1, .int (0 : Int32), .int (2 : Int32)]) (rest := []) ⟨hx, hb, hml, hown, hts⟩ (kX8_in l dC dI ct _ v1 (0 : Int32) (2 : Int32) _ hr_10) (va_cwS 3 hts gX8_image_X8_in rfl rfl rfl hvX8_in.2 ⟨Nat.le_of_ble_eq_true rfl, Nat.le_of_ble_eq_true rfl⟩) (preS_of E0_ok hK hP hD (is := []) rfl rfl e_0) rfl rfl hl.1 rfl (lv_room (Nat.le_of_ble_eq_true rfl)) dX8_image_10 ⟨Nat.le_of_ble_eq_true rfl, Nat.le_of_ble_eq_true rfl⟩) hP hD hS hA [] [0, 1, 2, 3, 4, 5, 6, 7, 8, 9, 10, 11, 12, 13, 14, 15, 16, 17, 18, 19, 20, 21, 22, 23, 24, 25] [0, 1, 2, 3, 4, 5, 6, 7, 8, 9, 10, 11, 12, 13, 14, 15, 16, 17, 18, 19, 20, 21, 22, 23, 24, 25] rfl rfl rfl (by decide) rfl rfl (fun H locs hP hD hS => ?_)
    refine lv_if_ne (tgt := 18) hx hb dX8_image_13 (by decide) (fun hc_12 => ?_) (fun hc_12 => ?_)
    · have hM := it_p hc_12 hM
      refine lv_aload_n hx hb dX8_image_18 rfl (lv_at hl 0 rfl) ?_
      refine va_get (D := (dC, dI)) (ci := 8) (v := .ref (aO 12)) (C := RX8) (T := TX8) (N := 45) hx hb hts iwX8_image_X8 hown hK hP 0 rfl rfl 30 (by decide) (hts _ (List.mem_of_getElem? (i := 2) rfl)) (fun _ h9 => h9) rfl dX8_image_19 ?_
      refine lv_iload_n hx hb dX8_image_22 rfl (lv_at hl 1 rfl) ?_
      refine lv_iconst (v := 1) hx hb dX8_image_23 (by decide) ?_
      obtain ⟨hi, hM⟩ := gi_some hM
      refine st_z (wf := fun z => (wO ct aO z mO64)) (m1 := upi mO 12 v1.toNatClampNeg (1 : Int32)) hx hb hK hP hD hS 12 rfl hi dX8_image_24 rfl (fun mO_13 emO_13 H locs hP hD hS => ?_)
      have hM := nm_at emO_13 hM
      refine lv_aload_n hx hb dX8_image_25 rfl (lv_at hl 0 rfl) ?_
      refine va_get (D := (dC, dI)) (ci := 8) (v := .ref (aO 13)) (C := RX8) (T := TX8) (N := 45) hx hb hts iwX8_image_X8 hown hK hP 0 rfl rfl 31 (by decide) (hts _ (List.mem_of_getElem? (i := 3) rfl)) (fun _ h9 => h9) rfl dX8_image_26 ?_
      refine lv_iload_n hx hb dX8_image_29 rfl (lv_at hl 1 rfl) ?_
      refine lv_aload_n hx hb dX8_image_30 rfl (lv_at hl 0 rfl) ?_
      refine va_get (D := (dC, dI)) (ci := 8) (v := .int (mO_13 0 23)) (C := RX8) (T := TX8) (N := 45) hx hb hts iwX8_image_X8 hown hK hP 0 rfl rfl 23 (by decide) (hts _ (List.mem_of_getElem? (i := 4) rfl)) (fun _ h9 => h9) rfl dX8_image_31 ?_
      obtain ⟨hi, hM⟩ := gi_some hM
      refine st_i (wf := fun z => (wO ct aO z mO64)) (m1 := upi mO_13 13 v1.toNatClampNeg (mO_13 0 23)) hx hb hK hP hD hS 13 rfl hi dX8_image_34 rfl (fun mO_14 emO_14 H locs hP hD hS => ?_)
      have hM := nm_at emO_14 hM
      refine lv_aload_n hx hb dX8_image_35 rfl (lv_at hl 0 rfl) ?_
      refine va_get (D := (dC, dI)) (ci := 8) (v := .ref (aO 17)) (C := RX8) (T := TX8) (N := 45) hx hb hts iwX8_image_X8 hown hK hP 0 rfl rfl 35 (by decide) (hts _ (List.mem_of_getElem? (i := 5) rfl)) (fun _ h9 => h9) rfl dX8_image_36 ?_
      refine lv_iload_n hx hb dX8_image_39 rfl (lv_at hl 1 rfl) ?_
      refine lv_aload_n hx hb dX8_image_40 rfl (lv_at hl 0 rfl) ?_
      refine va_get (D := (dC, dI)) (ci := 8) (v := .long (mO64 0 27)) (C := RX8) (T := TX8) (N := 45) hx hb hts iwX8_image_X8 hown hK hP 0 rfl rfl 27 (by decide) (hts _ (List.mem_of_getElem? (i := 6) rfl)) (fun _ h9 => h9) rfl dX8_image_41 ?_
      obtain ⟨hi, hM⟩ := gi_some hM
      refine st_l (wf := fun z => (wO ct aO mO_14 z)) (m1 := upiL mO64 17 v1.toNatClampNeg (mO64 0 27)) hx hb hK hP hD hS 17 rfl hi dX8_image_44 rfl (fun mO64_15 emO64_15 H locs hP hD hS => ?_)
      have hM := nm_at emO64_15 hM
      refine lv_iconst (v := 0) hx hb dX8_image_45 (by decide) ?_
      refine lv_istore_n (lv' := [(2, .int (0 : Int32)), (0, .ref (aO 0)), (1, .int v1)]) hx hb dX8_image_46 rfl hl (by decide) rfl (fun ls hl => ?_)
      exact N47 v1 (0 : Int32) mO_14 mO64_15 hM _ _ hP hD hS _ (lv_sub hl [1, 2, 0] rfl)
    · have hM := it_nn hc_12 hM
      refine lv_iconst (v := 0) hx hb dX8_image_16 (by decide) ?_
      have hR := som hM
      rw [hR] at hQ
      exact ret_z hQ hx hb hr hlocks rfl hP hK hD hS dX8_image_17
abbrev rmX8_on : Room := { frames := 1, cells := 0, slots := 0, locals := 22 }
theorem iwX8_on_X8 : ∀ w ∈ wsX80, w ∈ wsX8_on := fun _ h => List.mem_cons_of_mem _ (List.mem_append_right _ (h))
set_option maxHeartbeats 4000000 in
set_option maxRecDepth 100000 in
theorem kX8_on (l : Launch) (dC : Nat → ClassId) (dI : Nat → Nat → Nat) (ct : Nat → ClassId) (aO : Nat → Nat) (sz : Nat) (mO : Mem) (mO64 : Lem) (v1 : Int32) (res : (Int32 × Mem × Lem)) (hM : mX8_on mO mO64 v1 = some res) : Met l yX8_on wsX8_on rmX8_on (va_Pc [.ref (aO 0), .int v1] (PB (dC, dI) ct E0 sz (wO ct aO mO mO64))) (Qi (dC, dI) ct (va_A (wO ct aO mO mO64) sz) res.1 (wO ct aO res.2.1 res.2.2)) 0 0 (va_A (wO ct aO mO mO64) sz) := by
  refine Met.ofW (cc := cX8_on) (maxL := 3) (ret := (some .boolean)) (by decide) rfl ?_
  intro p e s m args below meth c s₁ B hml hv
  obtain ⟨hargs, hsz, hP, hK, hD0, hE⟩ := hv
  have hx := B.exec
  have hb := B.bytes
  have hr := B.returns
  have hts := atoms_spec (ws := wsX8_on) B.pre
  have hown : s.vm.findClass RX8 = some m.cls := findClass_of_methodNamed B.named
  have hlocks := B.notSynchronized
  clear B s₁
  subst hsz
  have hD := hD0.self (sz := s.heap.size)
  clear hD0
  generalize hAe : va_A (wO ct aO mO mO64) s.heap.size = A at hD hE ⊢
  have hA : ∀ q : Nat, s.heap.size ≤ q → A q := fun q h => by rw [← hAe]; exact Or.inr h
  clear hAe
  have hS : va_S A s.heap s.heap [] := va_S.rf
  refine cutQ (fun Q hQ => ?_)
  refine entryW (vs := [.ref (aO 0), .int v1]) hargs (Nat.le_of_ble_eq_true rfl) (fun ls hl => ?_)
  replace hl : lv_has ls 3 [(0, .ref (aO 0)), (1, .int v1)] := hl
  unfold mX8_on at hM
  have N90 : ∀ (v1 : Int32) (v2 : Int32) (mO : Mem) (mO64 : Lem), mX8_on_L90 v1 v2 mO mO64 = some res → ∀ (H : Heap) (locs : List Loc), va_P (dC, dI) vwCl (wO ct aO mO mO64) H → va_D A (wO ct aO mO mO64) → va_S A s.heap H locs → ∀ ls : Array Slot, lv_has ls 3 [(0, .ref (aO 0)), (1, .int v1), (2, .int v2)] → W p l e (headSpec wsX8_on rmX8_on).room s m args below meth c H locs 0 0 Q (F0 m 90 ls []) := by
    intro v1 v2 mO mO64 hM H locs hP hD hS ls hl
    unfold mX8_on_L90 at hM
    obtain ⟨ex90, hit90, hM⟩ := bn_some hM
    have X90_0 : ∀ (mO : Mem), ex90 = mO → ∀ (H : Heap) (locs : List Loc), va_P (dC, dI) vwCl (wO ct aO mO mO64) H → va_D A (wO ct aO mO mO64) → va_S A s.heap H locs → ∀ ls : Array Slot, lv_has ls 3 [] → W p l e (headSpec wsX8_on rmX8_on).room s m args below meth c H locs 0 0 Q (F0 m 121 ls []) := by
      intro mO hex H locs hP hD hS ls hl
      rw [hex] at hM
      have hM := nm_at (y := mO) rfl hM
      refine lv_iconst (v := 1) hx hb dX8_on_121 (by decide) ?_
      have hR := som hM
      rw [hR] at hQ
      exact ret_z hQ hx hb hr hlocks rfl hP hK hD hS dX8_on_122
    have I90 : ∀ (n : Nat) (v2 : Int32) (mO : Mem), itr (fun q => mX8_on_s90 v1 mO64 q.1 q.2) n (v2, mO) = some ex90 → ∀ (H : Heap) (locs : List Loc), va_P (dC, dI) vwCl (wO ct aO mO mO64) H → va_D A (wO ct aO mO mO64) → va_S A s.heap H locs → ∀ ls : Array Slot, lv_has ls 3 [(0, .ref (aO 0)), (1, .int v1), (2, .int v2)] → W p l e (headSpec wsX8_on rmX8_on).room s m args below meth c H locs 0 0 Q (F0 m 90 ls []) := by
      intro n
      induction n with
      | zero => intro v2 mO hit; exact (itr_zero hit).elim
      | succ n ih90 =>
        intro v2 mO hit H locs hP hD hS ls hl
        obtain ⟨o90, hM, hbk90, hex90⟩ := itr_succ hit
        replace hM : mX8_on_s90 v1 mO64 v2 mO = some o90 := hM
        unfold mX8_on_s90 at hM
        refine lv_iload_n hx hb dX8_on_90 rfl (lv_at hl 2 rfl) ?_
        refine lv_sipush (v := 240) hx hb dX8_on_91 (by decide) ?_
        refine lv_icmp_ge (tgt := 121) hx hb dX8_on_94 (by decide) (fun hc_1 => ?_) (fun hc_1 => ?_)
        · have hM := it_p hc_1 hM
          have hR := som hM
          exact X90_0 mO (hex90 _ hR).symm _ _ hP hD hS _ (lv_sub hl [] rfl)
        · have hM := it_n hc_1 hM
          refine lv_aload_n hx hb dX8_on_97 rfl (lv_at hl 0 rfl) ?_
          refine va_get (D := (dC, dI)) (ci := 8) (v := .ref (aO 10)) (C := RX8) (T := TX8) (N := 45) hx hb hts iwX8_on_X8 hown hK hP 0 rfl rfl 26 (by decide) (hts _ (List.mem_of_getElem? (i := 10) rfl)) (fun _ h9 => h9) rfl dX8_on_98 ?_
          refine lv_iload_n hx hb dX8_on_101 rfl (lv_at hl 2 rfl) ?_
          refine lv_aload_n hx hb dX8_on_102 rfl (lv_at hl 0 rfl) ?_
          refine va_get (D := (dC, dI)) (ci := 8) (v := .ref (aO 16)) (C := RX8) (T := TX8) (N := 45) hx hb hts iwX8_on_X8 hown hK hP 0 rfl rfl 34 (by decide) (hts _ (List.mem_of_getElem? (i := 11) rfl)) (fun _ h9 => h9) rfl dX8_on_103 ?_
          refine lv_sipush (v := 240) hx hb dX8_on_106 (by decide) ?_
          refine lv_iload_n hx hb dX8_on_109 rfl (lv_at hl 1 rfl) ?_
          refine lv_imul hx hb dX8_on_110 ?_
          refine lv_iload_n hx hb dX8_on_111 rfl (lv_at hl 2 rfl) ?_
          refine lv_iadd hx hb dX8_on_112 ?_
          obtain ⟨hi, hM⟩ := gi_some hM
          refine va_iald hx hb hK hP 16 0 rfl rfl hi dX8_on_113 ?_
          obtain ⟨hi, hM⟩ := gi_some hM
          refine st_i (wf := fun z => (wO ct aO z mO64)) (m1 := upi mO 10 v2.toNatClampNeg (mO 16 (((240 : Int32) * v1) + v2).toNatClampNeg)) hx hb hK hP hD hS 10 rfl hi dX8_on_114 rfl (fun mO_2 emO_2 H locs hP hD hS => ?_)
          have hM := nm_at emO_2 hM
          obtain ⟨x_3, ex_3⟩ : ∃ y : Int32, y = (v2 + (1 : Int32)) := ⟨_, rfl⟩
          have hM := nm_at ex_3 hM
          refine lv_iinc (v := x_3) (lv' := [(2, .int x_3), (0, .ref (aO 0)), (1, .int v1)]) hx hb dX8_on_115 hl (k := 2) rfl (by rw [ex_3]; rfl) (by decide) rfl (fun ls hl => ?_)
          refine lv_goto (tgt := 90) hx hb dX8_on_118 (by decide) ?_
          have hR := som hM
          exact ih90 x_3 mO_2 (hbk90 _ hR) _ _ hP hD hS _ (lv_sub hl [1, 2, 0] rfl)
    exact I90 FU v2 mO hit90 _ _ hP hD hS _ hl
  have N42 : ∀ (v1 : Int32) (v2 : Int32) (mO : Mem) (mO64 : Lem), mX8_on_L42 v1 v2 mO mO64 = some res → ∀ (H : Heap) (locs : List Loc), va_P (dC, dI) vwCl (wO ct aO mO mO64) H → va_D A (wO ct aO mO mO64) → va_S A s.heap H locs → ∀ ls : Array Slot, lv_has ls 3 [(0, .ref (aO 0)), (1, .int v1), (2, .int v2)] → W p l e (headSpec wsX8_on rmX8_on).room s m args below meth c H locs 0 0 Q (F0 m 42 ls []) := by
    intro v1 v2 mO mO64 hM H locs hP hD hS ls hl
    unfold mX8_on_L42 at hM
    obtain ⟨ex42, hit42, hM⟩ := bn_some hM
    have X42_0 : ∀ (mO : Mem), ex42 = mO → ∀ (H : Heap) (locs : List Loc), va_P (dC, dI) vwCl (wO ct aO mO mO64) H → va_D A (wO ct aO mO mO64) → va_S A s.heap H locs → ∀ ls : Array Slot, lv_has ls 3 [(0, .ref (aO 0)), (1, .int v1)] → W p l e (headSpec wsX8_on rmX8_on).room s m args below meth c H locs 0 0 Q (F0 m 88 ls []) := by
      intro mO hex H locs hP hD hS ls hl
      rw [hex] at hM
      have hM := nm_at (y := mO) rfl hM
      refine lv_iconst (v := 0) hx hb dX8_on_88 (by decide) ?_
      refine lv_istore_n (lv' := [(2, .int (0 : Int32)), (0, .ref (aO 0)), (1, .int v1)]) hx hb dX8_on_89 rfl hl (by decide) rfl (fun ls hl => ?_)
      exact N90 v1 (0 : Int32) mO mO64 hM _ _ hP hD hS _ (lv_sub hl [1, 2, 0] rfl)
    have I42 : ∀ (n : Nat) (v2 : Int32) (mO : Mem), itr (fun q => mX8_on_s42 v1 mO64 q.1 q.2) n (v2, mO) = some ex42 → ∀ (H : Heap) (locs : List Loc), va_P (dC, dI) vwCl (wO ct aO mO mO64) H → va_D A (wO ct aO mO mO64) → va_S A s.heap H locs → ∀ ls : Array Slot, lv_has ls 3 [(0, .ref (aO 0)), (1, .int v1), (2, .int v2)] → W p l e (headSpec wsX8_on rmX8_on).room s m args below meth c H locs 0 0 Q (F0 m 42 ls []) := by
      intro n
      induction n with
      | zero => intro v2 mO hit; exact (itr_zero hit).elim
      | succ n ih42 =>
        intro v2 mO hit H locs hP hD hS ls hl
        obtain ⟨o42, hM, hbk42, hex42⟩ := itr_succ hit
        replace hM : mX8_on_s42 v1 mO64 v2 mO = some o42 := hM
        unfold mX8_on_s42 at hM
        refine lv_iload_n hx hb dX8_on_42 rfl (lv_at hl 2 rfl) ?_
        refine lv_bipush (v := 6) hx hb dX8_on_43 (by decide) ?_
        refine lv_icmp_ge (tgt := 88) hx hb dX8_on_45 (by decide) (fun hc_4 => ?_) (fun hc_4 => ?_)
        · have hM := it_p hc_4 hM
          have hR := som hM
          exact X42_0 mO (hex42 _ hR).symm _ _ hP hD hS _ (lv_sub hl [0, 1] rfl)
        · have hM := it_n hc_4 hM
          refine lv_aload_n hx hb dX8_on_48 rfl (lv_at hl 0 rfl) ?_
          refine va_get (D := (dC, dI)) (ci := 8) (v := .ref (aO 8)) (C := RX8) (T := TX8) (N := 45) hx hb hts iwX8_on_X8 hown hK hP 0 rfl rfl 24 (by decide) (hts _ (List.mem_of_getElem? (i := 6) rfl)) (fun _ h9 => h9) rfl dX8_on_49 ?_
          refine lv_iload_n hx hb dX8_on_52 rfl (lv_at hl 2 rfl) ?_
          refine lv_aload_n hx hb dX8_on_53 rfl (lv_at hl 0 rfl) ?_
          refine va_get (D := (dC, dI)) (ci := 8) (v := .ref (aO 14)) (C := RX8) (T := TX8) (N := 45) hx hb hts iwX8_on_X8 hown hK hP 0 rfl rfl 32 (by decide) (hts _ (List.mem_of_getElem? (i := 7) rfl)) (fun _ h9 => h9) rfl dX8_on_54 ?_
          refine lv_bipush (v := 6) hx hb dX8_on_57 (by decide) ?_
          refine lv_iload_n hx hb dX8_on_59 rfl (lv_at hl 1 rfl) ?_
          refine lv_imul hx hb dX8_on_60 ?_
          refine lv_iload_n hx hb dX8_on_61 rfl (lv_at hl 2 rfl) ?_
          refine lv_iadd hx hb dX8_on_62 ?_
          obtain ⟨hi, hM⟩ := gi_some hM
          refine va_iald hx hb hK hP 14 0 rfl rfl hi dX8_on_63 ?_
          obtain ⟨hi, hM⟩ := gi_some hM
          refine st_i (wf := fun z => (wO ct aO z mO64)) (m1 := upi mO 8 v2.toNatClampNeg (mO 14 (((6 : Int32) * v1) + v2).toNatClampNeg)) hx hb hK hP hD hS 8 rfl hi dX8_on_64 rfl (fun mO_5 emO_5 H locs hP hD hS => ?_)
          have hM := nm_at emO_5 hM
          refine lv_aload_n hx hb dX8_on_65 rfl (lv_at hl 0 rfl) ?_
          refine va_get (D := (dC, dI)) (ci := 8) (v := .ref (aO 9)) (C := RX8) (T := TX8) (N := 45) hx hb hts iwX8_on_X8 hown hK hP 0 rfl rfl 25 (by decide) (hts _ (List.mem_of_getElem? (i := 8) rfl)) (fun _ h9 => h9) rfl dX8_on_66 ?_
          refine lv_iload_n hx hb dX8_on_69 rfl (lv_at hl 2 rfl) ?_
          refine lv_aload_n hx hb dX8_on_70 rfl (lv_at hl 0 rfl) ?_
          refine va_get (D := (dC, dI)) (ci := 8) (v := .ref (aO 15)) (C := RX8) (T := TX8) (N := 45) hx hb hts iwX8_on_X8 hown hK hP 0 rfl rfl 33 (by decide) (hts _ (List.mem_of_getElem? (i := 9) rfl)) (fun _ h9 => h9) rfl dX8_on_71 ?_
          refine lv_bipush (v := 6) hx hb dX8_on_74 (by decide) ?_
          refine lv_iload_n hx hb dX8_on_76 rfl (lv_at hl 1 rfl) ?_
          refine lv_imul hx hb dX8_on_77 ?_
          refine lv_iload_n hx hb dX8_on_78 rfl (lv_at hl 2 rfl) ?_
          refine lv_iadd hx hb dX8_on_79 ?_
          obtain ⟨hi, hM⟩ := gi_some hM
          refine va_iald hx hb hK hP 15 0 rfl rfl hi dX8_on_80 ?_
          obtain ⟨hi, hM⟩ := gi_some hM
          refine st_i (wf := fun z => (wO ct aO z mO64)) (m1 := upi mO_5 9 v2.toNatClampNeg (mO_5 15 (((6 : Int32) * v1) + v2).toNatClampNeg)) hx hb hK hP hD hS 9 rfl hi dX8_on_81 rfl (fun mO_6 emO_6 H locs hP hD hS => ?_)
          have hM := nm_at emO_6 hM
          obtain ⟨x_7, ex_7⟩ : ∃ y : Int32, y = (v2 + (1 : Int32)) := ⟨_, rfl⟩
          have hM := nm_at ex_7 hM
          refine lv_iinc (v := x_7) (lv' := [(2, .int x_7), (0, .ref (aO 0)), (1, .int v1)]) hx hb dX8_on_82 hl (k := 2) rfl (by rw [ex_7]; rfl) (by decide) rfl (fun ls hl => ?_)
          refine lv_goto (tgt := 42) hx hb dX8_on_85 (by decide) ?_
          have hR := som hM
          exact ih42 x_7 mO_6 (hbk42 _ hR) _ _ hP hD hS _ (lv_sub hl [1, 2, 0] rfl)
    exact I42 FU v2 mO hit42 _ _ hP hD hS _ hl
  refine lv_iload_n hx hb dX8_on_0 rfl (lv_at hl 1 rfl) ?_
  refine lv_iconst (v := 0) hx hb dX8_on_1 (by decide) ?_
  refine lv_iconst (v := 2) hx hb dX8_on_2 (by decide) ?_
  obtain ⟨x_8, hr_9, hM⟩ := bn_some hM
  refine gv_i (r0 := x_8) (wn := (wO ct aO mO mO64)) (va_runS (As := [.int v1, .int (0 : Int32), .int (2 : Int32)]) (rest := []) ⟨hx, hb, hml, hown, hts⟩ (kX8_in l dC dI ct _ v1 (0 : Int32) (2 : Int32) _ hr_9) (va_cwS 3 hts gX8_on_X8_in rfl rfl rfl hvX8_in.2 ⟨Nat.le_of_ble_eq_true rfl, Nat.le_of_ble_eq_true rfl⟩) (preS_of E0_ok hK hP hD (is := []) rfl rfl e_0) rfl rfl hl.1 rfl (lv_room (Nat.le_of_ble_eq_true rfl)) dX8_on_3 ⟨Nat.le_of_ble_eq_true rfl, Nat.le_of_ble_eq_true rfl⟩) hP hD hS hA [] [0, 1, 2, 3, 4, 5, 6, 7, 8, 9, 10, 11, 12, 13, 14, 15, 16, 17, 18, 19, 20, 21, 22, 23, 24, 25] [0, 1, 2, 3, 4, 5, 6, 7, 8, 9, 10, 11, 12, 13, 14, 15, 16, 17, 18, 19, 20, 21, 22, 23, 24, 25] rfl rfl rfl (by decide) rfl rfl (fun H locs hP hD hS => ?_)
  refine lv_if_eq (tgt := 18) hx hb dX8_on_6 (by decide) (fun hc_11 => ?_) (fun hc_11 => ?_)
  · have hM := it_p hc_11 hM
    refine lv_iconst (v := 0) hx hb dX8_on_18 (by decide) ?_
    have hR := som hM
    rw [hR] at hQ
    exact ret_z hQ hx hb hr hlocks rfl hP hK hD hS dX8_on_19
  · have hM := it_n hc_11 hM
    refine lv_aload_n hx hb dX8_on_9 rfl (lv_at hl 0 rfl) ?_
    refine va_get (D := (dC, dI)) (ci := 8) (v := .ref (aO 12)) (C := RX8) (T := TX8) (N := 45) hx hb hts iwX8_on_X8 hown hK hP 0 rfl rfl 30 (by decide) (hts _ (List.mem_of_getElem? (i := 1) rfl)) (fun _ h9 => h9) rfl dX8_on_10 ?_
    refine lv_iload_n hx hb dX8_on_13 rfl (lv_at hl 1 rfl) ?_
    obtain ⟨hi, hM⟩ := gi_some hM
    refine va_zald hx hb hK hP 12 2 rfl rfl hi dX8_on_14 ?_
    refine lv_if_ne (tgt := 20) hx hb dX8_on_15 (by decide) (fun hc_12 => ?_) (fun hc_12 => ?_)
    · have hM := it_p hc_12 hM
      refine lv_aload_n hx hb dX8_on_20 rfl (lv_at hl 0 rfl) ?_
      refine lv_aload_n hx hb dX8_on_21 rfl (lv_at hl 0 rfl) ?_
      refine va_get (D := (dC, dI)) (ci := 8) (v := .ref (aO 13)) (C := RX8) (T := TX8) (N := 45) hx hb hts iwX8_on_X8 hown hK hP 0 rfl rfl 31 (by decide) (hts _ (List.mem_of_getElem? (i := 2) rfl)) (fun _ h9 => h9) rfl dX8_on_22 ?_
      refine lv_iload_n hx hb dX8_on_25 rfl (lv_at hl 1 rfl) ?_
      obtain ⟨hi, hM⟩ := gi_some hM
      refine va_iald hx hb hK hP 13 0 rfl rfl hi dX8_on_26 ?_
      refine pf_i (wf := fun z => (wO ct aO z mO64)) (m1 := upf mO 23 (mO 13 v1.toNatClampNeg)) hx hb hts iwX8_on_X8 tyX8 tyX8_ok nmX8 hown hK hP hD hS 0 rfl rfl 23 (by decide) (hts _ (List.mem_of_getElem? (i := 3) rfl)) (fun _ h9 => h9) rfl rfl rfl (Nat.le_of_ble_eq_true rfl) dX8_on_27 rfl (fun mO_13 emO_13 H locs hP hD hS => ?_)
      have hM := nm_at emO_13 hM
      refine lv_aload_n hx hb dX8_on_30 rfl (lv_at hl 0 rfl) ?_
      refine lv_aload_n hx hb dX8_on_31 rfl (lv_at hl 0 rfl) ?_
      refine va_get (D := (dC, dI)) (ci := 8) (v := .ref (aO 17)) (C := RX8) (T := TX8) (N := 45) hx hb hts iwX8_on_X8 hown hK hP 0 rfl rfl 35 (by decide) (hts _ (List.mem_of_getElem? (i := 4) rfl)) (fun _ h9 => h9) rfl dX8_on_32 ?_
      refine lv_iload_n hx hb dX8_on_35 rfl (lv_at hl 1 rfl) ?_
      obtain ⟨hi, hM⟩ := gi_some hM
      refine va_lald hx hb hK hP 17 3 rfl rfl hi dX8_on_36 ?_
      refine pf_i (wf := fun z => (wO ct aO mO_13 z)) (m1 := upfL mO64 27 (mO64 17 v1.toNatClampNeg)) hx hb hts iwX8_on_X8 tyX8 tyX8_ok nmX8 hown hK hP hD hS 0 rfl rfl 27 (by decide) (hts _ (List.mem_of_getElem? (i := 5) rfl)) (fun _ h9 => h9) rfl rfl rfl (Nat.le_of_ble_eq_true rfl) dX8_on_37 rfl (fun mO64_14 emO64_14 H locs hP hD hS => ?_)
      have hM := nm_at emO64_14 hM
      refine lv_iconst (v := 0) hx hb dX8_on_40 (by decide) ?_
      refine lv_istore_n (lv' := [(2, .int (0 : Int32)), (0, .ref (aO 0)), (1, .int v1)]) hx hb dX8_on_41 rfl hl (by decide) rfl (fun ls hl => ?_)
      exact N42 v1 (0 : Int32) mO_13 mO64_14 hM _ _ hP hD hS _ (lv_sub hl [1, 2, 0] rfl)
    · have hM := it_nn hc_12 hM
      refine lv_iconst (v := 0) hx hb dX8_on_18 (by decide) ?_
      have hR := som hM
      rw [hR] at hQ
      exact ret_z hQ hx hb hr hlocks rfl hP hK hD hS dX8_on_19
abbrev rmX8_count : Room := { frames := 0, cells := 0, slots := 0, locals := 0 }
theorem iwX8_count_X8 : ∀ w ∈ wsX80, w ∈ wsX8_count := fun _ h => List.mem_cons_of_mem _ (List.mem_append_right _ (h))
set_option maxHeartbeats 4000000 in
set_option maxRecDepth 100000 in
theorem kX8_count (l : Launch) (dC : Nat → ClassId) (dI : Nat → Nat → Nat) (ct : Nat → ClassId) (aO : Nat → Nat) (sz : Nat) (mO : Mem) (mO64 : Lem) (v1 : Int32) (res : Int32) (hM : mX8_count mO mO64 v1 = some res) : Met l yX8_count wsX8_count rmX8_count (va_Pc [.ref (aO 0), .int v1] (PB (dC, dI) ct E0 sz (wO ct aO mO mO64))) (Qi (dC, dI) ct (va_A (wO ct aO mO mO64) sz) res (wO ct aO mO mO64)) 0 0 (va_A (wO ct aO mO mO64) sz) := by
  refine Met.ofW (cc := cX8_count) (maxL := 2) (ret := (some .int)) (by decide) rfl ?_
  intro p e s m args below meth c s₁ B hml hv
  obtain ⟨hargs, hsz, hP, hK, hD0, hE⟩ := hv
  have hx := B.exec
  have hb := B.bytes
  have hr := B.returns
  have hts := atoms_spec (ws := wsX8_count) B.pre
  have hown : s.vm.findClass RX8 = some m.cls := findClass_of_methodNamed B.named
  have hlocks := B.notSynchronized
  clear B s₁
  subst hsz
  have hD := hD0.self (sz := s.heap.size)
  clear hD0
  generalize hAe : va_A (wO ct aO mO mO64) s.heap.size = A at hD hE ⊢
  have hA : ∀ q : Nat, s.heap.size ≤ q → A q := fun q h => by rw [← hAe]; exact Or.inr h
  clear hAe
  have hS : va_S A s.heap s.heap [] := va_S.rf
  refine cutQ (fun Q hQ => ?_)
  refine entryW (vs := [.ref (aO 0), .int v1]) hargs (Nat.le_of_ble_eq_true rfl) (fun ls hl => ?_)
  replace hl : lv_has ls 2 [(0, .ref (aO 0)), (1, .int v1)] := hl
  unfold mX8_count at hM
  refine lv_iload_n hx hb dX8_count_0 rfl (lv_at hl 1 rfl) ?_
  by_cases hc_1 : v1 = 0
  · have hM := it_p hc_1 hM
    refine lv_tableIn (off := 51) (tgt := 52) hx hb dX8_count_1 (by rw [hc_1]; decide) (by rw [hc_1]; decide) (by rw [hc_1]; decide) (by decide) ?_
    refine lv_aload_n hx hb dX8_count_52 rfl (lv_at hl 0 rfl) ?_
    refine va_get (D := (dC, dI)) (ci := 8) (v := .int (mO 0 18)) (C := RX8) (T := TX8) (N := 45) hx hb hts iwX8_count_X8 hown hK hP 0 rfl rfl 18 (by decide) (hts _ (List.mem_of_getElem? (i := 1) rfl)) (fun _ h9 => h9) rfl dX8_count_53 ?_
    refine lv_topi (fun x_2 ex_2 => ?_)
    have hM := nm_at ex_2 hM
    have hR := som hM
    rw [hR] at hQ
    exact ret_i hQ hx hb hr hlocks hP hK hD hS dX8_count_56
  · have hM := it_n hc_1 hM
    by_cases hc_3 : v1 = 1
    · have hM := it_p hc_3 hM
      refine lv_tableIn (off := 56) (tgt := 57) hx hb dX8_count_1 (by rw [hc_3]; decide) (by rw [hc_3]; decide) (by rw [hc_3]; decide) (by decide) ?_
      refine lv_aload_n hx hb dX8_count_57 rfl (lv_at hl 0 rfl) ?_
      refine va_get (D := (dC, dI)) (ci := 8) (v := .int (mO 0 21)) (C := RX8) (T := TX8) (N := 45) hx hb hts iwX8_count_X8 hown hK hP 0 rfl rfl 21 (by decide) (hts _ (List.mem_of_getElem? (i := 2) rfl)) (fun _ h9 => h9) rfl dX8_count_58 ?_
      refine lv_topi (fun x_4 ex_4 => ?_)
      have hM := nm_at ex_4 hM
      have hR := som hM
      rw [hR] at hQ
      exact ret_i hQ hx hb hr hlocks hP hK hD hS dX8_count_61
    · have hM := it_n hc_3 hM
      by_cases hc_5 : v1 = 2
      · have hM := it_p hc_5 hM
        refine lv_tableIn (off := 61) (tgt := 62) hx hb dX8_count_1 (by rw [hc_5]; decide) (by rw [hc_5]; decide) (by rw [hc_5]; decide) (by decide) ?_
        refine lv_aload_n hx hb dX8_count_62 rfl (lv_at hl 0 rfl) ?_
        refine va_get (D := (dC, dI)) (ci := 8) (v := .int (mO 0 13)) (C := RX8) (T := TX8) (N := 45) hx hb hts iwX8_count_X8 hown hK hP 0 rfl rfl 13 (by decide) (hts _ (List.mem_of_getElem? (i := 3) rfl)) (fun _ h9 => h9) rfl dX8_count_63 ?_
        refine lv_topi (fun x_6 ex_6 => ?_)
        have hM := nm_at ex_6 hM
        have hR := som hM
        rw [hR] at hQ
        exact ret_i hQ hx hb hr hlocks hP hK hD hS dX8_count_66
      · have hM := it_n hc_5 hM
        by_cases hc_7 : v1 = 3
        · have hM := it_p hc_7 hM
          refine lv_tableIn (off := 66) (tgt := 67) hx hb dX8_count_1 (by rw [hc_7]; decide) (by rw [hc_7]; decide) (by rw [hc_7]; decide) (by decide) ?_
          refine lv_aload_n hx hb dX8_count_67 rfl (lv_at hl 0 rfl) ?_
          refine va_get (D := (dC, dI)) (ci := 8) (v := .int (mO 0 14)) (C := RX8) (T := TX8) (N := 45) hx hb hts iwX8_count_X8 hown hK hP 0 rfl rfl 14 (by decide) (hts _ (List.mem_of_getElem? (i := 4) rfl)) (fun _ h9 => h9) rfl dX8_count_68 ?_
          refine lv_topi (fun x_8 ex_8 => ?_)
          have hM := nm_at ex_8 hM
          have hR := som hM
          rw [hR] at hQ
          exact ret_i hQ hx hb hr hlocks hP hK hD hS dX8_count_71
        · have hM := it_n hc_7 hM
          by_cases hc_9 : v1 = 4
          · have hM := it_p hc_9 hM
            refine lv_tableIn (off := 71) (tgt := 72) hx hb dX8_count_1 (by rw [hc_9]; decide) (by rw [hc_9]; decide) (by rw [hc_9]; decide) (by decide) ?_
            refine lv_aload_n hx hb dX8_count_72 rfl (lv_at hl 0 rfl) ?_
            refine va_get (D := (dC, dI)) (ci := 8) (v := .int (mO 0 15)) (C := RX8) (T := TX8) (N := 45) hx hb hts iwX8_count_X8 hown hK hP 0 rfl rfl 15 (by decide) (hts _ (List.mem_of_getElem? (i := 5) rfl)) (fun _ h9 => h9) rfl dX8_count_73 ?_
            refine lv_topi (fun x_10 ex_10 => ?_)
            have hM := nm_at ex_10 hM
            have hR := som hM
            rw [hR] at hQ
            exact ret_i hQ hx hb hr hlocks hP hK hD hS dX8_count_76
          · have hM := it_n hc_9 hM
            by_cases hc_11 : v1 = 5
            · have hM := it_p hc_11 hM
              refine lv_tableIn (off := 76) (tgt := 77) hx hb dX8_count_1 (by rw [hc_11]; decide) (by rw [hc_11]; decide) (by rw [hc_11]; decide) (by decide) ?_
              refine lv_aload_n hx hb dX8_count_77 rfl (lv_at hl 0 rfl) ?_
              refine va_get (D := (dC, dI)) (ci := 8) (v := .int (mO 0 16)) (C := RX8) (T := TX8) (N := 45) hx hb hts iwX8_count_X8 hown hK hP 0 rfl rfl 16 (by decide) (hts _ (List.mem_of_getElem? (i := 6) rfl)) (fun _ h9 => h9) rfl dX8_count_78 ?_
              refine lv_topi (fun x_12 ex_12 => ?_)
              have hM := nm_at ex_12 hM
              have hR := som hM
              rw [hR] at hQ
              exact ret_i hQ hx hb hr hlocks hP hK hD hS dX8_count_81
            · have hM := it_n hc_11 hM
              by_cases hc_13 : v1 = 6
              · have hM := it_p hc_13 hM
                refine lv_tableIn (off := 81) (tgt := 82) hx hb dX8_count_1 (by rw [hc_13]; decide) (by rw [hc_13]; decide) (by rw [hc_13]; decide) (by decide) ?_
                refine lv_aload_n hx hb dX8_count_82 rfl (lv_at hl 0 rfl) ?_
                refine va_get (D := (dC, dI)) (ci := 8) (v := .int (mO 0 20)) (C := RX8) (T := TX8) (N := 45) hx hb hts iwX8_count_X8 hown hK hP 0 rfl rfl 20 (by decide) (hts _ (List.mem_of_getElem? (i := 7) rfl)) (fun _ h9 => h9) rfl dX8_count_83 ?_
                refine lv_topi (fun x_14 ex_14 => ?_)
                have hM := nm_at ex_14 hM
                have hR := som hM
                rw [hR] at hQ
                exact ret_i hQ hx hb hr hlocks hP hK hD hS dX8_count_86
              · have hM := it_n hc_13 hM
                by_cases hc_15 : v1 = 7
                · have hM := it_p hc_15 hM
                  refine lv_tableIn (off := 86) (tgt := 87) hx hb dX8_count_1 (by rw [hc_15]; decide) (by rw [hc_15]; decide) (by rw [hc_15]; decide) (by decide) ?_
                  refine lv_aload_n hx hb dX8_count_87 rfl (lv_at hl 0 rfl) ?_
                  refine va_get (D := (dC, dI)) (ci := 8) (v := .int (mO 0 28)) (C := RX8) (T := TX8) (N := 45) hx hb hts iwX8_count_X8 hown hK hP 0 rfl rfl 28 (by decide) (hts _ (List.mem_of_getElem? (i := 8) rfl)) (fun _ h9 => h9) rfl dX8_count_88 ?_
                  refine lv_topi (fun x_16 ex_16 => ?_)
                  have hM := nm_at ex_16 hM
                  have hR := som hM
                  rw [hR] at hQ
                  exact ret_i hQ hx hb hr hlocks hP hK hD hS dX8_count_91
                · have hM := it_n hc_15 hM
                  by_cases hc_17 : v1 = 8
                  · have hM := it_p hc_17 hM
                    refine lv_tableIn (off := 91) (tgt := 92) hx hb dX8_count_1 (by rw [hc_17]; decide) (by rw [hc_17]; decide) (by rw [hc_17]; decide) (by decide) ?_
                    refine lv_aload_n hx hb dX8_count_92 rfl (lv_at hl 0 rfl) ?_
                    refine va_get (D := (dC, dI)) (ci := 8) (v := .int (mO 0 1)) (C := RX8) (T := TX8) (N := 45) hx hb hts iwX8_count_X8 hown hK hP 0 rfl rfl 1 (by decide) (hts _ (List.mem_of_getElem? (i := 9) rfl)) (fun _ h9 => h9) rfl dX8_count_93 ?_
                    refine lv_topi (fun x_18 ex_18 => ?_)
                    have hM := nm_at ex_18 hM
                    have hR := som hM
                    rw [hR] at hQ
                    exact ret_i hQ hx hb hr hlocks hP hK hD hS dX8_count_96
                  · have hM := it_n hc_17 hM
                    have nhc_1 := ne_toInt hc_1
                    have nhc_3 := ne_toInt hc_3
                    have nhc_5 := ne_toInt hc_5
                    have nhc_7 := ne_toInt hc_7
                    have nhc_9 := ne_toInt hc_9
                    have nhc_11 := ne_toInt hc_11
                    have nhc_13 := ne_toInt hc_13
                    have nhc_15 := ne_toInt hc_15
                    have nhc_17 := ne_toInt hc_17
                    refine lv_tableOut (tgt := 97) hx hb dX8_count_1 (by rw [show ((0 : Int32)).toInt = 0 from by decide] at nhc_1; rw [show ((1 : Int32)).toInt = 1 from by decide] at nhc_3; rw [show ((2 : Int32)).toInt = 2 from by decide] at nhc_5; rw [show ((3 : Int32)).toInt = 3 from by decide] at nhc_7; rw [show ((4 : Int32)).toInt = 4 from by decide] at nhc_9; rw [show ((5 : Int32)).toInt = 5 from by decide] at nhc_11; rw [show ((6 : Int32)).toInt = 6 from by decide] at nhc_13; rw [show ((7 : Int32)).toInt = 7 from by decide] at nhc_15; rw [show ((8 : Int32)).toInt = 8 from by decide] at nhc_17; omega) (by decide) ?_
                    refine lv_iconst (v := -1) hx hb dX8_count_97 (by decide) ?_
                    have hR := som hM
                    rw [hR] at hQ
                    exact ret_i hQ hx hb hr hlocks hP hK hD hS dX8_count_98
