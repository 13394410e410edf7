abbrev rmX4_backOf : Room := { frames := 0, cells := 0, slots := 0, locals := 0 }
theorem iwX4_backOf_X1 : ∀ w ∈ wsX10, w ∈ wsX4_backOf := fun _ h => List.mem_cons_of_mem _ (List.mem_append_right _ (h))
set_option maxHeartbeats 4000000 in
set_option maxRecDepth 100000 in
theorem kX4_backOf (l : Launch) (dC : Nat → ClassId) (dI : Nat → Nat → Nat) (ct : Nat → ClassId) (aL : Nat → Nat) (sz : Nat) (mL : Mem) (v1 : Int32) (v2 : Int32) (v3 : Int32) (v4 : Int32) (res : Int32) (hM : mX4_backOf mL v1 v2 v3 v4 = some res) : Met l yX4_backOf wsX4_backOf rmX4_backOf (va_Pc [.ref (aL 0), .int v1, .int v2, .int v3, .int v4] (PB (dC, dI) ct E0 sz (wL ct aL mL))) (Qi (dC, dI) ct (va_A (wL ct aL mL) sz) res (wL ct aL mL)) 0 0 (va_A (wL ct aL mL) sz) := by
  refine Met.ofW (cc := cX4_backOf) (maxL := 10) (ret := (some .int)) (by decide) rfl ?_
  intro p e s m args below meth c s₁ B hml hv
  obtain ⟨hargs, hsz, hP, hK, hD0, hE⟩ := hv
  have hx := B.exec
  have hb := B.bytes
  have hr := B.returns
  have hts := atoms_spec (ws := wsX4_backOf) B.pre
  have hown : s.vm.findClass RX4 = some m.cls := findClass_of_methodNamed B.named
  have hlocks := B.notSynchronized
  clear B s₁
  subst hsz
  have hD := hD0.self (sz := s.heap.size)
  clear hD0
  generalize hAe : va_A (wL ct aL mL) s.heap.size = A at hD hE ⊢
  have hA : ∀ q : Nat, s.heap.size ≤ q → A q := fun q h => by rw [← hAe]; exact Or.inr h
  clear hAe
  have hS : va_S A s.heap s.heap [] := va_S.rf
  refine cutQ (fun Q hQ => ?_)
  refine entryW (vs := [.ref (aL 0), .int v1, .int v2, .int v3, .int v4]) hargs (Nat.le_of_ble_eq_true rfl) (fun ls hl => ?_)
  replace hl : lv_has ls 10 [(0, .ref (aL 0)), (1, .int v1), (2, .int v2), (3, .int v3), (4, .int v4)] := hl
  unfold mX4_backOf at hM
  have N60 : ∀ (v1 : Int32) (v5 : Int32) (v6 : Int32) (v7 : Int32) (v8 : Int32) (v9 : Int32), mX4_backOf_L60 v1 v5 v6 v7 v8 v9 mL = some res → ∀ (H : Heap) (locs : List Loc), va_P (dC, dI) vwCl (wL ct aL mL) H → va_D A (wL ct aL mL) → va_S A s.heap H locs → ∀ ls : Array Slot, lv_has ls 10 [(0, .ref (aL 0)), (1, .int v1), (5, .int v5), (6, .int v6), (7, .int v7), (8, .int v8), (9, .int v9)] → W p l e (headSpec wsX4_backOf rmX4_backOf).room s m args below meth c H locs 0 0 Q (F0 m 60 ls []) := by
    intro v1 v5 v6 v7 v8 v9 hM H locs hP hD hS ls hl
    unfold mX4_backOf_L60 at hM
    obtain ⟨ex60, hit60, hM⟩ := bn_some hM
    have X60_0 : ∀ (v8 : Int32), ex60 = v8 → ∀ (H : Heap) (locs : List Loc), va_P (dC, dI) vwCl (wL ct aL mL) H → va_D A (wL ct aL mL) → va_S A s.heap H locs → ∀ ls : Array Slot, lv_has ls 10 [(0, .ref (aL 0)), (1, .int v1), (8, .int v8)] → W p l e (headSpec wsX4_backOf rmX4_backOf).room s m args below meth c H locs 0 0 Q (F0 m 88 ls []) := by
      intro v8 hex H locs hP hD hS ls hl
      rw [hex] at hM
      have hM := nm_at (y := v8) rfl hM
      refine lv_iload hx hb dX4_backOf_88 (lv_at hl 2 rfl) ?_
      refine lv_sipush (v := 1000) hx hb dX4_backOf_90 (by decide) ?_
      refine lv_iload hx hb dX4_backOf_93 (lv_at hl 2 rfl) ?_
      refine lv_isub hx hb dX4_backOf_95 ?_
      refine lv_aload_n hx hb dX4_backOf_96 rfl (lv_at hl 0 rfl) ?_
      refine va_get (D := (dC, dI)) (ci := 1) (v := .ref (aL 6)) (C := RX1) (T := TX1) (N := 17) hx hb hts iwX4_backOf_X1 hown hK hP 0 rfl rfl 11 (by decide) (hts _ (List.mem_of_getElem? (i := 4) rfl)) (fun _ h9 => h9) rfl dX4_backOf_97 ?_
      refine lv_iload_n hx hb dX4_backOf_100 rfl (lv_at hl 1 rfl) ?_
      obtain ⟨hi, hM⟩ := gi_some hM
      refine va_iald hx hb hK hP 6 0 rfl rfl hi dX4_backOf_101 ?_
      refine lv_imul hx hb dX4_backOf_102 ?_
      refine lv_bipush (v := 16) hx hb dX4_backOf_103 (by decide) ?_
      refine lv_idiv hx hb dX4_backOf_105 (by decide) ?_
      refine lv_iadd hx hb dX4_backOf_106 ?_
      refine lv_topi (fun x_1 ex_1 => ?_)
      have hM := nm_at ex_1 hM
      have hR := som hM
      rw [hR] at hQ
      exact ret_i hQ hx hb hr hlocks hP hK hD hS dX4_backOf_107
    have I60 : ∀ (n : Nat) (v8 : Int32) (v9 : Int32), itr (fun q => mX4_backOf_s60 v1 v5 v6 v7 mL q.1 q.2) n (v8, v9) = some ex60 → ∀ (H : Heap) (locs : List Loc), va_P (dC, dI) vwCl (wL ct aL mL) H → va_D A (wL ct aL mL) → va_S A s.heap H locs → ∀ ls : Array Slot, lv_has ls 10 [(0, .ref (aL 0)), (1, .int v1), (5, .int v5), (6, .int v6), (7, .int v7), (8, .int v8), (9, .int v9)] → W p l e (headSpec wsX4_backOf rmX4_backOf).room s m args below meth c H locs 0 0 Q (F0 m 60 ls []) := by
      intro n
      induction n with
      | zero => intro v8 v9 hit; exact (itr_zero hit).elim
      | succ n ih60 =>
        intro v8 v9 hit H locs hP hD hS ls hl
        obtain ⟨o60, hM, hbk60, hex60⟩ := itr_succ hit
        replace hM : mX4_backOf_s60 v1 v5 v6 v7 mL v8 v9 = some o60 := hM
        unfold mX4_backOf_s60 at hM
        refine lv_iload hx hb dX4_backOf_60 (lv_at hl 6 rfl) ?_
        refine lv_iload hx hb dX4_backOf_62 (lv_at hl 3 rfl) ?_
        refine lv_icmp_ge (tgt := 88) hx hb dX4_backOf_64 (by decide) (fun hc_2 => ?_) (fun hc_2 => ?_)
        · have hM := it_p hc_2 hM
          have hR := som hM
          exact X60_0 v8 (hex60 _ hR).symm _ _ hP hD hS _ (lv_sub hl [0, 1, 5] rfl)
        · have hM := it_n hc_2 hM
          refine lv_iload hx hb dX4_backOf_67 (lv_at hl 5 rfl) ?_
          refine lv_iload hx hb dX4_backOf_69 (lv_at hl 4 rfl) ?_
          refine lv_imul hx hb dX4_backOf_71 ?_
          refine lv_sipush (v := 256) hx hb dX4_backOf_72 (by decide) ?_
          refine lv_idiv hx hb dX4_backOf_75 (by decide) ?_
          refine lv_topi (fun x_3 ex_3 => ?_)
          have hM := nm_at ex_3 hM
          refine lv_istore (lv' := [(8, .int x_3), (0, .ref (aL 0)), (1, .int v1), (5, .int v5), (6, .int v6), (7, .int v7), (9, .int v9)]) hx hb dX4_backOf_76 hl (by decide) rfl (fun ls hl => ?_)
          refine lv_iload hx hb dX4_backOf_78 (lv_at hl 6 rfl) ?_
          refine lv_iload hx hb dX4_backOf_80 (lv_at hl 3 rfl) ?_
          refine lv_iadd hx hb dX4_backOf_82 ?_
          refine lv_topi (fun x_4 ex_4 => ?_)
          have hM := nm_at ex_4 hM
          refine lv_istore (lv' := [(9, .int x_4), (8, .int x_3), (0, .ref (aL 0)), (1, .int v1), (5, .int v5), (6, .int v6), (7, .int v7)]) hx hb dX4_backOf_83 hl (by decide) rfl (fun ls hl => ?_)
          refine lv_goto (tgt := 60) hx hb dX4_backOf_85 (by decide) ?_
          have hR := som hM
          exact ih60 x_3 x_4 (hbk60 _ hR) _ _ hP hD hS _ (lv_sub hl [2, 3, 4, 5, 6, 1, 0] rfl)
    exact I60 FU v8 v9 hit60 _ _ hP hD hS _ hl
  refine lv_aload_n hx hb dX4_backOf_0 rfl (lv_at hl 0 rfl) ?_
  refine va_get (D := (dC, dI)) (ci := 1) (v := .int (mL 0 0)) (C := RX1) (T := TX1) (N := 17) hx hb hts iwX4_backOf_X1 hown hK hP 0 rfl rfl 0 (by decide) (hts _ (List.mem_of_getElem? (i := 1) rfl)) (fun _ h9 => h9) rfl dX4_backOf_1 ?_
  refine lv_iload hx hb dX4_backOf_4 (lv_at hl 4 rfl) ?_
  refine lv_imul hx hb dX4_backOf_6 ?_
  refine lv_topi (fun x_5 ex_5 => ?_)
  have hM := nm_at ex_5 hM
  refine lv_istore (lv' := [(5, .int x_5), (0, .ref (aL 0)), (1, .int v1), (2, .int v2), (3, .int v3), (4, .int v4)]) hx hb dX4_backOf_7 hl (by decide) rfl (fun ls hl => ?_)
  refine lv_iload hx hb dX4_backOf_9 (lv_at hl 0 rfl) ?_
  refine lv_iconst (v := 1) hx hb dX4_backOf_11 (by decide) ?_
  refine lv_icmp_ge (tgt := 19) hx hb dX4_backOf_12 (by decide) (fun hc_6 => ?_) (fun hc_6 => ?_)
  · have hM := it_p hc_6 hM
    refine lv_iload_n hx hb dX4_backOf_19 rfl (lv_at hl 3 rfl) ?_
    refine lv_aload_n hx hb dX4_backOf_20 rfl (lv_at hl 1 rfl) ?_
    refine va_get (D := (dC, dI)) (ci := 1) (v := .ref (aL 4)) (C := RX1) (T := TX1) (N := 17) hx hb hts iwX4_backOf_X1 hown hK hP 0 rfl rfl 9 (by decide) (hts _ (List.mem_of_getElem? (i := 2) rfl)) (fun _ h9 => h9) rfl dX4_backOf_21 ?_
    refine lv_iload_n hx hb dX4_backOf_24 rfl (lv_at hl 2 rfl) ?_
    obtain ⟨hi, hM⟩ := gi_some hM
    refine va_iald hx hb hK hP 4 0 rfl rfl hi dX4_backOf_25 ?_
    refine lv_iadd hx hb dX4_backOf_26 ?_
    refine lv_topi (fun x_7 ex_7 => ?_)
    have hM := nm_at ex_7 hM
    refine lv_istore (lv' := [(6, .int x_7), (5, .int x_5), (0, .ref (aL 0)), (1, .int v1), (2, .int v2), (3, .int v3), (4, .int v4)]) hx hb dX4_backOf_27 hl (by decide) rfl (fun ls hl => ?_)
    refine lv_sipush (v := 256) hx hb dX4_backOf_29 (by decide) ?_
    refine lv_iload_n hx hb dX4_backOf_32 rfl (lv_at hl 5 rfl) ?_
    refine lv_bipush (v := 16) hx hb dX4_backOf_33 (by decide) ?_
    refine lv_aload_n hx hb dX4_backOf_35 rfl (lv_at hl 2 rfl) ?_
    refine va_get (D := (dC, dI)) (ci := 1) (v := .int (mL 0 1)) (C := RX1) (T := TX1) (N := 17) hx hb hts iwX4_backOf_X1 hown hK hP 0 rfl rfl 1 (by decide) (hts _ (List.mem_of_getElem? (i := 3) rfl)) (fun _ h9 => h9) rfl dX4_backOf_36 ?_
    refine lv_isub hx hb dX4_backOf_39 ?_
    refine lv_imul hx hb dX4_backOf_40 ?_
    refine lv_isub hx hb dX4_backOf_41 ?_
    refine lv_topi (fun x_8 ex_8 => ?_)
    have hM := nm_at ex_8 hM
    refine lv_istore (lv' := [(7, .int x_8), (6, .int x_7), (5, .int x_5), (0, .ref (aL 0)), (1, .int v1), (2, .int v2), (3, .int v3), (4, .int v4)]) hx hb dX4_backOf_42 hl (by decide) rfl (fun ls hl => ?_)
    refine lv_sipush (v := 1000) hx hb dX4_backOf_44 (by decide) ?_
    refine lv_istore (lv' := [(8, .int (1000 : Int32)), (7, .int x_8), (6, .int x_7), (5, .int x_5), (0, .ref (aL 0)), (1, .int v1), (2, .int v2), (3, .int v3), (4, .int v4)]) hx hb dX4_backOf_47 hl (by decide) rfl (fun ls hl => ?_)
    refine lv_iload_n hx hb dX4_backOf_49 rfl (lv_at hl 6 rfl) ?_
    refine lv_iload hx hb dX4_backOf_50 (lv_at hl 3 rfl) ?_
    obtain ⟨hz, hM⟩ := gz_some hM
    refine lv_idiv hx hb dX4_backOf_52 hz ?_
    refine lv_iconst (v := 1) hx hb dX4_backOf_53 (by decide) ?_
    refine lv_iadd hx hb dX4_backOf_54 ?_
    refine lv_iload hx hb dX4_backOf_55 (lv_at hl 3 rfl) ?_
    refine lv_imul hx hb dX4_backOf_57 ?_
    refine lv_topi (fun x_9 ex_9 => ?_)
    have hM := nm_at ex_9 hM
    refine lv_istore (lv' := [(9, .int x_9), (8, .int (1000 : Int32)), (7, .int x_8), (6, .int x_7), (5, .int x_5), (0, .ref (aL 0)), (1, .int v1), (2, .int v2), (3, .int v3), (4, .int v4)]) hx hb dX4_backOf_58 hl (by decide) rfl (fun ls hl => ?_)
    exact N60 v1 x_5 x_7 x_8 (1000 : Int32) x_9 hM _ _ hP hD hS _ (lv_sub hl [5, 6, 4, 3, 2, 1, 0] rfl)
  · have hM := it_n hc_6 hM
    refine lv_sipush (v := 1000) hx hb dX4_backOf_15 (by decide) ?_
    have hR := som hM
    rw [hR] at hQ
    exact ret_i hQ hx hb hr hlocks hP hK hD hS dX4_backOf_18
abbrev rmX4_leastPrice : Room := { frames := 0, cells := 0, slots := 0, locals := 0 }
theorem iwX4_leastPrice_X1 : ∀ w ∈ wsX10, w ∈ wsX4_leastPrice := fun _ h => List.mem_cons_of_mem _ (List.mem_append_right _ (h))
set_option maxHeartbeats 4000000 in
set_option maxRecDepth 100000 in
theorem kX4_leastPrice (l : Launch) (dC : Nat → ClassId) (dI : Nat → Nat → Nat) (ct : Nat → ClassId) (aL : Nat → Nat) (sz : Nat) (mL : Mem) (v1 : Int32) (v2 : Int32) (res : Int32) (hM : mX4_leastPrice mL v1 v2 = some res) : Met l yX4_leastPrice wsX4_leastPrice rmX4_leastPrice (va_Pc [.ref (aL 0), .int v1, .int v2] (PB (dC, dI) ct E0 sz (wL ct aL mL))) (Qi (dC, dI) ct (va_A (wL ct aL mL) sz) res (wL ct aL mL)) 0 0 (va_A (wL ct aL mL) sz) := by
  refine Met.ofW (cc := cX4_leastPrice) (maxL := 5) (ret := (some .int)) (by decide) rfl ?_
  intro p e s m args below meth c s₁ B hml hv
  obtain ⟨hargs, hsz, hP, hK, hD0, hE⟩ := hv
  have hx := B.exec
  have hb := B.bytes
  have hr := B.returns
  have hts := atoms_spec (ws := wsX4_leastPrice) B.pre
  have hown : s.vm.findClass RX4 = some m.cls := findClass_of_methodNamed B.named
  have hlocks := B.notSynchronized
  clear B s₁
  subst hsz
  have hD := hD0.self (sz := s.heap.size)
  clear hD0
  generalize hAe : va_A (wL ct aL mL) s.heap.size = A at hD hE ⊢
  have hA : ∀ q : Nat, s.heap.size ≤ q → A q := fun q h => by rw [← hAe]; exact Or.inr h
  clear hAe
  have hS : va_S A s.heap s.heap [] := va_S.rf
  refine cutQ (fun Q hQ => ?_)
  refine entryW (vs := [.ref (aL 0), .int v1, .int v2]) hargs (Nat.le_of_ble_eq_true rfl) (fun ls hl => ?_)
  replace hl : lv_has ls 5 [(0, .ref (aL 0)), (1, .int v1), (2, .int v2)] := hl
  unfold mX4_leastPrice at hM
  refine lv_iload_n hx hb dX4_leastPrice_0 rfl (lv_at hl 2 rfl) ?_
  refine lv_iconst (v := 1) hx hb dX4_leastPrice_1 (by decide) ?_
  refine lv_icmp_ge (tgt := 7) hx hb dX4_leastPrice_2 (by decide) (fun hc_1 => ?_) (fun hc_1 => ?_)
  · have hM := it_p hc_1 hM
    refine lv_bipush (v := 100) hx hb dX4_leastPrice_7 (by decide) ?_
    refine lv_aload_n hx hb dX4_leastPrice_9 rfl (lv_at hl 0 rfl) ?_
    refine va_get (D := (dC, dI)) (ci := 1) (v := .int (mL 0 4)) (C := RX1) (T := TX1) (N := 17) hx hb hts iwX4_leastPrice_X1 hown hK hP 0 rfl rfl 4 (by decide) (hts _ (List.mem_of_getElem? (i := 1) rfl)) (fun _ h9 => h9) rfl dX4_leastPrice_10 ?_
    refine lv_aload_n hx hb dX4_leastPrice_13 rfl (lv_at hl 0 rfl) ?_
    refine va_get (D := (dC, dI)) (ci := 1) (v := .ref (aL 4)) (C := RX1) (T := TX1) (N := 17) hx hb hts iwX4_leastPrice_X1 hown hK hP 0 rfl rfl 9 (by decide) (hts _ (List.mem_of_getElem? (i := 2) rfl)) (fun _ h9 => h9) rfl dX4_leastPrice_14 ?_
    refine lv_iload_n hx hb dX4_leastPrice_17 rfl (lv_at hl 1 rfl) ?_
    obtain ⟨hi, hM⟩ := gi_some hM
    refine va_iald hx hb hK hP 4 0 rfl rfl hi dX4_leastPrice_18 ?_
    refine lv_imul hx hb dX4_leastPrice_19 ?_
    refine lv_bipush (v := 10) hx hb dX4_leastPrice_20 (by decide) ?_
    refine lv_idiv hx hb dX4_leastPrice_22 (by decide) ?_
    refine lv_iadd hx hb dX4_leastPrice_23 ?_
    refine lv_sipush (v := 1000) hx hb dX4_leastPrice_24 (by decide) ?_
    refine lv_imul hx hb dX4_leastPrice_27 ?_
    refine lv_topi (fun x_2 ex_2 => ?_)
    have hM := nm_at ex_2 hM
    refine lv_istore_n (lv' := [(3, .int x_2), (0, .ref (aL 0)), (1, .int v1), (2, .int v2)]) hx hb dX4_leastPrice_28 rfl hl (by decide) rfl (fun ls hl => ?_)
    refine lv_iload_n hx hb dX4_leastPrice_29 rfl (lv_at hl 0 rfl) ?_
    refine lv_iload_n hx hb dX4_leastPrice_30 rfl (lv_at hl 3 rfl) ?_
    refine lv_iadd hx hb dX4_leastPrice_31 ?_
    refine lv_iconst (v := 1) hx hb dX4_leastPrice_32 (by decide) ?_
    refine lv_isub hx hb dX4_leastPrice_33 ?_
    refine lv_iload_n hx hb dX4_leastPrice_34 rfl (lv_at hl 3 rfl) ?_
    obtain ⟨hz, hM⟩ := gz_some hM
    refine lv_idiv hx hb dX4_leastPrice_35 hz ?_
    refine lv_bipush (v := 100) hx hb dX4_leastPrice_36 (by decide) ?_
    refine lv_isub hx hb dX4_leastPrice_38 ?_
    refine lv_topi (fun x_3 ex_3 => ?_)
    have hM := nm_at ex_3 hM
    refine lv_istore (lv' := [(4, .int x_3), (3, .int x_2), (0, .ref (aL 0)), (1, .int v1), (2, .int v2)]) hx hb dX4_leastPrice_39 hl (by decide) rfl (fun ls hl => ?_)
    refine lv_iload hx hb dX4_leastPrice_41 (lv_at hl 0 rfl) ?_
    refine lv_sipush (v := 400) hx hb dX4_leastPrice_43 (by decide) ?_
    refine lv_icmp_le (tgt := 53) hx hb dX4_leastPrice_46 (by decide) (fun hc_4 => ?_) (fun hc_4 => ?_)
    · have hM := it_p hc_4 hM
      refine lv_iload hx hb dX4_leastPrice_53 (lv_at hl 0 rfl) ?_
      have hR := som hM
      rw [hR] at hQ
      exact ret_i hQ hx hb hr hlocks hP hK hD hS dX4_leastPrice_55
    · have hM := it_n hc_4 hM
      refine lv_iconst (v := -1) hx hb dX4_leastPrice_49 (by decide) ?_
      refine lv_goto (tgt := 55) hx hb dX4_leastPrice_50 (by decide) ?_
      have hR := som hM
      rw [hR] at hQ
      exact ret_i hQ hx hb hr hlocks hP hK hD hS dX4_leastPrice_55
  · have hM := it_n hc_1 hM
    refine lv_iconst (v := -1) hx hb dX4_leastPrice_5 (by decide) ?_
    have hR := som hM
    rw [hR] at hQ
    exact ret_i hQ hx hb hr hlocks hP hK hD hS dX4_leastPrice_6
abbrev rmX4_mostPrice : Room := { frames := 1, cells := 0, slots := 0, locals := 21 }
theorem iwX4_mostPrice_X1 : ∀ w ∈ wsX10, w ∈ wsX4_mostPrice := fun _ h => List.mem_cons_of_mem _ (List.mem_append_right _ (h))
set_option maxHeartbeats 4000000 in
set_option maxRecDepth 100000 in
theorem kX4_mostPrice (l : Launch) (dC : Nat → ClassId) (dI : Nat → Nat → Nat) (ct : Nat → ClassId) (aL : Nat → Nat) (sz : Nat) (mL : Mem) (v1 : Int32) (res : Int32) (hM : mX4_mostPrice mL v1 = some res) : Met l yX4_mostPrice wsX4_mostPrice rmX4_mostPrice (va_Pc [.ref (aL 0), .int v1] (PB (dC, dI) ct E0 sz (wL ct aL mL))) (Qi (dC, dI) ct (va_A (wL ct aL mL) sz) res (wL ct aL mL)) 0 0 (va_A (wL ct aL mL) sz) := by
  refine Met.ofW (cc := cX4_mostPrice) (maxL := 2) (ret := (some .int)) (by decide) rfl ?_
  intro p e s m args below meth c s₁ B hml hv
  obtain ⟨hargs, hsz, hP, hK, hD0, hE⟩ := hv
  have hx := B.exec
  have hb := B.bytes
  have hr := B.returns
  have hts := atoms_spec (ws := wsX4_mostPrice) B.pre
  have hown : s.vm.findClass RX4 = some m.cls := findClass_of_methodNamed B.named
  have hlocks := B.notSynchronized
  clear B s₁
  subst hsz
  have hD := hD0.self (sz := s.heap.size)
  clear hD0
  generalize hAe : va_A (wL ct aL mL) s.heap.size = A at hD hE ⊢
  have hA : ∀ q : Nat, s.heap.size ≤ q → A q := fun q h => by rw [← hAe]; exact Or.inr h
  clear hAe
  have hS : va_S A s.heap s.heap [] := va_S.rf
  refine cutQ (fun Q hQ => ?_)
  refine entryW (vs := [.ref (aL 0), .int v1]) hargs (Nat.le_of_ble_eq_true rfl) (fun ls hl => ?_)
  replace hl : lv_has ls 2 [(0, .ref (aL 0)), (1, .int v1)] := hl
  unfold mX4_mostPrice at hM
  refine lv_aload_n hx hb dX4_mostPrice_0 rfl (lv_at hl 0 rfl) ?_
  refine va_get (D := (dC, dI)) (ci := 1) (v := .ref (aL 3)) (C := RX1) (T := TX1) (N := 17) hx hb hts iwX4_mostPrice_X1 hown hK hP 0 rfl rfl 8 (by decide) (hts _ (List.mem_of_getElem? (i := 1) rfl)) (fun _ h9 => h9) rfl dX4_mostPrice_1 ?_
  refine lv_iload_n hx hb dX4_mostPrice_4 rfl (lv_at hl 1 rfl) ?_
  obtain ⟨hi, hM⟩ := gi_some hM
  refine va_iald hx hb hK hP 3 0 rfl rfl hi dX4_mostPrice_5 ?_
  refine lv_iconst (v := 1) hx hb dX4_mostPrice_6 (by decide) ?_
  refine lv_icmp_ge (tgt := 12) hx hb dX4_mostPrice_7 (by decide) (fun hc_1 => ?_) (fun hc_1 => ?_)
  · have hM := it_p hc_1 hM
    refine lv_sipush (v := 400) hx hb dX4_mostPrice_12 (by decide) ?_
    refine lv_aload_n hx hb dX4_mostPrice_15 rfl (lv_at hl 0 rfl) ?_
    refine va_get (D := (dC, dI)) (ci := 1) (v := .ref (aL 5)) (C := RX1) (T := TX1) (N := 17) hx hb hts iwX4_mostPrice_X1 hown hK hP 0 rfl rfl 10 (by decide) (hts _ (List.mem_of_getElem? (i := 2) rfl)) (fun _ h9 => h9) rfl dX4_mostPrice_16 ?_
    refine lv_iload_n hx hb dX4_mostPrice_19 rfl (lv_at hl 1 rfl) ?_
    obtain ⟨hi, hM⟩ := gi_some hM
    refine va_iald hx hb hK hP 5 0 rfl rfl hi dX4_mostPrice_20 ?_
    refine lv_bipush (v := 100) hx hb dX4_mostPrice_21 (by decide) ?_
    refine lv_imul hx hb dX4_mostPrice_23 ?_
    refine lv_aload_n hx hb dX4_mostPrice_24 rfl (lv_at hl 0 rfl) ?_
    refine va_get (D := (dC, dI)) (ci := 1) (v := .ref (aL 3)) (C := RX1) (T := TX1) (N := 17) hx hb hts iwX4_mostPrice_X1 hown hK hP 0 rfl rfl 8 (by decide) (hts _ (List.mem_of_getElem? (i := 1) rfl)) (fun _ h9 => h9) rfl dX4_mostPrice_25 ?_
    refine lv_iload_n hx hb dX4_mostPrice_28 rfl (lv_at hl 1 rfl) ?_
    obtain ⟨hi, hM⟩ := gi_some hM
    refine va_iald hx hb hK hP 3 0 rfl rfl hi dX4_mostPrice_29 ?_
    obtain ⟨hz, hM⟩ := gz_some hM
    refine lv_idiv hx hb dX4_mostPrice_30 hz ?_
    refine va_mmin hx hb (hml.trans hl.1.symm) hown (hts _ (List.mem_of_getElem? (i := 3) rfl)) (hts _ (List.mem_of_getElem? (i := 4) rfl)) (hts _ (List.mem_of_getElem? (i := 5) rfl)) (hts _ (List.mem_of_getElem? (i := 6) rfl)) (Nat.le_of_ble_eq_true rfl) (Nat.le_of_ble_eq_true rfl) (Nat.le_of_ble_eq_true rfl) (Nat.le_of_ble_eq_true rfl) dX4_mostPrice_31 ?_
    refine lv_topi (fun x_2 ex_2 => ?_)
    have hM := nm_at ex_2 hM
    have hR := som hM
    rw [hR] at hQ
    exact ret_i hQ hx hb hr hlocks hP hK hD hS dX4_mostPrice_34
  · have hM := it_n hc_1 hM
    refine lv_iconst (v := -1) hx hb dX4_mostPrice_10 (by decide) ?_
    have hR := som hM
    rw [hR] at hQ
    exact ret_i hQ hx hb hr hlocks hP hK hD hS dX4_mostPrice_11
abbrev rmX4_marginOf : Room := { frames := 2, cells := 0, slots := 0, locals := 42 }
set_option maxHeartbeats 4000000 in
set_option maxRecDepth 100000 in
theorem kX4_marginOf (l : Launch) (dC : Nat → ClassId) (dI : Nat → Nat → Nat) (ct : Nat → ClassId) (aL : Nat → Nat) (sz : Nat) (mL : Mem) (v1 : Int32) (v2 : Int32) (v3 : Int32) (v4 : Int32) (res : Int32) (hM : mX4_marginOf mL v1 v2 v3 v4 = some res) : Met l yX4_marginOf wsX4_marginOf rmX4_marginOf (va_Pc [.ref (aL 0), .int v1, .int v2, .int v3, .int v4] (PB (dC, dI) ct E0 sz (wL ct aL mL))) (Qi (dC, dI) ct (va_A (wL ct aL mL) sz) res (wL ct aL mL)) 0 0 (va_A (wL ct aL mL) sz) := by
  refine Met.ofW (cc := cX4_marginOf) (maxL := 7) (ret := (some .int)) (by decide) rfl ?_
  intro p e s m args below meth c s₁ B hml hv
  obtain ⟨hargs, hsz, hP, hK, hD0, hE⟩ := hv
  have hx := B.exec
  have hb := B.bytes
  have hr := B.returns
  have hts := atoms_spec (ws := wsX4_marginOf) B.pre
  have hown : s.vm.findClass RX4 = some m.cls := findClass_of_methodNamed B.named
  have hlocks := B.notSynchronized
  clear B s₁
  subst hsz
  have hD := hD0.self (sz := s.heap.size)
  clear hD0
  generalize hAe : va_A (wL ct aL mL) s.heap.size = A at hD hE ⊢
  have hA : ∀ q : Nat, s.heap.size ≤ q → A q := fun q h => by rw [← hAe]; exact Or.inr h
  clear hAe
  have hS : va_S A s.heap s.heap [] := va_S.rf
  refine cutQ (fun Q hQ => ?_)
  refine entryW (vs := [.ref (aL 0), .int v1, .int v2, .int v3, .int v4]) hargs (Nat.le_of_ble_eq_true rfl) (fun ls hl => ?_)
  replace hl : lv_has ls 7 [(0, .ref (aL 0)), (1, .int v1), (2, .int v2), (3, .int v3), (4, .int v4)] := hl
  unfold mX4_marginOf at hM
  refine lv_aload_n hx hb dX4_marginOf_0 rfl (lv_at hl 0 rfl) ?_
  refine lv_iload_n hx hb dX4_marginOf_1 rfl (lv_at hl 1 rfl) ?_
  obtain ⟨x_1, hr_2, hM⟩ := bn_some hM
  refine gv_i (r0 := x_1) (wn := (wL ct aL mL)) (va_runS (As := [.ref (aL 0), .int v1]) (rest := []) ⟨hx, hb, hml, hown, hts⟩ (kX4_mostPrice l dC dI ct aL _ mL v1 _ hr_2) (va_cwS 2 hts gX4_marginOf_X4_mostPrice rfl rfl rfl hvX4_mostPrice.2 ⟨Nat.le_of_ble_eq_true rfl, Nat.le_of_ble_eq_true rfl⟩) (preS_of E0_ok hK hP hD (is := [0, 1, 2, 3, 4, 5, 6, 7, 8, 9]) rfl rfl e_0) rfl rfl hl.1 rfl (lv_room (Nat.le_of_ble_eq_true rfl)) dX4_marginOf_2 ⟨Nat.le_of_ble_eq_true rfl, Nat.le_of_ble_eq_true rfl⟩) hP hD hS hA [0, 1, 2, 3, 4, 5, 6, 7, 8, 9] [] [0, 1, 2, 3, 4, 5, 6, 7, 8, 9] rfl rfl rfl (by decide) rfl rfl (fun H locs hP hD hS => ?_)
  refine lv_istore (lv' := [(5, .int x_1), (0, .ref (aL 0)), (1, .int v1), (2, .int v2), (3, .int v3), (4, .int v4)]) hx hb dX4_marginOf_5 hl (by decide) rfl (fun ls hl => ?_)
  refine lv_aload_n hx hb dX4_marginOf_7 rfl (lv_at hl 1 rfl) ?_
  refine lv_iload_n hx hb dX4_marginOf_8 rfl (lv_at hl 2 rfl) ?_
  refine lv_aload_n hx hb dX4_marginOf_9 rfl (lv_at hl 1 rfl) ?_
  refine lv_iload_n hx hb dX4_marginOf_10 rfl (lv_at hl 2 rfl) ?_
  refine lv_iload_n hx hb dX4_marginOf_11 rfl (lv_at hl 3 rfl) ?_
  refine lv_iload_n hx hb dX4_marginOf_12 rfl (lv_at hl 4 rfl) ?_
  refine lv_iload hx hb dX4_marginOf_13 (lv_at hl 5 rfl) ?_
  obtain ⟨x_4, hr_5, hM⟩ := bn_some hM
  refine gv_i (r0 := x_4) (wn := (wL ct aL mL)) (va_runS (As := [.ref (aL 0), .int v1, .int v2, .int v3, .int v4]) (rest := [.int v1, .ref (aL 0)]) ⟨hx, hb, hml, hown, hts⟩ (kX4_backOf l dC dI ct aL _ mL v1 v2 v3 v4 _ hr_5) (va_cwS 5 hts gX4_marginOf_X4_backOf rfl rfl rfl hvX4_backOf.2 ⟨Nat.le_of_ble_eq_true rfl, Nat.le_of_ble_eq_true rfl⟩) (preS_of E0_ok hK hP hD (is := [0, 1, 2, 3, 4, 5, 6, 7, 8, 9]) rfl rfl e_0) rfl rfl hl.1 rfl (lv_room (Nat.le_of_ble_eq_true rfl)) dX4_marginOf_15 ⟨Nat.le_of_ble_eq_true rfl, Nat.le_of_ble_eq_true rfl⟩) hP hD hS hA [0, 1, 2, 3, 4, 5, 6, 7, 8, 9] [] [0, 1, 2, 3, 4, 5, 6, 7, 8, 9] rfl rfl rfl (by decide) rfl rfl (fun H locs hP hD hS => ?_)
  obtain ⟨x_7, hr_8, hM⟩ := bn_some hM
  refine gv_i (r0 := x_7) (wn := (wL ct aL mL)) (va_runS (As := [.ref (aL 0), .int v1, .int x_4]) (rest := []) ⟨hx, hb, hml, hown, hts⟩ (kX4_leastPrice l dC dI ct aL _ mL v1 x_4 _ hr_8) (va_cwS 3 hts gX4_marginOf_X4_leastPrice rfl rfl rfl hvX4_leastPrice.2 ⟨Nat.le_of_ble_eq_true rfl, Nat.le_of_ble_eq_true rfl⟩) (preS_of E0_ok hK hP hD (is := [0, 1, 2, 3, 4, 5, 6, 7, 8, 9]) rfl rfl e_0) rfl rfl hl.1 rfl (lv_room (Nat.le_of_ble_eq_true rfl)) dX4_marginOf_18 ⟨Nat.le_of_ble_eq_true rfl, Nat.le_of_ble_eq_true rfl⟩) hP hD hS hA [0, 1, 2, 3, 4, 5, 6, 7, 8, 9] [] [0, 1, 2, 3, 4, 5, 6, 7, 8, 9] rfl rfl rfl (by decide) rfl rfl (fun H locs hP hD hS => ?_)
  refine lv_istore (lv' := [(6, .int x_7), (5, .int x_1), (0, .ref (aL 0)), (1, .int v1), (2, .int v2), (3, .int v3), (4, .int v4)]) hx hb dX4_marginOf_21 hl (by decide) rfl (fun ls hl => ?_)
  refine lv_iload hx hb dX4_marginOf_23 (lv_at hl 0 rfl) ?_
  refine lv_iconst (v := -1) hx hb dX4_marginOf_25 (by decide) ?_
  refine lv_icmp_eq (tgt := 36) hx hb dX4_marginOf_26 (by decide) (fun hc_10 => ?_) (fun hc_10 => ?_)
  · have hM := it_p hc_10 hM
    refine lv_iconst (v := -1) hx hb dX4_marginOf_36 (by decide) ?_
    refine lv_goto (tgt := 45) hx hb dX4_marginOf_37 (by decide) ?_
    have hR := som hM
    rw [hR] at hQ
    exact ret_i hQ hx hb hr hlocks hP hK hD hS dX4_marginOf_45
  · have hM := it_n hc_10 hM
    refine lv_iload hx hb dX4_marginOf_29 (lv_at hl 1 rfl) ?_
    refine lv_iload hx hb dX4_marginOf_31 (lv_at hl 0 rfl) ?_
    refine lv_icmp_ge (tgt := 40) hx hb dX4_marginOf_33 (by decide) (fun hc_11 => ?_) (fun hc_11 => ?_)
    · have hM := it_p hc_11 hM
      refine lv_iload hx hb dX4_marginOf_40 (lv_at hl 1 rfl) ?_
      refine lv_iload hx hb dX4_marginOf_42 (lv_at hl 0 rfl) ?_
      refine lv_isub hx hb dX4_marginOf_44 ?_
      refine lv_topi (fun x_12 ex_12 => ?_)
      have hM := nm_at ex_12 hM
      have hR := som hM
      rw [hR] at hQ
      exact ret_i hQ hx hb hr hlocks hP hK hD hS dX4_marginOf_45
    · have hM := it_n hc_11 hM
      refine lv_iconst (v := -1) hx hb dX4_marginOf_36 (by decide) ?_
      refine lv_goto (tgt := 45) hx hb dX4_marginOf_37 (by decide) ?_
      have hR := som hM
      rw [hR] at hQ
      exact ret_i hQ hx hb hr hlocks hP hK hD hS dX4_marginOf_45
abbrev rmX4_strikesLoansOfMoon : Room := { frames := 2, cells := 0, slots := 0, locals := 43 }
theorem iwX4_strikesLoansOfMoon_X1 : ∀ w ∈ wsX10, w ∈ wsX4_strikesLoansOfMoon := fun _ h => List.mem_cons_of_mem _ (List.mem_append_right _ (h))
set_option maxHeartbeats 4000000 in
set_option maxRecDepth 100000 in
theorem kX4_strikesLoansOfMoon (l : Launch) (dC : Nat → ClassId) (dI : Nat → Nat → Nat) (ct : Nat → ClassId) (aL : Nat → Nat) (sz : Nat) (mL : Mem) (v1 : Int32) (v2 : Int32) (res : Int32) (hM : mX4_strikesLoansOfMoon mL v1 v2 = some res) : Met l yX4_strikesLoansOfMoon wsX4_strikesLoansOfMoon rmX4_strikesLoansOfMoon (va_Pc [.ref (aL 0), .int v1, .int v2] (PB (dC, dI) ct E0 sz (wL ct aL mL))) (Qi (dC, dI) ct (va_A (wL ct aL mL) sz) res (wL ct aL mL)) 0 0 (va_A (wL ct aL mL) sz) := by
  refine Met.ofW (cc := cX4_strikesLoansOfMoon) (maxL := 3) (ret := (some .boolean)) (by decide) rfl ?_
  intro p e s m args below meth c s₁ B hml hv
  obtain ⟨hargs, hsz, hP, hK, hD0, hE⟩ := hv
  have hx := B.exec
  have hb := B.bytes
  have hr := B.returns
  have hts := atoms_spec (ws := wsX4_strikesLoansOfMoon) B.pre
  have hown : s.vm.findClass RX4 = some m.cls := findClass_of_methodNamed B.named
  have hlocks := B.notSynchronized
  clear B s₁
  subst hsz
  have hD := hD0.self (sz := s.heap.size)
  clear hD0
  generalize hAe : va_A (wL ct aL mL) s.heap.size = A at hD hE ⊢
  have hA : ∀ q : Nat, s.heap.size ≤ q → A q := fun q h => by rw [← hAe]; exact Or.inr h
  clear hAe
  have hS : va_S A s.heap s.heap [] := va_S.rf
  refine cutQ (fun Q hQ => ?_)
  refine entryW (vs := [.ref (aL 0), .int v1, .int v2]) hargs (Nat.le_of_ble_eq_true rfl) (fun ls hl => ?_)
  replace hl : lv_has ls 3 [(0, .ref (aL 0)), (1, .int v1), (2, .int v2)] := hl
  unfold mX4_strikesLoansOfMoon at hM
  refine lv_iload_n hx hb dX4_strikesLoansOfMoon_0 rfl (lv_at hl 1 rfl) ?_
  refine lv_if_le (tgt := 28) hx hb dX4_strikesLoansOfMoon_1 (by decide) (fun hc_1 => ?_) (fun hc_1 => ?_)
  · have hM := it_p hc_1 hM
    refine lv_iconst (v := 0) hx hb dX4_strikesLoansOfMoon_28 (by decide) ?_
    have hR := som hM
    rw [hR] at hQ
    exact ret_z hQ hx hb hr hlocks rfl hP hK hD hS dX4_strikesLoansOfMoon_29
  · have hM := it_n hc_1 hM
    refine lv_aload_n hx hb dX4_strikesLoansOfMoon_4 rfl (lv_at hl 0 rfl) ?_
    refine va_get (D := (dC, dI)) (ci := 1) (v := .int (mL 0 0)) (C := RX1) (T := TX1) (N := 17) hx hb hts iwX4_strikesLoansOfMoon_X1 hown hK hP 0 rfl rfl 0 (by decide) (hts _ (List.mem_of_getElem? (i := 1) rfl)) (fun _ h9 => h9) rfl dX4_strikesLoansOfMoon_5 ?_
    refine lv_iload_n hx hb dX4_strikesLoansOfMoon_8 rfl (lv_at hl 2 rfl) ?_
    refine lv_imul hx hb dX4_strikesLoansOfMoon_9 ?_
    refine lv_aload_n hx hb dX4_strikesLoansOfMoon_10 rfl (lv_at hl 0 rfl) ?_
    refine va_get (D := (dC, dI)) (ci := 1) (v := .int (mL 0 0)) (C := RX1) (T := TX1) (N := 17) hx hb hts iwX4_strikesLoansOfMoon_X1 hown hK hP 0 rfl rfl 0 (by decide) (hts _ (List.mem_of_getElem? (i := 1) rfl)) (fun _ h9 => h9) rfl dX4_strikesLoansOfMoon_11 ?_
    refine lv_iconst (v := 1) hx hb dX4_strikesLoansOfMoon_14 (by decide) ?_
    refine lv_isub hx hb dX4_strikesLoansOfMoon_15 ?_
    refine lv_aload_n hx hb dX4_strikesLoansOfMoon_16 rfl (lv_at hl 0 rfl) ?_
    obtain ⟨x_2, hr_3, hM⟩ := bn_some hM
    refine gv_i (r0 := x_2) (wn := (wL ct aL mL)) (va_runV (As := []) (rest := [.int ((mL 0 0) - (1 : Int32)), .int ((mL 0 0) * v2)]) ⟨hx, hb, hml, hown, hts⟩ (kX1_longestWork l dC dI ct aL _ mL _ hr_3) (cwV 0 hts gX4_strikesLoansOfMoon_X1_longestWork rfl rfl rfl hvX1_longestWork ⟨Nat.le_of_ble_eq_true rfl, Nat.le_of_ble_eq_true rfl⟩) (preV_of E0_ok hK hP hD (is := [0, 1, 2, 3, 4, 5, 6, 7, 8, 9]) rfl rfl rfl (ci := 1) rfl 0 rfl e_0) rfl rfl hl.1 rfl (lv_room (Nat.le_of_ble_eq_true rfl)) dX4_strikesLoansOfMoon_17 ⟨Nat.le_of_ble_eq_true rfl, Nat.le_of_ble_eq_true rfl⟩) hP hD hS hA [0, 1, 2, 3, 4, 5, 6, 7, 8, 9] [] [0, 1, 2, 3, 4, 5, 6, 7, 8, 9] rfl rfl rfl (by decide) rfl rfl (fun H locs hP hD hS => ?_)
    refine lv_iadd hx hb dX4_strikesLoansOfMoon_20 ?_
    refine lv_icmp_ge (tgt := 28) hx hb dX4_strikesLoansOfMoon_21 (by decide) (fun hc_5 => ?_) (fun hc_5 => ?_)
    · have hM := it_p hc_5 hM
      refine lv_iconst (v := 0) hx hb dX4_strikesLoansOfMoon_28 (by decide) ?_
      have hR := som hM
      rw [hR] at hQ
      exact ret_z hQ hx hb hr hlocks rfl hP hK hD hS dX4_strikesLoansOfMoon_29
    · have hM := it_n hc_5 hM
      refine lv_iconst (v := 1) hx hb dX4_strikesLoansOfMoon_24 (by decide) ?_
      refine lv_goto (tgt := 29) hx hb dX4_strikesLoansOfMoon_25 (by decide) ?_
      have hR := som hM
      rw [hR] at hQ
      exact ret_z hQ hx hb hr hlocks rfl hP hK hD hS dX4_strikesLoansOfMoon_29
abbrev rmX4_greatestMargin : Room := { frames := 0, cells := 0, slots := 0, locals := 0 }
theorem iwX4_greatestMargin_X4 : ∀ w ∈ wsX40, w ∈ wsX4_greatestMargin := fun _ h => List.mem_cons_of_mem _ (List.mem_append_right _ (h))
set_option maxHeartbeats 4000000 in
set_option maxRecDepth 100000 in
theorem kX4_greatestMargin (l : Launch) (dC : Nat → ClassId) (dI : Nat → Nat → Nat) (ct : Nat → ClassId) (aS : Nat → Nat) (sz : Nat) (mS : Mem) (v1 : Int32) (res : Int32) (hM : mX4_greatestMargin mS v1 = some res) : Met l yX4_greatestMargin wsX4_greatestMargin rmX4_greatestMargin (va_Pc [.ref (aS 0), .int v1] (PB (dC, dI) ct E0 sz (wS ct aS mS))) (Qi (dC, dI) ct (va_A (wS ct aS mS) sz) res (wS ct aS mS)) 0 0 (va_A (wS ct aS mS) sz) := by
  refine Met.ofW (cc := cX4_greatestMargin) (maxL := 5) (ret := (some .int)) (by decide) rfl ?_
  intro p e s m args below meth c s₁ B hml hv
  obtain ⟨hargs, hsz, hP, hK, hD0, hE⟩ := hv
  have hx := B.exec
  have hb := B.bytes
  have hr := B.returns
  have hts := atoms_spec (ws := wsX4_greatestMargin) B.pre
  have hown : s.vm.findClass RX4 = some m.cls := findClass_of_methodNamed B.named
  have hlocks := B.notSynchronized
  clear B s₁
  subst hsz
  have hD := hD0.self (sz := s.heap.size)
  clear hD0
  generalize hAe : va_A (wS ct aS mS) s.heap.size = A at hD hE ⊢
  have hA : ∀ q : Nat, s.heap.size ≤ q → A q := fun q h => by rw [← hAe]; exact Or.inr h
  clear hAe
  have hS : va_S A s.heap s.heap [] := va_S.rf
  refine cutQ (fun Q hQ => ?_)
  refine entryW (vs := [.ref (aS 0), .int v1]) hargs (Nat.le_of_ble_eq_true rfl) (fun ls hl => ?_)
  replace hl : lv_has ls 5 [(0, .ref (aS 0)), (1, .int v1)] := hl
  unfold mX4_greatestMargin at hM
  have N7 : ∀ (v1 : Int32) (v2 : Int32) (v3 : Int32) (v4 : Int32), mX4_greatestMargin_L7 v1 v2 v3 v4 mS = some res → ∀ (H : Heap) (locs : List Loc), va_P (dC, dI) vwCl (wS ct aS mS) H → va_D A (wS ct aS mS) → va_S A s.heap H locs → ∀ ls : Array Slot, lv_has ls 5 [(0, .ref (aS 0)), (1, .int v1), (2, .int v2), (3, .int v3), (4, .int v4)] → W p l e (headSpec wsX4_greatestMargin rmX4_greatestMargin).room s m args below meth c H locs 0 0 Q (F0 m 7 ls []) := by
    intro v1 v2 v3 v4 hM H locs hP hD hS ls hl
    unfold mX4_greatestMargin_L7 at hM
    obtain ⟨ex7, hit7, hM⟩ := bn_some hM
    have X7_0 : ∀ (v2 : Int32), ex7 = v2 → ∀ (H : Heap) (locs : List Loc), va_P (dC, dI) vwCl (wS ct aS mS) H → va_D A (wS ct aS mS) → va_S A s.heap H locs → ∀ ls : Array Slot, lv_has ls 5 [(2, .int v2)] → W p l e (headSpec wsX4_greatestMargin rmX4_greatestMargin).room s m args below meth c H locs 0 0 Q (F0 m 41 ls []) := by
      intro v2 hex H locs hP hD hS ls hl
      rw [hex] at hM
      have hM := nm_at (y := v2) rfl hM
      refine lv_iload_n hx hb dX4_greatestMargin_41 rfl (lv_at hl 0 rfl) ?_
      have hR := som hM
      rw [hR] at hQ
      exact ret_i hQ hx hb hr hlocks hP hK hD hS dX4_greatestMargin_42
    have I7 : ∀ (n : Nat) (v2 : Int32) (v3 : Int32) (v4 : Int32), itr (fun q => mX4_greatestMargin_s7 v1 mS q.1 q.2.1 q.2.2) n (v2, v3, v4) = some ex7 → ∀ (H : Heap) (locs : List Loc), va_P (dC, dI) vwCl (wS ct aS mS) H → va_D A (wS ct aS mS) → va_S A s.heap H locs → ∀ ls : Array Slot, lv_has ls 5 [(0, .ref (aS 0)), (1, .int v1), (2, .int v2), (3, .int v3), (4, .int v4)] → W p l e (headSpec wsX4_greatestMargin rmX4_greatestMargin).room s m args below meth c H locs 0 0 Q (F0 m 7 ls []) := by
      intro n
      induction n with
      | zero => intro v2 v3 v4 hit; exact (itr_zero hit).elim
      | succ n ih7 =>
        intro v2 v3 v4 hit H locs hP hD hS ls hl
        obtain ⟨o7, hM, hbk7, hex7⟩ := itr_succ hit
        replace hM : mX4_greatestMargin_s7 v1 mS v2 v3 v4 = some o7 := hM
        unfold mX4_greatestMargin_s7 at hM
        refine lv_iload hx hb dX4_greatestMargin_7 (lv_at hl 4 rfl) ?_
        refine lv_iload_n hx hb dX4_greatestMargin_9 rfl (lv_at hl 1 rfl) ?_
        refine lv_icmp_ge (tgt := 41) hx hb dX4_greatestMargin_10 (by decide) (fun hc_1 => ?_) (fun hc_1 => ?_)
        · have hM := it_p hc_1 hM
          have hR := som hM
          exact X7_0 v2 (hex7 _ hR).symm _ _ hP hD hS _ (lv_sub hl [2] rfl)
        · have hM := it_n hc_1 hM
          refine lv_aload_n hx hb dX4_greatestMargin_13 rfl (lv_at hl 0 rfl) ?_
          refine va_get (D := (dC, dI)) (ci := 4) (v := .ref (aS 3)) (C := RX4) (T := TX4) (N := 8) hx hb hts iwX4_greatestMargin_X4 hown hK hP 0 rfl rfl 7 (by decide) (hts _ (List.mem_of_getElem? (i := 1) rfl)) (fun _ h9 => h9) rfl dX4_greatestMargin_14 ?_
          refine lv_iload hx hb dX4_greatestMargin_17 (lv_at hl 4 rfl) ?_
          obtain ⟨hi, hM⟩ := gi_some hM
          refine va_iald hx hb hK hP 3 0 rfl rfl hi dX4_greatestMargin_19 ?_
          refine lv_iload_n hx hb dX4_greatestMargin_20 rfl (lv_at hl 3 rfl) ?_
          refine lv_icmp_le (tgt := 35) hx hb dX4_greatestMargin_21 (by decide) (fun hc_2 => ?_) (fun hc_2 => ?_)
          · have hM := it_p hc_2 hM
            obtain ⟨x_3, ex_3⟩ : ∃ y : Int32, y = (v4 + (1 : Int32)) := ⟨_, rfl⟩
            have hM := nm_at ex_3 hM
            refine lv_iinc (v := x_3) (lv' := [(4, .int x_3), (0, .ref (aS 0)), (1, .int v1), (2, .int v2), (3, .int v3)]) hx hb dX4_greatestMargin_35 hl (k := 4) rfl (by rw [ex_3]; rfl) (by decide) rfl (fun ls hl => ?_)
            refine lv_goto (tgt := 7) hx hb dX4_greatestMargin_38 (by decide) ?_
            have hR := som hM
            exact ih7 v2 v3 x_3 (hbk7 _ hR) _ _ hP hD hS _ (lv_sub hl [1, 2, 3, 4, 0] rfl)
          · have hM := it_n hc_2 hM
            refine lv_aload_n hx hb dX4_greatestMargin_24 rfl (lv_at hl 0 rfl) ?_
            refine va_get (D := (dC, dI)) (ci := 4) (v := .ref (aS 3)) (C := RX4) (T := TX4) (N := 8) hx hb hts iwX4_greatestMargin_X4 hown hK hP 0 rfl rfl 7 (by decide) (hts _ (List.mem_of_getElem? (i := 1) rfl)) (fun _ h9 => h9) rfl dX4_greatestMargin_25 ?_
            refine lv_iload hx hb dX4_greatestMargin_28 (lv_at hl 4 rfl) ?_
            obtain ⟨hi, hM⟩ := gi_some hM
            refine va_iald hx hb hK hP 3 0 rfl rfl hi dX4_greatestMargin_30 ?_
            refine lv_topi (fun x_4 ex_4 => ?_)
            have hM := nm_at ex_4 hM
            refine lv_istore_n (lv' := [(3, .int x_4), (0, .ref (aS 0)), (1, .int v1), (2, .int v2), (4, .int v4)]) hx hb dX4_greatestMargin_31 rfl hl (by decide) rfl (fun ls hl => ?_)
            refine lv_iload hx hb dX4_greatestMargin_32 (lv_at hl 4 rfl) ?_
            refine lv_istore_n (lv' := [(2, .int v4), (3, .int x_4), (0, .ref (aS 0)), (1, .int v1), (4, .int v4)]) hx hb dX4_greatestMargin_34 rfl hl (by decide) rfl (fun ls hl => ?_)
            obtain ⟨x_5, ex_5⟩ : ∃ y : Int32, y = (v4 + (1 : Int32)) := ⟨_, rfl⟩
            have hM := nm_at ex_5 hM
            refine lv_iinc (v := x_5) (lv' := [(4, .int x_5), (2, .int v4), (3, .int x_4), (0, .ref (aS 0)), (1, .int v1)]) hx hb dX4_greatestMargin_35 hl (k := 4) rfl (by rw [ex_5]; rfl) (by decide) rfl (fun ls hl => ?_)
            refine lv_goto (tgt := 7) hx hb dX4_greatestMargin_38 (by decide) ?_
            have hR := som hM
            exact ih7 v4 x_4 x_5 (hbk7 _ hR) _ _ hP hD hS _ (lv_sub hl [3, 4, 1, 2, 0] rfl)
    exact I7 FU v2 v3 v4 hit7 _ _ hP hD hS _ hl
  refine lv_iconst (v := -1) hx hb dX4_greatestMargin_0 (by decide) ?_
  refine lv_istore_n (lv' := [(2, .int (-1 : Int32)), (0, .ref (aS 0)), (1, .int v1)]) hx hb dX4_greatestMargin_1 rfl hl (by decide) rfl (fun ls hl => ?_)
  refine lv_iconst (v := -1) hx hb dX4_greatestMargin_2 (by decide) ?_
  refine lv_istore_n (lv' := [(3, .int (-1 : Int32)), (2, .int (-1 : Int32)), (0, .ref (aS 0)), (1, .int v1)]) hx hb dX4_greatestMargin_3 rfl hl (by decide) rfl (fun ls hl => ?_)
  refine lv_iconst (v := 0) hx hb dX4_greatestMargin_4 (by decide) ?_
  refine lv_istore (lv' := [(4, .int (0 : Int32)), (3, .int (-1 : Int32)), (2, .int (-1 : Int32)), (0, .ref (aS 0)), (1, .int v1)]) hx hb dX4_greatestMargin_5 hl (by decide) rfl (fun ls hl => ?_)
  exact N7 v1 (-1 : Int32) (-1 : Int32) (0 : Int32) hM _ _ hP hD hS _ (lv_sub hl [3, 4, 2, 1, 0] rfl)
abbrev rmX4_shareNight : Room := { frames := 3, cells := 0, slots := 0, locals := 68 }
theorem iwX4_shareNight_X1 : ∀ w ∈ wsX10, w ∈ wsX4_shareNight := fun _ h => List.mem_cons_of_mem _ (List.mem_append_left _ (List.mem_append_right _ (h)))
theorem iwX4_shareNight_X4 : ∀ w ∈ wsX40, w ∈ wsX4_shareNight := fun _ h => List.mem_cons_of_mem _ (List.mem_append_right _ (h))
set_option maxHeartbeats 4000000 in
set_option maxRecDepth 100000 in
theorem kX4_shareNight (l : Launch) (dC : Nat → ClassId) (dI : Nat → Nat → Nat) (ct : Nat → ClassId) (aS : Nat → Nat) (aL : Nat → Nat) (sz : Nat) (mS : Mem) (mL : Mem) (v2 : Int32) (v3 : Int32) (v4 : Int32) (res : Mem) (hM : mX4_shareNight mS mL v2 v3 v4 = some res) : Met l yX4_shareNight wsX4_shareNight rmX4_shareNight (va_Pc [.ref (aS 0), .ref (aL 0), .int v2, .int v3, .int v4] (PB (dC, dI) ct E0 sz (wS ct aS mS ++ wL ct aL mL))) (Qv (dC, dI) ct (va_A (wS ct aS mS ++ wL ct aL mL) sz) (wS ct aS res ++ wL ct aL mL)) 0 0 (va_A (wS ct aS mS ++ wL ct aL mL) sz) := by
  refine Met.ofW (cc := cX4_shareNight) (maxL := 8) (ret := none) (by decide) rfl ?_
  intro p e s m args below meth c s₁ B hml hv
  obtain ⟨hargs, hsz, hP, hK, hD0, hE⟩ := hv
  have hx := B.exec
  have hb := B.bytes
  have hr := B.returns
  have hts := atoms_spec (ws := wsX4_shareNight) B.pre
  have hown : s.vm.findClass RX4 = some m.cls := findClass_of_methodNamed B.named
  have hlocks := B.notSynchronized
  clear B s₁
  subst hsz
  have hD := hD0.self (sz := s.heap.size)
  clear hD0
  generalize hAe : va_A (wS ct aS mS ++ wL ct aL mL) s.heap.size = A at hD hE ⊢
  have hA : ∀ q : Nat, s.heap.size ≤ q → A q := fun q h => by rw [← hAe]; exact Or.inr h
  clear hAe
  have hS : va_S A s.heap s.heap [] := va_S.rf
  refine cutQ (fun Q hQ => ?_)
  refine entryW (vs := [.ref (aS 0), .ref (aL 0), .int v2, .int v3, .int v4]) hargs (Nat.le_of_ble_eq_true rfl) (fun ls hl => ?_)
  replace hl : lv_has ls 8 [(0, .ref (aS 0)), (1, .ref (aL 0)), (2, .int v2), (3, .int v3), (4, .int v4)] := hl
  unfold mX4_shareNight at hM
  have N52 : ∀ (v5 : Int32) (v6 : Int32) (mS : Mem), mX4_shareNight_L52 v5 v6 mS mL = some res → ∀ (H : Heap) (locs : List Loc), va_P (dC, dI) vwCl (wS ct aS mS ++ wL ct aL mL) H → va_D A (wS ct aS mS ++ wL ct aL mL) → va_S A s.heap H locs → ∀ ls : Array Slot, lv_has ls 8 [(0, .ref (aS 0)), (1, .ref (aL 0)), (5, .int v5), (6, .int v6)] → W p l e (headSpec wsX4_shareNight rmX4_shareNight).room s m args below meth c H locs 0 0 Q (F0 m 52 ls []) := by
    intro v5 v6 mS hM H locs hP hD hS ls hl
    unfold mX4_shareNight_L52 at hM
    obtain ⟨ex52, hit52, hM⟩ := bn_some hM
    have X52_0 : ∀ (mS : Mem), ex52 = (Sum.inl mS) → ∀ (H : Heap) (locs : List Loc), va_P (dC, dI) vwCl (wS ct aS mS ++ wL ct aL mL) H → va_D A (wS ct aS mS ++ wL ct aL mL) → va_S A s.heap H locs → ∀ ls : Array Slot, lv_has ls 8 [] → W p l e (headSpec wsX4_shareNight rmX4_shareNight).room s m args below meth c H locs 0 0 Q (F0 m 77 ls []) := by
      intro mS hex H locs hP hD hS ls hl
      have hM := el_l hex hM
      have hR := som hM
      rw [hR] at hQ
      exact ret_v hQ hx hb hr hlocks hP hK hD hS dX4_shareNight_77
    have X52_1 : ∀ (mS : Mem), ex52 = (Sum.inr mS) → ∀ (H : Heap) (locs : List Loc), va_P (dC, dI) vwCl (wS ct aS mS ++ wL ct aL mL) H → va_D A (wS ct aS mS ++ wL ct aL mL) → va_S A s.heap H locs → ∀ ls : Array Slot, lv_has ls 8 [] → W p l e (headSpec wsX4_shareNight rmX4_shareNight).room s m args below meth c H locs 0 0 Q (F0 m 131 ls []) := by
      intro mS hex H locs hP hD hS ls hl
      have hM := el_r hex hM
      have hR := som hM
      rw [hR] at hQ
      exact ret_v hQ hx hb hr hlocks hP hK hD hS dX4_shareNight_131
    have I52 : ∀ (n : Nat) (v5 : Int32) (v6 : Int32) (mS : Mem), itr (fun q => mX4_shareNight_s52 mL q.1 q.2.1 q.2.2) n (v5, v6, mS) = some ex52 → ∀ (H : Heap) (locs : List Loc), va_P (dC, dI) vwCl (wS ct aS mS ++ wL ct aL mL) H → va_D A (wS ct aS mS ++ wL ct aL mL) → va_S A s.heap H locs → ∀ ls : Array Slot, lv_has ls 8 [(0, .ref (aS 0)), (1, .ref (aL 0)), (5, .int v5), (6, .int v6)] → W p l e (headSpec wsX4_shareNight rmX4_shareNight).room s m args below meth c H locs 0 0 Q (F0 m 52 ls []) := by
      intro n
      induction n with
      | zero => intro v5 v6 mS hit; exact (itr_zero hit).elim
      | succ n ih52 =>
        intro v5 v6 mS hit H locs hP hD hS ls hl
        obtain ⟨o52, hM, hbk52, hex52⟩ := itr_succ hit
        replace hM : mX4_shareNight_s52 mL v5 v6 mS = some o52 := hM
        unfold mX4_shareNight_s52 at hM
        refine lv_iload hx hb dX4_shareNight_52 (lv_at hl 3 rfl) ?_
        refine lv_aload_n hx hb dX4_shareNight_54 rfl (lv_at hl 1 rfl) ?_
        refine va_get (D := (dC, dI)) (ci := 1) (v := .int (mL 0 5)) (C := RX1) (T := TX1) (N := 17) hx hb hts iwX4_shareNight_X1 hown hK hP 4 rfl rfl 5 (by decide) (hts _ (List.mem_of_getElem? (i := 1) rfl)) (fun _ h9 => h9) rfl dX4_shareNight_55 ?_
        refine lv_icmp_ge (tgt := 131) hx hb dX4_shareNight_58 (by decide) (fun hc_1 => ?_) (fun hc_1 => ?_)
        · have hM := it_p hc_1 hM
          have hR := som hM
          exact X52_1 mS (hex52 _ hR).symm _ _ hP hD hS _ (lv_sub hl [] rfl)
        · have hM := it_n hc_1 hM
          refine lv_aload_n hx hb dX4_shareNight_61 rfl (lv_at hl 0 rfl) ?_
          refine lv_aload_n hx hb dX4_shareNight_62 rfl (lv_at hl 1 rfl) ?_
          refine va_get (D := (dC, dI)) (ci := 1) (v := .int (mL 0 5)) (C := RX1) (T := TX1) (N := 17) hx hb hts iwX4_shareNight_X1 hown hK hP 4 rfl rfl 5 (by decide) (hts _ (List.mem_of_getElem? (i := 1) rfl)) (fun _ h9 => h9) rfl dX4_shareNight_63 ?_
          obtain ⟨x_2, hr_3, hM⟩ := bn_some hM
          refine gv_i (r0 := x_2) (wn := (wS ct aS mS ++ wL ct aL mL)) (va_runV (As := [.int (mL 0 5)]) (rest := []) ⟨hx, hb, hml, hown, hts⟩ (kX4_greatestMargin l dC dI ct aS _ mS (mL 0 5) _ hr_3) (cwV 1 hts gX4_shareNight_X4_greatestMargin rfl rfl rfl hvX4_greatestMargin ⟨Nat.le_of_ble_eq_true rfl, Nat.le_of_ble_eq_true rfl⟩) (preV_of E0_ok hK hP hD (is := [0, 1, 2, 3]) rfl rfl rfl (ci := 4) rfl 0 rfl e_0) rfl rfl hl.1 rfl (lv_room (Nat.le_of_ble_eq_true rfl)) dX4_shareNight_66 ⟨Nat.le_of_ble_eq_true rfl, Nat.le_of_ble_eq_true rfl⟩) hP hD hS hA [0, 1, 2, 3] [4, 5, 6, 7, 8, 9, 10, 11, 12, 13] [10, 11, 12, 13, 0, 1, 2, 3, 4, 5, 6, 7, 8, 9] rfl rfl rfl (by decide) rfl rfl (fun H locs hP hD hS => ?_)
          refine lv_istore (lv' := [(7, .int x_2), (0, .ref (aS 0)), (1, .ref (aL 0)), (5, .int v5), (6, .int v6)]) hx hb dX4_shareNight_69 hl (by decide) rfl (fun ls hl => ?_)
          refine lv_iload hx hb dX4_shareNight_71 (lv_at hl 0 rfl) ?_
          refine lv_iconst (v := -1) hx hb dX4_shareNight_73 (by decide) ?_
          refine lv_icmp_ne (tgt := 78) hx hb dX4_shareNight_74 (by decide) (fun hc_5 => ?_) (fun hc_5 => ?_)
          · have hM := it_p hc_5 hM
            refine lv_aload_n hx hb dX4_shareNight_78 rfl (lv_at hl 1 rfl) ?_
            refine va_get (D := (dC, dI)) (ci := 4) (v := .ref (aS 1)) (C := RX4) (T := TX4) (N := 8) hx hb hts iwX4_shareNight_X4 hown hK hP 0 rfl rfl 0 (by decide) (hts _ (List.mem_of_getElem? (i := 2) rfl)) (fun _ h9 => h9) rfl dX4_shareNight_79 ?_
            refine lv_iload hx hb dX4_shareNight_82 (lv_at hl 0 rfl) ?_
            refine lv_iload hx hb dX4_shareNight_84 (lv_at hl 3 rfl) ?_
            refine lv_aload_n hx hb dX4_shareNight_86 rfl (lv_at hl 2 rfl) ?_
            refine va_get (D := (dC, dI)) (ci := 1) (v := .ref (aL 1)) (C := RX1) (T := TX1) (N := 17) hx hb hts iwX4_shareNight_X1 hown hK hP 4 rfl rfl 6 (by decide) (hts _ (List.mem_of_getElem? (i := 4) rfl)) (fun _ h9 => h9) rfl dX4_shareNight_87 ?_
            refine lv_iload hx hb dX4_shareNight_90 (lv_at hl 0 rfl) ?_
            obtain ⟨hi, hM⟩ := gi_some hM
            refine va_iald hx hb hK hP 5 0 rfl rfl hi dX4_shareNight_92 ?_
            refine lv_aload_n hx hb dX4_shareNight_93 rfl (lv_at hl 2 rfl) ?_
            refine va_get (D := (dC, dI)) (ci := 1) (v := .ref (aL 3)) (C := RX1) (T := TX1) (N := 17) hx hb hts iwX4_shareNight_X1 hown hK hP 4 rfl rfl 8 (by decide) (hts _ (List.mem_of_getElem? (i := 5) rfl)) (fun _ h9 => h9) rfl dX4_shareNight_94 ?_
            refine lv_iload hx hb dX4_shareNight_97 (lv_at hl 0 rfl) ?_
            obtain ⟨hi, hM⟩ := gi_some hM
            refine va_iald hx hb hK hP 7 0 rfl rfl hi dX4_shareNight_99 ?_
            refine lv_imul hx hb dX4_shareNight_100 ?_
            refine va_mmin hx hb (hml.trans hl.1.symm) hown (hts _ (List.mem_of_getElem? (i := 6) rfl)) (hts _ (List.mem_of_getElem? (i := 7) rfl)) (hts _ (List.mem_of_getElem? (i := 8) rfl)) (hts _ (List.mem_of_getElem? (i := 9) rfl)) (Nat.le_of_ble_eq_true rfl) (Nat.le_of_ble_eq_true rfl) (Nat.le_of_ble_eq_true rfl) (Nat.le_of_ble_eq_true rfl) dX4_shareNight_101 ?_
            refine lv_topi (fun x_6 ex_6 => ?_)
            have hM := nm_at ex_6 hM
            obtain ⟨hi, hM⟩ := gi_some hM
            refine st_i (wf := fun z => (wS ct aS z ++ wL ct aL mL)) (m1 := upi mS 1 x_2.toNatClampNeg x_6) hx hb hK hP hD hS 1 rfl hi dX4_shareNight_104 rfl (fun mS_7 emS_7 H locs hP hD hS => ?_)
            have hM := nm_at emS_7 hM
            refine lv_iload hx hb dX4_shareNight_105 (lv_at hl 3 rfl) ?_
            refine lv_aload_n hx hb dX4_shareNight_107 rfl (lv_at hl 1 rfl) ?_
            refine va_get (D := (dC, dI)) (ci := 4) (v := .ref (aS 1)) (C := RX4) (T := TX4) (N := 8) hx hb hts iwX4_shareNight_X4 hown hK hP 0 rfl rfl 0 (by decide) (hts _ (List.mem_of_getElem? (i := 2) rfl)) (fun _ h9 => h9) rfl dX4_shareNight_108 ?_
            refine lv_iload hx hb dX4_shareNight_111 (lv_at hl 0 rfl) ?_
            obtain ⟨hi, hM⟩ := gi_some hM
            refine va_iald hx hb hK hP 1 0 rfl rfl hi dX4_shareNight_113 ?_
            refine lv_isub hx hb dX4_shareNight_114 ?_
            refine lv_topi (fun x_8 ex_8 => ?_)
            have hM := nm_at ex_8 hM
            refine lv_istore (lv' := [(5, .int x_8), (7, .int x_2), (0, .ref (aS 0)), (1, .ref (aL 0)), (6, .int v6)]) hx hb dX4_shareNight_115 hl (by decide) rfl (fun ls hl => ?_)
            refine lv_aload_n hx hb dX4_shareNight_117 rfl (lv_at hl 2 rfl) ?_
            refine va_get (D := (dC, dI)) (ci := 4) (v := .ref (aS 3)) (C := RX4) (T := TX4) (N := 8) hx hb hts iwX4_shareNight_X4 hown hK hP 0 rfl rfl 7 (by decide) (hts _ (List.mem_of_getElem? (i := 3) rfl)) (fun _ h9 => h9) rfl dX4_shareNight_118 ?_
            refine lv_iload hx hb dX4_shareNight_121 (lv_at hl 1 rfl) ?_
            refine lv_iconst (v := -1) hx hb dX4_shareNight_123 (by decide) ?_
            obtain ⟨hi, hM⟩ := gi_some hM
            refine st_i (wf := fun z => (wS ct aS z ++ wL ct aL mL)) (m1 := upi mS_7 3 x_2.toNatClampNeg (-1 : Int32)) hx hb hK hP hD hS 3 rfl hi dX4_shareNight_124 rfl (fun mS_9 emS_9 H locs hP hD hS => ?_)
            have hM := nm_at emS_9 hM
            obtain ⟨x_10, ex_10⟩ : ∃ y : Int32, y = (v6 + (1 : Int32)) := ⟨_, rfl⟩
            have hM := nm_at ex_10 hM
            refine lv_iinc (v := x_10) (lv' := [(6, .int x_10), (5, .int x_8), (7, .int x_2), (0, .ref (aS 0)), (1, .ref (aL 0))]) hx hb dX4_shareNight_125 hl (k := 4) rfl (by rw [ex_10]; rfl) (by decide) rfl (fun ls hl => ?_)
            refine lv_goto (tgt := 52) hx hb dX4_shareNight_128 (by decide) ?_
            have hR := som hM
            exact ih52 x_8 x_10 mS_9 (hbk52 _ hR) _ _ hP hD hS _ (lv_sub hl [3, 4, 1, 0] rfl)
          · have hM := it_nn hc_5 hM
            have hR := som hM
            exact X52_0 mS (hex52 _ hR).symm _ _ hP hD hS _ (lv_sub hl [] rfl)
    exact I52 FU v5 v6 mS hit52 _ _ hP hD hS _ hl
  have N3 : ∀ (v2 : Int32) (v3 : Int32) (v4 : Int32) (v5 : Int32) (mS : Mem), mX4_shareNight_L3 v2 v3 v4 v5 mS mL = some res → ∀ (H : Heap) (locs : List Loc), va_P (dC, dI) vwCl (wS ct aS mS ++ wL ct aL mL) H → va_D A (wS ct aS mS ++ wL ct aL mL) → va_S A s.heap H locs → ∀ ls : Array Slot, lv_has ls 8 [(0, .ref (aS 0)), (1, .ref (aL 0)), (2, .int v2), (3, .int v3), (4, .int v4), (5, .int v5)] → W p l e (headSpec wsX4_shareNight rmX4_shareNight).room s m args below meth c H locs 0 0 Q (F0 m 3 ls []) := by
    intro v2 v3 v4 v5 mS hM H locs hP hD hS ls hl
    unfold mX4_shareNight_L3 at hM
    obtain ⟨ex3, hit3, hM⟩ := bn_some hM
    have X3_0 : ∀ (mS : Mem), ex3 = mS → ∀ (H : Heap) (locs : List Loc), va_P (dC, dI) vwCl (wS ct aS mS ++ wL ct aL mL) H → va_D A (wS ct aS mS ++ wL ct aL mL) → va_S A s.heap H locs → ∀ ls : Array Slot, lv_has ls 8 [(0, .ref (aS 0)), (1, .ref (aL 0))] → W p l e (headSpec wsX4_shareNight rmX4_shareNight).room s m args below meth c H locs 0 0 Q (F0 m 43 ls []) := by
      intro mS hex H locs hP hD hS ls hl
      rw [hex] at hM
      have hM := nm_at (y := mS) rfl hM
      refine lv_aload_n hx hb dX4_shareNight_43 rfl (lv_at hl 1 rfl) ?_
      obtain ⟨x_11, hr_12, hM⟩ := bn_some hM
      refine gv_i (r0 := x_11) (wn := (wS ct aS mS ++ wL ct aL mL)) (va_runV (As := []) (rest := []) ⟨hx, hb, hml, hown, hts⟩ (kX1_allCoin l dC dI ct aL _ mL _ hr_12) (cwV 0 hts gX4_shareNight_X1_allCoin rfl rfl rfl hvX1_allCoin ⟨Nat.le_of_ble_eq_true rfl, Nat.le_of_ble_eq_true rfl⟩) (preV_of E0_ok hK hP hD (is := [4, 5, 6, 7, 8, 9, 10, 11, 12, 13]) rfl rfl rfl (ci := 1) rfl 4 rfl e_0) rfl rfl hl.1 rfl (lv_room (Nat.le_of_ble_eq_true rfl)) dX4_shareNight_44 ⟨Nat.le_of_ble_eq_true rfl, Nat.le_of_ble_eq_true rfl⟩) hP hD hS hA [4, 5, 6, 7, 8, 9, 10, 11, 12, 13] [0, 1, 2, 3] [0, 1, 2, 3, 4, 5, 6, 7, 8, 9, 10, 11, 12, 13] rfl rfl rfl (by decide) rfl rfl (fun H locs hP hD hS => ?_)
      refine lv_istore (lv' := [(5, .int x_11), (0, .ref (aS 0)), (1, .ref (aL 0))]) hx hb dX4_shareNight_47 hl (by decide) rfl (fun ls hl => ?_)
      refine lv_iconst (v := 0) hx hb dX4_shareNight_49 (by decide) ?_
      refine lv_istore (lv' := [(6, .int (0 : Int32)), (5, .int x_11), (0, .ref (aS 0)), (1, .ref (aL 0))]) hx hb dX4_shareNight_50 hl (by decide) rfl (fun ls hl => ?_)
      exact N52 x_11 (0 : Int32) mS hM _ _ hP hD hS _ (lv_sub hl [2, 3, 1, 0] rfl)
    have I3 : ∀ (n : Nat) (v5 : Int32) (mS : Mem), itr (fun q => mX4_shareNight_s3 v2 v3 v4 mL q.1 q.2) n (v5, mS) = some ex3 → ∀ (H : Heap) (locs : List Loc), va_P (dC, dI) vwCl (wS ct aS mS ++ wL ct aL mL) H → va_D A (wS ct aS mS ++ wL ct aL mL) → va_S A s.heap H locs → ∀ ls : Array Slot, lv_has ls 8 [(0, .ref (aS 0)), (1, .ref (aL 0)), (2, .int v2), (3, .int v3), (4, .int v4), (5, .int v5)] → W p l e (headSpec wsX4_shareNight rmX4_shareNight).room s m args below meth c H locs 0 0 Q (F0 m 3 ls []) := by
      intro n
      induction n with
      | zero => intro v5 mS hit; exact (itr_zero hit).elim
      | succ n ih3 =>
        intro v5 mS hit H locs hP hD hS ls hl
        obtain ⟨o3, hM, hbk3, hex3⟩ := itr_succ hit
        replace hM : mX4_shareNight_s3 v2 v3 v4 mL v5 mS = some o3 := hM
        unfold mX4_shareNight_s3 at hM
        refine lv_iload hx hb dX4_shareNight_3 (lv_at hl 5 rfl) ?_
        refine lv_aload_n hx hb dX4_shareNight_5 rfl (lv_at hl 1 rfl) ?_
        refine va_get (D := (dC, dI)) (ci := 1) (v := .int (mL 0 5)) (C := RX1) (T := TX1) (N := 17) hx hb hts iwX4_shareNight_X1 hown hK hP 4 rfl rfl 5 (by decide) (hts _ (List.mem_of_getElem? (i := 1) rfl)) (fun _ h9 => h9) rfl dX4_shareNight_6 ?_
        refine lv_icmp_ge (tgt := 43) hx hb dX4_shareNight_9 (by decide) (fun hc_14 => ?_) (fun hc_14 => ?_)
        · have hM := it_p hc_14 hM
          have hR := som hM
          exact X3_0 mS (hex3 _ hR).symm _ _ hP hD hS _ (lv_sub hl [0, 1] rfl)
        · have hM := it_n hc_14 hM
          refine lv_aload_n hx hb dX4_shareNight_12 rfl (lv_at hl 0 rfl) ?_
          refine va_get (D := (dC, dI)) (ci := 4) (v := .ref (aS 1)) (C := RX4) (T := TX4) (N := 8) hx hb hts iwX4_shareNight_X4 hown hK hP 0 rfl rfl 0 (by decide) (hts _ (List.mem_of_getElem? (i := 2) rfl)) (fun _ h9 => h9) rfl dX4_shareNight_13 ?_
          refine lv_iload hx hb dX4_shareNight_16 (lv_at hl 5 rfl) ?_
          refine lv_iconst (v := 0) hx hb dX4_shareNight_18 (by decide) ?_
          obtain ⟨hi, hM⟩ := gi_some hM
          refine st_i (wf := fun z => (wS ct aS z ++ wL ct aL mL)) (m1 := upi mS 1 v5.toNatClampNeg (0 : Int32)) hx hb hK hP hD hS 1 rfl hi dX4_shareNight_19 rfl (fun mS_15 emS_15 H locs hP hD hS => ?_)
          have hM := nm_at emS_15 hM
          refine lv_aload_n hx hb dX4_shareNight_20 rfl (lv_at hl 0 rfl) ?_
          refine va_get (D := (dC, dI)) (ci := 4) (v := .ref (aS 3)) (C := RX4) (T := TX4) (N := 8) hx hb hts iwX4_shareNight_X4 hown hK hP 0 rfl rfl 7 (by decide) (hts _ (List.mem_of_getElem? (i := 3) rfl)) (fun _ h9 => h9) rfl dX4_shareNight_21 ?_
          refine lv_iload hx hb dX4_shareNight_24 (lv_at hl 5 rfl) ?_
          refine lv_aload_n hx hb dX4_shareNight_26 rfl (lv_at hl 1 rfl) ?_
          refine lv_iload hx hb dX4_shareNight_27 (lv_at hl 5 rfl) ?_
          refine lv_iload_n hx hb dX4_shareNight_29 rfl (lv_at hl 2 rfl) ?_
          refine lv_iload_n hx hb dX4_shareNight_30 rfl (lv_at hl 3 rfl) ?_
          refine lv_iload hx hb dX4_shareNight_31 (lv_at hl 4 rfl) ?_
          obtain ⟨x_16, hr_17, hM⟩ := bn_some hM
          refine gv_i (r0 := x_16) (wn := (wS ct aS mS_15 ++ wL ct aL mL)) (va_runS (As := [.ref (aL 0), .int v5, .int v2, .int v3, .int v4]) (rest := [.int v5, .ref (aS 3)]) ⟨hx, hb, hml, hown, hts⟩ (kX4_marginOf l dC dI ct aL _ mL v5 v2 v3 v4 _ hr_17) (va_cwS 5 hts gX4_shareNight_X4_marginOf rfl rfl rfl hvX4_marginOf.2 ⟨Nat.le_of_ble_eq_true rfl, Nat.le_of_ble_eq_true rfl⟩) (preS_of E0_ok hK hP hD (is := [4, 5, 6, 7, 8, 9, 10, 11, 12, 13]) rfl rfl e_0) rfl rfl hl.1 rfl (lv_room (Nat.le_of_ble_eq_true rfl)) dX4_shareNight_33 ⟨Nat.le_of_ble_eq_true rfl, Nat.le_of_ble_eq_true rfl⟩) hP hD hS hA [4, 5, 6, 7, 8, 9, 10, 11, 12, 13] [0, 1, 2, 3] [0, 1, 2, 3, 4, 5, 6, 7, 8, 9, 10, 11, 12, 13] rfl rfl rfl (by decide) rfl rfl (fun H locs hP hD hS => ?_)
          obtain ⟨hi, hM⟩ := gi_some hM
          refine st_i (wf := fun z => (wS ct aS z ++ wL ct aL mL)) (m1 := upi mS_15 3 v5.toNatClampNeg x_16) hx hb hK hP hD hS 3 rfl hi dX4_shareNight_36 rfl (fun mS_19 emS_19 H locs hP hD hS => ?_)
          have hM := nm_at emS_19 hM
          obtain ⟨x_20, ex_20⟩ : ∃ y : Int32, y = (v5 + (1 : Int32)) := ⟨_, rfl⟩
          have hM := nm_at ex_20 hM
          refine lv_iinc (v := x_20) (lv' := [(5, .int x_20), (0, .ref (aS 0)), (1, .ref (aL 0)), (2, .int v2), (3, .int v3), (4, .int v4)]) hx hb dX4_shareNight_37 hl (k := 5) rfl (by rw [ex_20]; rfl) (by decide) rfl (fun ls hl => ?_)
          refine lv_goto (tgt := 3) hx hb dX4_shareNight_40 (by decide) ?_
          have hR := som hM
          exact ih3 x_20 mS_19 (hbk3 _ hR) _ _ hP hD hS _ (lv_sub hl [1, 2, 3, 4, 5, 0] rfl)
    exact I3 FU v5 mS hit3 _ _ hP hD hS _ hl
  refine lv_iconst (v := 0) hx hb dX4_shareNight_0 (by decide) ?_
  refine lv_istore (lv' := [(5, .int (0 : Int32)), (0, .ref (aS 0)), (1, .ref (aL 0)), (2, .int v2), (3, .int v3), (4, .int v4)]) hx hb dX4_shareNight_1 hl (by decide) rfl (fun ls hl => ?_)
  exact N3 v2 v3 v4 (0 : Int32) mS hM _ _ hP hD hS _ (lv_sub hl [1, 2, 3, 4, 5, 0] rfl)
abbrev rmX4_sownTonight : Room := { frames := 0, cells := 0, slots := 0, locals := 0 }
theorem iwX4_sownTonight_X1 : ∀ w ∈ wsX10, w ∈ wsX4_sownTonight := fun _ h => List.mem_cons_of_mem _ (List.mem_append_left _ (List.mem_append_right _ (h)))
theorem iwX4_sownTonight_X4 : ∀ w ∈ wsX40, w ∈ wsX4_sownTonight := fun _ h => List.mem_cons_of_mem _ (List.mem_append_right _ (h))
set_option maxHeartbeats 4000000 in
set_option maxRecDepth 100000 in
theorem kX4_sownTonight (l : Launch) (dC : Nat → ClassId) (dI : Nat → Nat → Nat) (ct : Nat → ClassId) (aS : Nat → Nat) (aL : Nat → Nat) (sz : Nat) (mS : Mem) (mL : Mem) (res : Int32) (hM : mX4_sownTonight mS mL = some res) : Met l yX4_sownTonight wsX4_sownTonight rmX4_sownTonight (va_Pc [.ref (aS 0), .ref (aL 0)] (PB (dC, dI) ct E0 sz (wS ct aS mS ++ wL ct aL mL))) (Qi (dC, dI) ct (va_A (wS ct aS mS ++ wL ct aL mL) sz) res (wS ct aS mS ++ wL ct aL mL)) 0 0 (va_A (wS ct aS mS ++ wL ct aL mL) sz) := by
  refine Met.ofW (cc := cX4_sownTonight) (maxL := 4) (ret := (some .int)) (by decide) rfl ?_
  intro p e s m args below meth c s₁ B hml hv
  obtain ⟨hargs, hsz, hP, hK, hD0, hE⟩ := hv
  have hx := B.exec
  have hb := B.bytes
  have hr := B.returns
  have hts := atoms_spec (ws := wsX4_sownTonight) B.pre
  have hown : s.vm.findClass RX4 = some m.cls := findClass_of_methodNamed B.named
  have hlocks := B.notSynchronized
  clear B s₁
  subst hsz
  have hD := hD0.self (sz := s.heap.size)
  clear hD0
  generalize hAe : va_A (wS ct aS mS ++ wL ct aL mL) s.heap.size = A at hD hE ⊢
  have hA : ∀ q : Nat, s.heap.size ≤ q → A q := fun q h => by rw [← hAe]; exact Or.inr h
  clear hAe
  have hS : va_S A s.heap s.heap [] := va_S.rf
  refine cutQ (fun Q hQ => ?_)
  refine entryW (vs := [.ref (aS 0), .ref (aL 0)]) hargs (Nat.le_of_ble_eq_true rfl) (fun ls hl => ?_)
  replace hl : lv_has ls 4 [(0, .ref (aS 0)), (1, .ref (aL 0))] := hl
  unfold mX4_sownTonight at hM
  have N4 : ∀ (v2 : Int32) (v3 : Int32), mX4_sownTonight_L4 v2 v3 mS mL = some res → ∀ (H : Heap) (locs : List Loc), va_P (dC, dI) vwCl (wS ct aS mS ++ wL ct aL mL) H → va_D A (wS ct aS mS ++ wL ct aL mL) → va_S A s.heap H locs → ∀ ls : Array Slot, lv_has ls 4 [(0, .ref (aS 0)), (1, .ref (aL 0)), (2, .int v2), (3, .int v3)] → W p l e (headSpec wsX4_sownTonight rmX4_sownTonight).room s m args below meth c H locs 0 0 Q (F0 m 4 ls []) := by
    intro v2 v3 hM H locs hP hD hS ls hl
    unfold mX4_sownTonight_L4 at hM
    obtain ⟨ex4, hit4, hM⟩ := bn_some hM
    have X4_0 : ∀ (v2 : Int32), ex4 = v2 → ∀ (H : Heap) (locs : List Loc), va_P (dC, dI) vwCl (wS ct aS mS ++ wL ct aL mL) H → va_D A (wS ct aS mS ++ wL ct aL mL) → va_S A s.heap H locs → ∀ ls : Array Slot, lv_has ls 4 [(2, .int v2)] → W p l e (headSpec wsX4_sownTonight rmX4_sownTonight).room s m args below meth c H locs 0 0 Q (F0 m 27 ls []) := by
      intro v2 hex H locs hP hD hS ls hl
      rw [hex] at hM
      have hM := nm_at (y := v2) rfl hM
      refine lv_iload_n hx hb dX4_sownTonight_27 rfl (lv_at hl 0 rfl) ?_
      have hR := som hM
      rw [hR] at hQ
      exact ret_i hQ hx hb hr hlocks hP hK hD hS dX4_sownTonight_28
    have I4 : ∀ (n : Nat) (v2 : Int32) (v3 : Int32), itr (fun q => mX4_sownTonight_s4 mS mL q.1 q.2) n (v2, v3) = some ex4 → ∀ (H : Heap) (locs : List Loc), va_P (dC, dI) vwCl (wS ct aS mS ++ wL ct aL mL) H → va_D A (wS ct aS mS ++ wL ct aL mL) → va_S A s.heap H locs → ∀ ls : Array Slot, lv_has ls 4 [(0, .ref (aS 0)), (1, .ref (aL 0)), (2, .int v2), (3, .int v3)] → W p l e (headSpec wsX4_sownTonight rmX4_sownTonight).room s m args below meth c H locs 0 0 Q (F0 m 4 ls []) := by
      intro n
      induction n with
      | zero => intro v2 v3 hit; exact (itr_zero hit).elim
      | succ n ih4 =>
        intro v2 v3 hit H locs hP hD hS ls hl
        obtain ⟨o4, hM, hbk4, hex4⟩ := itr_succ hit
        replace hM : mX4_sownTonight_s4 mS mL v2 v3 = some o4 := hM
        unfold mX4_sownTonight_s4 at hM
        refine lv_iload_n hx hb dX4_sownTonight_4 rfl (lv_at hl 3 rfl) ?_
        refine lv_aload_n hx hb dX4_sownTonight_5 rfl (lv_at hl 1 rfl) ?_
        refine va_get (D := (dC, dI)) (ci := 1) (v := .int (mL 0 5)) (C := RX1) (T := TX1) (N := 17) hx hb hts iwX4_sownTonight_X1 hown hK hP 4 rfl rfl 5 (by decide) (hts _ (List.mem_of_getElem? (i := 1) rfl)) (fun _ h9 => h9) rfl dX4_sownTonight_6 ?_
        refine lv_icmp_ge (tgt := 27) hx hb dX4_sownTonight_9 (by decide) (fun hc_1 => ?_) (fun hc_1 => ?_)
        · have hM := it_p hc_1 hM
          have hR := som hM
          exact X4_0 v2 (hex4 _ hR).symm _ _ hP hD hS _ (lv_sub hl [2] rfl)
        · have hM := it_n hc_1 hM
          refine lv_iload_n hx hb dX4_sownTonight_12 rfl (lv_at hl 2 rfl) ?_
          refine lv_aload_n hx hb dX4_sownTonight_13 rfl (lv_at hl 0 rfl) ?_
          refine va_get (D := (dC, dI)) (ci := 4) (v := .ref (aS 1)) (C := RX4) (T := TX4) (N := 8) hx hb hts iwX4_sownTonight_X4 hown hK hP 0 rfl rfl 0 (by decide) (hts _ (List.mem_of_getElem? (i := 2) rfl)) (fun _ h9 => h9) rfl dX4_sownTonight_14 ?_
          refine lv_iload_n hx hb dX4_sownTonight_17 rfl (lv_at hl 3 rfl) ?_
          obtain ⟨hi, hM⟩ := gi_some hM
          refine va_iald hx hb hK hP 1 0 rfl rfl hi dX4_sownTonight_18 ?_
          refine lv_iadd hx hb dX4_sownTonight_19 ?_
          refine lv_topi (fun x_2 ex_2 => ?_)
          have hM := nm_at ex_2 hM
          refine lv_istore_n (lv' := [(2, .int x_2), (0, .ref (aS 0)), (1, .ref (aL 0)), (3, .int v3)]) hx hb dX4_sownTonight_20 rfl hl (by decide) rfl (fun ls hl => ?_)
          obtain ⟨x_3, ex_3⟩ : ∃ y : Int32, y = (v3 + (1 : Int32)) := ⟨_, rfl⟩
          have hM := nm_at ex_3 hM
          refine lv_iinc (v := x_3) (lv' := [(3, .int x_3), (2, .int x_2), (0, .ref (aS 0)), (1, .ref (aL 0))]) hx hb dX4_sownTonight_21 hl (k := 3) rfl (by rw [ex_3]; rfl) (by decide) rfl (fun ls hl => ?_)
          refine lv_goto (tgt := 4) hx hb dX4_sownTonight_24 (by decide) ?_
          have hR := som hM
          exact ih4 x_2 x_3 (hbk4 _ hR) _ _ hP hD hS _ (lv_sub hl [2, 3, 1, 0] rfl)
    exact I4 FU v2 v3 hit4 _ _ hP hD hS _ hl
  refine lv_iconst (v := 0) hx hb dX4_sownTonight_0 (by decide) ?_
  refine lv_istore_n (lv' := [(2, .int (0 : Int32)), (0, .ref (aS 0)), (1, .ref (aL 0))]) hx hb dX4_sownTonight_1 rfl hl (by decide) rfl (fun ls hl => ?_)
  refine lv_iconst (v := 0) hx hb dX4_sownTonight_2 (by decide) ?_
  refine lv_istore_n (lv' := [(3, .int (0 : Int32)), (2, .int (0 : Int32)), (0, .ref (aS 0)), (1, .ref (aL 0))]) hx hb dX4_sownTonight_3 rfl hl (by decide) rfl (fun ls hl => ?_)
  exact N4 (0 : Int32) (0 : Int32) hM _ _ hP hD hS _ (lv_sub hl [2, 3, 1, 0] rfl)
abbrev rmX4_yieldTonight : Room := { frames := 1, cells := 0, slots := 0, locals := 22 }
theorem iwX4_yieldTonight_X1 : ∀ w ∈ wsX10, w ∈ wsX4_yieldTonight := fun _ h => List.mem_cons_of_mem _ (List.mem_append_left _ (List.mem_append_right _ (h)))
theorem iwX4_yieldTonight_X4 : ∀ w ∈ wsX40, w ∈ wsX4_yieldTonight := fun _ h => List.mem_cons_of_mem _ (List.mem_append_right _ (h))
set_option maxHeartbeats 4000000 in
set_option maxRecDepth 100000 in
theorem kX4_yieldTonight (l : Launch) (dC : Nat → ClassId) (dI : Nat → Nat → Nat) (ct : Nat → ClassId) (aS : Nat → Nat) (aL : Nat → Nat) (sz : Nat) (mS : Mem) (mL : Mem) (res : Int32) (hM : mX4_yieldTonight mS mL = some res) : Met l yX4_yieldTonight wsX4_yieldTonight rmX4_yieldTonight (va_Pc [.ref (aS 0), .ref (aL 0)] (PB (dC, dI) ct E0 sz (wS ct aS mS ++ wL ct aL mL))) (Qi (dC, dI) ct (va_A (wS ct aS mS ++ wL ct aL mL) sz) res (wS ct aS mS ++ wL ct aL mL)) 0 0 (va_A (wS ct aS mS ++ wL ct aL mL) sz) := by
  refine Met.ofW (cc := cX4_yieldTonight) (maxL := 4) (ret := (some .int)) (by decide) rfl ?_
  intro p e s m args below meth c s₁ B hml hv
  obtain ⟨hargs, hsz, hP, hK, hD0, hE⟩ := hv
  have hx := B.exec
  have hb := B.bytes
  have hr := B.returns
  have hts := atoms_spec (ws := wsX4_yieldTonight) B.pre
  have hown : s.vm.findClass RX4 = some m.cls := findClass_of_methodNamed B.named
  have hlocks := B.notSynchronized
  clear B s₁
  subst hsz
  have hD := hD0.self (sz := s.heap.size)
  clear hD0
  generalize hAe : va_A (wS ct aS mS ++ wL ct aL mL) s.heap.size = A at hD hE ⊢
  have hA : ∀ q : Nat, s.heap.size ≤ q → A q := fun q h => by rw [← hAe]; exact Or.inr h
  clear hAe
  have hS : va_S A s.heap s.heap [] := va_S.rf
  refine cutQ (fun Q hQ => ?_)
  refine entryW (vs := [.ref (aS 0), .ref (aL 0)]) hargs (Nat.le_of_ble_eq_true rfl) (fun ls hl => ?_)
  replace hl : lv_has ls 4 [(0, .ref (aS 0)), (1, .ref (aL 0))] := hl
  unfold mX4_yieldTonight at hM
  have N4 : ∀ (v2 : Int32) (v3 : Int32), mX4_yieldTonight_L4 v2 v3 mS mL = some res → ∀ (H : Heap) (locs : List Loc), va_P (dC, dI) vwCl (wS ct aS mS ++ wL ct aL mL) H → va_D A (wS ct aS mS ++ wL ct aL mL) → va_S A s.heap H locs → ∀ ls : Array Slot, lv_has ls 4 [(0, .ref (aS 0)), (1, .ref (aL 0)), (2, .int v2), (3, .int v3)] → W p l e (headSpec wsX4_yieldTonight rmX4_yieldTonight).room s m args below meth c H locs 0 0 Q (F0 m 4 ls []) := by
    intro v2 v3 hM H locs hP hD hS ls hl
    unfold mX4_yieldTonight_L4 at hM
    obtain ⟨ex4, hit4, hM⟩ := bn_some hM
    have X4_0 : ∀ (v2 : Int32), ex4 = v2 → ∀ (H : Heap) (locs : List Loc), va_P (dC, dI) vwCl (wS ct aS mS ++ wL ct aL mL) H → va_D A (wS ct aS mS ++ wL ct aL mL) → va_S A s.heap H locs → ∀ ls : Array Slot, lv_has ls 4 [(2, .int v2)] → W p l e (headSpec wsX4_yieldTonight rmX4_yieldTonight).room s m args below meth c H locs 0 0 Q (F0 m 32 ls []) := by
      intro v2 hex H locs hP hD hS ls hl
      rw [hex] at hM
      have hM := nm_at (y := v2) rfl hM
      refine lv_iload_n hx hb dX4_yieldTonight_32 rfl (lv_at hl 0 rfl) ?_
      have hR := som hM
      rw [hR] at hQ
      exact ret_i hQ hx hb hr hlocks hP hK hD hS dX4_yieldTonight_33
    have I4 : ∀ (n : Nat) (v2 : Int32) (v3 : Int32), itr (fun q => mX4_yieldTonight_s4 mS mL q.1 q.2) n (v2, v3) = some ex4 → ∀ (H : Heap) (locs : List Loc), va_P (dC, dI) vwCl (wS ct aS mS ++ wL ct aL mL) H → va_D A (wS ct aS mS ++ wL ct aL mL) → va_S A s.heap H locs → ∀ ls : Array Slot, lv_has ls 4 [(0, .ref (aS 0)), (1, .ref (aL 0)), (2, .int v2), (3, .int v3)] → W p l e (headSpec wsX4_yieldTonight rmX4_yieldTonight).room s m args below meth c H locs 0 0 Q (F0 m 4 ls []) := by
      intro n
      induction n with
      | zero => intro v2 v3 hit; exact (itr_zero hit).elim
      | succ n ih4 =>
        intro v2 v3 hit H locs hP hD hS ls hl
        obtain ⟨o4, hM, hbk4, hex4⟩ := itr_succ hit
        replace hM : mX4_yieldTonight_s4 mS mL v2 v3 = some o4 := hM
        unfold mX4_yieldTonight_s4 at hM
        refine lv_iload_n hx hb dX4_yieldTonight_4 rfl (lv_at hl 3 rfl) ?_
        refine lv_aload_n hx hb dX4_yieldTonight_5 rfl (lv_at hl 1 rfl) ?_
        refine va_get (D := (dC, dI)) (ci := 1) (v := .int (mL 0 5)) (C := RX1) (T := TX1) (N := 17) hx hb hts iwX4_yieldTonight_X1 hown hK hP 4 rfl rfl 5 (by decide) (hts _ (List.mem_of_getElem? (i := 1) rfl)) (fun _ h9 => h9) rfl dX4_yieldTonight_6 ?_
        refine lv_icmp_ge (tgt := 32) hx hb dX4_yieldTonight_9 (by decide) (fun hc_1 => ?_) (fun hc_1 => ?_)
        · have hM := it_p hc_1 hM
          have hR := som hM
          exact X4_0 v2 (hex4 _ hR).symm _ _ hP hD hS _ (lv_sub hl [2] rfl)
        · have hM := it_n hc_1 hM
          refine lv_iload_n hx hb dX4_yieldTonight_12 rfl (lv_at hl 2 rfl) ?_
          refine lv_aload_n hx hb dX4_yieldTonight_13 rfl (lv_at hl 1 rfl) ?_
          refine lv_iload_n hx hb dX4_yieldTonight_14 rfl (lv_at hl 3 rfl) ?_
          refine lv_aload_n hx hb dX4_yieldTonight_15 rfl (lv_at hl 0 rfl) ?_
          refine va_get (D := (dC, dI)) (ci := 4) (v := .ref (aS 1)) (C := RX4) (T := TX4) (N := 8) hx hb hts iwX4_yieldTonight_X4 hown hK hP 0 rfl rfl 0 (by decide) (hts _ (List.mem_of_getElem? (i := 2) rfl)) (fun _ h9 => h9) rfl dX4_yieldTonight_16 ?_
          refine lv_iload_n hx hb dX4_yieldTonight_19 rfl (lv_at hl 3 rfl) ?_
          obtain ⟨hi, hM⟩ := gi_some hM
          refine va_iald hx hb hK hP 1 0 rfl rfl hi dX4_yieldTonight_20 ?_
          obtain ⟨x_2, hr_3, hM⟩ := bn_some hM
          refine gv_i (r0 := x_2) (wn := (wS ct aS mS ++ wL ct aL mL)) (va_runV (As := [.int v3, .int (mS 1 v3.toNatClampNeg)]) (rest := [.int v2]) ⟨hx, hb, hml, hown, hts⟩ (kX1_yieldOf l dC dI ct aL _ mL v3 (mS 1 v3.toNatClampNeg) _ hr_3) (cwV 2 hts gX4_yieldTonight_X1_yieldOf rfl rfl rfl hvX1_yieldOf ⟨Nat.le_of_ble_eq_true rfl, Nat.le_of_ble_eq_true rfl⟩) (preV_of E0_ok hK hP hD (is := [4, 5, 6, 7, 8, 9, 10, 11, 12, 13]) rfl rfl rfl (ci := 1) rfl 4 rfl e_0) rfl rfl hl.1 rfl (lv_room (Nat.le_of_ble_eq_true rfl)) dX4_yieldTonight_21 ⟨Nat.le_of_ble_eq_true rfl, Nat.le_of_ble_eq_true rfl⟩) hP hD hS hA [4, 5, 6, 7, 8, 9, 10, 11, 12, 13] [0, 1, 2, 3] [0, 1, 2, 3, 4, 5, 6, 7, 8, 9, 10, 11, 12, 13] rfl rfl rfl (by decide) rfl rfl (fun H locs hP hD hS => ?_)
          refine lv_iadd hx hb dX4_yieldTonight_24 ?_
          refine lv_topi (fun x_5 ex_5 => ?_)
          have hM := nm_at ex_5 hM
          refine lv_istore_n (lv' := [(2, .int x_5), (0, .ref (aS 0)), (1, .ref (aL 0)), (3, .int v3)]) hx hb dX4_yieldTonight_25 rfl hl (by decide) rfl (fun ls hl => ?_)
          obtain ⟨x_6, ex_6⟩ : ∃ y : Int32, y = (v3 + (1 : Int32)) := ⟨_, rfl⟩
          have hM := nm_at ex_6 hM
          refine lv_iinc (v := x_6) (lv' := [(3, .int x_6), (2, .int x_5), (0, .ref (aS 0)), (1, .ref (aL 0))]) hx hb dX4_yieldTonight_26 hl (k := 3) rfl (by rw [ex_6]; rfl) (by decide) rfl (fun ls hl => ?_)
          refine lv_goto (tgt := 4) hx hb dX4_yieldTonight_29 (by decide) ?_
          have hR := som hM
          exact ih4 x_5 x_6 (hbk4 _ hR) _ _ hP hD hS _ (lv_sub hl [2, 3, 1, 0] rfl)
    exact I4 FU v2 v3 hit4 _ _ hP hD hS _ hl
  refine lv_iconst (v := 0) hx hb dX4_yieldTonight_0 (by decide) ?_
  refine lv_istore_n (lv' := [(2, .int (0 : Int32)), (0, .ref (aS 0)), (1, .ref (aL 0))]) hx hb dX4_yieldTonight_1 rfl hl (by decide) rfl (fun ls hl => ?_)
  refine lv_iconst (v := 0) hx hb dX4_yieldTonight_2 (by decide) ?_
  refine lv_istore_n (lv' := [(3, .int (0 : Int32)), (2, .int (0 : Int32)), (0, .ref (aS 0)), (1, .ref (aL 0))]) hx hb dX4_yieldTonight_3 rfl hl (by decide) rfl (fun ls hl => ?_)
  exact N4 (0 : Int32) (0 : Int32) hM _ _ hP hD hS _ (lv_sub hl [2, 3, 1, 0] rfl)
abbrev rmX4_shareMoon : Room := { frames := 4, cells := 0, slots := 0, locals := 95 }
theorem iwX4_shareMoon_X1 : ∀ w ∈ wsX10, w ∈ wsX4_shareMoon := fun _ h => List.mem_cons_of_mem _ (List.mem_append_right _ (h))
theorem iwX4_shareMoon_X4 : ∀ w ∈ wsX40, w ∈ wsX4_shareMoon := fun _ h => List.mem_cons_of_mem _ (List.mem_append_left _ (List.mem_append_right _ (h)))
set_option maxHeartbeats 4000000 in
set_option maxRecDepth 100000 in
theorem kX4_shareMoon (l : Launch) (dC : Nat → ClassId) (dI : Nat → Nat → Nat) (ct : Nat → ClassId) (aS : Nat → Nat) (aL : Nat → Nat) (sz : Nat) (mS : Mem) (mL : Mem) (v2 : Int32) (v3 : Int32) (res : Mem) (hM : mX4_shareMoon mS mL v2 v3 = some res) : Met l yX4_shareMoon wsX4_shareMoon rmX4_shareMoon (va_Pc [.ref (aS 0), .ref (aL 0), .int v2, .int v3] (PB (dC, dI) ct E0 sz (wS ct aS mS ++ wL ct aL mL))) (Qv (dC, dI) ct (va_A (wS ct aS mS ++ wL ct aL mL) sz) (wS ct aS res ++ wL ct aL mL)) 0 0 (va_A (wS ct aS mS ++ wL ct aL mL) sz) := by
  refine Met.ofW (cc := cX4_shareMoon) (maxL := 6) (ret := none) (by decide) rfl ?_
  intro p e s m args below meth c s₁ B hml hv
  obtain ⟨hargs, hsz, hP, hK, hD0, hE⟩ := hv
  have hx := B.exec
  have hb := B.bytes
  have hr := B.returns
  have hts := atoms_spec (ws := wsX4_shareMoon) B.pre
  have hown : s.vm.findClass RX4 = some m.cls := findClass_of_methodNamed B.named
  have hlocks := B.notSynchronized
  clear B s₁
  subst hsz
  have hD := hD0.self (sz := s.heap.size)
  clear hD0
  generalize hAe : va_A (wS ct aS mS ++ wL ct aL mL) s.heap.size = A at hD hE ⊢
  have hA : ∀ q : Nat, s.heap.size ≤ q → A q := fun q h => by rw [← hAe]; exact Or.inr h
  clear hAe
  have hS : va_S A s.heap s.heap [] := va_S.rf
  refine cutQ (fun Q hQ => ?_)
  refine entryW (vs := [.ref (aS 0), .ref (aL 0), .int v2, .int v3]) hargs (Nat.le_of_ble_eq_true rfl) (fun ls hl => ?_)
  replace hl : lv_has ls 6 [(0, .ref (aS 0)), (1, .ref (aL 0)), (2, .int v2), (3, .int v3)] := hl
  unfold mX4_shareMoon at hM
  have N37 : ∀ (v2 : Int32) (v3 : Int32) (v4 : Int32) (mS : Mem), mX4_shareMoon_L37 v2 v3 v4 mS mL = some res → ∀ (H : Heap) (locs : List Loc), va_P (dC, dI) vwCl (wS ct aS mS ++ wL ct aL mL) H → va_D A (wS ct aS mS ++ wL ct aL mL) → va_S A s.heap H locs → ∀ ls : Array Slot, lv_has ls 6 [(0, .ref (aS 0)), (1, .ref (aL 0)), (2, .int v2), (3, .int v3), (4, .int v4)] → W p l e (headSpec wsX4_shareMoon rmX4_shareMoon).room s m args below meth c H locs 0 0 Q (F0 m 37 ls []) := by
    intro v2 v3 v4 mS hM H locs hP hD hS ls hl
    unfold mX4_shareMoon_L37 at hM
    obtain ⟨ex37, hit37, hM⟩ := bn_some hM
    have X37_0 : ∀ (mS : Mem), ex37 = mS → ∀ (H : Heap) (locs : List Loc), va_P (dC, dI) vwCl (wS ct aS mS ++ wL ct aL mL) H → va_D A (wS ct aS mS ++ wL ct aL mL) → va_S A s.heap H locs → ∀ ls : Array Slot, lv_has ls 6 [] → W p l e (headSpec wsX4_shareMoon rmX4_shareMoon).room s m args below meth c H locs 0 0 Q (F0 m 124 ls []) := by
      intro mS hex H locs hP hD hS ls hl
      rw [hex] at hM
      have hM := nm_at (y := mS) rfl hM
      have hR := som hM
      rw [hR] at hQ
      exact ret_v hQ hx hb hr hlocks hP hK hD hS dX4_shareMoon_124
    have I37 : ∀ (n : Nat) (v4 : Int32) (mS : Mem), itr (fun q => mX4_shareMoon_s37 v2 v3 mL q.1 q.2) n (v4, mS) = some ex37 → ∀ (H : Heap) (locs : List Loc), va_P (dC, dI) vwCl (wS ct aS mS ++ wL ct aL mL) H → va_D A (wS ct aS mS ++ wL ct aL mL) → va_S A s.heap H locs → ∀ ls : Array Slot, lv_has ls 6 [(0, .ref (aS 0)), (1, .ref (aL 0)), (2, .int v2), (3, .int v3), (4, .int v4)] → W p l e (headSpec wsX4_shareMoon rmX4_shareMoon).room s m args below meth c H locs 0 0 Q (F0 m 37 ls []) := by
      intro n
      induction n with
      | zero => intro v4 mS hit; exact (itr_zero hit).elim
      | succ n ih37 =>
        intro v4 mS hit H locs hP hD hS ls hl
        obtain ⟨o37, hM, hbk37, hex37⟩ := itr_succ hit
        replace hM : mX4_shareMoon_s37 v2 v3 mL v4 mS = some o37 := hM
        have N86 : ∀ (v4 : Int32) (v5 : Int32) (mS : Mem), mX4_shareMoon_L86 v2 v3 v4 v5 mS mL = some o37 → ∀ (H : Heap) (locs : List Loc), va_P (dC, dI) vwCl (wS ct aS mS ++ wL ct aL mL) H → va_D A (wS ct aS mS ++ wL ct aL mL) → va_S A s.heap H locs → ∀ ls : Array Slot, lv_has ls 6 [(0, .ref (aS 0)), (1, .ref (aL 0)), (2, .int v2), (3, .int v3), (4, .int v4), (5, .int v5)] → W p l e (headSpec wsX4_shareMoon rmX4_shareMoon).room s m args below meth c H locs 0 0 Q (F0 m 86 ls []) := by
          intro v4 v5 mS hM H locs hP hD hS ls hl
          unfold mX4_shareMoon_L86 at hM
          obtain ⟨ex86, hit86, hM⟩ := bn_some hM
          have X86_0 : ∀ (mS : Mem), ex86 = mS → ∀ (H : Heap) (locs : List Loc), va_P (dC, dI) vwCl (wS ct aS mS ++ wL ct aL mL) H → va_D A (wS ct aS mS ++ wL ct aL mL) → va_S A s.heap H locs → ∀ ls : Array Slot, lv_has ls 6 [(0, .ref (aS 0)), (1, .ref (aL 0)), (2, .int v2), (3, .int v3), (4, .int v4)] → W p l e (headSpec wsX4_shareMoon rmX4_shareMoon).room s m args below meth c H locs 0 0 Q (F0 m 118 ls []) := by
            intro mS hex H locs hP hD hS ls hl
            rw [hex] at hM
            have hM := nm_at (y := mS) rfl hM
            obtain ⟨x_1, ex_1⟩ : ∃ y : Int32, y = (v4 + (1 : Int32)) := ⟨_, rfl⟩
            have hM := nm_at ex_1 hM
            refine lv_iinc (v := x_1) (lv' := [(4, .int x_1), (0, .ref (aS 0)), (1, .ref (aL 0)), (2, .int v2), (3, .int v3)]) hx hb dX4_shareMoon_118 hl (k := 4) rfl (by rw [ex_1]; rfl) (by decide) rfl (fun ls hl => ?_)
            refine lv_goto (tgt := 37) hx hb dX4_shareMoon_121 (by decide) ?_
            have hR := som hM
            exact ih37 x_1 mS (hbk37 _ hR) _ _ hP hD hS _ (lv_sub hl [1, 2, 3, 4, 0] rfl)
          have I86 : ∀ (n : Nat) (v5 : Int32) (mS : Mem), itr (fun q => mX4_shareMoon_s86 v2 v3 v4 mL q.1 q.2) n (v5, mS) = some ex86 → ∀ (H : Heap) (locs : List Loc), va_P (dC, dI) vwCl (wS ct aS mS ++ wL ct aL mL) H → va_D A (wS ct aS mS ++ wL ct aL mL) → va_S A s.heap H locs → ∀ ls : Array Slot, lv_has ls 6 [(0, .ref (aS 0)), (1, .ref (aL 0)), (2, .int v2), (3, .int v3), (4, .int v4), (5, .int v5)] → W p l e (headSpec wsX4_shareMoon rmX4_shareMoon).room s m args below meth c H locs 0 0 Q (F0 m 86 ls []) := by
            intro n
            induction n with
            | zero => intro v5 mS hit; exact (itr_zero hit).elim
            | succ n ih86 =>
              intro v5 mS hit H locs hP hD hS ls hl
              obtain ⟨o86, hM, hbk86, hex86⟩ := itr_succ hit
              replace hM : mX4_shareMoon_s86 v2 v3 v4 mL v5 mS = some o86 := hM
              unfold mX4_shareMoon_s86 at hM
              refine lv_iload hx hb dX4_shareMoon_86 (lv_at hl 5 rfl) ?_
              refine lv_aload_n hx hb dX4_shareMoon_88 rfl (lv_at hl 1 rfl) ?_
              refine va_get (D := (dC, dI)) (ci := 1) (v := .int (mL 0 5)) (C := RX1) (T := TX1) (N := 17) hx hb hts iwX4_shareMoon_X1 hown hK hP 4 rfl rfl 5 (by decide) (hts _ (List.mem_of_getElem? (i := 5) rfl)) (fun _ h9 => h9) rfl dX4_shareMoon_89 ?_
              refine lv_icmp_ge (tgt := 118) hx hb dX4_shareMoon_92 (by decide) (fun hc_2 => ?_) (fun hc_2 => ?_)
              · have hM := it_p hc_2 hM
                have hR := som hM
                exact X86_0 mS (hex86 _ hR).symm _ _ hP hD hS _ (lv_sub hl [0, 1, 2, 3, 4] rfl)
              · have hM := it_n hc_2 hM
                refine lv_aload_n hx hb dX4_shareMoon_95 rfl (lv_at hl 0 rfl) ?_
                refine va_get (D := (dC, dI)) (ci := 4) (v := .ref (aS 2)) (C := RX4) (T := TX4) (N := 8) hx hb hts iwX4_shareMoon_X4 hown hK hP 0 rfl rfl 1 (by decide) (hts _ (List.mem_of_getElem? (i := 3) rfl)) (fun _ h9 => h9) rfl dX4_shareMoon_96 ?_
                refine lv_iload hx hb dX4_shareMoon_99 (lv_at hl 5 rfl) ?_
                refine lv_dup2_11 hx hb dX4_shareMoon_101 rfl rfl ?_
                obtain ⟨hi, hM⟩ := gi_some hM
                refine va_iald hx hb hK hP 2 0 rfl rfl hi dX4_shareMoon_102 ?_
                refine lv_aload_n hx hb dX4_shareMoon_103 rfl (lv_at hl 0 rfl) ?_
                refine va_get (D := (dC, dI)) (ci := 4) (v := .ref (aS 1)) (C := RX4) (T := TX4) (N := 8) hx hb hts iwX4_shareMoon_X4 hown hK hP 0 rfl rfl 0 (by decide) (hts _ (List.mem_of_getElem? (i := 6) rfl)) (fun _ h9 => h9) rfl dX4_shareMoon_104 ?_
                refine lv_iload hx hb dX4_shareMoon_107 (lv_at hl 5 rfl) ?_
                obtain ⟨hi, hM⟩ := gi_some hM
                refine va_iald hx hb hK hP 1 0 rfl rfl hi dX4_shareMoon_109 ?_
                refine lv_iadd hx hb dX4_shareMoon_110 ?_
                obtain ⟨hi, hM⟩ := gi_some hM
                refine st_i (wf := fun z => (wS ct aS z ++ wL ct aL mL)) (m1 := upi mS 2 v5.toNatClampNeg ((mS 2 v5.toNatClampNeg) + (mS 1 v5.toNatClampNeg))) hx hb hK hP hD hS 2 rfl hi dX4_shareMoon_111 rfl (fun mS_3 emS_3 H locs hP hD hS => ?_)
                have hM := nm_at emS_3 hM
                obtain ⟨x_4, ex_4⟩ : ∃ y : Int32, y = (v5 + (1 : Int32)) := ⟨_, rfl⟩
                have hM := nm_at ex_4 hM
                refine lv_iinc (v := x_4) (lv' := [(5, .int x_4), (0, .ref (aS 0)), (1, .ref (aL 0)), (2, .int v2), (3, .int v3), (4, .int v4)]) hx hb dX4_shareMoon_112 hl (k := 5) rfl (by rw [ex_4]; rfl) (by decide) rfl (fun ls hl => ?_)
                refine lv_goto (tgt := 86) hx hb dX4_shareMoon_115 (by decide) ?_
                have hR := som hM
                exact ih86 x_4 mS_3 (hbk86 _ hR) _ _ hP hD hS _ (lv_sub hl [1, 2, 3, 4, 5, 0] rfl)
          exact I86 FU v5 mS hit86 _ _ hP hD hS _ hl
        unfold mX4_shareMoon_s37 at hM
        refine lv_iload hx hb dX4_shareMoon_37 (lv_at hl 4 rfl) ?_
        refine lv_aload_n hx hb dX4_shareMoon_39 rfl (lv_at hl 1 rfl) ?_
        refine va_get (D := (dC, dI)) (ci := 1) (v := .int (mL 0 0)) (C := RX1) (T := TX1) (N := 17) hx hb hts iwX4_shareMoon_X1 hown hK hP 4 rfl rfl 0 (by decide) (hts _ (List.mem_of_getElem? (i := 4) rfl)) (fun _ h9 => h9) rfl dX4_shareMoon_40 ?_
        refine lv_icmp_ge (tgt := 124) hx hb dX4_shareMoon_43 (by decide) (fun hc_5 => ?_) (fun hc_5 => ?_)
        · have hM := it_p hc_5 hM
          have hR := som hM
          exact X37_0 mS (hex37 _ hR).symm _ _ hP hD hS _ (lv_sub hl [] rfl)
        · have hM := it_n hc_5 hM
          refine lv_aload_n hx hb dX4_shareMoon_46 rfl (lv_at hl 0 rfl) ?_
          refine lv_aload_n hx hb dX4_shareMoon_47 rfl (lv_at hl 1 rfl) ?_
          refine lv_iload hx hb dX4_shareMoon_48 (lv_at hl 4 rfl) ?_
          refine lv_iload_n hx hb dX4_shareMoon_50 rfl (lv_at hl 2 rfl) ?_
          refine lv_iload_n hx hb dX4_shareMoon_51 rfl (lv_at hl 3 rfl) ?_
          obtain ⟨mS_6, hr_7, hM⟩ := bn_some hM
          refine gv_v (wn := (wS ct aS mS_6 ++ wL ct aL mL)) (va_runV (As := [.ref (aL 0), .int v4, .int v2, .int v3]) (rest := []) ⟨hx, hb, hml, hown, hts⟩ (kX4_shareNight l dC dI ct aS aL _ mS mL v4 v2 v3 _ hr_7) (cwV 4 hts gX4_shareMoon_X4_shareNight rfl rfl rfl hvX4_shareNight ⟨Nat.le_of_ble_eq_true rfl, Nat.le_of_ble_eq_true rfl⟩) (preV_of E0_ok hK hP hD (is := [0, 1, 2, 3, 4, 5, 6, 7, 8, 9, 10, 11, 12, 13]) rfl rfl rfl (ci := 4) rfl 0 rfl e_0) rfl rfl hl.1 rfl (lv_room (Nat.le_of_ble_eq_true rfl)) dX4_shareMoon_52 ⟨Nat.le_of_ble_eq_true rfl, Nat.le_of_ble_eq_true rfl⟩) hP hD hS hA [0, 1, 2, 3, 4, 5, 6, 7, 8, 9, 10, 11, 12, 13] [] [0, 1, 2, 3, 4, 5, 6, 7, 8, 9, 10, 11, 12, 13] rfl rfl rfl (by decide) rfl rfl (fun H locs hP hD hS => ?_)
          refine lv_aload_n hx hb dX4_shareMoon_55 rfl (lv_at hl 0 rfl) ?_
          refine lv_dup hx hb dX4_shareMoon_56 rfl ?_
          refine va_get (D := (dC, dI)) (ci := 4) (v := .int (mS_6 0 2)) (C := RX4) (T := TX4) (N := 8) hx hb hts iwX4_shareMoon_X4 hown hK hP 0 rfl rfl 2 (by decide) (hts _ (List.mem_of_getElem? (i := 1) rfl)) (fun _ h9 => h9) rfl dX4_shareMoon_57 ?_
          refine lv_aload_n hx hb dX4_shareMoon_60 rfl (lv_at hl 0 rfl) ?_
          refine lv_aload_n hx hb dX4_shareMoon_61 rfl (lv_at hl 1 rfl) ?_
          obtain ⟨x_9, hr_10, hM⟩ := bn_some hM
          refine gv_i (r0 := x_9) (wn := (wS ct aS mS_6 ++ wL ct aL mL)) (va_runV (As := [.ref (aL 0)]) (rest := [.int (mS_6 0 2), .ref (aS 0)]) ⟨hx, hb, hml, hown, hts⟩ (kX4_sownTonight l dC dI ct aS aL _ mS_6 mL _ hr_10) (cwV 1 hts gX4_shareMoon_X4_sownTonight rfl rfl rfl hvX4_sownTonight ⟨Nat.le_of_ble_eq_true rfl, Nat.le_of_ble_eq_true rfl⟩) (preV_of E0_ok hK hP hD (is := [0, 1, 2, 3, 4, 5, 6, 7, 8, 9, 10, 11, 12, 13]) rfl rfl rfl (ci := 4) rfl 0 rfl e_0) rfl rfl hl.1 rfl (lv_room (Nat.le_of_ble_eq_true rfl)) dX4_shareMoon_62 ⟨Nat.le_of_ble_eq_true rfl, Nat.le_of_ble_eq_true rfl⟩) hP hD hS hA [0, 1, 2, 3, 4, 5, 6, 7, 8, 9, 10, 11, 12, 13] [] [0, 1, 2, 3, 4, 5, 6, 7, 8, 9, 10, 11, 12, 13] rfl rfl rfl (by decide) rfl rfl (fun H locs hP hD hS => ?_)
          refine lv_iadd hx hb dX4_shareMoon_65 ?_
          refine pf_i (wf := fun z => (wS ct aS z ++ wL ct aL mL)) (m1 := upf mS_6 2 ((mS_6 0 2) + x_9)) hx hb hts iwX4_shareMoon_X4 tyX4 tyX4_ok nmX4 hown hK hP hD hS 0 rfl rfl 2 (by decide) (hts _ (List.mem_of_getElem? (i := 1) rfl)) (fun _ h9 => h9) rfl rfl rfl (Nat.le_of_ble_eq_true rfl) dX4_shareMoon_66 rfl (fun mS_12 emS_12 H locs hP hD hS => ?_)
          have hM := nm_at emS_12 hM
          refine lv_aload_n hx hb dX4_shareMoon_69 rfl (lv_at hl 0 rfl) ?_
          refine lv_dup hx hb dX4_shareMoon_70 rfl ?_
          refine va_get (D := (dC, dI)) (ci := 4) (v := .int (mS_12 0 3)) (C := RX4) (T := TX4) (N := 8) hx hb hts iwX4_shareMoon_X4 hown hK hP 0 rfl rfl 3 (by decide) (hts _ (List.mem_of_getElem? (i := 2) rfl)) (fun _ h9 => h9) rfl dX4_shareMoon_71 ?_
          refine lv_aload_n hx hb dX4_shareMoon_74 rfl (lv_at hl 0 rfl) ?_
          refine lv_aload_n hx hb dX4_shareMoon_75 rfl (lv_at hl 1 rfl) ?_
          obtain ⟨x_13, hr_14, hM⟩ := bn_some hM
          refine gv_i (r0 := x_13) (wn := (wS ct aS mS_12 ++ wL ct aL mL)) (va_runV (As := [.ref (aL 0)]) (rest := [.int (mS_12 0 3), .ref (aS 0)]) ⟨hx, hb, hml, hown, hts⟩ (kX4_yieldTonight l dC dI ct aS aL _ mS_12 mL _ hr_14) (cwV 1 hts gX4_shareMoon_X4_yieldTonight rfl rfl rfl hvX4_yieldTonight ⟨Nat.le_of_ble_eq_true rfl, Nat.le_of_ble_eq_true rfl⟩) (preV_of E0_ok hK hP hD (is := [0, 1, 2, 3, 4, 5, 6, 7, 8, 9, 10, 11, 12, 13]) rfl rfl rfl (ci := 4) rfl 0 rfl e_0) rfl rfl hl.1 rfl (lv_room (Nat.le_of_ble_eq_true rfl)) dX4_shareMoon_76 ⟨Nat.le_of_ble_eq_true rfl, Nat.le_of_ble_eq_true rfl⟩) hP hD hS hA [0, 1, 2, 3, 4, 5, 6, 7, 8, 9, 10, 11, 12, 13] [] [0, 1, 2, 3, 4, 5, 6, 7, 8, 9, 10, 11, 12, 13] rfl rfl rfl (by decide) rfl rfl (fun H locs hP hD hS => ?_)
          refine lv_iadd hx hb dX4_shareMoon_79 ?_
          refine pf_i (wf := fun z => (wS ct aS z ++ wL ct aL mL)) (m1 := upf mS_12 3 ((mS_12 0 3) + x_13)) hx hb hts iwX4_shareMoon_X4 tyX4 tyX4_ok nmX4 hown hK hP hD hS 0 rfl rfl 3 (by decide) (hts _ (List.mem_of_getElem? (i := 2) rfl)) (fun _ h9 => h9) rfl rfl rfl (Nat.le_of_ble_eq_true rfl) dX4_shareMoon_80 rfl (fun mS_16 emS_16 H locs hP hD hS => ?_)
          have hM := nm_at emS_16 hM
          refine lv_iconst (v := 0) hx hb dX4_shareMoon_83 (by decide) ?_
          refine lv_istore (lv' := [(5, .int (0 : Int32)), (0, .ref (aS 0)), (1, .ref (aL 0)), (2, .int v2), (3, .int v3), (4, .int v4)]) hx hb dX4_shareMoon_84 hl (by decide) rfl (fun ls hl => ?_)
          exact N86 v4 (0 : Int32) mS_16 hM _ _ hP hD hS _ (lv_sub hl [1, 2, 3, 4, 5, 0] rfl)
    exact I37 FU v4 mS hit37 _ _ hP hD hS _ hl
  have N13 : ∀ (v2 : Int32) (v3 : Int32) (v4 : Int32) (mS : Mem), mX4_shareMoon_L13 v2 v3 v4 mS mL = some res → ∀ (H : Heap) (locs : List Loc), va_P (dC, dI) vwCl (wS ct aS mS ++ wL ct aL mL) H → va_D A (wS ct aS mS ++ wL ct aL mL) → va_S A s.heap H locs → ∀ ls : Array Slot, lv_has ls 6 [(0, .ref (aS 0)), (1, .ref (aL 0)), (2, .int v2), (3, .int v3), (4, .int v4)] → W p l e (headSpec wsX4_shareMoon rmX4_shareMoon).room s m args below meth c H locs 0 0 Q (F0 m 13 ls []) := by
    intro v2 v3 v4 mS hM H locs hP hD hS ls hl
    unfold mX4_shareMoon_L13 at hM
    obtain ⟨ex13, hit13, hM⟩ := bn_some hM
    have X13_0 : ∀ (mS : Mem), ex13 = mS → ∀ (H : Heap) (locs : List Loc), va_P (dC, dI) vwCl (wS ct aS mS ++ wL ct aL mL) H → va_D A (wS ct aS mS ++ wL ct aL mL) → va_S A s.heap H locs → ∀ ls : Array Slot, lv_has ls 6 [(0, .ref (aS 0)), (1, .ref (aL 0)), (2, .int v2), (3, .int v3)] → W p l e (headSpec wsX4_shareMoon rmX4_shareMoon).room s m args below meth c H locs 0 0 Q (F0 m 34 ls []) := by
      intro mS hex H locs hP hD hS ls hl
      rw [hex] at hM
      have hM := nm_at (y := mS) rfl hM
      refine lv_iconst (v := 0) hx hb dX4_shareMoon_34 (by decide) ?_
      refine lv_istore (lv' := [(4, .int (0 : Int32)), (0, .ref (aS 0)), (1, .ref (aL 0)), (2, .int v2), (3, .int v3)]) hx hb dX4_shareMoon_35 hl (by decide) rfl (fun ls hl => ?_)
      exact N37 v2 v3 (0 : Int32) mS hM _ _ hP hD hS _ (lv_sub hl [1, 2, 3, 4, 0] rfl)
    have I13 : ∀ (n : Nat) (v4 : Int32) (mS : Mem), itr (fun q => mX4_shareMoon_s13 v2 v3 mL q.1 q.2) n (v4, mS) = some ex13 → ∀ (H : Heap) (locs : List Loc), va_P (dC, dI) vwCl (wS ct aS mS ++ wL ct aL mL) H → va_D A (wS ct aS mS ++ wL ct aL mL) → va_S A s.heap H locs → ∀ ls : Array Slot, lv_has ls 6 [(0, .ref (aS 0)), (1, .ref (aL 0)), (2, .int v2), (3, .int v3), (4, .int v4)] → W p l e (headSpec wsX4_shareMoon rmX4_shareMoon).room s m args below meth c H locs 0 0 Q (F0 m 13 ls []) := by
      intro n
      induction n with
      | zero => intro v4 mS hit; exact (itr_zero hit).elim
      | succ n ih13 =>
        intro v4 mS hit H locs hP hD hS ls hl
        obtain ⟨o13, hM, hbk13, hex13⟩ := itr_succ hit
        replace hM : mX4_shareMoon_s13 v2 v3 mL v4 mS = some o13 := hM
        unfold mX4_shareMoon_s13 at hM
        refine lv_iload hx hb dX4_shareMoon_13 (lv_at hl 4 rfl) ?_
        refine lv_bipush (v := 6) hx hb dX4_shareMoon_15 (by decide) ?_
        refine lv_icmp_ge (tgt := 34) hx hb dX4_shareMoon_17 (by decide) (fun hc_17 => ?_) (fun hc_17 => ?_)
        · have hM := it_p hc_17 hM
          have hR := som hM
          exact X13_0 mS (hex13 _ hR).symm _ _ hP hD hS _ (lv_sub hl [0, 1, 2, 3] rfl)
        · have hM := it_n hc_17 hM
          refine lv_aload_n hx hb dX4_shareMoon_20 rfl (lv_at hl 0 rfl) ?_
          refine va_get (D := (dC, dI)) (ci := 4) (v := .ref (aS 2)) (C := RX4) (T := TX4) (N := 8) hx hb hts iwX4_shareMoon_X4 hown hK hP 0 rfl rfl 1 (by decide) (hts _ (List.mem_of_getElem? (i := 3) rfl)) (fun _ h9 => h9) rfl dX4_shareMoon_21 ?_
          refine lv_iload hx hb dX4_shareMoon_24 (lv_at hl 4 rfl) ?_
          refine lv_iconst (v := 0) hx hb dX4_shareMoon_26 (by decide) ?_
          obtain ⟨hi, hM⟩ := gi_some hM
          refine st_i (wf := fun z => (wS ct aS z ++ wL ct aL mL)) (m1 := upi mS 2 v4.toNatClampNeg (0 : Int32)) hx hb hK hP hD hS 2 rfl hi dX4_shareMoon_27 rfl (fun mS_18 emS_18 H locs hP hD hS => ?_)
          have hM := nm_at emS_18 hM
          obtain ⟨x_19, ex_19⟩ : ∃ y : Int32, y = (v4 + (1 : Int32)) := ⟨_, rfl⟩
          have hM := nm_at ex_19 hM
          refine lv_iinc (v := x_19) (lv' := [(4, .int x_19), (0, .ref (aS 0)), (1, .ref (aL 0)), (2, .int v2), (3, .int v3)]) hx hb dX4_shareMoon_28 hl (k := 4) rfl (by rw [ex_19]; rfl) (by decide) rfl (fun ls hl => ?_)
          refine lv_goto (tgt := 13) hx hb dX4_shareMoon_31 (by decide) ?_
          have hR := som hM
          exact ih13 x_19 mS_18 (hbk13 _ hR) _ _ hP hD hS _ (lv_sub hl [1, 2, 3, 4, 0] rfl)
    exact I13 FU v4 mS hit13 _ _ hP hD hS _ hl
  refine lv_aload_n hx hb dX4_shareMoon_0 rfl (lv_at hl 0 rfl) ?_
  refine lv_iconst (v := 0) hx hb dX4_shareMoon_1 (by decide) ?_
  refine pf_i (wf := fun z => (wS ct aS z ++ wL ct aL mL)) (m1 := upf mS 2 (0 : Int32)) hx hb hts iwX4_shareMoon_X4 tyX4 tyX4_ok nmX4 hown hK hP hD hS 0 rfl rfl 2 (by decide) (hts _ (List.mem_of_getElem? (i := 1) rfl)) (fun _ h9 => h9) rfl rfl rfl (Nat.le_of_ble_eq_true rfl) dX4_shareMoon_2 rfl (fun mS_20 emS_20 H locs hP hD hS => ?_)
  have hM := nm_at emS_20 hM
  refine lv_aload_n hx hb dX4_shareMoon_5 rfl (lv_at hl 0 rfl) ?_
  refine lv_iconst (v := 0) hx hb dX4_shareMoon_6 (by decide) ?_
  refine pf_i (wf := fun z => (wS ct aS z ++ wL ct aL mL)) (m1 := upf mS_20 3 (0 : Int32)) hx hb hts iwX4_shareMoon_X4 tyX4 tyX4_ok nmX4 hown hK hP hD hS 0 rfl rfl 3 (by decide) (hts _ (List.mem_of_getElem? (i := 2) rfl)) (fun _ h9 => h9) rfl rfl rfl (Nat.le_of_ble_eq_true rfl) dX4_shareMoon_7 rfl (fun mS_21 emS_21 H locs hP hD hS => ?_)
  have hM := nm_at emS_21 hM
  refine lv_iconst (v := 0) hx hb dX4_shareMoon_10 (by decide) ?_
  refine lv_istore (lv' := [(4, .int (0 : Int32)), (0, .ref (aS 0)), (1, .ref (aL 0)), (2, .int v2), (3, .int v3)]) hx hb dX4_shareMoon_11 hl (by decide) rfl (fun ls hl => ?_)
  exact N13 v2 v3 (0 : Int32) mS_21 hM _ _ hP hD hS _ (lv_sub hl [1, 2, 3, 4, 0] rfl)
abbrev rmX4_tryLaw : Room := { frames := 5, cells := 0, slots := 0, locals := 120 }
theorem iwX4_tryLaw_X4 : ∀ w ∈ wsX40, w ∈ wsX4_tryLaw := fun _ h => List.mem_cons_of_mem _ (List.mem_append_left _ (List.mem_append_right _ (h)))
set_option maxHeartbeats 4000000 in
set_option maxRecDepth 100000 in
theorem kX4_tryLaw (l : Launch) (dC : Nat → ClassId) (dI : Nat → Nat → Nat) (ct : Nat → ClassId) (aS : Nat → Nat) (aL : Nat → Nat) (sz : Nat) (mS : Mem) (mL : Mem) (v2 : Int32) (v3 : Int32) (res : Mem) (hM : mX4_tryLaw mS mL v2 v3 = some res) : Met l yX4_tryLaw wsX4_tryLaw rmX4_tryLaw (va_Pc [.ref (aS 0), .ref (aL 0), .int v2, .int v3] (PB (dC, dI) ct E0 sz (wS ct aS mS ++ wL ct aL mL))) (Qv (dC, dI) ct (va_A (wS ct aS mS ++ wL ct aL mL) sz) (wS ct aS res ++ wL ct aL mL)) 0 0 (va_A (wS ct aS mS ++ wL ct aL mL) sz) := by
  refine Met.ofW (cc := cX4_tryLaw) (maxL := 4) (ret := none) (by decide) rfl ?_
  intro p e s m args below meth c s₁ B hml hv
  obtain ⟨hargs, hsz, hP, hK, hD0, hE⟩ := hv
  have hx := B.exec
  have hb := B.bytes
  have hr := B.returns
  have hts := atoms_spec (ws := wsX4_tryLaw) B.pre
  have hown : s.vm.findClass RX4 = some m.cls := findClass_of_methodNamed B.named
  have hlocks := B.notSynchronized
  clear B s₁
  subst hsz
  have hD := hD0.self (sz := s.heap.size)
  clear hD0
  generalize hAe : va_A (wS ct aS mS ++ wL ct aL mL) s.heap.size = A at hD hE ⊢
  have hA : ∀ q : Nat, s.heap.size ≤ q → A q := fun q h => by rw [← hAe]; exact Or.inr h
  clear hAe
  have hS : va_S A s.heap s.heap [] := va_S.rf
  refine cutQ (fun Q hQ => ?_)
  refine entryW (vs := [.ref (aS 0), .ref (aL 0), .int v2, .int v3]) hargs (Nat.le_of_ble_eq_true rfl) (fun ls hl => ?_)
  replace hl : lv_has ls 4 [(0, .ref (aS 0)), (1, .ref (aL 0)), (2, .int v2), (3, .int v3)] := hl
  unfold mX4_tryLaw at hM
  refine lv_aload_n hx hb dX4_tryLaw_0 rfl (lv_at hl 0 rfl) ?_
  refine lv_aload_n hx hb dX4_tryLaw_1 rfl (lv_at hl 1 rfl) ?_
  refine lv_iload_n hx hb dX4_tryLaw_2 rfl (lv_at hl 2 rfl) ?_
  refine lv_iload_n hx hb dX4_tryLaw_3 rfl (lv_at hl 3 rfl) ?_
  obtain ⟨mS_1, hr_2, hM⟩ := bn_some hM
  refine gv_v (wn := (wS ct aS mS_1 ++ wL ct aL mL)) (va_runV (As := [.ref (aL 0), .int v2, .int v3]) (rest := []) ⟨hx, hb, hml, hown, hts⟩ (kX4_shareMoon l dC dI ct aS aL _ mS mL v2 v3 _ hr_2) (cwV 3 hts gX4_tryLaw_X4_shareMoon rfl rfl rfl hvX4_shareMoon ⟨Nat.le_of_ble_eq_true rfl, Nat.le_of_ble_eq_true rfl⟩) (preV_of E0_ok hK hP hD (is := [0, 1, 2, 3, 4, 5, 6, 7, 8, 9, 10, 11, 12, 13]) rfl rfl rfl (ci := 4) rfl 0 rfl e_0) rfl rfl hl.1 rfl (lv_room (Nat.le_of_ble_eq_true rfl)) dX4_tryLaw_4 ⟨Nat.le_of_ble_eq_true rfl, Nat.le_of_ble_eq_true rfl⟩) hP hD hS hA [0, 1, 2, 3, 4, 5, 6, 7, 8, 9, 10, 11, 12, 13] [] [0, 1, 2, 3, 4, 5, 6, 7, 8, 9, 10, 11, 12, 13] rfl rfl rfl (by decide) rfl rfl (fun H locs hP hD hS => ?_)
  refine lv_aload_n hx hb dX4_tryLaw_7 rfl (lv_at hl 0 rfl) ?_
  refine va_get (D := (dC, dI)) (ci := 4) (v := .int (mS_1 0 3)) (C := RX4) (T := TX4) (N := 8) hx hb hts iwX4_tryLaw_X4 hown hK hP 0 rfl rfl 3 (by decide) (hts _ (List.mem_of_getElem? (i := 1) rfl)) (fun _ h9 => h9) rfl dX4_tryLaw_8 ?_
  refine lv_aload_n hx hb dX4_tryLaw_11 rfl (lv_at hl 0 rfl) ?_
  refine va_get (D := (dC, dI)) (ci := 4) (v := .int (mS_1 0 6)) (C := RX4) (T := TX4) (N := 8) hx hb hts iwX4_tryLaw_X4 hown hK hP 0 rfl rfl 6 (by decide) (hts _ (List.mem_of_getElem? (i := 2) rfl)) (fun _ h9 => h9) rfl dX4_tryLaw_12 ?_
  refine lv_icmp_le (tgt := 36) hx hb dX4_tryLaw_15 (by decide) (fun hc_4 => ?_) (fun hc_4 => ?_)
  · have hM := it_p hc_4 hM
    have hR := som hM
    rw [hR] at hQ
    exact ret_v hQ hx hb hr hlocks hP hK hD hS dX4_tryLaw_36
  · have hM := it_n hc_4 hM
    refine lv_aload_n hx hb dX4_tryLaw_18 rfl (lv_at hl 0 rfl) ?_
    refine lv_aload_n hx hb dX4_tryLaw_19 rfl (lv_at hl 0 rfl) ?_
    refine va_get (D := (dC, dI)) (ci := 4) (v := .int (mS_1 0 3)) (C := RX4) (T := TX4) (N := 8) hx hb hts iwX4_tryLaw_X4 hown hK hP 0 rfl rfl 3 (by decide) (hts _ (List.mem_of_getElem? (i := 1) rfl)) (fun _ h9 => h9) rfl dX4_tryLaw_20 ?_
    refine pf_i (wf := fun z => (wS ct aS z ++ wL ct aL mL)) (m1 := upf mS_1 6 (mS_1 0 3)) hx hb hts iwX4_tryLaw_X4 tyX4 tyX4_ok nmX4 hown hK hP hD hS 0 rfl rfl 6 (by decide) (hts _ (List.mem_of_getElem? (i := 2) rfl)) (fun _ h9 => h9) rfl rfl rfl (Nat.le_of_ble_eq_true rfl) dX4_tryLaw_23 rfl (fun mS_5 emS_5 H locs hP hD hS => ?_)
    have hM := nm_at emS_5 hM
    refine lv_aload_n hx hb dX4_tryLaw_26 rfl (lv_at hl 0 rfl) ?_
    refine lv_iload_n hx hb dX4_tryLaw_27 rfl (lv_at hl 2 rfl) ?_
    refine pf_i (wf := fun z => (wS ct aS z ++ wL ct aL mL)) (m1 := upf mS_5 4 v2) hx hb hts iwX4_tryLaw_X4 tyX4 tyX4_ok nmX4 hown hK hP hD hS 0 rfl rfl 4 (by decide) (hts _ (List.mem_of_getElem? (i := 3) rfl)) (fun _ h9 => h9) rfl rfl rfl (Nat.le_of_ble_eq_true rfl) dX4_tryLaw_28 rfl (fun mS_6 emS_6 H locs hP hD hS => ?_)
    have hM := nm_at emS_6 hM
    refine lv_aload_n hx hb dX4_tryLaw_31 rfl (lv_at hl 0 rfl) ?_
    refine lv_iload_n hx hb dX4_tryLaw_32 rfl (lv_at hl 3 rfl) ?_
    refine pf_i (wf := fun z => (wS ct aS z ++ wL ct aL mL)) (m1 := upf mS_6 5 v3) hx hb hts iwX4_tryLaw_X4 tyX4 tyX4_ok nmX4 hown hK hP hD hS 0 rfl rfl 5 (by decide) (hts _ (List.mem_of_getElem? (i := 4) rfl)) (fun _ h9 => h9) rfl rfl rfl (Nat.le_of_ble_eq_true rfl) dX4_tryLaw_33 rfl (fun mS_7 emS_7 H locs hP hD hS => ?_)
    have hM := nm_at emS_7 hM
    have hR := som hM
    rw [hR] at hQ
    exact ret_v hQ hx hb hr hlocks hP hK hD hS dX4_tryLaw_36
abbrev rmX4_seekBest : Room := { frames := 6, cells := 0, slots := 0, locals := 143 }
theorem iwX4_seekBest_X4 : ∀ w ∈ wsX40, w ∈ wsX4_seekBest := fun _ h => List.mem_cons_of_mem _ (List.mem_append_left _ (List.mem_append_right _ (h)))
set_option maxHeartbeats 4000000 in
set_option maxRecDepth 100000 in
theorem kX4_seekBest (l : Launch) (dC : Nat → ClassId) (dI : Nat → Nat → Nat) (ct : Nat → ClassId) (aS : Nat → Nat) (aL : Nat → Nat) (sz : Nat) (mS : Mem) (mL : Mem) (res : Mem) (hM : mX4_seekBest mS mL = some res) : Met l yX4_seekBest wsX4_seekBest rmX4_seekBest (va_Pc [.ref (aS 0), .ref (aL 0)] (PB (dC, dI) ct E0 sz (wS ct aS mS ++ wL ct aL mL))) (Qv (dC, dI) ct (va_A (wS ct aS mS ++ wL ct aL mL) sz) (wS ct aS res ++ wL ct aL mL)) 0 0 (va_A (wS ct aS mS ++ wL ct aL mL) sz) := by
  refine Met.ofW (cc := cX4_seekBest) (maxL := 4) (ret := none) (by decide) rfl ?_
  intro p e s m args below meth c s₁ B hml hv
  obtain ⟨hargs, hsz, hP, hK, hD0, hE⟩ := hv
  have hx := B.exec
  have hb := B.bytes
  have hr := B.returns
  have hts := atoms_spec (ws := wsX4_seekBest) B.pre
  have hown : s.vm.findClass RX4 = some m.cls := findClass_of_methodNamed B.named
  have hlocks := B.notSynchronized
  clear B s₁
  subst hsz
  have hD := hD0.self (sz := s.heap.size)
  clear hD0
  generalize hAe : va_A (wS ct aS mS ++ wL ct aL mL) s.heap.size = A at hD hE ⊢
  have hA : ∀ q : Nat, s.heap.size ≤ q → A q := fun q h => by rw [← hAe]; exact Or.inr h
  clear hAe
  have hS : va_S A s.heap s.heap [] := va_S.rf
  refine cutQ (fun Q hQ => ?_)
  refine entryW (vs := [.ref (aS 0), .ref (aL 0)]) hargs (Nat.le_of_ble_eq_true rfl) (fun ls hl => ?_)
  replace hl : lv_has ls 4 [(0, .ref (aS 0)), (1, .ref (aL 0))] := hl
  unfold mX4_seekBest at hM
  have N11 : ∀ (v2 : Int32) (mS : Mem), mX4_seekBest_L11 v2 mS mL = some res → ∀ (H : Heap) (locs : List Loc), va_P (dC, dI) vwCl (wS ct aS mS ++ wL ct aL mL) H → va_D A (wS ct aS mS ++ wL ct aL mL) → va_S A s.heap H locs → ∀ ls : Array Slot, lv_has ls 4 [(0, .ref (aS 0)), (1, .ref (aL 0)), (2, .int v2)] → W p l e (headSpec wsX4_seekBest rmX4_seekBest).room s m args below meth c H locs 0 0 Q (F0 m 11 ls []) := by
    intro v2 mS hM H locs hP hD hS ls hl
    unfold mX4_seekBest_L11 at hM
    obtain ⟨ex11, hit11, hM⟩ := bn_some hM
    have X11_0 : ∀ (mS : Mem), ex11 = mS → ∀ (H : Heap) (locs : List Loc), va_P (dC, dI) vwCl (wS ct aS mS ++ wL ct aL mL) H → va_D A (wS ct aS mS ++ wL ct aL mL) → va_S A s.heap H locs → ∀ ls : Array Slot, lv_has ls 4 [] → W p l e (headSpec wsX4_seekBest rmX4_seekBest).room s m args below meth c H locs 0 0 Q (F0 m 61 ls []) := by
      intro mS hex H locs hP hD hS ls hl
      rw [hex] at hM
      have hM := nm_at (y := mS) rfl hM
      have hR := som hM
      rw [hR] at hQ
      exact ret_v hQ hx hb hr hlocks hP hK hD hS dX4_seekBest_61
    have I11 : ∀ (n : Nat) (v2 : Int32) (mS : Mem), itr (fun q => mX4_seekBest_s11 mL q.1 q.2) n (v2, mS) = some ex11 → ∀ (H : Heap) (locs : List Loc), va_P (dC, dI) vwCl (wS ct aS mS ++ wL ct aL mL) H → va_D A (wS ct aS mS ++ wL ct aL mL) → va_S A s.heap H locs → ∀ ls : Array Slot, lv_has ls 4 [(0, .ref (aS 0)), (1, .ref (aL 0)), (2, .int v2)] → W p l e (headSpec wsX4_seekBest rmX4_seekBest).room s m args below meth c H locs 0 0 Q (F0 m 11 ls []) := by
      intro n
      induction n with
      | zero => intro v2 mS hit; exact (itr_zero hit).elim
      | succ n ih11 =>
        intro v2 mS hit H locs hP hD hS ls hl
        obtain ⟨o11, hM, hbk11, hex11⟩ := itr_succ hit
        replace hM : mX4_seekBest_s11 mL v2 mS = some o11 := hM
        have N19 : ∀ (v2 : Int32) (v3 : Int32) (mS : Mem), mX4_seekBest_L19 v2 v3 mS mL = some o11 → ∀ (H : Heap) (locs : List Loc), va_P (dC, dI) vwCl (wS ct aS mS ++ wL ct aL mL) H → va_D A (wS ct aS mS ++ wL ct aL mL) → va_S A s.heap H locs → ∀ ls : Array Slot, lv_has ls 4 [(0, .ref (aS 0)), (1, .ref (aL 0)), (2, .int v2), (3, .int v3)] → W p l e (headSpec wsX4_seekBest rmX4_seekBest).room s m args below meth c H locs 0 0 Q (F0 m 19 ls []) := by
          intro v2 v3 mS hM H locs hP hD hS ls hl
          unfold mX4_seekBest_L19 at hM
          obtain ⟨ex19, hit19, hM⟩ := bn_some hM
          have X19_0 : ∀ (mS : Mem), ex19 = mS → ∀ (H : Heap) (locs : List Loc), va_P (dC, dI) vwCl (wS ct aS mS ++ wL ct aL mL) H → va_D A (wS ct aS mS ++ wL ct aL mL) → va_S A s.heap H locs → ∀ ls : Array Slot, lv_has ls 4 [(0, .ref (aS 0)), (1, .ref (aL 0)), (2, .int v2)] → W p l e (headSpec wsX4_seekBest rmX4_seekBest).room s m args below meth c H locs 0 0 Q (F0 m 55 ls []) := by
            intro mS hex H locs hP hD hS ls hl
            rw [hex] at hM
            have hM := nm_at (y := mS) rfl hM
            obtain ⟨x_1, ex_1⟩ : ∃ y : Int32, y = (v2 + (1 : Int32)) := ⟨_, rfl⟩
            have hM := nm_at ex_1 hM
            refine lv_iinc (v := x_1) (lv' := [(2, .int x_1), (0, .ref (aS 0)), (1, .ref (aL 0))]) hx hb dX4_seekBest_55 hl (k := 2) rfl (by rw [ex_1]; rfl) (by decide) rfl (fun ls hl => ?_)
            refine lv_goto (tgt := 11) hx hb dX4_seekBest_58 (by decide) ?_
            have hR := som hM
            exact ih11 x_1 mS (hbk11 _ hR) _ _ hP hD hS _ (lv_sub hl [1, 2, 0] rfl)
          have I19 : ∀ (n : Nat) (v3 : Int32) (mS : Mem), itr (fun q => mX4_seekBest_s19 v2 mL q.1 q.2) n (v3, mS) = some ex19 → ∀ (H : Heap) (locs : List Loc), va_P (dC, dI) vwCl (wS ct aS mS ++ wL ct aL mL) H → va_D A (wS ct aS mS ++ wL ct aL mL) → va_S A s.heap H locs → ∀ ls : Array Slot, lv_has ls 4 [(0, .ref (aS 0)), (1, .ref (aL 0)), (2, .int v2), (3, .int v3)] → W p l e (headSpec wsX4_seekBest rmX4_seekBest).room s m args below meth c H locs 0 0 Q (F0 m 19 ls []) := by
            intro n
            induction n with
            | zero => intro v3 mS hit; exact (itr_zero hit).elim
            | succ n ih19 =>
              intro v3 mS hit H locs hP hD hS ls hl
              obtain ⟨o19, hM, hbk19, hex19⟩ := itr_succ hit
              replace hM : mX4_seekBest_s19 v2 mL v3 mS = some o19 := hM
              have N42 : ∀ (v3 : Int32) (mS : Mem), mX4_seekBest_j42 v2 v3 mS mL = some o19 → ∀ (H : Heap) (locs : List Loc), va_P (dC, dI) vwCl (wS ct aS mS ++ wL ct aL mL) H → va_D A (wS ct aS mS ++ wL ct aL mL) → va_S A s.heap H locs → ∀ ls : Array Slot, lv_has ls 4 [(0, .ref (aS 0)), (1, .ref (aL 0)), (2, .int v2), (3, .int v3)] → W p l e (headSpec wsX4_seekBest rmX4_seekBest).room s m args below meth c H locs 0 0 Q (F0 m 42 ls []) := by
                intro v3 mS hM H locs hP hD hS ls hl
                unfold mX4_seekBest_j42 at hM
                refine lv_aload_n hx hb dX4_seekBest_42 rfl (lv_at hl 0 rfl) ?_
                refine lv_aload_n hx hb dX4_seekBest_43 rfl (lv_at hl 1 rfl) ?_
                refine lv_iload_n hx hb dX4_seekBest_44 rfl (lv_at hl 2 rfl) ?_
                refine lv_iload_n hx hb dX4_seekBest_45 rfl (lv_at hl 3 rfl) ?_
                obtain ⟨mS_2, hr_3, hM⟩ := bn_some hM
                refine gv_v (wn := (wS ct aS mS_2 ++ wL ct aL mL)) (va_runV (As := [.ref (aL 0), .int v2, .int v3]) (rest := []) ⟨hx, hb, hml, hown, hts⟩ (kX4_tryLaw l dC dI ct aS aL _ mS mL v2 v3 _ hr_3) (cwV 3 hts gX4_seekBest_X4_tryLaw rfl rfl rfl hvX4_tryLaw ⟨Nat.le_of_ble_eq_true rfl, Nat.le_of_ble_eq_true rfl⟩) (preV_of E0_ok hK hP hD (is := [0, 1, 2, 3, 4, 5, 6, 7, 8, 9, 10, 11, 12, 13]) rfl rfl rfl (ci := 4) rfl 0 rfl e_0) rfl rfl hl.1 rfl (lv_room (Nat.le_of_ble_eq_true rfl)) dX4_seekBest_46 ⟨Nat.le_of_ble_eq_true rfl, Nat.le_of_ble_eq_true rfl⟩) hP hD hS hA [0, 1, 2, 3, 4, 5, 6, 7, 8, 9, 10, 11, 12, 13] [] [0, 1, 2, 3, 4, 5, 6, 7, 8, 9, 10, 11, 12, 13] rfl rfl rfl (by decide) rfl rfl (fun H locs hP hD hS => ?_)
                obtain ⟨x_5, ex_5⟩ : ∃ y : Int32, y = (v3 + (1 : Int32)) := ⟨_, rfl⟩
                have hM := nm_at ex_5 hM
                refine lv_iinc (v := x_5) (lv' := [(3, .int x_5), (0, .ref (aS 0)), (1, .ref (aL 0)), (2, .int v2)]) hx hb dX4_seekBest_49 hl (k := 3) rfl (by rw [ex_5]; rfl) (by decide) rfl (fun ls hl => ?_)
                refine lv_goto (tgt := 19) hx hb dX4_seekBest_52 (by decide) ?_
                have hR := som hM
                exact ih19 x_5 mS_2 (hbk19 _ hR) _ _ hP hD hS _ (lv_sub hl [1, 2, 3, 0] rfl)
              unfold mX4_seekBest_s19 at hM
              refine lv_iload_n hx hb dX4_seekBest_19 rfl (lv_at hl 3 rfl) ?_
              refine lv_bipush (v := 9) hx hb dX4_seekBest_20 (by decide) ?_
              refine lv_icmp_gt (tgt := 55) hx hb dX4_seekBest_22 (by decide) (fun hc_6 => ?_) (fun hc_6 => ?_)
              · have hM := it_p hc_6 hM
                have hR := som hM
                exact X19_0 mS (hex19 _ hR).symm _ _ hP hD hS _ (lv_sub hl [0, 1, 2] rfl)
              · have hM := it_n hc_6 hM
                refine lv_aload_n hx hb dX4_seekBest_25 rfl (lv_at hl 0 rfl) ?_
                refine va_get (D := (dC, dI)) (ci := 4) (v := .int (mS 0 6)) (C := RX4) (T := TX4) (N := 8) hx hb hts iwX4_seekBest_X4 hown hK hP 0 rfl rfl 6 (by decide) (hts _ (List.mem_of_getElem? (i := 1) rfl)) (fun _ h9 => h9) rfl dX4_seekBest_26 ?_
                refine lv_iconst (v := -1) hx hb dX4_seekBest_29 (by decide) ?_
                refine lv_icmp_eq (tgt := 42) hx hb dX4_seekBest_30 (by decide) (fun hc_7 => ?_) (fun hc_7 => ?_)
                · have hM := it_p hc_7 hM
                  exact N42 v3 mS hM _ _ hP hD hS _ (lv_sub hl [0, 1, 2, 3] rfl)
                · have hM := it_n hc_7 hM
                  refine lv_aload_n hx hb dX4_seekBest_33 rfl (lv_at hl 1 rfl) ?_
                  refine lv_iload_n hx hb dX4_seekBest_34 rfl (lv_at hl 2 rfl) ?_
                  refine lv_iload_n hx hb dX4_seekBest_35 rfl (lv_at hl 3 rfl) ?_
                  obtain ⟨x_8, hr_9, hM⟩ := bn_some hM
                  refine gv_i (r0 := x_8) (wn := (wS ct aS mS ++ wL ct aL mL)) (va_runS (As := [.ref (aL 0), .int v2, .int v3]) (rest := []) ⟨hx, hb, hml, hown, hts⟩ (kX4_strikesLoansOfMoon l dC dI ct aL _ mL v2 v3 _ hr_9) (va_cwS 3 hts gX4_seekBest_X4_strikesLoansOfMoon rfl rfl rfl hvX4_strikesLoansOfMoon.2 ⟨Nat.le_of_ble_eq_true rfl, Nat.le_of_ble_eq_true rfl⟩) (preS_of E0_ok hK hP hD (is := [4, 5, 6, 7, 8, 9, 10, 11, 12, 13]) rfl rfl e_0) rfl rfl hl.1 rfl (lv_room (Nat.le_of_ble_eq_true rfl)) dX4_seekBest_36 ⟨Nat.le_of_ble_eq_true rfl, Nat.le_of_ble_eq_true rfl⟩) hP hD hS hA [4, 5, 6, 7, 8, 9, 10, 11, 12, 13] [0, 1, 2, 3] [0, 1, 2, 3, 4, 5, 6, 7, 8, 9, 10, 11, 12, 13] rfl rfl rfl (by decide) rfl rfl (fun H locs hP hD hS => ?_)
                  refine lv_if_eq (tgt := 49) hx hb dX4_seekBest_39 (by decide) (fun hc_11 => ?_) (fun hc_11 => ?_)
                  · have hM := it_p hc_11 hM
                    obtain ⟨x_12, ex_12⟩ : ∃ y : Int32, y = (v3 + (1 : Int32)) := ⟨_, rfl⟩
                    have hM := nm_at ex_12 hM
                    refine lv_iinc (v := x_12) (lv' := [(3, .int x_12), (0, .ref (aS 0)), (1, .ref (aL 0)), (2, .int v2)]) hx hb dX4_seekBest_49 hl (k := 3) rfl (by rw [ex_12]; rfl) (by decide) rfl (fun ls hl => ?_)
                    refine lv_goto (tgt := 19) hx hb dX4_seekBest_52 (by decide) ?_
                    have hR := som hM
                    exact ih19 x_12 mS (hbk19 _ hR) _ _ hP hD hS _ (lv_sub hl [1, 2, 3, 0] rfl)
                  · have hM := it_n hc_11 hM
                    exact N42 v3 mS hM _ _ hP hD hS _ (lv_sub hl [0, 1, 2, 3] rfl)
          exact I19 FU v3 mS hit19 _ _ hP hD hS _ hl
        unfold mX4_seekBest_s11 at hM
        refine lv_iload_n hx hb dX4_seekBest_11 rfl (lv_at hl 2 rfl) ?_
        refine lv_bipush (v := 16) hx hb dX4_seekBest_12 (by decide) ?_
        refine lv_icmp_gt (tgt := 61) hx hb dX4_seekBest_14 (by decide) (fun hc_13 => ?_) (fun hc_13 => ?_)
        · have hM := it_p hc_13 hM
          have hR := som hM
          exact X11_0 mS (hex11 _ hR).symm _ _ hP hD hS _ (lv_sub hl [] rfl)
        · have hM := it_n hc_13 hM
          refine lv_iconst (v := 1) hx hb dX4_seekBest_17 (by decide) ?_
          refine lv_istore_n (lv' := [(3, .int (1 : Int32)), (0, .ref (aS 0)), (1, .ref (aL 0)), (2, .int v2)]) hx hb dX4_seekBest_18 rfl hl (by decide) rfl (fun ls hl => ?_)
          exact N19 v2 (1 : Int32) mS hM _ _ hP hD hS _ (lv_sub hl [1, 2, 3, 0] rfl)
    exact I11 FU v2 mS hit11 _ _ hP hD hS _ hl
  refine lv_aload_n hx hb dX4_seekBest_0 rfl (lv_at hl 0 rfl) ?_
  refine va_get (D := (dC, dI)) (ci := 4) (v := .int (mS 0 6)) (C := RX4) (T := TX4) (N := 8) hx hb hts iwX4_seekBest_X4 hown hK hP 0 rfl rfl 6 (by decide) (hts _ (List.mem_of_getElem? (i := 1) rfl)) (fun _ h9 => h9) rfl dX4_seekBest_1 ?_
  refine lv_iconst (v := -1) hx hb dX4_seekBest_4 (by decide) ?_
  refine lv_icmp_eq (tgt := 9) hx hb dX4_seekBest_5 (by decide) (fun hc_14 => ?_) (fun hc_14 => ?_)
  · have hM := it_p hc_14 hM
    refine lv_iconst (v := 0) hx hb dX4_seekBest_9 (by decide) ?_
    refine lv_istore_n (lv' := [(2, .int (0 : Int32)), (0, .ref (aS 0)), (1, .ref (aL 0))]) hx hb dX4_seekBest_10 rfl hl (by decide) rfl (fun ls hl => ?_)
    exact N11 (0 : Int32) mS hM _ _ hP hD hS _ (lv_sub hl [1, 2, 0] rfl)
  · have hM := it_n hc_14 hM
    have hR := som hM
    rw [hR] at hQ
    exact ret_v hQ hx hb hr hlocks hP hK hD hS dX4_seekBest_8
abbrev rmX4_forgetBest : Room := { frames := 0, cells := 0, slots := 0, locals := 0 }
theorem iwX4_forgetBest_X4 : ∀ w ∈ wsX40, w ∈ wsX4_forgetBest := fun _ h => List.mem_cons_of_mem _ (List.mem_append_right _ (h))
set_option maxHeartbeats 4000000 in
set_option maxRecDepth 100000 in
theorem kX4_forgetBest (l : Launch) (dC : Nat → ClassId) (dI : Nat → Nat → Nat) (ct : Nat → ClassId) (aS : Nat → Nat) (sz : Nat) (mS : Mem) (res : Mem) (hM : mX4_forgetBest mS = some res) : Met l yX4_forgetBest wsX4_forgetBest rmX4_forgetBest (va_Pc [.ref (aS 0)] (PB (dC, dI) ct E0 sz (wS ct aS mS))) (Qv (dC, dI) ct (va_A (wS ct aS mS) sz) (wS ct aS res)) 0 0 (va_A (wS ct aS mS) sz) := by
  refine Met.ofW (cc := cX4_forgetBest) (maxL := 1) (ret := none) (by decide) rfl ?_
  intro p e s m args below meth c s₁ B hml hv
  obtain ⟨hargs, hsz, hP, hK, hD0, hE⟩ := hv
  have hx := B.exec
  have hb := B.bytes
  have hr := B.returns
  have hts := atoms_spec (ws := wsX4_forgetBest) B.pre
  have hown : s.vm.findClass RX4 = some m.cls := findClass_of_methodNamed B.named
  have hlocks := B.notSynchronized
  clear B s₁
  subst hsz
  have hD := hD0.self (sz := s.heap.size)
  clear hD0
  generalize hAe : va_A (wS ct aS mS) s.heap.size = A at hD hE ⊢
  have hA : ∀ q : Nat, s.heap.size ≤ q → A q := fun q h => by rw [← hAe]; exact Or.inr h
  clear hAe
  have hS : va_S A s.heap s.heap [] := va_S.rf
  refine cutQ (fun Q hQ => ?_)
  refine entryW (vs := [.ref (aS 0)]) hargs (Nat.le_of_ble_eq_true rfl) (fun ls hl => ?_)
  replace hl : lv_has ls 1 [(0, .ref (aS 0))] := hl
  unfold mX4_forgetBest at hM
  refine lv_aload_n hx hb dX4_forgetBest_0 rfl (lv_at hl 0 rfl) ?_
  refine lv_iconst (v := -1) hx hb dX4_forgetBest_1 (by decide) ?_
  refine pf_i (wf := fun z => (wS ct aS z)) (m1 := upf mS 6 (-1 : Int32)) hx hb hts iwX4_forgetBest_X4 tyX4 tyX4_ok nmX4 hown hK hP hD hS 0 rfl rfl 6 (by decide) (hts _ (List.mem_of_getElem? (i := 1) rfl)) (fun _ h9 => h9) rfl rfl rfl (Nat.le_of_ble_eq_true rfl) dX4_forgetBest_2 rfl (fun mS_1 emS_1 H locs hP hD hS => ?_)
  have hM := nm_at emS_1 hM
  have hR := som hM
  rw [hR] at hQ
  exact ret_v hQ hx hb hr hlocks hP hK hD hS dX4_forgetBest_5
