abbrev rmX3_skipBlanks : Room := { frames := 0, cells := 0, slots := 0, locals := 0 }
theorem iwX3_skipBlanks_X3 : ∀ w ∈ wsX30, w ∈ wsX3_skipBlanks := fun _ h => List.mem_cons_of_mem _ (List.mem_append_left _ (List.mem_append_right _ (h)))
theorem iwX3_skipBlanks_X5 : ∀ w ∈ wsX50, w ∈ wsX3_skipBlanks := fun _ h => List.mem_cons_of_mem _ (List.mem_append_right _ (h))
set_option maxHeartbeats 4000000 in
set_option maxRecDepth 100000 in
theorem kX3_skipBlanks (l : Launch) (dC : Nat → ClassId) (dI : Nat → Nat → Nat) (ct : Nat → ClassId) (aR : Nat → Nat) (aT : Nat → Nat) (xR_land : Nat) (sz : Nat) (mR : Mem) (mT : Mem) (res : Mem) (hM : mX3_skipBlanks mR mT = some res) : Met l yX3_skipBlanks wsX3_skipBlanks rmX3_skipBlanks (va_Pc [.ref (aR 0)] (PB (dC, dI) ct E0 sz (wR ct aR (aT 0) xR_land mR ++ wT ct aT mT))) (Qv (dC, dI) ct (va_A (wR ct aR (aT 0) xR_land mR ++ wT ct aT mT) sz) (wR ct aR (aT 0) xR_land res ++ wT ct aT mT)) 0 0 (va_A (wR ct aR (aT 0) xR_land mR ++ wT ct aT mT) sz) := by
  refine Met.ofW (cc := cX3_skipBlanks) (maxL := 1) (ret := none) (by decide) rfl ?_
  intro p e s m args below meth c s₁ B hml hv
  obtain ⟨hargs, hsz, hP, hK, hD0, hE⟩ := hv
  have hx := B.exec
  have hb := B.bytes
  have hr := B.returns
  have hts := atoms_spec (ws := wsX3_skipBlanks) B.pre
  have hown : s.vm.findClass RX3 = some m.cls := findClass_of_methodNamed B.named
  have hlocks := B.notSynchronized
  clear B s₁
  subst hsz
  have hD := hD0.self (sz := s.heap.size)
  clear hD0
  generalize hAe : va_A (wR ct aR (aT 0) xR_land mR ++ wT ct aT mT) s.heap.size = A at hD hE ⊢
  have hA : ∀ q : Nat, s.heap.size ≤ q → A q := fun q h => by rw [← hAe]; exact Or.inr h
  clear hAe
  have hS : va_S A s.heap s.heap [] := va_S.rf
  refine cutQ (fun Q hQ => ?_)
  refine entryW (vs := [.ref (aR 0)]) hargs (Nat.le_of_ble_eq_true rfl) (fun ls hl => ?_)
  replace hl : lv_has ls 1 [(0, .ref (aR 0))] := hl
  unfold mX3_skipBlanks at hM
  have N0 : ∀ (mR : Mem), mX3_skipBlanks_L0 mR mT = some res → ∀ (H : Heap) (locs : List Loc), va_P (dC, dI) vwCl (wR ct aR (aT 0) xR_land mR ++ wT ct aT mT) H → va_D A (wR ct aR (aT 0) xR_land mR ++ wT ct aT mT) → va_S A s.heap H locs → ∀ ls : Array Slot, lv_has ls 1 [(0, .ref (aR 0))] → W p l e (headSpec wsX3_skipBlanks rmX3_skipBlanks).room s m args below meth c H locs 0 0 Q (F0 m 0 ls []) := by
    intro mR hM H locs hP hD hS ls hl
    unfold mX3_skipBlanks_L0 at hM
    obtain ⟨ex0, hit0, hM⟩ := bn_some hM
    have X0_0 : ∀ (mR : Mem), ex0 = mR → ∀ (H : Heap) (locs : List Loc), va_P (dC, dI) vwCl (wR ct aR (aT 0) xR_land mR ++ wT ct aT mT) H → va_D A (wR ct aR (aT 0) xR_land mR ++ wT ct aT mT) → va_S A s.heap H locs → ∀ ls : Array Slot, lv_has ls 1 [] → W p l e (headSpec wsX3_skipBlanks rmX3_skipBlanks).room s m args below meth c H locs 0 0 Q (F0 m 61 ls []) := by
      intro mR hex H locs hP hD hS ls hl
      rw [hex] at hM
      have hM := nm_at (y := mR) rfl hM
      have hR := som hM
      rw [hR] at hQ
      exact ret_v hQ hx hb hr hlocks hP hK hD hS dX3_skipBlanks_61
    have I0 : ∀ (n : Nat) (mR : Mem), itr (fun q => mX3_skipBlanks_s0 mT q) n mR = some ex0 → ∀ (H : Heap) (locs : List Loc), va_P (dC, dI) vwCl (wR ct aR (aT 0) xR_land mR ++ wT ct aT mT) H → va_D A (wR ct aR (aT 0) xR_land mR ++ wT ct aT mT) → va_S A s.heap H locs → ∀ ls : Array Slot, lv_has ls 1 [(0, .ref (aR 0))] → W p l e (headSpec wsX3_skipBlanks rmX3_skipBlanks).room s m args below meth c H locs 0 0 Q (F0 m 0 ls []) := by
      intro n
      induction n with
      | zero => intro mR hit; exact (itr_zero hit).elim
      | succ n ih0 =>
        intro mR hit H locs hP hD hS ls hl
        obtain ⟨o0, hM, hbk0, hex0⟩ := itr_succ hit
        replace hM : mX3_skipBlanks_s0 mT mR = some o0 := hM
        have N48 : ∀ (mR : Mem), mX3_skipBlanks_j48 mR mT = some o0 → ∀ (H : Heap) (locs : List Loc), va_P (dC, dI) vwCl (wR ct aR (aT 0) xR_land mR ++ wT ct aT mT) H → va_D A (wR ct aR (aT 0) xR_land mR ++ wT ct aT mT) → va_S A s.heap H locs → ∀ ls : Array Slot, lv_has ls 1 [(0, .ref (aR 0))] → W p l e (headSpec wsX3_skipBlanks rmX3_skipBlanks).room s m args below meth c H locs 0 0 Q (F0 m 48 ls []) := by
          intro mR hM H locs hP hD hS ls hl
          unfold mX3_skipBlanks_j48 at hM
          refine lv_aload_n hx hb dX3_skipBlanks_48 rfl (lv_at hl 0 rfl) ?_
          refine lv_dup hx hb dX3_skipBlanks_49 rfl ?_
          refine va_get (D := (dC, dI)) (ci := 3) (v := .int (mR 0 6)) (C := RX3) (T := TX3) (N := 13) hx hb hts iwX3_skipBlanks_X3 hown hK hP 0 rfl rfl 6 (by decide) (hts _ (List.mem_of_getElem? (i := 1) rfl)) (fun _ h9 => h9) rfl dX3_skipBlanks_50 ?_
          refine lv_iconst (v := 1) hx hb dX3_skipBlanks_53 (by decide) ?_
          refine lv_iadd hx hb dX3_skipBlanks_54 ?_
          refine pf_i (wf := fun z => (wR ct aR (aT 0) xR_land z ++ wT ct aT mT)) (m1 := upf mR 6 ((mR 0 6) + (1 : Int32))) hx hb hts iwX3_skipBlanks_X3 tyX3 tyX3_ok nmX3 hown hK hP hD hS 0 rfl rfl 6 (by decide) (hts _ (List.mem_of_getElem? (i := 1) rfl)) (fun _ h9 => h9) rfl rfl rfl (Nat.le_of_ble_eq_true rfl) dX3_skipBlanks_55 rfl (fun mR_1 emR_1 H locs hP hD hS => ?_)
          have hM := nm_at emR_1 hM
          refine lv_goto (tgt := 0) hx hb dX3_skipBlanks_58 (by decide) ?_
          have hR := som hM
          exact ih0 mR_1 (hbk0 _ hR) _ _ hP hD hS _ (lv_sub hl [0] rfl)
        unfold mX3_skipBlanks_s0 at hM
        refine lv_aload_n hx hb dX3_skipBlanks_0 rfl (lv_at hl 0 rfl) ?_
        refine va_get (D := (dC, dI)) (ci := 3) (v := .int (mR 0 6)) (C := RX3) (T := TX3) (N := 13) hx hb hts iwX3_skipBlanks_X3 hown hK hP 0 rfl rfl 6 (by decide) (hts _ (List.mem_of_getElem? (i := 1) rfl)) (fun _ h9 => h9) rfl dX3_skipBlanks_1 ?_
        refine lv_aload_n hx hb dX3_skipBlanks_4 rfl (lv_at hl 0 rfl) ?_
        refine va_get (D := (dC, dI)) (ci := 3) (v := .ref (aT 0)) (C := RX3) (T := TX3) (N := 13) hx hb hts iwX3_skipBlanks_X3 hown hK hP 0 rfl rfl 0 (by decide) (hts _ (List.mem_of_getElem? (i := 2) rfl)) (fun _ h9 => h9) rfl dX3_skipBlanks_5 ?_
        refine va_get (D := (dC, dI)) (ci := 5) (v := .int (mT 0 1)) (C := RX5) (T := TX5) (N := 2) hx hb hts iwX3_skipBlanks_X5 hown hK hP 4 rfl rfl 1 (by decide) (hts _ (List.mem_of_getElem? (i := 3) rfl)) (fun _ h9 => h9) rfl dX3_skipBlanks_8 ?_
        refine lv_icmp_ge (tgt := 61) hx hb dX3_skipBlanks_11 (by decide) (fun hc_2 => ?_) (fun hc_2 => ?_)
        · have hM := it_p hc_2 hM
          have hR := som hM
          exact X0_0 mR (hex0 _ hR).symm _ _ hP hD hS _ (lv_sub hl [] rfl)
        · have hM := it_n hc_2 hM
          refine lv_aload_n hx hb dX3_skipBlanks_14 rfl (lv_at hl 0 rfl) ?_
          refine va_get (D := (dC, dI)) (ci := 3) (v := .ref (aT 0)) (C := RX3) (T := TX3) (N := 13) hx hb hts iwX3_skipBlanks_X3 hown hK hP 0 rfl rfl 0 (by decide) (hts _ (List.mem_of_getElem? (i := 2) rfl)) (fun _ h9 => h9) rfl dX3_skipBlanks_15 ?_
          refine va_get (D := (dC, dI)) (ci := 5) (v := .ref (aT 1)) (C := RX5) (T := TX5) (N := 2) hx hb hts iwX3_skipBlanks_X5 hown hK hP 4 rfl rfl 0 (by decide) (hts _ (List.mem_of_getElem? (i := 4) rfl)) (fun _ h9 => h9) rfl dX3_skipBlanks_18 ?_
          refine lv_aload_n hx hb dX3_skipBlanks_21 rfl (lv_at hl 0 rfl) ?_
          refine va_get (D := (dC, dI)) (ci := 3) (v := .int (mR 0 6)) (C := RX3) (T := TX3) (N := 13) hx hb hts iwX3_skipBlanks_X3 hown hK hP 0 rfl rfl 6 (by decide) (hts _ (List.mem_of_getElem? (i := 1) rfl)) (fun _ h9 => h9) rfl dX3_skipBlanks_22 ?_
          obtain ⟨hi, hM⟩ := gi_some hM
          refine va_bald hx hb hK hP 5 1 rfl rfl hi dX3_skipBlanks_25 ?_
          refine lv_bipush (v := 32) hx hb dX3_skipBlanks_26 (by decide) ?_
          refine lv_icmp_eq (tgt := 48) hx hb dX3_skipBlanks_28 (by decide) (fun hc_3 => ?_) (fun hc_3 => ?_)
          · have hM := it_p hc_3 hM
            exact N48 mR hM _ _ hP hD hS _ (lv_sub hl [0] rfl)
          · have hM := it_n hc_3 hM
            refine lv_aload_n hx hb dX3_skipBlanks_31 rfl (lv_at hl 0 rfl) ?_
            refine va_get (D := (dC, dI)) (ci := 3) (v := .ref (aT 0)) (C := RX3) (T := TX3) (N := 13) hx hb hts iwX3_skipBlanks_X3 hown hK hP 0 rfl rfl 0 (by decide) (hts _ (List.mem_of_getElem? (i := 2) rfl)) (fun _ h9 => h9) rfl dX3_skipBlanks_32 ?_
            refine va_get (D := (dC, dI)) (ci := 5) (v := .ref (aT 1)) (C := RX5) (T := TX5) (N := 2) hx hb hts iwX3_skipBlanks_X5 hown hK hP 4 rfl rfl 0 (by decide) (hts _ (List.mem_of_getElem? (i := 4) rfl)) (fun _ h9 => h9) rfl dX3_skipBlanks_35 ?_
            refine lv_aload_n hx hb dX3_skipBlanks_38 rfl (lv_at hl 0 rfl) ?_
            refine va_get (D := (dC, dI)) (ci := 3) (v := .int (mR 0 6)) (C := RX3) (T := TX3) (N := 13) hx hb hts iwX3_skipBlanks_X3 hown hK hP 0 rfl rfl 6 (by decide) (hts _ (List.mem_of_getElem? (i := 1) rfl)) (fun _ h9 => h9) rfl dX3_skipBlanks_39 ?_
            obtain ⟨hi, hM⟩ := gi_some hM
            refine va_bald hx hb hK hP 5 1 rfl rfl hi dX3_skipBlanks_42 ?_
            refine lv_bipush (v := 10) hx hb dX3_skipBlanks_43 (by decide) ?_
            refine lv_icmp_ne (tgt := 61) hx hb dX3_skipBlanks_45 (by decide) (fun hc_4 => ?_) (fun hc_4 => ?_)
            · have hM := it_p hc_4 hM
              have hR := som hM
              exact X0_0 mR (hex0 _ hR).symm _ _ hP hD hS _ (lv_sub hl [] rfl)
            · have hM := it_nn hc_4 hM
              exact N48 mR hM _ _ hP hD hS _ (lv_sub hl [0] rfl)
    exact I0 FU mR hit0 _ _ hP hD hS _ hl
  exact N0 mR hM _ _ hP hD hS _ (lv_sub hl [0] rfl)
abbrev rmX3_step : Room := { frames := 1, cells := 0, slots := 0, locals := 21 }
theorem iwX3_step_X3 : ∀ w ∈ wsX30, w ∈ wsX3_step := fun _ h => List.mem_cons_of_mem _ (List.mem_append_left _ (List.mem_append_right _ (h)))
theorem iwX3_step_X5 : ∀ w ∈ wsX50, w ∈ wsX3_step := fun _ h => List.mem_cons_of_mem _ (List.mem_append_right _ (h))
set_option maxHeartbeats 4000000 in
set_option maxRecDepth 100000 in
theorem kX3_step (l : Launch) (dC : Nat → ClassId) (dI : Nat → Nat → Nat) (ct : Nat → ClassId) (aR : Nat → Nat) (aT : Nat → Nat) (xR_land : Nat) (sz : Nat) (mR : Mem) (mT : Mem) (res : Mem) (hM : mX3_step mR mT = some res) : Met l yX3_step wsX3_step rmX3_step (va_Pc [.ref (aR 0)] (PB (dC, dI) ct E0 sz (wR ct aR (aT 0) xR_land mR ++ wT ct aT mT))) (Qv (dC, dI) ct (va_A (wR ct aR (aT 0) xR_land mR ++ wT ct aT mT) sz) (wR ct aR (aT 0) xR_land res ++ wT ct aT mT)) 0 0 (va_A (wR ct aR (aT 0) xR_land mR ++ wT ct aT mT) sz) := by
  refine Met.ofW (cc := cX3_step) (maxL := 2) (ret := none) (by decide) rfl ?_
  intro p e s m args below meth c s₁ B hml hv
  obtain ⟨hargs, hsz, hP, hK, hD0, hE⟩ := hv
  have hx := B.exec
  have hb := B.bytes
  have hr := B.returns
  have hts := atoms_spec (ws := wsX3_step) B.pre
  have hown : s.vm.findClass RX3 = some m.cls := findClass_of_methodNamed B.named
  have hlocks := B.notSynchronized
  clear B s₁
  subst hsz
  have hD := hD0.self (sz := s.heap.size)
  clear hD0
  generalize hAe : va_A (wR ct aR (aT 0) xR_land mR ++ wT ct aT mT) s.heap.size = A at hD hE ⊢
  have hA : ∀ q : Nat, s.heap.size ≤ q → A q := fun q h => by rw [← hAe]; exact Or.inr h
  clear hAe
  have hS : va_S A s.heap s.heap [] := va_S.rf
  refine cutQ (fun Q hQ => ?_)
  refine entryW (vs := [.ref (aR 0)]) hargs (Nat.le_of_ble_eq_true rfl) (fun ls hl => ?_)
  replace hl : lv_has ls 2 [(0, .ref (aR 0))] := hl
  unfold mX3_step at hM
  have N208 : ∀ (t1 : Int32) (mR : Mem), mX3_step_j208 t1 mR mT = some res → ∀ (H : Heap) (locs : List Loc), va_P (dC, dI) vwCl (wR ct aR (aT 0) xR_land mR ++ wT ct aT mT) H → va_D A (wR ct aR (aT 0) xR_land mR ++ wT ct aT mT) → va_S A s.heap H locs → ∀ ls : Array Slot, lv_has ls 2 [(0, .ref (aR 0))] → W p l e (headSpec wsX3_step rmX3_step).room s m args below meth c H locs 0 0 Q (F0 m 208 ls [.int t1, .ref (aR 0)]) := by
    intro t1 mR hM H locs hP hD hS ls hl
    unfold mX3_step_j208 at hM
    refine pf_i (wf := fun z => (wR ct aR (aT 0) xR_land z ++ wT ct aT mT)) (m1 := upf mR 7 t1) hx hb hts iwX3_step_X3 tyX3 tyX3_ok nmX3 hown hK hP hD hS 0 rfl rfl 7 (by decide) (hts _ (List.mem_of_getElem? (i := 5) rfl)) (fun _ h9 => h9) rfl rfl rfl (Nat.le_of_ble_eq_true rfl) dX3_step_208 rfl (fun mR_1 emR_1 H locs hP hD hS => ?_)
    have hM := nm_at emR_1 hM
    refine lv_aload_n hx hb dX3_step_211 rfl (lv_at hl 0 rfl) ?_
    refine lv_dup hx hb dX3_step_212 rfl ?_
    refine va_get (D := (dC, dI)) (ci := 3) (v := .int (mR_1 0 6)) (C := RX3) (T := TX3) (N := 13) hx hb hts iwX3_step_X3 hown hK hP 0 rfl rfl 6 (by decide) (hts _ (List.mem_of_getElem? (i := 1) rfl)) (fun _ h9 => h9) rfl dX3_step_213 ?_
    refine lv_iconst (v := 1) hx hb dX3_step_216 (by decide) ?_
    refine lv_iadd hx hb dX3_step_217 ?_
    refine pf_i (wf := fun z => (wR ct aR (aT 0) xR_land z ++ wT ct aT mT)) (m1 := upf mR_1 6 ((mR_1 0 6) + (1 : Int32))) hx hb hts iwX3_step_X3 tyX3 tyX3_ok nmX3 hown hK hP hD hS 0 rfl rfl 6 (by decide) (hts _ (List.mem_of_getElem? (i := 1) rfl)) (fun _ h9 => h9) rfl rfl rfl (Nat.le_of_ble_eq_true rfl) dX3_step_218 rfl (fun mR_2 emR_2 H locs hP hD hS => ?_)
    have hM := nm_at emR_2 hM
    have hR := som hM
    rw [hR] at hQ
    exact ret_v hQ hx hb hr hlocks hP hK hD hS dX3_step_221
  have N119 : ∀ (mR : Mem), mX3_step_L119 mR mT = some res → ∀ (H : Heap) (locs : List Loc), va_P (dC, dI) vwCl (wR ct aR (aT 0) xR_land mR ++ wT ct aT mT) H → va_D A (wR ct aR (aT 0) xR_land mR ++ wT ct aT mT) → va_S A s.heap H locs → ∀ ls : Array Slot, lv_has ls 2 [(0, .ref (aR 0))] → W p l e (headSpec wsX3_step rmX3_step).room s m args below meth c H locs 0 0 Q (F0 m 119 ls []) := by
    intro mR hM H locs hP hD hS ls hl
    unfold mX3_step_L119 at hM
    obtain ⟨ex119, hit119, hM⟩ := bn_some hM
    have X119_0 : ∀ (mR : Mem), ex119 = mR → ∀ (H : Heap) (locs : List Loc), va_P (dC, dI) vwCl (wR ct aR (aT 0) xR_land mR ++ wT ct aT mT) H → va_D A (wR ct aR (aT 0) xR_land mR ++ wT ct aT mT) → va_S A s.heap H locs → ∀ ls : Array Slot, lv_has ls 2 [] → W p l e (headSpec wsX3_step rmX3_step).room s m args below meth c H locs 0 0 Q (F0 m 221 ls []) := by
      intro mR hex H locs hP hD hS ls hl
      rw [hex] at hM
      have hM := nm_at (y := mR) rfl hM
      have hR := som hM
      rw [hR] at hQ
      exact ret_v hQ hx hb hr hlocks hP hK hD hS dX3_step_221
    have I119 : ∀ (n : Nat) (mR : Mem), itr (fun q => mX3_step_s119 mT q) n mR = some ex119 → ∀ (H : Heap) (locs : List Loc), va_P (dC, dI) vwCl (wR ct aR (aT 0) xR_land mR ++ wT ct aT mT) H → va_D A (wR ct aR (aT 0) xR_land mR ++ wT ct aT mT) → va_S A s.heap H locs → ∀ ls : Array Slot, lv_has ls 2 [(0, .ref (aR 0))] → W p l e (headSpec wsX3_step rmX3_step).room s m args below meth c H locs 0 0 Q (F0 m 119 ls []) := by
      intro n
      induction n with
      | zero => intro mR hit; exact (itr_zero hit).elim
      | succ n ih119 =>
        intro mR hit H locs hP hD hS ls hl
        obtain ⟨o119, hM, hbk119, hex119⟩ := itr_succ hit
        replace hM : mX3_step_s119 mT mR = some o119 := hM
        unfold mX3_step_s119 at hM
        refine lv_aload_n hx hb dX3_step_119 rfl (lv_at hl 0 rfl) ?_
        refine va_get (D := (dC, dI)) (ci := 3) (v := .int (mR 0 6)) (C := RX3) (T := TX3) (N := 13) hx hb hts iwX3_step_X3 hown hK hP 0 rfl rfl 6 (by decide) (hts _ (List.mem_of_getElem? (i := 1) rfl)) (fun _ h9 => h9) rfl dX3_step_120 ?_
        refine lv_aload_n hx hb dX3_step_123 rfl (lv_at hl 0 rfl) ?_
        refine va_get (D := (dC, dI)) (ci := 3) (v := .ref (aT 0)) (C := RX3) (T := TX3) (N := 13) hx hb hts iwX3_step_X3 hown hK hP 0 rfl rfl 0 (by decide) (hts _ (List.mem_of_getElem? (i := 3) rfl)) (fun _ h9 => h9) rfl dX3_step_124 ?_
        refine va_get (D := (dC, dI)) (ci := 5) (v := .int (mT 0 1)) (C := RX5) (T := TX5) (N := 2) hx hb hts iwX3_step_X5 hown hK hP 4 rfl rfl 1 (by decide) (hts _ (List.mem_of_getElem? (i := 4) rfl)) (fun _ h9 => h9) rfl dX3_step_127 ?_
        refine lv_icmp_ge (tgt := 221) hx hb dX3_step_130 (by decide) (fun hc_3 => ?_) (fun hc_3 => ?_)
        · have hM := it_p hc_3 hM
          have hR := som hM
          exact X119_0 mR (hex119 _ hR).symm _ _ hP hD hS _ (lv_sub hl [] rfl)
        · have hM := it_n hc_3 hM
          refine lv_aload_n hx hb dX3_step_133 rfl (lv_at hl 0 rfl) ?_
          refine va_get (D := (dC, dI)) (ci := 3) (v := .ref (aT 0)) (C := RX3) (T := TX3) (N := 13) hx hb hts iwX3_step_X3 hown hK hP 0 rfl rfl 0 (by decide) (hts _ (List.mem_of_getElem? (i := 3) rfl)) (fun _ h9 => h9) rfl dX3_step_134 ?_
          refine va_get (D := (dC, dI)) (ci := 5) (v := .ref (aT 1)) (C := RX5) (T := TX5) (N := 2) hx hb hts iwX3_step_X5 hown hK hP 4 rfl rfl 0 (by decide) (hts _ (List.mem_of_getElem? (i := 6) rfl)) (fun _ h9 => h9) rfl dX3_step_137 ?_
          refine lv_aload_n hx hb dX3_step_140 rfl (lv_at hl 0 rfl) ?_
          refine va_get (D := (dC, dI)) (ci := 3) (v := .int (mR 0 6)) (C := RX3) (T := TX3) (N := 13) hx hb hts iwX3_step_X3 hown hK hP 0 rfl rfl 6 (by decide) (hts _ (List.mem_of_getElem? (i := 1) rfl)) (fun _ h9 => h9) rfl dX3_step_141 ?_
          obtain ⟨hi, hM⟩ := gi_some hM
          refine va_bald hx hb hK hP 5 1 rfl rfl hi dX3_step_144 ?_
          obtain ⟨x_4, hr_5, hM⟩ := bn_some hM
          refine gv_i (r0 := x_4) (wn := (wR ct aR (aT 0) xR_land mR ++ wT ct aT mT)) (va_runS (As := [.int (mT 1 (mR 0 6).toNatClampNeg)]) (rest := []) ⟨hx, hb, hml, hown, hts⟩ (kX3_isDigit l dC dI ct _ (mT 1 (mR 0 6).toNatClampNeg) _ hr_5) (va_cwS 1 hts gX3_step_X3_isDigit rfl rfl rfl hvX3_isDigit.2 ⟨Nat.le_of_ble_eq_true rfl, Nat.le_of_ble_eq_true rfl⟩) (preS_of E0_ok hK hP hD (is := []) rfl rfl e_0) rfl rfl hl.1 rfl (lv_room (Nat.le_of_ble_eq_true rfl)) dX3_step_145 ⟨Nat.le_of_ble_eq_true rfl, Nat.le_of_ble_eq_true rfl⟩) hP hD hS hA [] [0, 1, 2, 3, 4, 5] [0, 1, 2, 3, 4, 5] rfl rfl rfl (by decide) rfl rfl (fun H locs hP hD hS => ?_)
          refine lv_if_eq (tgt := 221) hx hb dX3_step_148 (by decide) (fun hc_7 => ?_) (fun hc_7 => ?_)
          · have hM := it_p hc_7 hM
            have hR := som hM
            exact X119_0 mR (hex119 _ hR).symm _ _ hP hD hS _ (lv_sub hl [] rfl)
          · have hM := it_n hc_7 hM
            refine lv_aload_n hx hb dX3_step_151 rfl (lv_at hl 0 rfl) ?_
            refine lv_ldc (v := 100000) hx hb hown (hts _ (List.mem_of_getElem? (i := 8) rfl)) dX3_step_152 ?_
            refine lv_aload_n hx hb dX3_step_154 rfl (lv_at hl 0 rfl) ?_
            refine va_get (D := (dC, dI)) (ci := 3) (v := .int (mR 0 8)) (C := RX3) (T := TX3) (N := 13) hx hb hts iwX3_step_X3 hown hK hP 0 rfl rfl 8 (by decide) (hts _ (List.mem_of_getElem? (i := 7) rfl)) (fun _ h9 => h9) rfl dX3_step_155 ?_
            refine lv_bipush (v := 10) hx hb dX3_step_158 (by decide) ?_
            refine lv_imul hx hb dX3_step_160 ?_
            refine lv_aload_n hx hb dX3_step_161 rfl (lv_at hl 0 rfl) ?_
            refine va_get (D := (dC, dI)) (ci := 3) (v := .ref (aT 0)) (C := RX3) (T := TX3) (N := 13) hx hb hts iwX3_step_X3 hown hK hP 0 rfl rfl 0 (by decide) (hts _ (List.mem_of_getElem? (i := 3) rfl)) (fun _ h9 => h9) rfl dX3_step_162 ?_
            refine va_get (D := (dC, dI)) (ci := 5) (v := .ref (aT 1)) (C := RX5) (T := TX5) (N := 2) hx hb hts iwX3_step_X5 hown hK hP 4 rfl rfl 0 (by decide) (hts _ (List.mem_of_getElem? (i := 6) rfl)) (fun _ h9 => h9) rfl dX3_step_165 ?_
            refine lv_aload_n hx hb dX3_step_168 rfl (lv_at hl 0 rfl) ?_
            refine va_get (D := (dC, dI)) (ci := 3) (v := .int (mR 0 6)) (C := RX3) (T := TX3) (N := 13) hx hb hts iwX3_step_X3 hown hK hP 0 rfl rfl 6 (by decide) (hts _ (List.mem_of_getElem? (i := 1) rfl)) (fun _ h9 => h9) rfl dX3_step_169 ?_
            obtain ⟨hi, hM⟩ := gi_some hM
            refine va_bald hx hb hK hP 5 1 rfl rfl hi dX3_step_172 ?_
            refine lv_iadd hx hb dX3_step_173 ?_
            refine lv_bipush (v := 48) hx hb dX3_step_174 (by decide) ?_
            refine lv_isub hx hb dX3_step_176 ?_
            refine va_mmin hx hb (hml.trans hl.1.symm) hown (hts _ (List.mem_of_getElem? (i := 9) rfl)) (hts _ (List.mem_of_getElem? (i := 10) rfl)) (hts _ (List.mem_of_getElem? (i := 11) rfl)) (hts _ (List.mem_of_getElem? (i := 12) rfl)) (Nat.le_of_ble_eq_true rfl) (Nat.le_of_ble_eq_true rfl) (Nat.le_of_ble_eq_true rfl) (Nat.le_of_ble_eq_true rfl) dX3_step_177 ?_
            refine lv_topi (fun x_8 ex_8 => ?_)
            have hM := nm_at ex_8 hM
            refine pf_i (wf := fun z => (wR ct aR (aT 0) xR_land z ++ wT ct aT mT)) (m1 := upf mR 8 x_8) hx hb hts iwX3_step_X3 tyX3 tyX3_ok nmX3 hown hK hP hD hS 0 rfl rfl 8 (by decide) (hts _ (List.mem_of_getElem? (i := 7) rfl)) (fun _ h9 => h9) rfl rfl rfl (Nat.le_of_ble_eq_true rfl) dX3_step_180 rfl (fun mR_9 emR_9 H locs hP hD hS => ?_)
            have hM := nm_at emR_9 hM
            refine lv_aload_n hx hb dX3_step_183 rfl (lv_at hl 0 rfl) ?_
            refine lv_dup hx hb dX3_step_184 rfl ?_
            refine va_get (D := (dC, dI)) (ci := 3) (v := .int (mR_9 0 6)) (C := RX3) (T := TX3) (N := 13) hx hb hts iwX3_step_X3 hown hK hP 0 rfl rfl 6 (by decide) (hts _ (List.mem_of_getElem? (i := 1) rfl)) (fun _ h9 => h9) rfl dX3_step_185 ?_
            refine lv_iconst (v := 1) hx hb dX3_step_188 (by decide) ?_
            refine lv_iadd hx hb dX3_step_189 ?_
            refine pf_i (wf := fun z => (wR ct aR (aT 0) xR_land z ++ wT ct aT mT)) (m1 := upf mR_9 6 ((mR_9 0 6) + (1 : Int32))) hx hb hts iwX3_step_X3 tyX3 tyX3_ok nmX3 hown hK hP hD hS 0 rfl rfl 6 (by decide) (hts _ (List.mem_of_getElem? (i := 1) rfl)) (fun _ h9 => h9) rfl rfl rfl (Nat.le_of_ble_eq_true rfl) dX3_step_190 rfl (fun mR_10 emR_10 H locs hP hD hS => ?_)
            have hM := nm_at emR_10 hM
            refine lv_goto (tgt := 119) hx hb dX3_step_193 (by decide) ?_
            have hR := som hM
            exact ih119 mR_10 (hbk119 _ hR) _ _ hP hD hS _ (lv_sub hl [0] rfl)
    exact I119 FU mR hit119 _ _ hP hD hS _ hl
  have N62 : ∀ (mR : Mem), mX3_step_L62 mR mT = some res → ∀ (H : Heap) (locs : List Loc), va_P (dC, dI) vwCl (wR ct aR (aT 0) xR_land mR ++ wT ct aT mT) H → va_D A (wR ct aR (aT 0) xR_land mR ++ wT ct aT mT) → va_S A s.heap H locs → ∀ ls : Array Slot, lv_has ls 2 [(0, .ref (aR 0))] → W p l e (headSpec wsX3_step rmX3_step).room s m args below meth c H locs 0 0 Q (F0 m 62 ls []) := by
    intro mR hM H locs hP hD hS ls hl
    unfold mX3_step_L62 at hM
    obtain ⟨ex62, hit62, hM⟩ := bn_some hM
    have X62_0 : ∀ (mR : Mem), ex62 = mR → ∀ (H : Heap) (locs : List Loc), va_P (dC, dI) vwCl (wR ct aR (aT 0) xR_land mR ++ wT ct aT mT) H → va_D A (wR ct aR (aT 0) xR_land mR ++ wT ct aT mT) → va_S A s.heap H locs → ∀ ls : Array Slot, lv_has ls 2 [] → W p l e (headSpec wsX3_step rmX3_step).room s m args below meth c H locs 0 0 Q (F0 m 221 ls []) := by
      intro mR hex H locs hP hD hS ls hl
      rw [hex] at hM
      have hM := nm_at (y := mR) rfl hM
      have hR := som hM
      rw [hR] at hQ
      exact ret_v hQ hx hb hr hlocks hP hK hD hS dX3_step_221
    have I62 : ∀ (n : Nat) (mR : Mem), itr (fun q => mX3_step_s62 mT q) n mR = some ex62 → ∀ (H : Heap) (locs : List Loc), va_P (dC, dI) vwCl (wR ct aR (aT 0) xR_land mR ++ wT ct aT mT) H → va_D A (wR ct aR (aT 0) xR_land mR ++ wT ct aT mT) → va_S A s.heap H locs → ∀ ls : Array Slot, lv_has ls 2 [(0, .ref (aR 0))] → W p l e (headSpec wsX3_step rmX3_step).room s m args below meth c H locs 0 0 Q (F0 m 62 ls []) := by
      intro n
      induction n with
      | zero => intro mR hit; exact (itr_zero hit).elim
      | succ n ih62 =>
        intro mR hit H locs hP hD hS ls hl
        obtain ⟨o62, hM, hbk62, hex62⟩ := itr_succ hit
        replace hM : mX3_step_s62 mT mR = some o62 := hM
        unfold mX3_step_s62 at hM
        refine lv_aload_n hx hb dX3_step_62 rfl (lv_at hl 0 rfl) ?_
        refine va_get (D := (dC, dI)) (ci := 3) (v := .int (mR 0 6)) (C := RX3) (T := TX3) (N := 13) hx hb hts iwX3_step_X3 hown hK hP 0 rfl rfl 6 (by decide) (hts _ (List.mem_of_getElem? (i := 1) rfl)) (fun _ h9 => h9) rfl dX3_step_63 ?_
        refine lv_aload_n hx hb dX3_step_66 rfl (lv_at hl 0 rfl) ?_
        refine va_get (D := (dC, dI)) (ci := 3) (v := .ref (aT 0)) (C := RX3) (T := TX3) (N := 13) hx hb hts iwX3_step_X3 hown hK hP 0 rfl rfl 0 (by decide) (hts _ (List.mem_of_getElem? (i := 3) rfl)) (fun _ h9 => h9) rfl dX3_step_67 ?_
        refine va_get (D := (dC, dI)) (ci := 5) (v := .int (mT 0 1)) (C := RX5) (T := TX5) (N := 2) hx hb hts iwX3_step_X5 hown hK hP 4 rfl rfl 1 (by decide) (hts _ (List.mem_of_getElem? (i := 4) rfl)) (fun _ h9 => h9) rfl dX3_step_70 ?_
        refine lv_icmp_ge (tgt := 221) hx hb dX3_step_73 (by decide) (fun hc_11 => ?_) (fun hc_11 => ?_)
        · have hM := it_p hc_11 hM
          have hR := som hM
          exact X62_0 mR (hex62 _ hR).symm _ _ hP hD hS _ (lv_sub hl [] rfl)
        · have hM := it_n hc_11 hM
          refine lv_aload_n hx hb dX3_step_76 rfl (lv_at hl 0 rfl) ?_
          refine va_get (D := (dC, dI)) (ci := 3) (v := .ref (aT 0)) (C := RX3) (T := TX3) (N := 13) hx hb hts iwX3_step_X3 hown hK hP 0 rfl rfl 0 (by decide) (hts _ (List.mem_of_getElem? (i := 3) rfl)) (fun _ h9 => h9) rfl dX3_step_77 ?_
          refine va_get (D := (dC, dI)) (ci := 5) (v := .ref (aT 1)) (C := RX5) (T := TX5) (N := 2) hx hb hts iwX3_step_X5 hown hK hP 4 rfl rfl 0 (by decide) (hts _ (List.mem_of_getElem? (i := 6) rfl)) (fun _ h9 => h9) rfl dX3_step_80 ?_
          refine lv_aload_n hx hb dX3_step_83 rfl (lv_at hl 0 rfl) ?_
          refine va_get (D := (dC, dI)) (ci := 3) (v := .int (mR 0 6)) (C := RX3) (T := TX3) (N := 13) hx hb hts iwX3_step_X3 hown hK hP 0 rfl rfl 6 (by decide) (hts _ (List.mem_of_getElem? (i := 1) rfl)) (fun _ h9 => h9) rfl dX3_step_84 ?_
          obtain ⟨hi, hM⟩ := gi_some hM
          refine va_bald hx hb hK hP 5 1 rfl rfl hi dX3_step_87 ?_
          obtain ⟨x_12, hr_13, hM⟩ := bn_some hM
          refine gv_i (r0 := x_12) (wn := (wR ct aR (aT 0) xR_land mR ++ wT ct aT mT)) (va_runS (As := [.int (mT 1 (mR 0 6).toNatClampNeg)]) (rest := []) ⟨hx, hb, hml, hown, hts⟩ (kX3_isLetter l dC dI ct _ (mT 1 (mR 0 6).toNatClampNeg) _ hr_13) (va_cwS 1 hts gX3_step_X3_isLetter rfl rfl rfl hvX3_isLetter.2 ⟨Nat.le_of_ble_eq_true rfl, Nat.le_of_ble_eq_true rfl⟩) (preS_of E0_ok hK hP hD (is := []) rfl rfl e_0) rfl rfl hl.1 rfl (lv_room (Nat.le_of_ble_eq_true rfl)) dX3_step_88 ⟨Nat.le_of_ble_eq_true rfl, Nat.le_of_ble_eq_true rfl⟩) hP hD hS hA [] [0, 1, 2, 3, 4, 5] [0, 1, 2, 3, 4, 5] rfl rfl rfl (by decide) rfl rfl (fun H locs hP hD hS => ?_)
          refine lv_if_eq (tgt := 221) hx hb dX3_step_91 (by decide) (fun hc_15 => ?_) (fun hc_15 => ?_)
          · have hM := it_p hc_15 hM
            have hR := som hM
            exact X62_0 mR (hex62 _ hR).symm _ _ hP hD hS _ (lv_sub hl [] rfl)
          · have hM := it_n hc_15 hM
            refine lv_aload_n hx hb dX3_step_94 rfl (lv_at hl 0 rfl) ?_
            refine lv_dup hx hb dX3_step_95 rfl ?_
            refine va_get (D := (dC, dI)) (ci := 3) (v := .int (mR 0 6)) (C := RX3) (T := TX3) (N := 13) hx hb hts iwX3_step_X3 hown hK hP 0 rfl rfl 6 (by decide) (hts _ (List.mem_of_getElem? (i := 1) rfl)) (fun _ h9 => h9) rfl dX3_step_96 ?_
            refine lv_iconst (v := 1) hx hb dX3_step_99 (by decide) ?_
            refine lv_iadd hx hb dX3_step_100 ?_
            refine pf_i (wf := fun z => (wR ct aR (aT 0) xR_land z ++ wT ct aT mT)) (m1 := upf mR 6 ((mR 0 6) + (1 : Int32))) hx hb hts iwX3_step_X3 tyX3 tyX3_ok nmX3 hown hK hP hD hS 0 rfl rfl 6 (by decide) (hts _ (List.mem_of_getElem? (i := 1) rfl)) (fun _ h9 => h9) rfl rfl rfl (Nat.le_of_ble_eq_true rfl) dX3_step_101 rfl (fun mR_16 emR_16 H locs hP hD hS => ?_)
            have hM := nm_at emR_16 hM
            refine lv_goto (tgt := 62) hx hb dX3_step_104 (by decide) ?_
            have hR := som hM
            exact ih62 mR_16 (hbk62 _ hR) _ _ hP hD hS _ (lv_sub hl [0] rfl)
    exact I62 FU mR hit62 _ _ hP hD hS _ hl
  refine lv_aload_n hx hb dX3_step_0 rfl (lv_at hl 0 rfl) ?_
  obtain ⟨mR_17, hr_18, hM⟩ := bn_some hM
  refine gv_v (wn := (wR ct aR (aT 0) xR_land mR_17 ++ wT ct aT mT)) (va_runV (As := []) (rest := []) ⟨hx, hb, hml, hown, hts⟩ (kX3_skipBlanks l dC dI ct aR aT xR_land _ mR mT _ hr_18) (cwV 0 hts gX3_step_X3_skipBlanks rfl rfl rfl hvX3_skipBlanks ⟨Nat.le_of_ble_eq_true rfl, Nat.le_of_ble_eq_true rfl⟩) (preV_of E0_ok hK hP hD (is := [0, 1, 2, 3, 4, 5]) rfl rfl rfl (ci := 3) rfl 0 rfl e_0) rfl rfl hl.1 rfl (lv_room (Nat.le_of_ble_eq_true rfl)) dX3_step_1 ⟨Nat.le_of_ble_eq_true rfl, Nat.le_of_ble_eq_true rfl⟩) hP hD hS hA [0, 1, 2, 3, 4, 5] [] [0, 1, 2, 3, 4, 5] rfl rfl rfl (by decide) rfl rfl (fun H locs hP hD hS => ?_)
  refine lv_aload_n hx hb dX3_step_4 rfl (lv_at hl 0 rfl) ?_
  refine lv_aload_n hx hb dX3_step_5 rfl (lv_at hl 0 rfl) ?_
  refine va_get (D := (dC, dI)) (ci := 3) (v := .int (mR_17 0 6)) (C := RX3) (T := TX3) (N := 13) hx hb hts iwX3_step_X3 hown hK hP 0 rfl rfl 6 (by decide) (hts _ (List.mem_of_getElem? (i := 1) rfl)) (fun _ h9 => h9) rfl dX3_step_6 ?_
  refine pf_i (wf := fun z => (wR ct aR (aT 0) xR_land z ++ wT ct aT mT)) (m1 := upf mR_17 5 (mR_17 0 6)) hx hb hts iwX3_step_X3 tyX3 tyX3_ok nmX3 hown hK hP hD hS 0 rfl rfl 5 (by decide) (hts _ (List.mem_of_getElem? (i := 2) rfl)) (fun _ h9 => h9) rfl rfl rfl (Nat.le_of_ble_eq_true rfl) dX3_step_9 rfl (fun mR_20 emR_20 H locs hP hD hS => ?_)
  have hM := nm_at emR_20 hM
  refine lv_aload_n hx hb dX3_step_12 rfl (lv_at hl 0 rfl) ?_
  refine va_get (D := (dC, dI)) (ci := 3) (v := .int (mR_20 0 6)) (C := RX3) (T := TX3) (N := 13) hx hb hts iwX3_step_X3 hown hK hP 0 rfl rfl 6 (by decide) (hts _ (List.mem_of_getElem? (i := 1) rfl)) (fun _ h9 => h9) rfl dX3_step_13 ?_
  refine lv_aload_n hx hb dX3_step_16 rfl (lv_at hl 0 rfl) ?_
  refine va_get (D := (dC, dI)) (ci := 3) (v := .ref (aT 0)) (C := RX3) (T := TX3) (N := 13) hx hb hts iwX3_step_X3 hown hK hP 0 rfl rfl 0 (by decide) (hts _ (List.mem_of_getElem? (i := 3) rfl)) (fun _ h9 => h9) rfl dX3_step_17 ?_
  refine va_get (D := (dC, dI)) (ci := 5) (v := .int (mT 0 1)) (C := RX5) (T := TX5) (N := 2) hx hb hts iwX3_step_X5 hown hK hP 4 rfl rfl 1 (by decide) (hts _ (List.mem_of_getElem? (i := 4) rfl)) (fun _ h9 => h9) rfl dX3_step_20 ?_
  refine lv_icmp_lt (tgt := 32) hx hb dX3_step_23 (by decide) (fun hc_21 => ?_) (fun hc_21 => ?_)
  · have hM := it_p hc_21 hM
    refine lv_aload_n hx hb dX3_step_32 rfl (lv_at hl 0 rfl) ?_
    refine va_get (D := (dC, dI)) (ci := 3) (v := .ref (aT 0)) (C := RX3) (T := TX3) (N := 13) hx hb hts iwX3_step_X3 hown hK hP 0 rfl rfl 0 (by decide) (hts _ (List.mem_of_getElem? (i := 3) rfl)) (fun _ h9 => h9) rfl dX3_step_33 ?_
    refine va_get (D := (dC, dI)) (ci := 5) (v := .ref (aT 1)) (C := RX5) (T := TX5) (N := 2) hx hb hts iwX3_step_X5 hown hK hP 4 rfl rfl 0 (by decide) (hts _ (List.mem_of_getElem? (i := 6) rfl)) (fun _ h9 => h9) rfl dX3_step_36 ?_
    refine lv_aload_n hx hb dX3_step_39 rfl (lv_at hl 0 rfl) ?_
    refine va_get (D := (dC, dI)) (ci := 3) (v := .int (mR_20 0 6)) (C := RX3) (T := TX3) (N := 13) hx hb hts iwX3_step_X3 hown hK hP 0 rfl rfl 6 (by decide) (hts _ (List.mem_of_getElem? (i := 1) rfl)) (fun _ h9 => h9) rfl dX3_step_40 ?_
    obtain ⟨hi, hM⟩ := gi_some hM
    refine va_bald hx hb hK hP 5 1 rfl rfl hi dX3_step_43 ?_
    refine lv_topi (fun x_22 ex_22 => ?_)
    have hM := nm_at ex_22 hM
    refine lv_istore_n (lv' := [(1, .int x_22), (0, .ref (aR 0))]) hx hb dX3_step_44 rfl hl (by decide) rfl (fun ls hl => ?_)
    refine lv_aload_n hx hb dX3_step_45 rfl (lv_at hl 1 rfl) ?_
    refine lv_iconst (v := 0) hx hb dX3_step_46 (by decide) ?_
    refine pf_i (wf := fun z => (wR ct aR (aT 0) xR_land z ++ wT ct aT mT)) (m1 := upf mR_20 8 (0 : Int32)) hx hb hts iwX3_step_X3 tyX3 tyX3_ok nmX3 hown hK hP hD hS 0 rfl rfl 8 (by decide) (hts _ (List.mem_of_getElem? (i := 7) rfl)) (fun _ h9 => h9) rfl rfl rfl (Nat.le_of_ble_eq_true rfl) dX3_step_47 rfl (fun mR_23 emR_23 H locs hP hD hS => ?_)
    have hM := nm_at emR_23 hM
    refine lv_iload_n hx hb dX3_step_50 rfl (lv_at hl 0 rfl) ?_
    obtain ⟨x_24, hr_25, hM⟩ := bn_some hM
    refine gv_i (r0 := x_24) (wn := (wR ct aR (aT 0) xR_land mR_23 ++ wT ct aT mT)) (va_runS (As := [.int x_22]) (rest := []) ⟨hx, hb, hml, hown, hts⟩ (kX3_isLetter l dC dI ct _ x_22 _ hr_25) (va_cwS 1 hts gX3_step_X3_isLetter rfl rfl rfl hvX3_isLetter.2 ⟨Nat.le_of_ble_eq_true rfl, Nat.le_of_ble_eq_true rfl⟩) (preS_of E0_ok hK hP hD (is := []) rfl rfl e_0) rfl rfl hl.1 rfl (lv_room (Nat.le_of_ble_eq_true rfl)) dX3_step_51 ⟨Nat.le_of_ble_eq_true rfl, Nat.le_of_ble_eq_true rfl⟩) hP hD hS hA [] [0, 1, 2, 3, 4, 5] [0, 1, 2, 3, 4, 5] rfl rfl rfl (by decide) rfl rfl (fun H locs hP hD hS => ?_)
    refine lv_if_eq (tgt := 107) hx hb dX3_step_54 (by decide) (fun hc_27 => ?_) (fun hc_27 => ?_)
    · have hM := it_p hc_27 hM
      refine lv_iload_n hx hb dX3_step_107 rfl (lv_at hl 0 rfl) ?_
      obtain ⟨x_28, hr_29, hM⟩ := bn_some hM
      refine gv_i (r0 := x_28) (wn := (wR ct aR (aT 0) xR_land mR_23 ++ wT ct aT mT)) (va_runS (As := [.int x_22]) (rest := []) ⟨hx, hb, hml, hown, hts⟩ (kX3_isDigit l dC dI ct _ x_22 _ hr_29) (va_cwS 1 hts gX3_step_X3_isDigit rfl rfl rfl hvX3_isDigit.2 ⟨Nat.le_of_ble_eq_true rfl, Nat.le_of_ble_eq_true rfl⟩) (preS_of E0_ok hK hP hD (is := []) rfl rfl e_0) rfl rfl hl.1 rfl (lv_room (Nat.le_of_ble_eq_true rfl)) dX3_step_108 ⟨Nat.le_of_ble_eq_true rfl, Nat.le_of_ble_eq_true rfl⟩) hP hD hS hA [] [0, 1, 2, 3, 4, 5] [0, 1, 2, 3, 4, 5] rfl rfl rfl (by decide) rfl rfl (fun H locs hP hD hS => ?_)
      refine lv_if_eq (tgt := 196) hx hb dX3_step_111 (by decide) (fun hc_31 => ?_) (fun hc_31 => ?_)
      · have hM := it_p hc_31 hM
        refine lv_aload_n hx hb dX3_step_196 rfl (lv_at hl 1 rfl) ?_
        refine lv_iload_n hx hb dX3_step_197 rfl (lv_at hl 0 rfl) ?_
        refine lv_bipush (v := 59) hx hb dX3_step_198 (by decide) ?_
        refine lv_icmp_ne (tgt := 207) hx hb dX3_step_200 (by decide) (fun hc_32 => ?_) (fun hc_32 => ?_)
        · have hM := it_p hc_32 hM
          refine lv_iconst (v := 4) hx hb dX3_step_207 (by decide) ?_
          exact N208 (4 : Int32) mR_23 hM _ _ hP hD hS _ (lv_sub hl [1] rfl)
        · have hM := it_nn hc_32 hM
          refine lv_iconst (v := 3) hx hb dX3_step_203 (by decide) ?_
          refine lv_goto (tgt := 208) hx hb dX3_step_204 (by decide) ?_
          exact N208 (3 : Int32) mR_23 hM _ _ hP hD hS _ (lv_sub hl [1] rfl)
      · have hM := it_n hc_31 hM
        refine lv_aload_n hx hb dX3_step_114 rfl (lv_at hl 1 rfl) ?_
        refine lv_iconst (v := 2) hx hb dX3_step_115 (by decide) ?_
        refine pf_i (wf := fun z => (wR ct aR (aT 0) xR_land z ++ wT ct aT mT)) (m1 := upf mR_23 7 (2 : Int32)) hx hb hts iwX3_step_X3 tyX3 tyX3_ok nmX3 hown hK hP hD hS 0 rfl rfl 7 (by decide) (hts _ (List.mem_of_getElem? (i := 5) rfl)) (fun _ h9 => h9) rfl rfl rfl (Nat.le_of_ble_eq_true rfl) dX3_step_116 rfl (fun mR_33 emR_33 H locs hP hD hS => ?_)
        have hM := nm_at emR_33 hM
        exact N119 mR_33 hM _ _ hP hD hS _ (lv_sub hl [1] rfl)
    · have hM := it_n hc_27 hM
      refine lv_aload_n hx hb dX3_step_57 rfl (lv_at hl 1 rfl) ?_
      refine lv_iconst (v := 1) hx hb dX3_step_58 (by decide) ?_
      refine pf_i (wf := fun z => (wR ct aR (aT 0) xR_land z ++ wT ct aT mT)) (m1 := upf mR_23 7 (1 : Int32)) hx hb hts iwX3_step_X3 tyX3 tyX3_ok nmX3 hown hK hP hD hS 0 rfl rfl 7 (by decide) (hts _ (List.mem_of_getElem? (i := 5) rfl)) (fun _ h9 => h9) rfl rfl rfl (Nat.le_of_ble_eq_true rfl) dX3_step_59 rfl (fun mR_34 emR_34 H locs hP hD hS => ?_)
      have hM := nm_at emR_34 hM
      exact N62 mR_34 hM _ _ hP hD hS _ (lv_sub hl [1] rfl)
  · have hM := it_n hc_21 hM
    refine lv_aload_n hx hb dX3_step_26 rfl (lv_at hl 0 rfl) ?_
    refine lv_iconst (v := 0) hx hb dX3_step_27 (by decide) ?_
    refine pf_i (wf := fun z => (wR ct aR (aT 0) xR_land z ++ wT ct aT mT)) (m1 := upf mR_20 7 (0 : Int32)) hx hb hts iwX3_step_X3 tyX3 tyX3_ok nmX3 hown hK hP hD hS 0 rfl rfl 7 (by decide) (hts _ (List.mem_of_getElem? (i := 5) rfl)) (fun _ h9 => h9) rfl rfl rfl (Nat.le_of_ble_eq_true rfl) dX3_step_28 rfl (fun mR_35 emR_35 H locs hP hD hS => ?_)
    have hM := nm_at emR_35 hM
    have hR := som hM
    rw [hR] at hQ
    exact ret_v hQ hx hb hr hlocks hP hK hD hS dX3_step_31
abbrev rmX3_takeStop : Room := { frames := 2, cells := 0, slots := 0, locals := 42 }
theorem iwX3_takeStop_X3 : ∀ w ∈ wsX30, w ∈ wsX3_takeStop := fun _ h => List.mem_cons_of_mem _ (List.mem_append_left _ (List.mem_append_right _ (h)))
set_option maxHeartbeats 4000000 in
set_option maxRecDepth 100000 in
theorem kX3_takeStop (l : Launch) (dC : Nat → ClassId) (dI : Nat → Nat → Nat) (ct : Nat → ClassId) (aR : Nat → Nat) (aT : Nat → Nat) (xR_land : Nat) (sz : Nat) (mR : Mem) (mT : Mem) (res : (Int32 × Mem)) (hM : mX3_takeStop mR mT = some res) : Met l yX3_takeStop wsX3_takeStop rmX3_takeStop (va_Pc [.ref (aR 0)] (PB (dC, dI) ct E0 sz (wR ct aR (aT 0) xR_land mR ++ wT ct aT mT))) (Qi (dC, dI) ct (va_A (wR ct aR (aT 0) xR_land mR ++ wT ct aT mT) sz) res.1 (wR ct aR (aT 0) xR_land res.2 ++ wT ct aT mT)) 0 0 (va_A (wR ct aR (aT 0) xR_land mR ++ wT ct aT mT) sz) := by
  refine Met.ofW (cc := cX3_takeStop) (maxL := 1) (ret := (some .boolean)) (by decide) rfl ?_
  intro p e s m args below meth c s₁ B hml hv
  obtain ⟨hargs, hsz, hP, hK, hD0, hE⟩ := hv
  have hx := B.exec
  have hb := B.bytes
  have hr := B.returns
  have hts := atoms_spec (ws := wsX3_takeStop) B.pre
  have hown : s.vm.findClass RX3 = some m.cls := findClass_of_methodNamed B.named
  have hlocks := B.notSynchronized
  clear B s₁
  subst hsz
  have hD := hD0.self (sz := s.heap.size)
  clear hD0
  generalize hAe : va_A (wR ct aR (aT 0) xR_land mR ++ wT ct aT mT) s.heap.size = A at hD hE ⊢
  have hA : ∀ q : Nat, s.heap.size ≤ q → A q := fun q h => by rw [← hAe]; exact Or.inr h
  clear hAe
  have hS : va_S A s.heap s.heap [] := va_S.rf
  refine cutQ (fun Q hQ => ?_)
  refine entryW (vs := [.ref (aR 0)]) hargs (Nat.le_of_ble_eq_true rfl) (fun ls hl => ?_)
  replace hl : lv_has ls 1 [(0, .ref (aR 0))] := hl
  unfold mX3_takeStop at hM
  refine lv_aload_n hx hb dX3_takeStop_0 rfl (lv_at hl 0 rfl) ?_
  refine va_get (D := (dC, dI)) (ci := 3) (v := .int (mR 0 7)) (C := RX3) (T := TX3) (N := 13) hx hb hts iwX3_takeStop_X3 hown hK hP 0 rfl rfl 7 (by decide) (hts _ (List.mem_of_getElem? (i := 1) rfl)) (fun _ h9 => h9) rfl dX3_takeStop_1 ?_
  refine lv_iconst (v := 3) hx hb dX3_takeStop_4 (by decide) ?_
  refine lv_icmp_eq (tgt := 10) hx hb dX3_takeStop_5 (by decide) (fun hc_1 => ?_) (fun hc_1 => ?_)
  · have hM := it_p hc_1 hM
    refine lv_aload_n hx hb dX3_takeStop_10 rfl (lv_at hl 0 rfl) ?_
    obtain ⟨mR_2, hr_3, hM⟩ := bn_some hM
    refine gv_v (wn := (wR ct aR (aT 0) xR_land mR_2 ++ wT ct aT mT)) (va_runV (As := []) (rest := []) ⟨hx, hb, hml, hown, hts⟩ (kX3_step l dC dI ct aR aT xR_land _ mR mT _ hr_3) (cwV 0 hts gX3_takeStop_X3_step rfl rfl rfl hvX3_step ⟨Nat.le_of_ble_eq_true rfl, Nat.le_of_ble_eq_true rfl⟩) (preV_of E0_ok hK hP hD (is := [0, 1, 2, 3, 4, 5]) rfl rfl rfl (ci := 3) rfl 0 rfl e_0) rfl rfl hl.1 rfl (lv_room (Nat.le_of_ble_eq_true rfl)) dX3_takeStop_11 ⟨Nat.le_of_ble_eq_true rfl, Nat.le_of_ble_eq_true rfl⟩) hP hD hS hA [0, 1, 2, 3, 4, 5] [] [0, 1, 2, 3, 4, 5] rfl rfl rfl (by decide) rfl rfl (fun H locs hP hD hS => ?_)
    refine lv_iconst (v := 1) hx hb dX3_takeStop_14 (by decide) ?_
    have hR := som hM
    rw [hR] at hQ
    exact ret_z hQ hx hb hr hlocks rfl hP hK hD hS dX3_takeStop_15
  · have hM := it_n hc_1 hM
    refine lv_iconst (v := 0) hx hb dX3_takeStop_8 (by decide) ?_
    have hR := som hM
    rw [hR] at hQ
    exact ret_z hQ hx hb hr hlocks rfl hP hK hD hS dX3_takeStop_9
abbrev rmX3_tokenIsName : Room := { frames := 0, cells := 0, slots := 0, locals := 0 }
theorem iwX3_tokenIsName_X3 : ∀ w ∈ wsX30, w ∈ wsX3_tokenIsName := fun _ h => List.mem_cons_of_mem _ (List.mem_append_left _ (List.mem_append_right _ (h)))
theorem iwX3_tokenIsName_X5 : ∀ w ∈ wsX50, w ∈ wsX3_tokenIsName := fun _ h => List.mem_cons_of_mem _ (List.mem_append_right _ (h))
set_option maxHeartbeats 4000000 in
set_option maxRecDepth 100000 in
theorem kX3_tokenIsName (l : Launch) (dC : Nat → ClassId) (dI : Nat → Nat → Nat) (ct : Nat → ClassId) (aR : Nat → Nat) (aT : Nat → Nat) (xR_land : Nat) (sz : Nat) (mR : Mem) (mT : Mem) (v1 : Int32) (res : Int32) (hM : mX3_tokenIsName mR mT v1 = some res) : Met l yX3_tokenIsName wsX3_tokenIsName rmX3_tokenIsName (va_Pc [.ref (aR 0), .int v1] (PB (dC, dI) ct E0 sz (wR ct aR (aT 0) xR_land mR ++ wT ct aT mT))) (Qi (dC, dI) ct (va_A (wR ct aR (aT 0) xR_land mR ++ wT ct aT mT) sz) res (wR ct aR (aT 0) xR_land mR ++ wT ct aT mT)) 0 0 (va_A (wR ct aR (aT 0) xR_land mR ++ wT ct aT mT) sz) := by
  refine Met.ofW (cc := cX3_tokenIsName) (maxL := 4) (ret := (some .boolean)) (by decide) rfl ?_
  intro p e s m args below meth c s₁ B hml hv
  obtain ⟨hargs, hsz, hP, hK, hD0, hE⟩ := hv
  have hx := B.exec
  have hb := B.bytes
  have hr := B.returns
  have hts := atoms_spec (ws := wsX3_tokenIsName) B.pre
  have hown : s.vm.findClass RX3 = some m.cls := findClass_of_methodNamed B.named
  have hlocks := B.notSynchronized
  clear B s₁
  subst hsz
  have hD := hD0.self (sz := s.heap.size)
  clear hD0
  generalize hAe : va_A (wR ct aR (aT 0) xR_land mR ++ wT ct aT mT) s.heap.size = A at hD hE ⊢
  have hA : ∀ q : Nat, s.heap.size ≤ q → A q := fun q h => by rw [← hAe]; exact Or.inr h
  clear hAe
  have hS : va_S A s.heap s.heap [] := va_S.rf
  refine cutQ (fun Q hQ => ?_)
  refine entryW (vs := [.ref (aR 0), .int v1]) hargs (Nat.le_of_ble_eq_true rfl) (fun ls hl => ?_)
  replace hl : lv_has ls 4 [(0, .ref (aR 0)), (1, .int v1)] := hl
  unfold mX3_tokenIsName at hM
  have N31 : ∀ (v1 : Int32) (v2 : Int32) (v3 : Int32), mX3_tokenIsName_L31 v1 v2 v3 mR mT = some res → ∀ (H : Heap) (locs : List Loc), va_P (dC, dI) vwCl (wR ct aR (aT 0) xR_land mR ++ wT ct aT mT) H → va_D A (wR ct aR (aT 0) xR_land mR ++ wT ct aT mT) → va_S A s.heap H locs → ∀ ls : Array Slot, lv_has ls 4 [(0, .ref (aR 0)), (1, .int v1), (2, .int v2), (3, .int v3)] → W p l e (headSpec wsX3_tokenIsName rmX3_tokenIsName).room s m args below meth c H locs 0 0 Q (F0 m 31 ls []) := by
    intro v1 v2 v3 hM H locs hP hD hS ls hl
    unfold mX3_tokenIsName_L31 at hM
    obtain ⟨ex31, hit31, hM⟩ := bn_some hM
    have X31_0 : ex31 = (Sum.inl ()) → ∀ (H : Heap) (locs : List Loc), va_P (dC, dI) vwCl (wR ct aR (aT 0) xR_land mR ++ wT ct aT mT) H → va_D A (wR ct aR (aT 0) xR_land mR ++ wT ct aT mT) → va_S A s.heap H locs → ∀ ls : Array Slot, lv_has ls 4 [] → W p l e (headSpec wsX3_tokenIsName rmX3_tokenIsName).room s m args below meth c H locs 0 0 Q (F0 m 69 ls []) := by
      intro hex H locs hP hD hS ls hl
      have hM := el_l hex hM
      refine lv_iconst (v := 0) hx hb dX3_tokenIsName_69 (by decide) ?_
      have hR := som hM
      rw [hR] at hQ
      exact ret_z hQ hx hb hr hlocks rfl hP hK hD hS dX3_tokenIsName_70
    have X31_1 : ex31 = (Sum.inr ()) → ∀ (H : Heap) (locs : List Loc), va_P (dC, dI) vwCl (wR ct aR (aT 0) xR_land mR ++ wT ct aT mT) H → va_D A (wR ct aR (aT 0) xR_land mR ++ wT ct aT mT) → va_S A s.heap H locs → ∀ ls : Array Slot, lv_has ls 4 [] → W p l e (headSpec wsX3_tokenIsName rmX3_tokenIsName).room s m args below meth c H locs 0 0 Q (F0 m 77 ls []) := by
      intro hex H locs hP hD hS ls hl
      have hM := el_r hex hM
      refine lv_iconst (v := 1) hx hb dX3_tokenIsName_77 (by decide) ?_
      have hR := som hM
      rw [hR] at hQ
      exact ret_z hQ hx hb hr hlocks rfl hP hK hD hS dX3_tokenIsName_78
    have I31 : ∀ (n : Nat) (v3 : Int32), itr (fun q => mX3_tokenIsName_s31 v1 v2 mR mT q) n v3 = some ex31 → ∀ (H : Heap) (locs : List Loc), va_P (dC, dI) vwCl (wR ct aR (aT 0) xR_land mR ++ wT ct aT mT) H → va_D A (wR ct aR (aT 0) xR_land mR ++ wT ct aT mT) → va_S A s.heap H locs → ∀ ls : Array Slot, lv_has ls 4 [(0, .ref (aR 0)), (1, .int v1), (2, .int v2), (3, .int v3)] → W p l e (headSpec wsX3_tokenIsName rmX3_tokenIsName).room s m args below meth c H locs 0 0 Q (F0 m 31 ls []) := by
      intro n
      induction n with
      | zero => intro v3 hit; exact (itr_zero hit).elim
      | succ n ih31 =>
        intro v3 hit H locs hP hD hS ls hl
        obtain ⟨o31, hM, hbk31, hex31⟩ := itr_succ hit
        replace hM : mX3_tokenIsName_s31 v1 v2 mR mT v3 = some o31 := hM
        unfold mX3_tokenIsName_s31 at hM
        refine lv_iload_n hx hb dX3_tokenIsName_31 rfl (lv_at hl 3 rfl) ?_
        refine lv_iload_n hx hb dX3_tokenIsName_32 rfl (lv_at hl 2 rfl) ?_
        refine lv_icmp_ge (tgt := 77) hx hb dX3_tokenIsName_33 (by decide) (fun hc_1 => ?_) (fun hc_1 => ?_)
        · have hM := it_p hc_1 hM
          have hR := som hM
          exact X31_1 (hex31 _ hR).symm _ _ hP hD hS _ (lv_sub hl [] rfl)
        · have hM := it_n hc_1 hM
          refine lv_aload_n hx hb dX3_tokenIsName_36 rfl (lv_at hl 0 rfl) ?_
          refine va_get (D := (dC, dI)) (ci := 3) (v := .ref (aT 0)) (C := RX3) (T := TX3) (N := 13) hx hb hts iwX3_tokenIsName_X3 hown hK hP 0 rfl rfl 0 (by decide) (hts _ (List.mem_of_getElem? (i := 5) rfl)) (fun _ h9 => h9) rfl dX3_tokenIsName_37 ?_
          refine va_get (D := (dC, dI)) (ci := 5) (v := .ref (aT 1)) (C := RX5) (T := TX5) (N := 2) hx hb hts iwX3_tokenIsName_X5 hown hK hP 4 rfl rfl 0 (by decide) (hts _ (List.mem_of_getElem? (i := 6) rfl)) (fun _ h9 => h9) rfl dX3_tokenIsName_40 ?_
          refine lv_aload_n hx hb dX3_tokenIsName_43 rfl (lv_at hl 0 rfl) ?_
          refine va_get (D := (dC, dI)) (ci := 3) (v := .int (mR 0 5)) (C := RX3) (T := TX3) (N := 13) hx hb hts iwX3_tokenIsName_X3 hown hK hP 0 rfl rfl 5 (by decide) (hts _ (List.mem_of_getElem? (i := 4) rfl)) (fun _ h9 => h9) rfl dX3_tokenIsName_44 ?_
          refine lv_iload_n hx hb dX3_tokenIsName_47 rfl (lv_at hl 3 rfl) ?_
          refine lv_iadd hx hb dX3_tokenIsName_48 ?_
          obtain ⟨hi, hM⟩ := gi_some hM
          refine va_bald hx hb hK hP 5 1 rfl rfl hi dX3_tokenIsName_49 ?_
          refine lv_aload_n hx hb dX3_tokenIsName_50 rfl (lv_at hl 0 rfl) ?_
          refine va_get (D := (dC, dI)) (ci := 3) (v := .ref (aT 0)) (C := RX3) (T := TX3) (N := 13) hx hb hts iwX3_tokenIsName_X3 hown hK hP 0 rfl rfl 0 (by decide) (hts _ (List.mem_of_getElem? (i := 5) rfl)) (fun _ h9 => h9) rfl dX3_tokenIsName_51 ?_
          refine va_get (D := (dC, dI)) (ci := 5) (v := .ref (aT 1)) (C := RX5) (T := TX5) (N := 2) hx hb hts iwX3_tokenIsName_X5 hown hK hP 4 rfl rfl 0 (by decide) (hts _ (List.mem_of_getElem? (i := 6) rfl)) (fun _ h9 => h9) rfl dX3_tokenIsName_54 ?_
          refine lv_aload_n hx hb dX3_tokenIsName_57 rfl (lv_at hl 0 rfl) ?_
          refine va_get (D := (dC, dI)) (ci := 3) (v := .ref (aR 1)) (C := RX3) (T := TX3) (N := 13) hx hb hts iwX3_tokenIsName_X3 hown hK hP 0 rfl rfl 1 (by decide) (hts _ (List.mem_of_getElem? (i := 2) rfl)) (fun _ h9 => h9) rfl dX3_tokenIsName_58 ?_
          refine lv_iload_n hx hb dX3_tokenIsName_61 rfl (lv_at hl 1 rfl) ?_
          obtain ⟨hi, hM⟩ := gi_some hM
          refine va_iald hx hb hK hP 1 0 rfl rfl hi dX3_tokenIsName_62 ?_
          refine lv_iload_n hx hb dX3_tokenIsName_63 rfl (lv_at hl 3 rfl) ?_
          refine lv_iadd hx hb dX3_tokenIsName_64 ?_
          obtain ⟨hi, hM⟩ := gi_some hM
          refine va_bald hx hb hK hP 5 1 rfl rfl hi dX3_tokenIsName_65 ?_
          refine lv_icmp_eq (tgt := 71) hx hb dX3_tokenIsName_66 (by decide) (fun hc_2 => ?_) (fun hc_2 => ?_)
          · have hM := it_p hc_2 hM
            obtain ⟨x_3, ex_3⟩ : ∃ y : Int32, y = (v3 + (1 : Int32)) := ⟨_, rfl⟩
            have hM := nm_at ex_3 hM
            refine lv_iinc (v := x_3) (lv' := [(3, .int x_3), (0, .ref (aR 0)), (1, .int v1), (2, .int v2)]) hx hb dX3_tokenIsName_71 hl (k := 3) rfl (by rw [ex_3]; rfl) (by decide) rfl (fun ls hl => ?_)
            refine lv_goto (tgt := 31) hx hb dX3_tokenIsName_74 (by decide) ?_
            have hR := som hM
            exact ih31 x_3 (hbk31 _ hR) _ _ hP hD hS _ (lv_sub hl [1, 2, 3, 0] rfl)
          · have hM := it_n hc_2 hM
            have hR := som hM
            exact X31_0 (hex31 _ hR).symm _ _ hP hD hS _ (lv_sub hl [] rfl)
    exact I31 FU v3 hit31 _ _ hP hD hS _ hl
  refine lv_aload_n hx hb dX3_tokenIsName_0 rfl (lv_at hl 0 rfl) ?_
  refine va_get (D := (dC, dI)) (ci := 3) (v := .ref (aR 2)) (C := RX3) (T := TX3) (N := 13) hx hb hts iwX3_tokenIsName_X3 hown hK hP 0 rfl rfl 2 (by decide) (hts _ (List.mem_of_getElem? (i := 1) rfl)) (fun _ h9 => h9) rfl dX3_tokenIsName_1 ?_
  refine lv_iload_n hx hb dX3_tokenIsName_4 rfl (lv_at hl 1 rfl) ?_
  obtain ⟨hi, hM⟩ := gi_some hM
  refine va_iald hx hb hK hP 2 0 rfl rfl hi dX3_tokenIsName_5 ?_
  refine lv_aload_n hx hb dX3_tokenIsName_6 rfl (lv_at hl 0 rfl) ?_
  refine va_get (D := (dC, dI)) (ci := 3) (v := .ref (aR 1)) (C := RX3) (T := TX3) (N := 13) hx hb hts iwX3_tokenIsName_X3 hown hK hP 0 rfl rfl 1 (by decide) (hts _ (List.mem_of_getElem? (i := 2) rfl)) (fun _ h9 => h9) rfl dX3_tokenIsName_7 ?_
  refine lv_iload_n hx hb dX3_tokenIsName_10 rfl (lv_at hl 1 rfl) ?_
  obtain ⟨hi, hM⟩ := gi_some hM
  refine va_iald hx hb hK hP 1 0 rfl rfl hi dX3_tokenIsName_11 ?_
  refine lv_isub hx hb dX3_tokenIsName_12 ?_
  refine lv_topi (fun x_4 ex_4 => ?_)
  have hM := nm_at ex_4 hM
  refine lv_istore_n (lv' := [(2, .int x_4), (0, .ref (aR 0)), (1, .int v1)]) hx hb dX3_tokenIsName_13 rfl hl (by decide) rfl (fun ls hl => ?_)
  refine lv_aload_n hx hb dX3_tokenIsName_14 rfl (lv_at hl 1 rfl) ?_
  refine va_get (D := (dC, dI)) (ci := 3) (v := .int (mR 0 6)) (C := RX3) (T := TX3) (N := 13) hx hb hts iwX3_tokenIsName_X3 hown hK hP 0 rfl rfl 6 (by decide) (hts _ (List.mem_of_getElem? (i := 3) rfl)) (fun _ h9 => h9) rfl dX3_tokenIsName_15 ?_
  refine lv_aload_n hx hb dX3_tokenIsName_18 rfl (lv_at hl 1 rfl) ?_
  refine va_get (D := (dC, dI)) (ci := 3) (v := .int (mR 0 5)) (C := RX3) (T := TX3) (N := 13) hx hb hts iwX3_tokenIsName_X3 hown hK hP 0 rfl rfl 5 (by decide) (hts _ (List.mem_of_getElem? (i := 4) rfl)) (fun _ h9 => h9) rfl dX3_tokenIsName_19 ?_
  refine lv_isub hx hb dX3_tokenIsName_22 ?_
  refine lv_iload_n hx hb dX3_tokenIsName_23 rfl (lv_at hl 0 rfl) ?_
  refine lv_icmp_eq (tgt := 29) hx hb dX3_tokenIsName_24 (by decide) (fun hc_5 => ?_) (fun hc_5 => ?_)
  · have hM := it_p hc_5 hM
    refine lv_iconst (v := 0) hx hb dX3_tokenIsName_29 (by decide) ?_
    refine lv_istore_n (lv' := [(3, .int (0 : Int32)), (2, .int x_4), (0, .ref (aR 0)), (1, .int v1)]) hx hb dX3_tokenIsName_30 rfl hl (by decide) rfl (fun ls hl => ?_)
    exact N31 v1 x_4 (0 : Int32) hM _ _ hP hD hS _ (lv_sub hl [2, 3, 1, 0] rfl)
  · have hM := it_n hc_5 hM
    refine lv_iconst (v := 0) hx hb dX3_tokenIsName_27 (by decide) ?_
    have hR := som hM
    rw [hR] at hQ
    exact ret_z hQ hx hb hr hlocks rfl hP hK hD hS dX3_tokenIsName_28
abbrev rmX3_takeNumber : Room := { frames := 2, cells := 0, slots := 0, locals := 42 }
theorem iwX3_takeNumber_X3 : ∀ w ∈ wsX30, w ∈ wsX3_takeNumber := fun _ h => List.mem_cons_of_mem _ (List.mem_append_left _ (List.mem_append_right _ (h)))
set_option maxHeartbeats 4000000 in
set_option maxRecDepth 100000 in
theorem kX3_takeNumber (l : Launch) (dC : Nat → ClassId) (dI : Nat → Nat → Nat) (ct : Nat → ClassId) (aR : Nat → Nat) (aT : Nat → Nat) (xR_land : Nat) (adK adV : Nat → Nat) (sz : Nat) (mR : Mem) (mT : Mem) (v1 : Int32) (v2 : Int32) (res : (Int32 × Mem)) (hM : mX3_takeNumber mR mT v1 v2 = some res) : Met l yX3_takeNumber wsX3_takeNumber rmX3_takeNumber (va_Pc [.ref (aR 0), .int v1, .int v2] (PB (dC, dI) ct (EV adK adV) sz (wR ct aR (aT 0) xR_land mR ++ wT ct aT mT))) (Qi (dC, dI) ct (va_A (wR ct aR (aT 0) xR_land mR ++ wT ct aT mT) sz) res.1 (wR ct aR (aT 0) xR_land res.2 ++ wT ct aT mT)) 0 0 (va_A (wR ct aR (aT 0) xR_land mR ++ wT ct aT mT) sz) := by
  refine Met.ofW (cc := cX3_takeNumber) (maxL := 3) (ret := (some .boolean)) (by decide) rfl ?_
  intro p e s m args below meth c s₁ B hml hv
  obtain ⟨hargs, hsz, hP, hK, hD0, hE⟩ := hv
  have hx := B.exec
  have hb := B.bytes
  have hr := B.returns
  have hts := atoms_spec (ws := wsX3_takeNumber) B.pre
  have hown : s.vm.findClass RX3 = some m.cls := findClass_of_methodNamed B.named
  have hlocks := B.notSynchronized
  clear B s₁
  subst hsz
  have hD := hD0.self (sz := s.heap.size)
  clear hD0
  generalize hAe : va_A (wR ct aR (aT 0) xR_land mR ++ wT ct aT mT) s.heap.size = A at hD hE ⊢
  have hA : ∀ q : Nat, s.heap.size ≤ q → A q := fun q h => by rw [← hAe]; exact Or.inr h
  clear hAe
  have hS : va_S A s.heap s.heap [] := va_S.rf
  refine cutQ (fun Q hQ => ?_)
  refine entryW (vs := [.ref (aR 0), .int v1, .int v2]) hargs (Nat.le_of_ble_eq_true rfl) (fun ls hl => ?_)
  replace hl : lv_has ls 3 [(0, .ref (aR 0)), (1, .int v1), (2, .int v2)] := hl
  unfold mX3_takeNumber at hM
  refine lv_aload_n hx hb dX3_takeNumber_0 rfl (lv_at hl 0 rfl) ?_
  refine va_get (D := (dC, dI)) (ci := 3) (v := .int (mR 0 7)) (C := RX3) (T := TX3) (N := 13) hx hb hts iwX3_takeNumber_X3 hown hK hP 0 rfl rfl 7 (by decide) (hts _ (List.mem_of_getElem? (i := 1) rfl)) (fun _ h9 => h9) rfl dX3_takeNumber_1 ?_
  refine lv_iconst (v := 2) hx hb dX3_takeNumber_4 (by decide) ?_
  refine lv_icmp_ne (tgt := 20) hx hb dX3_takeNumber_5 (by decide) (fun hc_1 => ?_) (fun hc_1 => ?_)
  · have hM := it_p hc_1 hM
    refine lv_iconst (v := 0) hx hb dX3_takeNumber_20 (by decide) ?_
    have hR := som hM
    rw [hR] at hQ
    exact ret_z hQ hx hb hr hlocks rfl hP hK hD hS dX3_takeNumber_21
  · have hM := it_nn hc_1 hM
    refine lv_aload_n hx hb dX3_takeNumber_8 rfl (lv_at hl 0 rfl) ?_
    refine va_get (D := (dC, dI)) (ci := 3) (v := .int (mR 0 8)) (C := RX3) (T := TX3) (N := 13) hx hb hts iwX3_takeNumber_X3 hown hK hP 0 rfl rfl 8 (by decide) (hts _ (List.mem_of_getElem? (i := 2) rfl)) (fun _ h9 => h9) rfl dX3_takeNumber_9 ?_
    refine lv_iload_n hx hb dX3_takeNumber_12 rfl (lv_at hl 1 rfl) ?_
    refine lv_iload_n hx hb dX3_takeNumber_13 rfl (lv_at hl 2 rfl) ?_
    obtain ⟨x_2, hr_3, hM⟩ := bn_some hM
    refine gv_i (r0 := x_2) (wn := (wR ct aR (aT 0) xR_land mR ++ wT ct aT mT)) (va_runSN (As := [.int (mR 0 8), .int v1, .int v2]) (rest := []) ⟨hx, hb, hml, hown, hts⟩ (kX7_isIn l dC dI ct _ (mR 0 8) v1 v2 _ hr_3) ⟨va_cnB 3 hts gX3_takeNumber_X7_isIn_n164 rfl rfl rfl hE.2.2.2.2.2.2.2 (hts _ (List.mem_of_getElem? (i := 5) rfl)) hvX7_isIn.2 ⟨Nat.le_of_ble_eq_true rfl, Nat.le_of_ble_eq_true rfl⟩, (hts _ (List.mem_of_getElem? (i := 4) rfl)), trivial⟩ (preS_of E0_ok hK hP hD (is := []) rfl rfl e_0) rfl rfl hl.1 rfl (lv_room (Nat.le_of_ble_eq_true rfl)) dX3_takeNumber_14 ⟨Nat.le_of_ble_eq_true rfl, Nat.le_of_ble_eq_true rfl⟩) hP hD hS hA [] [0, 1, 2, 3, 4, 5] [0, 1, 2, 3, 4, 5] rfl rfl rfl (by decide) rfl rfl (fun H locs hP hD hS => ?_)
    refine lv_if_ne (tgt := 22) hx hb dX3_takeNumber_17 (by decide) (fun hc_5 => ?_) (fun hc_5 => ?_)
    · have hM := it_p hc_5 hM
      refine lv_aload_n hx hb dX3_takeNumber_22 rfl (lv_at hl 0 rfl) ?_
      refine lv_aload_n hx hb dX3_takeNumber_23 rfl (lv_at hl 0 rfl) ?_
      refine va_get (D := (dC, dI)) (ci := 3) (v := .int (mR 0 8)) (C := RX3) (T := TX3) (N := 13) hx hb hts iwX3_takeNumber_X3 hown hK hP 0 rfl rfl 8 (by decide) (hts _ (List.mem_of_getElem? (i := 2) rfl)) (fun _ h9 => h9) rfl dX3_takeNumber_24 ?_
      refine pf_i (wf := fun z => (wR ct aR (aT 0) xR_land z ++ wT ct aT mT)) (m1 := upf mR 9 (mR 0 8)) hx hb hts iwX3_takeNumber_X3 tyX3 tyX3_ok nmX3 hown hK hP hD hS 0 rfl rfl 9 (by decide) (hts _ (List.mem_of_getElem? (i := 3) rfl)) (fun _ h9 => h9) rfl rfl rfl (Nat.le_of_ble_eq_true rfl) dX3_takeNumber_27 rfl (fun mR_6 emR_6 H locs hP hD hS => ?_)
      have hM := nm_at emR_6 hM
      refine lv_aload_n hx hb dX3_takeNumber_30 rfl (lv_at hl 0 rfl) ?_
      obtain ⟨mR_7, hr_8, hM⟩ := bn_some hM
      refine gv_v (wn := (wR ct aR (aT 0) xR_land mR_7 ++ wT ct aT mT)) (va_runV (As := []) (rest := []) ⟨hx, hb, hml, hown, hts⟩ (kX3_step l dC dI ct aR aT xR_land _ mR_6 mT _ hr_8) (cwV 0 hts gX3_takeNumber_X3_step rfl rfl rfl hvX3_step ⟨Nat.le_of_ble_eq_true rfl, Nat.le_of_ble_eq_true rfl⟩) (preV_of E0_ok hK hP hD (is := [0, 1, 2, 3, 4, 5]) rfl rfl rfl (ci := 3) rfl 0 rfl e_0) rfl rfl hl.1 rfl (lv_room (Nat.le_of_ble_eq_true rfl)) dX3_takeNumber_31 ⟨Nat.le_of_ble_eq_true rfl, Nat.le_of_ble_eq_true rfl⟩) hP hD hS hA [0, 1, 2, 3, 4, 5] [] [0, 1, 2, 3, 4, 5] rfl rfl rfl (by decide) rfl rfl (fun H locs hP hD hS => ?_)
      refine lv_iconst (v := 1) hx hb dX3_takeNumber_34 (by decide) ?_
      have hR := som hM
      rw [hR] at hQ
      exact ret_z hQ hx hb hr hlocks rfl hP hK hD hS dX3_takeNumber_35
    · have hM := it_nn hc_5 hM
      refine lv_iconst (v := 0) hx hb dX3_takeNumber_20 (by decide) ?_
      have hR := som hM
      rw [hR] at hQ
      exact ret_z hQ hx hb hr hlocks rfl hP hK hD hS dX3_takeNumber_21
abbrev rmX3_tokenIs : Room := { frames := 4, cells := 0, slots := 0, locals := 85 }
theorem iwX3_tokenIs_X3 : ∀ w ∈ wsX30, w ∈ wsX3_tokenIs := fun _ h => List.mem_cons_of_mem _ (List.mem_append_left _ (List.mem_append_right _ (h)))
theorem iwX3_tokenIs_X5 : ∀ w ∈ wsX50, w ∈ wsX3_tokenIs := fun _ h => List.mem_cons_of_mem _ (List.mem_append_right _ (h))
set_option maxHeartbeats 4000000 in
set_option maxRecDepth 100000 in
theorem kX3_tokenIs (l : Launch) (dC : Nat → ClassId) (dI : Nat → Nat → Nat) (ct : Nat → ClassId) (aR : Nat → Nat) (aT : Nat → Nat) (xR_land : Nat) (adK adV : Nat → Nat) (sz : Nat) (mR : Mem) (mT : Mem) (w1 : Nat) (res : Int32) (hM : mX3_tokenIs mR mT w1 = some res) : Met l yX3_tokenIs wsX3_tokenIs rmX3_tokenIs (va_Pc [.ref (aR 0), .ref (adK w1)] (PB (dC, dI) ct (EV adK adV) sz (wR ct aR (aT 0) xR_land mR ++ wT ct aT mT))) (Qi (dC, dI) ct (va_A (wR ct aR (aT 0) xR_land mR ++ wT ct aT mT) sz) res (wR ct aR (aT 0) xR_land mR ++ wT ct aT mT)) 0 0 (va_A (wR ct aR (aT 0) xR_land mR ++ wT ct aT mT) sz) := by
  refine Met.ofW (cc := cX3_tokenIs) (maxL := 3) (ret := (some .boolean)) (by decide) rfl ?_
  intro p e s m args below meth c s₁ B hml hv
  obtain ⟨hargs, hsz, hP, hK, hD0, hE⟩ := hv
  have hx := B.exec
  have hb := B.bytes
  have hr := B.returns
  have hts := atoms_spec (ws := wsX3_tokenIs) B.pre
  have hown : s.vm.findClass RX3 = some m.cls := findClass_of_methodNamed B.named
  have hlocks := B.notSynchronized
  clear B s₁
  subst hsz
  have hD := hD0.self (sz := s.heap.size)
  clear hD0
  generalize hAe : va_A (wR ct aR (aT 0) xR_land mR ++ wT ct aT mT) s.heap.size = A at hD hE ⊢
  have hA : ∀ q : Nat, s.heap.size ≤ q → A q := fun q h => by rw [← hAe]; exact Or.inr h
  clear hAe
  have hS : va_S A s.heap s.heap [] := va_S.rf
  refine cutQ (fun Q hQ => ?_)
  refine entryW (vs := [.ref (aR 0), .ref (adK w1)]) hargs (Nat.le_of_ble_eq_true rfl) (fun ls hl => ?_)
  replace hl : lv_has ls 3 [(0, .ref (aR 0)), (1, .ref (adK w1))] := hl
  unfold mX3_tokenIs at hM
  obtain ⟨hw1, hM⟩ := gs_some hM
  have N28 : ∀ (v2 : Int32), mX3_tokenIs_L28 w1 v2 mR mT = some res → ∀ (H : Heap) (locs : List Loc), va_P (dC, dI) vwCl (wR ct aR (aT 0) xR_land mR ++ wT ct aT mT) H → va_D A (wR ct aR (aT 0) xR_land mR ++ wT ct aT mT) → va_S A s.heap H locs → ∀ ls : Array Slot, lv_has ls 3 [(0, .ref (aR 0)), (1, .ref (adK w1)), (2, .int v2)] → W p l e (headSpec wsX3_tokenIs rmX3_tokenIs).room s m args below meth c H locs 0 0 Q (F0 m 28 ls []) := by
    intro v2 hM H locs hP hD hS ls hl
    unfold mX3_tokenIs_L28 at hM
    obtain ⟨ex28, hit28, hM⟩ := bn_some hM
    have X28_0 : ex28 = (Sum.inl ()) → ∀ (H : Heap) (locs : List Loc), va_P (dC, dI) vwCl (wR ct aR (aT 0) xR_land mR ++ wT ct aT mT) H → va_D A (wR ct aR (aT 0) xR_land mR ++ wT ct aT mT) → va_S A s.heap H locs → ∀ ls : Array Slot, lv_has ls 3 [] → W p l e (headSpec wsX3_tokenIs rmX3_tokenIs).room s m args below meth c H locs 0 0 Q (F0 m 58 ls []) := by
      intro hex H locs hP hD hS ls hl
      have hM := el_l hex hM
      refine lv_iconst (v := 0) hx hb dX3_tokenIs_58 (by decide) ?_
      have hR := som hM
      rw [hR] at hQ
      exact ret_z hQ hx hb hr hlocks rfl hP hK hD hS dX3_tokenIs_59
    have X28_1 : ex28 = (Sum.inr ()) → ∀ (H : Heap) (locs : List Loc), va_P (dC, dI) vwCl (wR ct aR (aT 0) xR_land mR ++ wT ct aT mT) H → va_D A (wR ct aR (aT 0) xR_land mR ++ wT ct aT mT) → va_S A s.heap H locs → ∀ ls : Array Slot, lv_has ls 3 [] → W p l e (headSpec wsX3_tokenIs rmX3_tokenIs).room s m args below meth c H locs 0 0 Q (F0 m 66 ls []) := by
      intro hex H locs hP hD hS ls hl
      have hM := el_r hex hM
      refine lv_iconst (v := 1) hx hb dX3_tokenIs_66 (by decide) ?_
      have hR := som hM
      rw [hR] at hQ
      exact ret_z hQ hx hb hr hlocks rfl hP hK hD hS dX3_tokenIs_67
    have I28 : ∀ (n : Nat) (v2 : Int32), itr (fun q => mX3_tokenIs_s28 w1 mR mT q) n v2 = some ex28 → ∀ (H : Heap) (locs : List Loc), va_P (dC, dI) vwCl (wR ct aR (aT 0) xR_land mR ++ wT ct aT mT) H → va_D A (wR ct aR (aT 0) xR_land mR ++ wT ct aT mT) → va_S A s.heap H locs → ∀ ls : Array Slot, lv_has ls 3 [(0, .ref (aR 0)), (1, .ref (adK w1)), (2, .int v2)] → W p l e (headSpec wsX3_tokenIs rmX3_tokenIs).room s m args below meth c H locs 0 0 Q (F0 m 28 ls []) := by
      intro n
      induction n with
      | zero => intro v2 hit; exact (itr_zero hit).elim
      | succ n ih28 =>
        intro v2 hit H locs hP hD hS ls hl
        obtain ⟨o28, hM, hbk28, hex28⟩ := itr_succ hit
        replace hM : mX3_tokenIs_s28 w1 mR mT v2 = some o28 := hM
        unfold mX3_tokenIs_s28 at hM
        refine lv_iload_n hx hb dX3_tokenIs_28 rfl (lv_at hl 2 rfl) ?_
        refine lv_aload_n hx hb dX3_tokenIs_29 rfl (lv_at hl 1 rfl) ?_
        refine gv_i (r0 := (slen w1)) (wn := (wR ct aR (aT 0) xR_land mR ++ wT ct aT mT)) (va_runV (As := []) (rest := [.int v2]) ⟨hx, hb, hml, hown, hts⟩ (kJ0_length_8abf5 l dC dI ct adK adV _ w1 hw1) (cwV 0 hts gX3_tokenIs_J0_length_8abf5 rfl rfl rfl hvJ0_length_8abf5 ⟨Nat.le_of_ble_eq_true rfl, Nat.le_of_ble_eq_true rfl⟩) (preVs hK hP hD hS hA hE hw1) rfl rfl hl.1 rfl (lv_room (Nat.le_of_ble_eq_true rfl)) dX3_tokenIs_30 ⟨Nat.le_of_ble_eq_true rfl, Nat.le_of_ble_eq_true rfl⟩) hP hD hS hA [] [0, 1, 2, 3, 4, 5] [0, 1, 2, 3, 4, 5] rfl rfl rfl (by decide) rfl rfl (fun H locs hP hD hS => ?_)
        refine lv_icmp_ge (tgt := 66) hx hb dX3_tokenIs_33 (by decide) (fun hc_1 => ?_) (fun hc_1 => ?_)
        · have hM := it_p hc_1 hM
          have hR := som hM
          exact X28_1 (hex28 _ hR).symm _ _ hP hD hS _ (lv_sub hl [] rfl)
        · have hM := it_n hc_1 hM
          refine lv_aload_n hx hb dX3_tokenIs_36 rfl (lv_at hl 0 rfl) ?_
          refine va_get (D := (dC, dI)) (ci := 3) (v := .ref (aT 0)) (C := RX3) (T := TX3) (N := 13) hx hb hts iwX3_tokenIs_X3 hown hK hP 0 rfl rfl 0 (by decide) (hts _ (List.mem_of_getElem? (i := 4) rfl)) (fun _ h9 => h9) rfl dX3_tokenIs_37 ?_
          refine va_get (D := (dC, dI)) (ci := 5) (v := .ref (aT 1)) (C := RX5) (T := TX5) (N := 2) hx hb hts iwX3_tokenIs_X5 hown hK hP 4 rfl rfl 0 (by decide) (hts _ (List.mem_of_getElem? (i := 5) rfl)) (fun _ h9 => h9) rfl dX3_tokenIs_40 ?_
          refine lv_aload_n hx hb dX3_tokenIs_43 rfl (lv_at hl 0 rfl) ?_
          refine va_get (D := (dC, dI)) (ci := 3) (v := .int (mR 0 5)) (C := RX3) (T := TX3) (N := 13) hx hb hts iwX3_tokenIs_X3 hown hK hP 0 rfl rfl 5 (by decide) (hts _ (List.mem_of_getElem? (i := 3) rfl)) (fun _ h9 => h9) rfl dX3_tokenIs_44 ?_
          refine lv_iload_n hx hb dX3_tokenIs_47 rfl (lv_at hl 2 rfl) ?_
          refine lv_iadd hx hb dX3_tokenIs_48 ?_
          obtain ⟨hi, hM⟩ := gi_some hM
          refine va_bald hx hb hK hP 5 1 rfl rfl hi dX3_tokenIs_49 ?_
          refine lv_aload_n hx hb dX3_tokenIs_50 rfl (lv_at hl 1 rfl) ?_
          refine lv_iload_n hx hb dX3_tokenIs_51 rfl (lv_at hl 2 rfl) ?_
          obtain ⟨hi, hM⟩ := gi_some hM
          refine gv_i (r0 := (sch w1 v2.toNatClampNeg)) (wn := (wR ct aR (aT 0) xR_land mR ++ wT ct aT mT)) (va_runV (As := [.int v2]) (rest := [.int (mT 1 ((mR 0 5) + v2).toNatClampNeg)]) ⟨hx, hb, hml, hown, hts⟩ (kJ0_charAt_5068e l dC dI ct adK adV _ w1 v2 hw1 hi) (cwV 1 hts gX3_tokenIs_J0_charAt_5068e rfl rfl rfl hvJ0_charAt_5068e ⟨Nat.le_of_ble_eq_true rfl, Nat.le_of_ble_eq_true rfl⟩) (preVs hK hP hD hS hA hE hw1) rfl rfl hl.1 rfl (lv_room (Nat.le_of_ble_eq_true rfl)) dX3_tokenIs_52 ⟨Nat.le_of_ble_eq_true rfl, Nat.le_of_ble_eq_true rfl⟩) hP hD hS hA [] [0, 1, 2, 3, 4, 5] [0, 1, 2, 3, 4, 5] rfl rfl rfl (by decide) rfl rfl (fun H locs hP hD hS => ?_)
          refine lv_icmp_eq (tgt := 60) hx hb dX3_tokenIs_55 (by decide) (fun hc_2 => ?_) (fun hc_2 => ?_)
          · have hM := it_p hc_2 hM
            obtain ⟨x_3, ex_3⟩ : ∃ y : Int32, y = (v2 + (1 : Int32)) := ⟨_, rfl⟩
            have hM := nm_at ex_3 hM
            refine lv_iinc (v := x_3) (lv' := [(2, .int x_3), (0, .ref (aR 0)), (1, .ref (adK w1))]) hx hb dX3_tokenIs_60 hl (k := 2) rfl (by rw [ex_3]; rfl) (by decide) rfl (fun ls hl => ?_)
            refine lv_goto (tgt := 28) hx hb dX3_tokenIs_63 (by decide) ?_
            have hR := som hM
            exact ih28 x_3 (hbk28 _ hR) _ _ hP hD hS _ (lv_sub hl [1, 2, 0] rfl)
          · have hM := it_n hc_2 hM
            have hR := som hM
            exact X28_0 (hex28 _ hR).symm _ _ hP hD hS _ (lv_sub hl [] rfl)
    exact I28 FU v2 hit28 _ _ hP hD hS _ hl
  refine lv_aload_n hx hb dX3_tokenIs_0 rfl (lv_at hl 0 rfl) ?_
  refine va_get (D := (dC, dI)) (ci := 3) (v := .int (mR 0 7)) (C := RX3) (T := TX3) (N := 13) hx hb hts iwX3_tokenIs_X3 hown hK hP 0 rfl rfl 7 (by decide) (hts _ (List.mem_of_getElem? (i := 1) rfl)) (fun _ h9 => h9) rfl dX3_tokenIs_1 ?_
  refine lv_iconst (v := 1) hx hb dX3_tokenIs_4 (by decide) ?_
  refine lv_icmp_ne (tgt := 24) hx hb dX3_tokenIs_5 (by decide) (fun hc_4 => ?_) (fun hc_4 => ?_)
  · have hM := it_p hc_4 hM
    refine lv_iconst (v := 0) hx hb dX3_tokenIs_24 (by decide) ?_
    have hR := som hM
    rw [hR] at hQ
    exact ret_z hQ hx hb hr hlocks rfl hP hK hD hS dX3_tokenIs_25
  · have hM := it_nn hc_4 hM
    refine lv_aload_n hx hb dX3_tokenIs_8 rfl (lv_at hl 0 rfl) ?_
    refine va_get (D := (dC, dI)) (ci := 3) (v := .int (mR 0 6)) (C := RX3) (T := TX3) (N := 13) hx hb hts iwX3_tokenIs_X3 hown hK hP 0 rfl rfl 6 (by decide) (hts _ (List.mem_of_getElem? (i := 2) rfl)) (fun _ h9 => h9) rfl dX3_tokenIs_9 ?_
    refine lv_aload_n hx hb dX3_tokenIs_12 rfl (lv_at hl 0 rfl) ?_
    refine va_get (D := (dC, dI)) (ci := 3) (v := .int (mR 0 5)) (C := RX3) (T := TX3) (N := 13) hx hb hts iwX3_tokenIs_X3 hown hK hP 0 rfl rfl 5 (by decide) (hts _ (List.mem_of_getElem? (i := 3) rfl)) (fun _ h9 => h9) rfl dX3_tokenIs_13 ?_
    refine lv_isub hx hb dX3_tokenIs_16 ?_
    refine lv_aload_n hx hb dX3_tokenIs_17 rfl (lv_at hl 1 rfl) ?_
    refine gv_i (r0 := (slen w1)) (wn := (wR ct aR (aT 0) xR_land mR ++ wT ct aT mT)) (va_runV (As := []) (rest := [.int ((mR 0 6) - (mR 0 5))]) ⟨hx, hb, hml, hown, hts⟩ (kJ0_length_8abf5 l dC dI ct adK adV _ w1 hw1) (cwV 0 hts gX3_tokenIs_J0_length_8abf5 rfl rfl rfl hvJ0_length_8abf5 ⟨Nat.le_of_ble_eq_true rfl, Nat.le_of_ble_eq_true rfl⟩) (preVs hK hP hD hS hA hE hw1) rfl rfl hl.1 rfl (lv_room (Nat.le_of_ble_eq_true rfl)) dX3_tokenIs_18 ⟨Nat.le_of_ble_eq_true rfl, Nat.le_of_ble_eq_true rfl⟩) hP hD hS hA [] [0, 1, 2, 3, 4, 5] [0, 1, 2, 3, 4, 5] rfl rfl rfl (by decide) rfl rfl (fun H locs hP hD hS => ?_)
    refine lv_icmp_eq (tgt := 26) hx hb dX3_tokenIs_21 (by decide) (fun hc_5 => ?_) (fun hc_5 => ?_)
    · have hM := it_p hc_5 hM
      refine lv_iconst (v := 0) hx hb dX3_tokenIs_26 (by decide) ?_
      refine lv_istore_n (lv' := [(2, .int (0 : Int32)), (0, .ref (aR 0)), (1, .ref (adK w1))]) hx hb dX3_tokenIs_27 rfl hl (by decide) rfl (fun ls hl => ?_)
      exact N28 (0 : Int32) hM _ _ hP hD hS _ (lv_sub hl [1, 2, 0] rfl)
    · have hM := it_n hc_5 hM
      refine lv_iconst (v := 0) hx hb dX3_tokenIs_24 (by decide) ?_
      have hR := som hM
      rw [hR] at hQ
      exact ret_z hQ hx hb hr hlocks rfl hP hK hD hS dX3_tokenIs_25
abbrev rmX3_isLineWord : Room := { frames := 5, cells := 0, slots := 0, locals := 107 }
set_option maxHeartbeats 4000000 in
set_option maxRecDepth 100000 in
theorem kX3_isLineWord (l : Launch) (dC : Nat → ClassId) (dI : Nat → Nat → Nat) (ct : Nat → ClassId) (aR : Nat → Nat) (aT : Nat → Nat) (xR_land : Nat) (adK adV : Nat → Nat) (sz : Nat) (mR : Mem) (mT : Mem) (res : Int32) (hM : mX3_isLineWord mR mT = some res) : Met l yX3_isLineWord wsX3_isLineWord rmX3_isLineWord (va_Pc [.ref (aR 0)] (PB (dC, dI) ct (EV adK adV) sz (wR ct aR (aT 0) xR_land mR ++ wT ct aT mT))) (Qi (dC, dI) ct (va_A (wR ct aR (aT 0) xR_land mR ++ wT ct aT mT) sz) res (wR ct aR (aT 0) xR_land mR ++ wT ct aT mT)) 0 0 (va_A (wR ct aR (aT 0) xR_land mR ++ wT ct aT mT) sz) := by
  refine Met.ofW (cc := cX3_isLineWord) (maxL := 1) (ret := (some .boolean)) (by decide) rfl ?_
  intro p e s m args below meth c s₁ B hml hv
  obtain ⟨hargs, hsz, hP, hK, hD0, hE⟩ := hv
  have hx := B.exec
  have hb := B.bytes
  have hr := B.returns
  have hts := atoms_spec (ws := wsX3_isLineWord) B.pre
  have hown : s.vm.findClass RX3 = some m.cls := findClass_of_methodNamed B.named
  have hlocks := B.notSynchronized
  clear B s₁
  subst hsz
  have hD := hD0.self (sz := s.heap.size)
  clear hD0
  generalize hAe : va_A (wR ct aR (aT 0) xR_land mR ++ wT ct aT mT) s.heap.size = A at hD hE ⊢
  have hA : ∀ q : Nat, s.heap.size ≤ q → A q := fun q h => by rw [← hAe]; exact Or.inr h
  clear hAe
  have hS : va_S A s.heap s.heap [] := va_S.rf
  refine cutQ (fun Q hQ => ?_)
  refine entryW (vs := [.ref (aR 0)]) hargs (Nat.le_of_ble_eq_true rfl) (fun ls hl => ?_)
  replace hl : lv_has ls 1 [(0, .ref (aR 0))] := hl
  unfold mX3_isLineWord at hM
  refine lv_aload_n hx hb dX3_isLineWord_0 rfl (lv_at hl 0 rfl) ?_
  refine va_ldcS hx hb hown (show vk_R RX3 75 "moon" (adK 0) s from hE.2.1 0 (by decide)) dX3_isLineWord_1 ?_
  obtain ⟨x_1, hr_2, hM⟩ := bn_some hM
  refine gv_i (r0 := x_1) (wn := (wR ct aR (aT 0) xR_land mR ++ wT ct aT mT)) (va_runV (As := [.ref (adK 0)]) (rest := []) ⟨hx, hb, hml, hown, hts⟩ (kX3_tokenIs l dC dI ct aR aT xR_land adK adV _ mR mT 0 _ hr_2) (cwV 1 hts gX3_isLineWord_X3_tokenIs rfl rfl rfl hvX3_tokenIs ⟨Nat.le_of_ble_eq_true rfl, Nat.le_of_ble_eq_true rfl⟩) (preV_of EV_ok hK hP hD (is := [0, 1, 2, 3, 4, 5]) rfl rfl rfl (ci := 3) rfl 0 rfl (e_sub EV_ok hE hS (va_free hD hS hA [0, 1, 2, 3, 4, 5] rfl))) rfl rfl hl.1 rfl (lv_room (Nat.le_of_ble_eq_true rfl)) dX3_isLineWord_3 ⟨Nat.le_of_ble_eq_true rfl, Nat.le_of_ble_eq_true rfl⟩) hP hD hS hA [0, 1, 2, 3, 4, 5] [] [0, 1, 2, 3, 4, 5] rfl rfl rfl (by decide) rfl rfl (fun H locs hP hD hS => ?_)
  refine lv_if_ne (tgt := 54) hx hb dX3_isLineWord_6 (by decide) (fun hc_4 => ?_) (fun hc_4 => ?_)
  · have hM := it_p hc_4 hM
    refine lv_iconst (v := 1) hx hb dX3_isLineWord_54 (by decide) ?_
    refine lv_goto (tgt := 59) hx hb dX3_isLineWord_55 (by decide) ?_
    have hR := som hM
    rw [hR] at hQ
    exact ret_z hQ hx hb hr hlocks rfl hP hK hD hS dX3_isLineWord_59
  · have hM := it_nn hc_4 hM
    refine lv_aload_n hx hb dX3_isLineWord_9 rfl (lv_at hl 0 rfl) ?_
    refine va_ldcS hx hb hown (show vk_R RX3 84 "strike" (adK 1) s from hE.2.1 1 (by decide)) dX3_isLineWord_10 ?_
    obtain ⟨x_5, hr_6, hM⟩ := bn_some hM
    refine gv_i (r0 := x_5) (wn := (wR ct aR (aT 0) xR_land mR ++ wT ct aT mT)) (va_runV (As := [.ref (adK 1)]) (rest := []) ⟨hx, hb, hml, hown, hts⟩ (kX3_tokenIs l dC dI ct aR aT xR_land adK adV _ mR mT 1 _ hr_6) (cwV 1 hts gX3_isLineWord_X3_tokenIs rfl rfl rfl hvX3_tokenIs ⟨Nat.le_of_ble_eq_true rfl, Nat.le_of_ble_eq_true rfl⟩) (preV_of EV_ok hK hP hD (is := [0, 1, 2, 3, 4, 5]) rfl rfl rfl (ci := 3) rfl 0 rfl (e_sub EV_ok hE hS (va_free hD hS hA [0, 1, 2, 3, 4, 5] rfl))) rfl rfl hl.1 rfl (lv_room (Nat.le_of_ble_eq_true rfl)) dX3_isLineWord_12 ⟨Nat.le_of_ble_eq_true rfl, Nat.le_of_ble_eq_true rfl⟩) hP hD hS hA [0, 1, 2, 3, 4, 5] [] [0, 1, 2, 3, 4, 5] rfl rfl rfl (by decide) rfl rfl (fun H locs hP hD hS => ?_)
    refine lv_if_ne (tgt := 54) hx hb dX3_isLineWord_15 (by decide) (fun hc_8 => ?_) (fun hc_8 => ?_)
    · have hM := it_p hc_8 hM
      refine lv_iconst (v := 1) hx hb dX3_isLineWord_54 (by decide) ?_
      refine lv_goto (tgt := 59) hx hb dX3_isLineWord_55 (by decide) ?_
      have hR := som hM
      rw [hR] at hQ
      exact ret_z hQ hx hb hr hlocks rfl hP hK hD hS dX3_isLineWord_59
    · have hM := it_nn hc_8 hM
      refine lv_aload_n hx hb dX3_isLineWord_18 rfl (lv_at hl 0 rfl) ?_
      refine va_ldcS hx hb hown (show vk_R RX3 89 "wait" (adK 2) s from hE.2.1 2 (by decide)) dX3_isLineWord_19 ?_
      obtain ⟨x_9, hr_10, hM⟩ := bn_some hM
      refine gv_i (r0 := x_9) (wn := (wR ct aR (aT 0) xR_land mR ++ wT ct aT mT)) (va_runV (As := [.ref (adK 2)]) (rest := []) ⟨hx, hb, hml, hown, hts⟩ (kX3_tokenIs l dC dI ct aR aT xR_land adK adV _ mR mT 2 _ hr_10) (cwV 1 hts gX3_isLineWord_X3_tokenIs rfl rfl rfl hvX3_tokenIs ⟨Nat.le_of_ble_eq_true rfl, Nat.le_of_ble_eq_true rfl⟩) (preV_of EV_ok hK hP hD (is := [0, 1, 2, 3, 4, 5]) rfl rfl rfl (ci := 3) rfl 0 rfl (e_sub EV_ok hE hS (va_free hD hS hA [0, 1, 2, 3, 4, 5] rfl))) rfl rfl hl.1 rfl (lv_room (Nat.le_of_ble_eq_true rfl)) dX3_isLineWord_21 ⟨Nat.le_of_ble_eq_true rfl, Nat.le_of_ble_eq_true rfl⟩) hP hD hS hA [0, 1, 2, 3, 4, 5] [] [0, 1, 2, 3, 4, 5] rfl rfl rfl (by decide) rfl rfl (fun H locs hP hD hS => ?_)
      refine lv_if_ne (tgt := 54) hx hb dX3_isLineWord_24 (by decide) (fun hc_12 => ?_) (fun hc_12 => ?_)
      · have hM := it_p hc_12 hM
        refine lv_iconst (v := 1) hx hb dX3_isLineWord_54 (by decide) ?_
        refine lv_goto (tgt := 59) hx hb dX3_isLineWord_55 (by decide) ?_
        have hR := som hM
        rw [hR] at hQ
        exact ret_z hQ hx hb hr hlocks rfl hP hK hD hS dX3_isLineWord_59
      · have hM := it_nn hc_12 hM
        refine lv_aload_n hx hb dX3_isLineWord_27 rfl (lv_at hl 0 rfl) ?_
        refine va_ldcS hx hb hown (show vk_R RX3 94 "sort" (adK 3) s from hE.2.1 3 (by decide)) dX3_isLineWord_28 ?_
        obtain ⟨x_13, hr_14, hM⟩ := bn_some hM
        refine gv_i (r0 := x_13) (wn := (wR ct aR (aT 0) xR_land mR ++ wT ct aT mT)) (va_runV (As := [.ref (adK 3)]) (rest := []) ⟨hx, hb, hml, hown, hts⟩ (kX3_tokenIs l dC dI ct aR aT xR_land adK adV _ mR mT 3 _ hr_14) (cwV 1 hts gX3_isLineWord_X3_tokenIs rfl rfl rfl hvX3_tokenIs ⟨Nat.le_of_ble_eq_true rfl, Nat.le_of_ble_eq_true rfl⟩) (preV_of EV_ok hK hP hD (is := [0, 1, 2, 3, 4, 5]) rfl rfl rfl (ci := 3) rfl 0 rfl (e_sub EV_ok hE hS (va_free hD hS hA [0, 1, 2, 3, 4, 5] rfl))) rfl rfl hl.1 rfl (lv_room (Nat.le_of_ble_eq_true rfl)) dX3_isLineWord_30 ⟨Nat.le_of_ble_eq_true rfl, Nat.le_of_ble_eq_true rfl⟩) hP hD hS hA [0, 1, 2, 3, 4, 5] [] [0, 1, 2, 3, 4, 5] rfl rfl rfl (by decide) rfl rfl (fun H locs hP hD hS => ?_)
        refine lv_if_ne (tgt := 54) hx hb dX3_isLineWord_33 (by decide) (fun hc_16 => ?_) (fun hc_16 => ?_)
        · have hM := it_p hc_16 hM
          refine lv_iconst (v := 1) hx hb dX3_isLineWord_54 (by decide) ?_
          refine lv_goto (tgt := 59) hx hb dX3_isLineWord_55 (by decide) ?_
          have hR := som hM
          rw [hR] at hQ
          exact ret_z hQ hx hb hr hlocks rfl hP hK hD hS dX3_isLineWord_59
        · have hM := it_nn hc_16 hM
          refine lv_aload_n hx hb dX3_isLineWord_36 rfl (lv_at hl 0 rfl) ?_
          refine va_ldcS hx hb hown (show vk_R RX3 99 "spare" (adK 4) s from hE.2.1 4 (by decide)) dX3_isLineWord_37 ?_
          obtain ⟨x_17, hr_18, hM⟩ := bn_some hM
          refine gv_i (r0 := x_17) (wn := (wR ct aR (aT 0) xR_land mR ++ wT ct aT mT)) (va_runV (As := [.ref (adK 4)]) (rest := []) ⟨hx, hb, hml, hown, hts⟩ (kX3_tokenIs l dC dI ct aR aT xR_land adK adV _ mR mT 4 _ hr_18) (cwV 1 hts gX3_isLineWord_X3_tokenIs rfl rfl rfl hvX3_tokenIs ⟨Nat.le_of_ble_eq_true rfl, Nat.le_of_ble_eq_true rfl⟩) (preV_of EV_ok hK hP hD (is := [0, 1, 2, 3, 4, 5]) rfl rfl rfl (ci := 3) rfl 0 rfl (e_sub EV_ok hE hS (va_free hD hS hA [0, 1, 2, 3, 4, 5] rfl))) rfl rfl hl.1 rfl (lv_room (Nat.le_of_ble_eq_true rfl)) dX3_isLineWord_39 ⟨Nat.le_of_ble_eq_true rfl, Nat.le_of_ble_eq_true rfl⟩) hP hD hS hA [0, 1, 2, 3, 4, 5] [] [0, 1, 2, 3, 4, 5] rfl rfl rfl (by decide) rfl rfl (fun H locs hP hD hS => ?_)
          refine lv_if_ne (tgt := 54) hx hb dX3_isLineWord_42 (by decide) (fun hc_20 => ?_) (fun hc_20 => ?_)
          · have hM := it_p hc_20 hM
            refine lv_iconst (v := 1) hx hb dX3_isLineWord_54 (by decide) ?_
            refine lv_goto (tgt := 59) hx hb dX3_isLineWord_55 (by decide) ?_
            have hR := som hM
            rw [hR] at hQ
            exact ret_z hQ hx hb hr hlocks rfl hP hK hD hS dX3_isLineWord_59
          · have hM := it_nn hc_20 hM
            refine lv_aload_n hx hb dX3_isLineWord_45 rfl (lv_at hl 0 rfl) ?_
            refine va_ldcS hx hb hown (show vk_R RX3 104 "turn" (adK 5) s from hE.2.1 5 (by decide)) dX3_isLineWord_46 ?_
            obtain ⟨x_21, hr_22, hM⟩ := bn_some hM
            refine gv_i (r0 := x_21) (wn := (wR ct aR (aT 0) xR_land mR ++ wT ct aT mT)) (va_runV (As := [.ref (adK 5)]) (rest := []) ⟨hx, hb, hml, hown, hts⟩ (kX3_tokenIs l dC dI ct aR aT xR_land adK adV _ mR mT 5 _ hr_22) (cwV 1 hts gX3_isLineWord_X3_tokenIs rfl rfl rfl hvX3_tokenIs ⟨Nat.le_of_ble_eq_true rfl, Nat.le_of_ble_eq_true rfl⟩) (preV_of EV_ok hK hP hD (is := [0, 1, 2, 3, 4, 5]) rfl rfl rfl (ci := 3) rfl 0 rfl (e_sub EV_ok hE hS (va_free hD hS hA [0, 1, 2, 3, 4, 5] rfl))) rfl rfl hl.1 rfl (lv_room (Nat.le_of_ble_eq_true rfl)) dX3_isLineWord_48 ⟨Nat.le_of_ble_eq_true rfl, Nat.le_of_ble_eq_true rfl⟩) hP hD hS hA [0, 1, 2, 3, 4, 5] [] [0, 1, 2, 3, 4, 5] rfl rfl rfl (by decide) rfl rfl (fun H locs hP hD hS => ?_)
            refine lv_if_eq (tgt := 58) hx hb dX3_isLineWord_51 (by decide) (fun hc_24 => ?_) (fun hc_24 => ?_)
            · have hM := it_p hc_24 hM
              refine lv_iconst (v := 0) hx hb dX3_isLineWord_58 (by decide) ?_
              have hR := som hM
              rw [hR] at hQ
              exact ret_z hQ hx hb hr hlocks rfl hP hK hD hS dX3_isLineWord_59
            · have hM := it_n hc_24 hM
              refine lv_iconst (v := 1) hx hb dX3_isLineWord_54 (by decide) ?_
              refine lv_goto (tgt := 59) hx hb dX3_isLineWord_55 (by decide) ?_
              have hR := som hM
              rw [hR] at hQ
              exact ret_z hQ hx hb hr hlocks rfl hP hK hD hS dX3_isLineWord_59
abbrev rmX3_tokenKind : Room := { frames := 5, cells := 0, slots := 0, locals := 107 }
set_option maxHeartbeats 4000000 in
set_option maxRecDepth 100000 in
theorem kX3_tokenKind (l : Launch) (dC : Nat → ClassId) (dI : Nat → Nat → Nat) (ct : Nat → ClassId) (aR : Nat → Nat) (aT : Nat → Nat) (xR_land : Nat) (adK adV : Nat → Nat) (sz : Nat) (mR : Mem) (mT : Mem) (res : Int32) (hM : mX3_tokenKind mR mT = some res) : Met l yX3_tokenKind wsX3_tokenKind rmX3_tokenKind (va_Pc [.ref (aR 0)] (PB (dC, dI) ct (EV adK adV) sz (wR ct aR (aT 0) xR_land mR ++ wT ct aT mT))) (Qi (dC, dI) ct (va_A (wR ct aR (aT 0) xR_land mR ++ wT ct aT mT) sz) res (wR ct aR (aT 0) xR_land mR ++ wT ct aT mT)) 0 0 (va_A (wR ct aR (aT 0) xR_land mR ++ wT ct aT mT) sz) := by
  refine Met.ofW (cc := cX3_tokenKind) (maxL := 1) (ret := (some .int)) (by decide) rfl ?_
  intro p e s m args below meth c s₁ B hml hv
  obtain ⟨hargs, hsz, hP, hK, hD0, hE⟩ := hv
  have hx := B.exec
  have hb := B.bytes
  have hr := B.returns
  have hts := atoms_spec (ws := wsX3_tokenKind) B.pre
  have hown : s.vm.findClass RX3 = some m.cls := findClass_of_methodNamed B.named
  have hlocks := B.notSynchronized
  clear B s₁
  subst hsz
  have hD := hD0.self (sz := s.heap.size)
  clear hD0
  generalize hAe : va_A (wR ct aR (aT 0) xR_land mR ++ wT ct aT mT) s.heap.size = A at hD hE ⊢
  have hA : ∀ q : Nat, s.heap.size ≤ q → A q := fun q h => by rw [← hAe]; exact Or.inr h
  clear hAe
  have hS : va_S A s.heap s.heap [] := va_S.rf
  refine cutQ (fun Q hQ => ?_)
  refine entryW (vs := [.ref (aR 0)]) hargs (Nat.le_of_ble_eq_true rfl) (fun ls hl => ?_)
  replace hl : lv_has ls 1 [(0, .ref (aR 0))] := hl
  unfold mX3_tokenKind at hM
  refine lv_aload_n hx hb dX3_tokenKind_0 rfl (lv_at hl 0 rfl) ?_
  refine va_ldcS hx hb hown (show vk_R RX3 178 "loan" (adK 6) s from hE.2.1 6 (by decide)) dX3_tokenKind_1 ?_
  obtain ⟨x_1, hr_2, hM⟩ := bn_some hM
  refine gv_i (r0 := x_1) (wn := (wR ct aR (aT 0) xR_land mR ++ wT ct aT mT)) (va_runV (As := [.ref (adK 6)]) (rest := []) ⟨hx, hb, hml, hown, hts⟩ (kX3_tokenIs l dC dI ct aR aT xR_land adK adV _ mR mT 6 _ hr_2) (cwV 1 hts gX3_tokenKind_X3_tokenIs rfl rfl rfl hvX3_tokenIs ⟨Nat.le_of_ble_eq_true rfl, Nat.le_of_ble_eq_true rfl⟩) (preV_of EV_ok hK hP hD (is := [0, 1, 2, 3, 4, 5]) rfl rfl rfl (ci := 3) rfl 0 rfl (e_sub EV_ok hE hS (va_free hD hS hA [0, 1, 2, 3, 4, 5] rfl))) rfl rfl hl.1 rfl (lv_room (Nat.le_of_ble_eq_true rfl)) dX3_tokenKind_3 ⟨Nat.le_of_ble_eq_true rfl, Nat.le_of_ble_eq_true rfl⟩) hP hD hS hA [0, 1, 2, 3, 4, 5] [] [0, 1, 2, 3, 4, 5] rfl rfl rfl (by decide) rfl rfl (fun H locs hP hD hS => ?_)
  refine lv_if_eq (tgt := 11) hx hb dX3_tokenKind_6 (by decide) (fun hc_4 => ?_) (fun hc_4 => ?_)
  · have hM := it_p hc_4 hM
    refine lv_aload_n hx hb dX3_tokenKind_11 rfl (lv_at hl 0 rfl) ?_
    refine va_ldcS hx hb hown (show vk_R RX3 180 "pledge" (adK 7) s from hE.2.1 7 (by decide)) dX3_tokenKind_12 ?_
    obtain ⟨x_5, hr_6, hM⟩ := bn_some hM
    refine gv_i (r0 := x_5) (wn := (wR ct aR (aT 0) xR_land mR ++ wT ct aT mT)) (va_runV (As := [.ref (adK 7)]) (rest := []) ⟨hx, hb, hml, hown, hts⟩ (kX3_tokenIs l dC dI ct aR aT xR_land adK adV _ mR mT 7 _ hr_6) (cwV 1 hts gX3_tokenKind_X3_tokenIs rfl rfl rfl hvX3_tokenIs ⟨Nat.le_of_ble_eq_true rfl, Nat.le_of_ble_eq_true rfl⟩) (preV_of EV_ok hK hP hD (is := [0, 1, 2, 3, 4, 5]) rfl rfl rfl (ci := 3) rfl 0 rfl (e_sub EV_ok hE hS (va_free hD hS hA [0, 1, 2, 3, 4, 5] rfl))) rfl rfl hl.1 rfl (lv_room (Nat.le_of_ble_eq_true rfl)) dX3_tokenKind_14 ⟨Nat.le_of_ble_eq_true rfl, Nat.le_of_ble_eq_true rfl⟩) hP hD hS hA [0, 1, 2, 3, 4, 5] [] [0, 1, 2, 3, 4, 5] rfl rfl rfl (by decide) rfl rfl (fun H locs hP hD hS => ?_)
    refine lv_if_eq (tgt := 22) hx hb dX3_tokenKind_17 (by decide) (fun hc_8 => ?_) (fun hc_8 => ?_)
    · have hM := it_p hc_8 hM
      refine lv_aload_n hx hb dX3_tokenKind_22 rfl (lv_at hl 0 rfl) ?_
      refine va_ldcS hx hb hown (show vk_R RX3 182 "sale" (adK 8) s from hE.2.1 8 (by decide)) dX3_tokenKind_23 ?_
      obtain ⟨x_9, hr_10, hM⟩ := bn_some hM
      refine gv_i (r0 := x_9) (wn := (wR ct aR (aT 0) xR_land mR ++ wT ct aT mT)) (va_runV (As := [.ref (adK 8)]) (rest := []) ⟨hx, hb, hml, hown, hts⟩ (kX3_tokenIs l dC dI ct aR aT xR_land adK adV _ mR mT 8 _ hr_10) (cwV 1 hts gX3_tokenKind_X3_tokenIs rfl rfl rfl hvX3_tokenIs ⟨Nat.le_of_ble_eq_true rfl, Nat.le_of_ble_eq_true rfl⟩) (preV_of EV_ok hK hP hD (is := [0, 1, 2, 3, 4, 5]) rfl rfl rfl (ci := 3) rfl 0 rfl (e_sub EV_ok hE hS (va_free hD hS hA [0, 1, 2, 3, 4, 5] rfl))) rfl rfl hl.1 rfl (lv_room (Nat.le_of_ble_eq_true rfl)) dX3_tokenKind_25 ⟨Nat.le_of_ble_eq_true rfl, Nat.le_of_ble_eq_true rfl⟩) hP hD hS hA [0, 1, 2, 3, 4, 5] [] [0, 1, 2, 3, 4, 5] rfl rfl rfl (by decide) rfl rfl (fun H locs hP hD hS => ?_)
      refine lv_if_eq (tgt := 33) hx hb dX3_tokenKind_28 (by decide) (fun hc_12 => ?_) (fun hc_12 => ?_)
      · have hM := it_p hc_12 hM
        refine lv_aload_n hx hb dX3_tokenKind_33 rfl (lv_at hl 0 rfl) ?_
        refine va_ldcS hx hb hown (show vk_R RX3 184 "gift" (adK 9) s from hE.2.1 9 (by decide)) dX3_tokenKind_34 ?_
        obtain ⟨x_13, hr_14, hM⟩ := bn_some hM
        refine gv_i (r0 := x_13) (wn := (wR ct aR (aT 0) xR_land mR ++ wT ct aT mT)) (va_runV (As := [.ref (adK 9)]) (rest := []) ⟨hx, hb, hml, hown, hts⟩ (kX3_tokenIs l dC dI ct aR aT xR_land adK adV _ mR mT 9 _ hr_14) (cwV 1 hts gX3_tokenKind_X3_tokenIs rfl rfl rfl hvX3_tokenIs ⟨Nat.le_of_ble_eq_true rfl, Nat.le_of_ble_eq_true rfl⟩) (preV_of EV_ok hK hP hD (is := [0, 1, 2, 3, 4, 5]) rfl rfl rfl (ci := 3) rfl 0 rfl (e_sub EV_ok hE hS (va_free hD hS hA [0, 1, 2, 3, 4, 5] rfl))) rfl rfl hl.1 rfl (lv_room (Nat.le_of_ble_eq_true rfl)) dX3_tokenKind_36 ⟨Nat.le_of_ble_eq_true rfl, Nat.le_of_ble_eq_true rfl⟩) hP hD hS hA [0, 1, 2, 3, 4, 5] [] [0, 1, 2, 3, 4, 5] rfl rfl rfl (by decide) rfl rfl (fun H locs hP hD hS => ?_)
        refine lv_if_eq (tgt := 44) hx hb dX3_tokenKind_39 (by decide) (fun hc_16 => ?_) (fun hc_16 => ?_)
        · have hM := it_p hc_16 hM
          refine lv_aload_n hx hb dX3_tokenKind_44 rfl (lv_at hl 0 rfl) ?_
          refine va_ldcS hx hb hown (show vk_R RX3 186 "purse" (adK 10) s from hE.2.1 10 (by decide)) dX3_tokenKind_45 ?_
          obtain ⟨x_17, hr_18, hM⟩ := bn_some hM
          refine gv_i (r0 := x_17) (wn := (wR ct aR (aT 0) xR_land mR ++ wT ct aT mT)) (va_runV (As := [.ref (adK 10)]) (rest := []) ⟨hx, hb, hml, hown, hts⟩ (kX3_tokenIs l dC dI ct aR aT xR_land adK adV _ mR mT 10 _ hr_18) (cwV 1 hts gX3_tokenKind_X3_tokenIs rfl rfl rfl hvX3_tokenIs ⟨Nat.le_of_ble_eq_true rfl, Nat.le_of_ble_eq_true rfl⟩) (preV_of EV_ok hK hP hD (is := [0, 1, 2, 3, 4, 5]) rfl rfl rfl (ci := 3) rfl 0 rfl (e_sub EV_ok hE hS (va_free hD hS hA [0, 1, 2, 3, 4, 5] rfl))) rfl rfl hl.1 rfl (lv_room (Nat.le_of_ble_eq_true rfl)) dX3_tokenKind_47 ⟨Nat.le_of_ble_eq_true rfl, Nat.le_of_ble_eq_true rfl⟩) hP hD hS hA [0, 1, 2, 3, 4, 5] [] [0, 1, 2, 3, 4, 5] rfl rfl rfl (by decide) rfl rfl (fun H locs hP hD hS => ?_)
          refine lv_if_eq (tgt := 57) hx hb dX3_tokenKind_50 (by decide) (fun hc_20 => ?_) (fun hc_20 => ?_)
          · have hM := it_p hc_20 hM
            refine lv_iconst (v := -1) hx hb dX3_tokenKind_57 (by decide) ?_
            have hR := som hM
            rw [hR] at hQ
            exact ret_i hQ hx hb hr hlocks hP hK hD hS dX3_tokenKind_58
          · have hM := it_n hc_20 hM
            refine lv_iconst (v := 4) hx hb dX3_tokenKind_53 (by decide) ?_
            refine lv_goto (tgt := 58) hx hb dX3_tokenKind_54 (by decide) ?_
            have hR := som hM
            rw [hR] at hQ
            exact ret_i hQ hx hb hr hlocks hP hK hD hS dX3_tokenKind_58
        · have hM := it_n hc_16 hM
          refine lv_iconst (v := 3) hx hb dX3_tokenKind_42 (by decide) ?_
          have hR := som hM
          rw [hR] at hQ
          exact ret_i hQ hx hb hr hlocks hP hK hD hS dX3_tokenKind_43
      · have hM := it_n hc_12 hM
        refine lv_iconst (v := 2) hx hb dX3_tokenKind_31 (by decide) ?_
        have hR := som hM
        rw [hR] at hQ
        exact ret_i hQ hx hb hr hlocks hP hK hD hS dX3_tokenKind_32
    · have hM := it_n hc_8 hM
      refine lv_iconst (v := 1) hx hb dX3_tokenKind_20 (by decide) ?_
      have hR := som hM
      rw [hR] at hQ
      exact ret_i hQ hx hb hr hlocks hP hK hD hS dX3_tokenKind_21
  · have hM := it_n hc_4 hM
    refine lv_iconst (v := 0) hx hb dX3_tokenKind_9 (by decide) ?_
    have hR := som hM
    rw [hR] at hQ
    exact ret_i hQ hx hb hr hlocks hP hK hD hS dX3_tokenKind_10
abbrev rmX3_readMoon : Room := { frames := 3, cells := 0, slots := 0, locals := 64 }
theorem iwX3_readMoon_X1 : ∀ w ∈ wsX10, w ∈ wsX3_readMoon := fun _ h => List.mem_cons_of_mem _ (List.mem_append_left _ (List.mem_append_right _ (h)))
theorem iwX3_readMoon_X3 : ∀ w ∈ wsX30, w ∈ wsX3_readMoon := fun _ h => List.mem_cons_of_mem _ (List.mem_append_left _ (List.mem_append_left _ (List.mem_append_right _ (h))))
set_option maxHeartbeats 4000000 in
set_option maxRecDepth 100000 in
theorem kX3_readMoon (l : Launch) (dC : Nat → ClassId) (dI : Nat → Nat → Nat) (ct : Nat → ClassId) (aR : Nat → Nat) (aT : Nat → Nat) (aL : Nat → Nat) (adK adV : Nat → Nat) (sz : Nat) (mR : Mem) (mT : Mem) (mL : Mem) (res : (Int32 × Mem × Mem)) (hM : mX3_readMoon mR mT mL = some res) : Met l yX3_readMoon wsX3_readMoon rmX3_readMoon (va_Pc [.ref (aR 0)] (PB (dC, dI) ct (EV adK adV) sz (wR ct aR (aT 0) (aL 0) mR ++ wT ct aT mT ++ wL ct aL mL))) (Qi (dC, dI) ct (va_A (wR ct aR (aT 0) (aL 0) mR ++ wT ct aT mT ++ wL ct aL mL) sz) res.1 (wR ct aR (aT 0) (aL 0) res.2.1 ++ wT ct aT mT ++ wL ct aL res.2.2)) 0 0 (va_A (wR ct aR (aT 0) (aL 0) mR ++ wT ct aT mT ++ wL ct aL mL) sz) := by
  refine Met.ofW (cc := cX3_readMoon) (maxL := 1) (ret := (some .boolean)) (by decide) rfl ?_
  intro p e s m args below meth c s₁ B hml hv
  obtain ⟨hargs, hsz, hP, hK, hD0, hE⟩ := hv
  have hx := B.exec
  have hb := B.bytes
  have hr := B.returns
  have hts := atoms_spec (ws := wsX3_readMoon) B.pre
  have hown : s.vm.findClass RX3 = some m.cls := findClass_of_methodNamed B.named
  have hlocks := B.notSynchronized
  clear B s₁
  subst hsz
  have hD := hD0.self (sz := s.heap.size)
  clear hD0
  generalize hAe : va_A (wR ct aR (aT 0) (aL 0) mR ++ wT ct aT mT ++ wL ct aL mL) s.heap.size = A at hD hE ⊢
  have hA : ∀ q : Nat, s.heap.size ≤ q → A q := fun q h => by rw [← hAe]; exact Or.inr h
  clear hAe
  have hS : va_S A s.heap s.heap [] := va_S.rf
  refine cutQ (fun Q hQ => ?_)
  refine entryW (vs := [.ref (aR 0)]) hargs (Nat.le_of_ble_eq_true rfl) (fun ls hl => ?_)
  replace hl : lv_has ls 1 [(0, .ref (aR 0))] := hl
  unfold mX3_readMoon at hM
  refine lv_aload_n hx hb dX3_readMoon_0 rfl (lv_at hl 0 rfl) ?_
  refine va_get (D := (dC, dI)) (ci := 3) (v := .int (mR 0 10)) (C := RX3) (T := TX3) (N := 13) hx hb hts iwX3_readMoon_X3 hown hK hP 0 rfl rfl 10 (by decide) (hts _ (List.mem_of_getElem? (i := 1) rfl)) (fun _ h9 => h9) rfl dX3_readMoon_1 ?_
  refine lv_if_eq (tgt := 9) hx hb dX3_readMoon_4 (by decide) (fun hc_1 => ?_) (fun hc_1 => ?_)
  · have hM := it_p hc_1 hM
    refine lv_aload_n hx hb dX3_readMoon_9 rfl (lv_at hl 0 rfl) ?_
    refine lv_iconst (v := 1) hx hb dX3_readMoon_10 (by decide) ?_
    refine pf_i (wf := fun z => (wR ct aR (aT 0) (aL 0) z ++ wT ct aT mT ++ wL ct aL mL)) (m1 := upf mR 10 (1 : Int32)) hx hb hts iwX3_readMoon_X3 tyX3 tyX3_ok nmX3 hown hK hP hD hS 0 rfl rfl 10 (by decide) (hts _ (List.mem_of_getElem? (i := 1) rfl)) (fun _ h9 => h9) rfl rfl rfl (Nat.le_of_ble_eq_true rfl) dX3_readMoon_11 rfl (fun mR_2 emR_2 H locs hP hD hS => ?_)
    have hM := nm_at emR_2 hM
    refine lv_aload_n hx hb dX3_readMoon_14 rfl (lv_at hl 0 rfl) ?_
    obtain ⟨mR_3, hr_4, hM⟩ := bn_some hM
    refine gv_v (wn := (wR ct aR (aT 0) (aL 0) mR_3 ++ wT ct aT mT ++ wL ct aL mL)) (va_runV (As := []) (rest := []) ⟨hx, hb, hml, hown, hts⟩ (kX3_step l dC dI ct aR aT (aL 0) _ mR_2 mT _ hr_4) (cwV 0 hts gX3_readMoon_X3_step rfl rfl rfl hvX3_step ⟨Nat.le_of_ble_eq_true rfl, Nat.le_of_ble_eq_true rfl⟩) (preV_of E0_ok hK hP hD (is := [0, 1, 2, 3, 4, 5]) rfl rfl rfl (ci := 3) rfl 0 rfl e_0) rfl rfl hl.1 rfl (lv_room (Nat.le_of_ble_eq_true rfl)) dX3_readMoon_15 ⟨Nat.le_of_ble_eq_true rfl, Nat.le_of_ble_eq_true rfl⟩) hP hD hS hA [0, 1, 2, 3, 4, 5] [6, 7, 8, 9, 10, 11, 12, 13, 14, 15] [10, 11, 12, 13, 14, 15, 0, 1, 2, 3, 4, 5, 6, 7, 8, 9] rfl rfl rfl (by decide) rfl rfl (fun H locs hP hD hS => ?_)
    refine lv_aload_n hx hb dX3_readMoon_18 rfl (lv_at hl 0 rfl) ?_
    refine lv_iconst (v := 5) hx hb dX3_readMoon_19 (by decide) ?_
    refine lv_bipush (v := 30) hx hb dX3_readMoon_20 (by decide) ?_
    obtain ⟨q_9, hr_8, hM⟩ := bn_some hM
    obtain ⟨x_6, mR_7⟩ := q_9
    have hM := nm_at (y := x_6) rfl hM
    have hM := nm_at (y := mR_7) rfl hM
    refine gv_i (r0 := x_6) (wn := (wR ct aR (aT 0) (aL 0) mR_7 ++ wT ct aT mT ++ wL ct aL mL)) (va_runV (As := [.int (5 : Int32), .int (30 : Int32)]) (rest := []) ⟨hx, hb, hml, hown, hts⟩ (kX3_takeNumber l dC dI ct aR aT (aL 0) adK adV _ mR_3 mT (5 : Int32) (30 : Int32) _ hr_8) (cwV 2 hts gX3_readMoon_X3_takeNumber rfl rfl rfl hvX3_takeNumber ⟨Nat.le_of_ble_eq_true rfl, Nat.le_of_ble_eq_true rfl⟩) (preV_of EV_ok hK hP hD (is := [0, 1, 2, 3, 4, 5]) rfl rfl rfl (ci := 3) rfl 0 rfl (e_sub EV_ok hE hS (va_free hD hS hA [0, 1, 2, 3, 4, 5] rfl))) rfl rfl hl.1 rfl (lv_room (Nat.le_of_ble_eq_true rfl)) dX3_readMoon_22 ⟨Nat.le_of_ble_eq_true rfl, Nat.le_of_ble_eq_true rfl⟩) hP hD hS hA [0, 1, 2, 3, 4, 5] [6, 7, 8, 9, 10, 11, 12, 13, 14, 15] [10, 11, 12, 13, 14, 15, 0, 1, 2, 3, 4, 5, 6, 7, 8, 9] rfl rfl rfl (by decide) rfl rfl (fun H locs hP hD hS => ?_)
    refine lv_if_ne (tgt := 30) hx hb dX3_readMoon_25 (by decide) (fun hc_10 => ?_) (fun hc_10 => ?_)
    · have hM := it_p hc_10 hM
      refine lv_aload_n hx hb dX3_readMoon_30 rfl (lv_at hl 0 rfl) ?_
      refine va_get (D := (dC, dI)) (ci := 3) (v := .ref (aL 0)) (C := RX3) (T := TX3) (N := 13) hx hb hts iwX3_readMoon_X3 hown hK hP 0 rfl rfl 4 (by decide) (hts _ (List.mem_of_getElem? (i := 2) rfl)) (fun _ h9 => h9) rfl dX3_readMoon_31 ?_
      refine lv_aload_n hx hb dX3_readMoon_34 rfl (lv_at hl 0 rfl) ?_
      refine va_get (D := (dC, dI)) (ci := 3) (v := .int (mR_7 0 9)) (C := RX3) (T := TX3) (N := 13) hx hb hts iwX3_readMoon_X3 hown hK hP 0 rfl rfl 9 (by decide) (hts _ (List.mem_of_getElem? (i := 3) rfl)) (fun _ h9 => h9) rfl dX3_readMoon_35 ?_
      refine pf_i (wf := fun z => (wR ct aR (aT 0) (aL 0) mR_7 ++ wT ct aT mT ++ wL ct aL z)) (m1 := upf mL 0 (mR_7 0 9)) hx hb hts iwX3_readMoon_X1 tyX1 tyX1_ok nmX1 hown hK hP hD hS 6 rfl rfl 0 (by decide) (hts _ (List.mem_of_getElem? (i := 4) rfl)) (fun _ h9 => h9) rfl rfl rfl (Nat.le_of_ble_eq_true rfl) dX3_readMoon_38 rfl (fun mL_11 emL_11 H locs hP hD hS => ?_)
      have hM := nm_at emL_11 hM
      refine lv_aload_n hx hb dX3_readMoon_41 rfl (lv_at hl 0 rfl) ?_
      refine lv_iconst (v := 0) hx hb dX3_readMoon_42 (by decide) ?_
      refine lv_bipush (v := 15) hx hb dX3_readMoon_43 (by decide) ?_
      obtain ⟨q_15, hr_14, hM⟩ := bn_some hM
      obtain ⟨x_12, mR_13⟩ := q_15
      have hM := nm_at (y := x_12) rfl hM
      have hM := nm_at (y := mR_13) rfl hM
      refine gv_i (r0 := x_12) (wn := (wR ct aR (aT 0) (aL 0) mR_13 ++ wT ct aT mT ++ wL ct aL mL_11)) (va_runV (As := [.int (0 : Int32), .int (15 : Int32)]) (rest := []) ⟨hx, hb, hml, hown, hts⟩ (kX3_takeNumber l dC dI ct aR aT (aL 0) adK adV _ mR_7 mT (0 : Int32) (15 : Int32) _ hr_14) (cwV 2 hts gX3_readMoon_X3_takeNumber rfl rfl rfl hvX3_takeNumber ⟨Nat.le_of_ble_eq_true rfl, Nat.le_of_ble_eq_true rfl⟩) (preV_of EV_ok hK hP hD (is := [0, 1, 2, 3, 4, 5]) rfl rfl rfl (ci := 3) rfl 0 rfl (e_sub EV_ok hE hS (va_free hD hS hA [0, 1, 2, 3, 4, 5] rfl))) rfl rfl hl.1 rfl (lv_room (Nat.le_of_ble_eq_true rfl)) dX3_readMoon_45 ⟨Nat.le_of_ble_eq_true rfl, Nat.le_of_ble_eq_true rfl⟩) hP hD hS hA [0, 1, 2, 3, 4, 5] [6, 7, 8, 9, 10, 11, 12, 13, 14, 15] [10, 11, 12, 13, 14, 15, 0, 1, 2, 3, 4, 5, 6, 7, 8, 9] rfl rfl rfl (by decide) rfl rfl (fun H locs hP hD hS => ?_)
      refine lv_if_ne (tgt := 53) hx hb dX3_readMoon_48 (by decide) (fun hc_16 => ?_) (fun hc_16 => ?_)
      · have hM := it_p hc_16 hM
        refine lv_aload_n hx hb dX3_readMoon_53 rfl (lv_at hl 0 rfl) ?_
        refine va_get (D := (dC, dI)) (ci := 3) (v := .ref (aL 0)) (C := RX3) (T := TX3) (N := 13) hx hb hts iwX3_readMoon_X3 hown hK hP 0 rfl rfl 4 (by decide) (hts _ (List.mem_of_getElem? (i := 2) rfl)) (fun _ h9 => h9) rfl dX3_readMoon_54 ?_
        refine lv_aload_n hx hb dX3_readMoon_57 rfl (lv_at hl 0 rfl) ?_
        refine va_get (D := (dC, dI)) (ci := 3) (v := .int (mR_13 0 9)) (C := RX3) (T := TX3) (N := 13) hx hb hts iwX3_readMoon_X3 hown hK hP 0 rfl rfl 9 (by decide) (hts _ (List.mem_of_getElem? (i := 3) rfl)) (fun _ h9 => h9) rfl dX3_readMoon_58 ?_
        refine pf_i (wf := fun z => (wR ct aR (aT 0) (aL 0) mR_13 ++ wT ct aT mT ++ wL ct aL z)) (m1 := upf mL_11 1 (mR_13 0 9)) hx hb hts iwX3_readMoon_X1 tyX1 tyX1_ok nmX1 hown hK hP hD hS 6 rfl rfl 1 (by decide) (hts _ (List.mem_of_getElem? (i := 5) rfl)) (fun _ h9 => h9) rfl rfl rfl (Nat.le_of_ble_eq_true rfl) dX3_readMoon_61 rfl (fun mL_17 emL_17 H locs hP hD hS => ?_)
        have hM := nm_at emL_17 hM
        refine lv_aload_n hx hb dX3_readMoon_64 rfl (lv_at hl 0 rfl) ?_
        obtain ⟨q_21, hr_20, hM⟩ := bn_some hM
        obtain ⟨x_18, mR_19⟩ := q_21
        have hM := nm_at (y := x_18) rfl hM
        have hM := nm_at (y := mR_19) rfl hM
        refine gv_i (r0 := x_18) (wn := (wR ct aR (aT 0) (aL 0) mR_19 ++ wT ct aT mT ++ wL ct aL mL_17)) (va_runV (As := []) (rest := []) ⟨hx, hb, hml, hown, hts⟩ (kX3_takeStop l dC dI ct aR aT (aL 0) _ mR_13 mT _ hr_20) (cwV 0 hts gX3_readMoon_X3_takeStop rfl rfl rfl hvX3_takeStop ⟨Nat.le_of_ble_eq_true rfl, Nat.le_of_ble_eq_true rfl⟩) (preV_of E0_ok hK hP hD (is := [0, 1, 2, 3, 4, 5]) rfl rfl rfl (ci := 3) rfl 0 rfl e_0) rfl rfl hl.1 rfl (lv_room (Nat.le_of_ble_eq_true rfl)) dX3_readMoon_65 ⟨Nat.le_of_ble_eq_true rfl, Nat.le_of_ble_eq_true rfl⟩) hP hD hS hA [0, 1, 2, 3, 4, 5] [6, 7, 8, 9, 10, 11, 12, 13, 14, 15] [10, 11, 12, 13, 14, 15, 0, 1, 2, 3, 4, 5, 6, 7, 8, 9] rfl rfl rfl (by decide) rfl rfl (fun H locs hP hD hS => ?_)
        obtain ⟨hbz, hM⟩ := gb_some hM
        have hR := som hM
        rw [hR] at hQ
        exact ret_z hQ hx hb hr hlocks hbz hP hK hD hS dX3_readMoon_68
      · have hM := it_nn hc_16 hM
        refine lv_iconst (v := 0) hx hb dX3_readMoon_51 (by decide) ?_
        have hR := som hM
        rw [hR] at hQ
        exact ret_z hQ hx hb hr hlocks rfl hP hK hD hS dX3_readMoon_52
    · have hM := it_nn hc_10 hM
      refine lv_iconst (v := 0) hx hb dX3_readMoon_28 (by decide) ?_
      have hR := som hM
      rw [hR] at hQ
      exact ret_z hQ hx hb hr hlocks rfl hP hK hD hS dX3_readMoon_29
  · have hM := it_n hc_1 hM
    refine lv_iconst (v := 0) hx hb dX3_readMoon_7 (by decide) ?_
    have hR := som hM
    rw [hR] at hQ
    exact ret_z hQ hx hb hr hlocks rfl hP hK hD hS dX3_readMoon_8
abbrev rmX3_readStrike : Room := { frames := 3, cells := 0, slots := 0, locals := 64 }
theorem iwX3_readStrike_X1 : ∀ w ∈ wsX10, w ∈ wsX3_readStrike := fun _ h => List.mem_cons_of_mem _ (List.mem_append_left _ (List.mem_append_right _ (h)))
theorem iwX3_readStrike_X3 : ∀ w ∈ wsX30, w ∈ wsX3_readStrike := fun _ h => List.mem_cons_of_mem _ (List.mem_append_left _ (List.mem_append_left _ (List.mem_append_right _ (h))))
set_option maxHeartbeats 4000000 in
set_option maxRecDepth 100000 in
theorem kX3_readStrike (l : Launch) (dC : Nat → ClassId) (dI : Nat → Nat → Nat) (ct : Nat → ClassId) (aR : Nat → Nat) (aT : Nat → Nat) (aL : Nat → Nat) (adK adV : Nat → Nat) (sz : Nat) (mR : Mem) (mT : Mem) (mL : Mem) (res : (Int32 × Mem × Mem)) (hM : mX3_readStrike mR mT mL = some res) : Met l yX3_readStrike wsX3_readStrike rmX3_readStrike (va_Pc [.ref (aR 0)] (PB (dC, dI) ct (EV adK adV) sz (wR ct aR (aT 0) (aL 0) mR ++ wT ct aT mT ++ wL ct aL mL))) (Qi (dC, dI) ct (va_A (wR ct aR (aT 0) (aL 0) mR ++ wT ct aT mT ++ wL ct aL mL) sz) res.1 (wR ct aR (aT 0) (aL 0) res.2.1 ++ wT ct aT mT ++ wL ct aL res.2.2)) 0 0 (va_A (wR ct aR (aT 0) (aL 0) mR ++ wT ct aT mT ++ wL ct aL mL) sz) := by
  refine Met.ofW (cc := cX3_readStrike) (maxL := 1) (ret := (some .boolean)) (by decide) rfl ?_
  intro p e s m args below meth c s₁ B hml hv
  obtain ⟨hargs, hsz, hP, hK, hD0, hE⟩ := hv
  have hx := B.exec
  have hb := B.bytes
  have hr := B.returns
  have hts := atoms_spec (ws := wsX3_readStrike) B.pre
  have hown : s.vm.findClass RX3 = some m.cls := findClass_of_methodNamed B.named
  have hlocks := B.notSynchronized
  clear B s₁
  subst hsz
  have hD := hD0.self (sz := s.heap.size)
  clear hD0
  generalize hAe : va_A (wR ct aR (aT 0) (aL 0) mR ++ wT ct aT mT ++ wL ct aL mL) s.heap.size = A at hD hE ⊢
  have hA : ∀ q : Nat, s.heap.size ≤ q → A q := fun q h => by rw [← hAe]; exact Or.inr h
  clear hAe
  have hS : va_S A s.heap s.heap [] := va_S.rf
  refine cutQ (fun Q hQ => ?_)
  refine entryW (vs := [.ref (aR 0)]) hargs (Nat.le_of_ble_eq_true rfl) (fun ls hl => ?_)
  replace hl : lv_has ls 1 [(0, .ref (aR 0))] := hl
  unfold mX3_readStrike at hM
  refine lv_aload_n hx hb dX3_readStrike_0 rfl (lv_at hl 0 rfl) ?_
  refine va_get (D := (dC, dI)) (ci := 3) (v := .int (mR 0 11)) (C := RX3) (T := TX3) (N := 13) hx hb hts iwX3_readStrike_X3 hown hK hP 0 rfl rfl 11 (by decide) (hts _ (List.mem_of_getElem? (i := 1) rfl)) (fun _ h9 => h9) rfl dX3_readStrike_1 ?_
  refine lv_if_eq (tgt := 9) hx hb dX3_readStrike_4 (by decide) (fun hc_1 => ?_) (fun hc_1 => ?_)
  · have hM := it_p hc_1 hM
    refine lv_aload_n hx hb dX3_readStrike_9 rfl (lv_at hl 0 rfl) ?_
    refine lv_iconst (v := 1) hx hb dX3_readStrike_10 (by decide) ?_
    refine pf_i (wf := fun z => (wR ct aR (aT 0) (aL 0) z ++ wT ct aT mT ++ wL ct aL mL)) (m1 := upf mR 11 (1 : Int32)) hx hb hts iwX3_readStrike_X3 tyX3 tyX3_ok nmX3 hown hK hP hD hS 0 rfl rfl 11 (by decide) (hts _ (List.mem_of_getElem? (i := 1) rfl)) (fun _ h9 => h9) rfl rfl rfl (Nat.le_of_ble_eq_true rfl) dX3_readStrike_11 rfl (fun mR_2 emR_2 H locs hP hD hS => ?_)
    have hM := nm_at emR_2 hM
    refine lv_aload_n hx hb dX3_readStrike_14 rfl (lv_at hl 0 rfl) ?_
    obtain ⟨mR_3, hr_4, hM⟩ := bn_some hM
    refine gv_v (wn := (wR ct aR (aT 0) (aL 0) mR_3 ++ wT ct aT mT ++ wL ct aL mL)) (va_runV (As := []) (rest := []) ⟨hx, hb, hml, hown, hts⟩ (kX3_step l dC dI ct aR aT (aL 0) _ mR_2 mT _ hr_4) (cwV 0 hts gX3_readStrike_X3_step rfl rfl rfl hvX3_step ⟨Nat.le_of_ble_eq_true rfl, Nat.le_of_ble_eq_true rfl⟩) (preV_of E0_ok hK hP hD (is := [0, 1, 2, 3, 4, 5]) rfl rfl rfl (ci := 3) rfl 0 rfl e_0) rfl rfl hl.1 rfl (lv_room (Nat.le_of_ble_eq_true rfl)) dX3_readStrike_15 ⟨Nat.le_of_ble_eq_true rfl, Nat.le_of_ble_eq_true rfl⟩) hP hD hS hA [0, 1, 2, 3, 4, 5] [6, 7, 8, 9, 10, 11, 12, 13, 14, 15] [10, 11, 12, 13, 14, 15, 0, 1, 2, 3, 4, 5, 6, 7, 8, 9] rfl rfl rfl (by decide) rfl rfl (fun H locs hP hD hS => ?_)
    refine lv_aload_n hx hb dX3_readStrike_18 rfl (lv_at hl 0 rfl) ?_
    refine lv_iconst (v := 0) hx hb dX3_readStrike_19 (by decide) ?_
    refine lv_bipush (v := 16) hx hb dX3_readStrike_20 (by decide) ?_
    obtain ⟨q_9, hr_8, hM⟩ := bn_some hM
    obtain ⟨x_6, mR_7⟩ := q_9
    have hM := nm_at (y := x_6) rfl hM
    have hM := nm_at (y := mR_7) rfl hM
    refine gv_i (r0 := x_6) (wn := (wR ct aR (aT 0) (aL 0) mR_7 ++ wT ct aT mT ++ wL ct aL mL)) (va_runV (As := [.int (0 : Int32), .int (16 : Int32)]) (rest := []) ⟨hx, hb, hml, hown, hts⟩ (kX3_takeNumber l dC dI ct aR aT (aL 0) adK adV _ mR_3 mT (0 : Int32) (16 : Int32) _ hr_8) (cwV 2 hts gX3_readStrike_X3_takeNumber rfl rfl rfl hvX3_takeNumber ⟨Nat.le_of_ble_eq_true rfl, Nat.le_of_ble_eq_true rfl⟩) (preV_of EV_ok hK hP hD (is := [0, 1, 2, 3, 4, 5]) rfl rfl rfl (ci := 3) rfl 0 rfl (e_sub EV_ok hE hS (va_free hD hS hA [0, 1, 2, 3, 4, 5] rfl))) rfl rfl hl.1 rfl (lv_room (Nat.le_of_ble_eq_true rfl)) dX3_readStrike_22 ⟨Nat.le_of_ble_eq_true rfl, Nat.le_of_ble_eq_true rfl⟩) hP hD hS hA [0, 1, 2, 3, 4, 5] [6, 7, 8, 9, 10, 11, 12, 13, 14, 15] [10, 11, 12, 13, 14, 15, 0, 1, 2, 3, 4, 5, 6, 7, 8, 9] rfl rfl rfl (by decide) rfl rfl (fun H locs hP hD hS => ?_)
    refine lv_if_ne (tgt := 30) hx hb dX3_readStrike_25 (by decide) (fun hc_10 => ?_) (fun hc_10 => ?_)
    · have hM := it_p hc_10 hM
      refine lv_aload_n hx hb dX3_readStrike_30 rfl (lv_at hl 0 rfl) ?_
      refine va_get (D := (dC, dI)) (ci := 3) (v := .ref (aL 0)) (C := RX3) (T := TX3) (N := 13) hx hb hts iwX3_readStrike_X3 hown hK hP 0 rfl rfl 4 (by decide) (hts _ (List.mem_of_getElem? (i := 2) rfl)) (fun _ h9 => h9) rfl dX3_readStrike_31 ?_
      refine lv_aload_n hx hb dX3_readStrike_34 rfl (lv_at hl 0 rfl) ?_
      refine va_get (D := (dC, dI)) (ci := 3) (v := .int (mR_7 0 9)) (C := RX3) (T := TX3) (N := 13) hx hb hts iwX3_readStrike_X3 hown hK hP 0 rfl rfl 9 (by decide) (hts _ (List.mem_of_getElem? (i := 3) rfl)) (fun _ h9 => h9) rfl dX3_readStrike_35 ?_
      refine pf_i (wf := fun z => (wR ct aR (aT 0) (aL 0) mR_7 ++ wT ct aT mT ++ wL ct aL z)) (m1 := upf mL 2 (mR_7 0 9)) hx hb hts iwX3_readStrike_X1 tyX1 tyX1_ok nmX1 hown hK hP hD hS 6 rfl rfl 2 (by decide) (hts _ (List.mem_of_getElem? (i := 4) rfl)) (fun _ h9 => h9) rfl rfl rfl (Nat.le_of_ble_eq_true rfl) dX3_readStrike_38 rfl (fun mL_11 emL_11 H locs hP hD hS => ?_)
      have hM := nm_at emL_11 hM
      refine lv_aload_n hx hb dX3_readStrike_41 rfl (lv_at hl 0 rfl) ?_
      refine lv_iconst (v := 1) hx hb dX3_readStrike_42 (by decide) ?_
      refine lv_bipush (v := 9) hx hb dX3_readStrike_43 (by decide) ?_
      obtain ⟨q_15, hr_14, hM⟩ := bn_some hM
      obtain ⟨x_12, mR_13⟩ := q_15
      have hM := nm_at (y := x_12) rfl hM
      have hM := nm_at (y := mR_13) rfl hM
      refine gv_i (r0 := x_12) (wn := (wR ct aR (aT 0) (aL 0) mR_13 ++ wT ct aT mT ++ wL ct aL mL_11)) (va_runV (As := [.int (1 : Int32), .int (9 : Int32)]) (rest := []) ⟨hx, hb, hml, hown, hts⟩ (kX3_takeNumber l dC dI ct aR aT (aL 0) adK adV _ mR_7 mT (1 : Int32) (9 : Int32) _ hr_14) (cwV 2 hts gX3_readStrike_X3_takeNumber rfl rfl rfl hvX3_takeNumber ⟨Nat.le_of_ble_eq_true rfl, Nat.le_of_ble_eq_true rfl⟩) (preV_of EV_ok hK hP hD (is := [0, 1, 2, 3, 4, 5]) rfl rfl rfl (ci := 3) rfl 0 rfl (e_sub EV_ok hE hS (va_free hD hS hA [0, 1, 2, 3, 4, 5] rfl))) rfl rfl hl.1 rfl (lv_room (Nat.le_of_ble_eq_true rfl)) dX3_readStrike_45 ⟨Nat.le_of_ble_eq_true rfl, Nat.le_of_ble_eq_true rfl⟩) hP hD hS hA [0, 1, 2, 3, 4, 5] [6, 7, 8, 9, 10, 11, 12, 13, 14, 15] [10, 11, 12, 13, 14, 15, 0, 1, 2, 3, 4, 5, 6, 7, 8, 9] rfl rfl rfl (by decide) rfl rfl (fun H locs hP hD hS => ?_)
      refine lv_if_ne (tgt := 53) hx hb dX3_readStrike_48 (by decide) (fun hc_16 => ?_) (fun hc_16 => ?_)
      · have hM := it_p hc_16 hM
        refine lv_aload_n hx hb dX3_readStrike_53 rfl (lv_at hl 0 rfl) ?_
        refine va_get (D := (dC, dI)) (ci := 3) (v := .ref (aL 0)) (C := RX3) (T := TX3) (N := 13) hx hb hts iwX3_readStrike_X3 hown hK hP 0 rfl rfl 4 (by decide) (hts _ (List.mem_of_getElem? (i := 2) rfl)) (fun _ h9 => h9) rfl dX3_readStrike_54 ?_
        refine lv_aload_n hx hb dX3_readStrike_57 rfl (lv_at hl 0 rfl) ?_
        refine va_get (D := (dC, dI)) (ci := 3) (v := .int (mR_13 0 9)) (C := RX3) (T := TX3) (N := 13) hx hb hts iwX3_readStrike_X3 hown hK hP 0 rfl rfl 9 (by decide) (hts _ (List.mem_of_getElem? (i := 3) rfl)) (fun _ h9 => h9) rfl dX3_readStrike_58 ?_
        refine pf_i (wf := fun z => (wR ct aR (aT 0) (aL 0) mR_13 ++ wT ct aT mT ++ wL ct aL z)) (m1 := upf mL_11 3 (mR_13 0 9)) hx hb hts iwX3_readStrike_X1 tyX1 tyX1_ok nmX1 hown hK hP hD hS 6 rfl rfl 3 (by decide) (hts _ (List.mem_of_getElem? (i := 5) rfl)) (fun _ h9 => h9) rfl rfl rfl (Nat.le_of_ble_eq_true rfl) dX3_readStrike_61 rfl (fun mL_17 emL_17 H locs hP hD hS => ?_)
        have hM := nm_at emL_17 hM
        refine lv_aload_n hx hb dX3_readStrike_64 rfl (lv_at hl 0 rfl) ?_
        obtain ⟨q_21, hr_20, hM⟩ := bn_some hM
        obtain ⟨x_18, mR_19⟩ := q_21
        have hM := nm_at (y := x_18) rfl hM
        have hM := nm_at (y := mR_19) rfl hM
        refine gv_i (r0 := x_18) (wn := (wR ct aR (aT 0) (aL 0) mR_19 ++ wT ct aT mT ++ wL ct aL mL_17)) (va_runV (As := []) (rest := []) ⟨hx, hb, hml, hown, hts⟩ (kX3_takeStop l dC dI ct aR aT (aL 0) _ mR_13 mT _ hr_20) (cwV 0 hts gX3_readStrike_X3_takeStop rfl rfl rfl hvX3_takeStop ⟨Nat.le_of_ble_eq_true rfl, Nat.le_of_ble_eq_true rfl⟩) (preV_of E0_ok hK hP hD (is := [0, 1, 2, 3, 4, 5]) rfl rfl rfl (ci := 3) rfl 0 rfl e_0) rfl rfl hl.1 rfl (lv_room (Nat.le_of_ble_eq_true rfl)) dX3_readStrike_65 ⟨Nat.le_of_ble_eq_true rfl, Nat.le_of_ble_eq_true rfl⟩) hP hD hS hA [0, 1, 2, 3, 4, 5] [6, 7, 8, 9, 10, 11, 12, 13, 14, 15] [10, 11, 12, 13, 14, 15, 0, 1, 2, 3, 4, 5, 6, 7, 8, 9] rfl rfl rfl (by decide) rfl rfl (fun H locs hP hD hS => ?_)
        obtain ⟨hbz, hM⟩ := gb_some hM
        have hR := som hM
        rw [hR] at hQ
        exact ret_z hQ hx hb hr hlocks hbz hP hK hD hS dX3_readStrike_68
      · have hM := it_nn hc_16 hM
        refine lv_iconst (v := 0) hx hb dX3_readStrike_51 (by decide) ?_
        have hR := som hM
        rw [hR] at hQ
        exact ret_z hQ hx hb hr hlocks rfl hP hK hD hS dX3_readStrike_52
    · have hM := it_nn hc_10 hM
      refine lv_iconst (v := 0) hx hb dX3_readStrike_28 (by decide) ?_
      have hR := som hM
      rw [hR] at hQ
      exact ret_z hQ hx hb hr hlocks rfl hP hK hD hS dX3_readStrike_29
  · have hM := it_n hc_1 hM
    refine lv_iconst (v := 0) hx hb dX3_readStrike_7 (by decide) ?_
    have hR := som hM
    rw [hR] at hQ
    exact ret_z hQ hx hb hr hlocks rfl hP hK hD hS dX3_readStrike_8
abbrev rmX3_readWait : Room := { frames := 3, cells := 0, slots := 0, locals := 64 }
theorem iwX3_readWait_X1 : ∀ w ∈ wsX10, w ∈ wsX3_readWait := fun _ h => List.mem_cons_of_mem _ (List.mem_append_left _ (List.mem_append_right _ (h)))
theorem iwX3_readWait_X3 : ∀ w ∈ wsX30, w ∈ wsX3_readWait := fun _ h => List.mem_cons_of_mem _ (List.mem_append_left _ (List.mem_append_left _ (List.mem_append_right _ (h))))
set_option maxHeartbeats 4000000 in
set_option maxRecDepth 100000 in
theorem kX3_readWait (l : Launch) (dC : Nat → ClassId) (dI : Nat → Nat → Nat) (ct : Nat → ClassId) (aR : Nat → Nat) (aT : Nat → Nat) (aL : Nat → Nat) (adK adV : Nat → Nat) (sz : Nat) (mR : Mem) (mT : Mem) (mL : Mem) (res : (Int32 × Mem × Mem)) (hM : mX3_readWait mR mT mL = some res) : Met l yX3_readWait wsX3_readWait rmX3_readWait (va_Pc [.ref (aR 0)] (PB (dC, dI) ct (EV adK adV) sz (wR ct aR (aT 0) (aL 0) mR ++ wT ct aT mT ++ wL ct aL mL))) (Qi (dC, dI) ct (va_A (wR ct aR (aT 0) (aL 0) mR ++ wT ct aT mT ++ wL ct aL mL) sz) res.1 (wR ct aR (aT 0) (aL 0) res.2.1 ++ wT ct aT mT ++ wL ct aL res.2.2)) 0 0 (va_A (wR ct aR (aT 0) (aL 0) mR ++ wT ct aT mT ++ wL ct aL mL) sz) := by
  refine Met.ofW (cc := cX3_readWait) (maxL := 1) (ret := (some .boolean)) (by decide) rfl ?_
  intro p e s m args below meth c s₁ B hml hv
  obtain ⟨hargs, hsz, hP, hK, hD0, hE⟩ := hv
  have hx := B.exec
  have hb := B.bytes
  have hr := B.returns
  have hts := atoms_spec (ws := wsX3_readWait) B.pre
  have hown : s.vm.findClass RX3 = some m.cls := findClass_of_methodNamed B.named
  have hlocks := B.notSynchronized
  clear B s₁
  subst hsz
  have hD := hD0.self (sz := s.heap.size)
  clear hD0
  generalize hAe : va_A (wR ct aR (aT 0) (aL 0) mR ++ wT ct aT mT ++ wL ct aL mL) s.heap.size = A at hD hE ⊢
  have hA : ∀ q : Nat, s.heap.size ≤ q → A q := fun q h => by rw [← hAe]; exact Or.inr h
  clear hAe
  have hS : va_S A s.heap s.heap [] := va_S.rf
  refine cutQ (fun Q hQ => ?_)
  refine entryW (vs := [.ref (aR 0)]) hargs (Nat.le_of_ble_eq_true rfl) (fun ls hl => ?_)
  replace hl : lv_has ls 1 [(0, .ref (aR 0))] := hl
  unfold mX3_readWait at hM
  refine lv_aload_n hx hb dX3_readWait_0 rfl (lv_at hl 0 rfl) ?_
  refine va_get (D := (dC, dI)) (ci := 3) (v := .int (mR 0 12)) (C := RX3) (T := TX3) (N := 13) hx hb hts iwX3_readWait_X3 hown hK hP 0 rfl rfl 12 (by decide) (hts _ (List.mem_of_getElem? (i := 1) rfl)) (fun _ h9 => h9) rfl dX3_readWait_1 ?_
  refine lv_if_eq (tgt := 9) hx hb dX3_readWait_4 (by decide) (fun hc_1 => ?_) (fun hc_1 => ?_)
  · have hM := it_p hc_1 hM
    refine lv_aload_n hx hb dX3_readWait_9 rfl (lv_at hl 0 rfl) ?_
    refine lv_iconst (v := 1) hx hb dX3_readWait_10 (by decide) ?_
    refine pf_i (wf := fun z => (wR ct aR (aT 0) (aL 0) z ++ wT ct aT mT ++ wL ct aL mL)) (m1 := upf mR 12 (1 : Int32)) hx hb hts iwX3_readWait_X3 tyX3 tyX3_ok nmX3 hown hK hP hD hS 0 rfl rfl 12 (by decide) (hts _ (List.mem_of_getElem? (i := 1) rfl)) (fun _ h9 => h9) rfl rfl rfl (Nat.le_of_ble_eq_true rfl) dX3_readWait_11 rfl (fun mR_2 emR_2 H locs hP hD hS => ?_)
    have hM := nm_at emR_2 hM
    refine lv_aload_n hx hb dX3_readWait_14 rfl (lv_at hl 0 rfl) ?_
    obtain ⟨mR_3, hr_4, hM⟩ := bn_some hM
    refine gv_v (wn := (wR ct aR (aT 0) (aL 0) mR_3 ++ wT ct aT mT ++ wL ct aL mL)) (va_runV (As := []) (rest := []) ⟨hx, hb, hml, hown, hts⟩ (kX3_step l dC dI ct aR aT (aL 0) _ mR_2 mT _ hr_4) (cwV 0 hts gX3_readWait_X3_step rfl rfl rfl hvX3_step ⟨Nat.le_of_ble_eq_true rfl, Nat.le_of_ble_eq_true rfl⟩) (preV_of E0_ok hK hP hD (is := [0, 1, 2, 3, 4, 5]) rfl rfl rfl (ci := 3) rfl 0 rfl e_0) rfl rfl hl.1 rfl (lv_room (Nat.le_of_ble_eq_true rfl)) dX3_readWait_15 ⟨Nat.le_of_ble_eq_true rfl, Nat.le_of_ble_eq_true rfl⟩) hP hD hS hA [0, 1, 2, 3, 4, 5] [6, 7, 8, 9, 10, 11, 12, 13, 14, 15] [10, 11, 12, 13, 14, 15, 0, 1, 2, 3, 4, 5, 6, 7, 8, 9] rfl rfl rfl (by decide) rfl rfl (fun H locs hP hD hS => ?_)
    refine lv_aload_n hx hb dX3_readWait_18 rfl (lv_at hl 0 rfl) ?_
    refine lv_iconst (v := 0) hx hb dX3_readWait_19 (by decide) ?_
    refine lv_bipush (v := 50) hx hb dX3_readWait_20 (by decide) ?_
    obtain ⟨q_9, hr_8, hM⟩ := bn_some hM
    obtain ⟨x_6, mR_7⟩ := q_9
    have hM := nm_at (y := x_6) rfl hM
    have hM := nm_at (y := mR_7) rfl hM
    refine gv_i (r0 := x_6) (wn := (wR ct aR (aT 0) (aL 0) mR_7 ++ wT ct aT mT ++ wL ct aL mL)) (va_runV (As := [.int (0 : Int32), .int (50 : Int32)]) (rest := []) ⟨hx, hb, hml, hown, hts⟩ (kX3_takeNumber l dC dI ct aR aT (aL 0) adK adV _ mR_3 mT (0 : Int32) (50 : Int32) _ hr_8) (cwV 2 hts gX3_readWait_X3_takeNumber rfl rfl rfl hvX3_takeNumber ⟨Nat.le_of_ble_eq_true rfl, Nat.le_of_ble_eq_true rfl⟩) (preV_of EV_ok hK hP hD (is := [0, 1, 2, 3, 4, 5]) rfl rfl rfl (ci := 3) rfl 0 rfl (e_sub EV_ok hE hS (va_free hD hS hA [0, 1, 2, 3, 4, 5] rfl))) rfl rfl hl.1 rfl (lv_room (Nat.le_of_ble_eq_true rfl)) dX3_readWait_22 ⟨Nat.le_of_ble_eq_true rfl, Nat.le_of_ble_eq_true rfl⟩) hP hD hS hA [0, 1, 2, 3, 4, 5] [6, 7, 8, 9, 10, 11, 12, 13, 14, 15] [10, 11, 12, 13, 14, 15, 0, 1, 2, 3, 4, 5, 6, 7, 8, 9] rfl rfl rfl (by decide) rfl rfl (fun H locs hP hD hS => ?_)
    refine lv_if_ne (tgt := 30) hx hb dX3_readWait_25 (by decide) (fun hc_10 => ?_) (fun hc_10 => ?_)
    · have hM := it_p hc_10 hM
      refine lv_aload_n hx hb dX3_readWait_30 rfl (lv_at hl 0 rfl) ?_
      refine va_get (D := (dC, dI)) (ci := 3) (v := .ref (aL 0)) (C := RX3) (T := TX3) (N := 13) hx hb hts iwX3_readWait_X3 hown hK hP 0 rfl rfl 4 (by decide) (hts _ (List.mem_of_getElem? (i := 2) rfl)) (fun _ h9 => h9) rfl dX3_readWait_31 ?_
      refine lv_aload_n hx hb dX3_readWait_34 rfl (lv_at hl 0 rfl) ?_
      refine va_get (D := (dC, dI)) (ci := 3) (v := .int (mR_7 0 9)) (C := RX3) (T := TX3) (N := 13) hx hb hts iwX3_readWait_X3 hown hK hP 0 rfl rfl 9 (by decide) (hts _ (List.mem_of_getElem? (i := 3) rfl)) (fun _ h9 => h9) rfl dX3_readWait_35 ?_
      refine pf_i (wf := fun z => (wR ct aR (aT 0) (aL 0) mR_7 ++ wT ct aT mT ++ wL ct aL z)) (m1 := upf mL 4 (mR_7 0 9)) hx hb hts iwX3_readWait_X1 tyX1 tyX1_ok nmX1 hown hK hP hD hS 6 rfl rfl 4 (by decide) (hts _ (List.mem_of_getElem? (i := 4) rfl)) (fun _ h9 => h9) rfl rfl rfl (Nat.le_of_ble_eq_true rfl) dX3_readWait_38 rfl (fun mL_11 emL_11 H locs hP hD hS => ?_)
      have hM := nm_at emL_11 hM
      refine lv_aload_n hx hb dX3_readWait_41 rfl (lv_at hl 0 rfl) ?_
      obtain ⟨q_15, hr_14, hM⟩ := bn_some hM
      obtain ⟨x_12, mR_13⟩ := q_15
      have hM := nm_at (y := x_12) rfl hM
      have hM := nm_at (y := mR_13) rfl hM
      refine gv_i (r0 := x_12) (wn := (wR ct aR (aT 0) (aL 0) mR_13 ++ wT ct aT mT ++ wL ct aL mL_11)) (va_runV (As := []) (rest := []) ⟨hx, hb, hml, hown, hts⟩ (kX3_takeStop l dC dI ct aR aT (aL 0) _ mR_7 mT _ hr_14) (cwV 0 hts gX3_readWait_X3_takeStop rfl rfl rfl hvX3_takeStop ⟨Nat.le_of_ble_eq_true rfl, Nat.le_of_ble_eq_true rfl⟩) (preV_of E0_ok hK hP hD (is := [0, 1, 2, 3, 4, 5]) rfl rfl rfl (ci := 3) rfl 0 rfl e_0) rfl rfl hl.1 rfl (lv_room (Nat.le_of_ble_eq_true rfl)) dX3_readWait_42 ⟨Nat.le_of_ble_eq_true rfl, Nat.le_of_ble_eq_true rfl⟩) hP hD hS hA [0, 1, 2, 3, 4, 5] [6, 7, 8, 9, 10, 11, 12, 13, 14, 15] [10, 11, 12, 13, 14, 15, 0, 1, 2, 3, 4, 5, 6, 7, 8, 9] rfl rfl rfl (by decide) rfl rfl (fun H locs hP hD hS => ?_)
      obtain ⟨hbz, hM⟩ := gb_some hM
      have hR := som hM
      rw [hR] at hQ
      exact ret_z hQ hx hb hr hlocks hbz hP hK hD hS dX3_readWait_45
    · have hM := it_nn hc_10 hM
      refine lv_iconst (v := 0) hx hb dX3_readWait_28 (by decide) ?_
      have hR := som hM
      rw [hR] at hQ
      exact ret_z hQ hx hb hr hlocks rfl hP hK hD hS dX3_readWait_29
  · have hM := it_n hc_1 hM
    refine lv_iconst (v := 0) hx hb dX3_readWait_7 (by decide) ?_
    have hR := som hM
    rw [hR] at hQ
    exact ret_z hQ hx hb hr hlocks rfl hP hK hD hS dX3_readWait_8
abbrev rmX3_canBeName : Room := { frames := 6, cells := 0, slots := 0, locals := 127 }
theorem iwX3_canBeName_X1 : ∀ w ∈ wsX10, w ∈ wsX3_canBeName := fun _ h => List.mem_cons_of_mem _ (List.mem_append_left _ (List.mem_append_right _ (h)))
theorem iwX3_canBeName_X3 : ∀ w ∈ wsX30, w ∈ wsX3_canBeName := fun _ h => List.mem_cons_of_mem _ (List.mem_append_left _ (List.mem_append_left _ (List.mem_append_right _ (h))))
set_option maxHeartbeats 4000000 in
set_option maxRecDepth 100000 in
theorem kX3_canBeName (l : Launch) (dC : Nat → ClassId) (dI : Nat → Nat → Nat) (ct : Nat → ClassId) (aR : Nat → Nat) (aT : Nat → Nat) (aL : Nat → Nat) (adK adV : Nat → Nat) (sz : Nat) (mR : Mem) (mT : Mem) (mL : Mem) (res : Int32) (hM : mX3_canBeName mR mT mL = some res) : Met l yX3_canBeName wsX3_canBeName rmX3_canBeName (va_Pc [.ref (aR 0)] (PB (dC, dI) ct (EV adK adV) sz (wR ct aR (aT 0) (aL 0) mR ++ wT ct aT mT ++ wL ct aL mL))) (Qi (dC, dI) ct (va_A (wR ct aR (aT 0) (aL 0) mR ++ wT ct aT mT ++ wL ct aL mL) sz) res (wR ct aR (aT 0) (aL 0) mR ++ wT ct aT mT ++ wL ct aL mL)) 0 0 (va_A (wR ct aR (aT 0) (aL 0) mR ++ wT ct aT mT ++ wL ct aL mL) sz) := by
  refine Met.ofW (cc := cX3_canBeName) (maxL := 2) (ret := (some .boolean)) (by decide) rfl ?_
  intro p e s m args below meth c s₁ B hml hv
  obtain ⟨hargs, hsz, hP, hK, hD0, hE⟩ := hv
  have hx := B.exec
  have hb := B.bytes
  have hr := B.returns
  have hts := atoms_spec (ws := wsX3_canBeName) B.pre
  have hown : s.vm.findClass RX3 = some m.cls := findClass_of_methodNamed B.named
  have hlocks := B.notSynchronized
  clear B s₁
  subst hsz
  have hD := hD0.self (sz := s.heap.size)
  clear hD0
  generalize hAe : va_A (wR ct aR (aT 0) (aL 0) mR ++ wT ct aT mT ++ wL ct aL mL) s.heap.size = A at hD hE ⊢
  have hA : ∀ q : Nat, s.heap.size ≤ q → A q := fun q h => by rw [← hAe]; exact Or.inr h
  clear hAe
  have hS : va_S A s.heap s.heap [] := va_S.rf
  refine cutQ (fun Q hQ => ?_)
  refine entryW (vs := [.ref (aR 0)]) hargs (Nat.le_of_ble_eq_true rfl) (fun ls hl => ?_)
  replace hl : lv_has ls 2 [(0, .ref (aR 0))] := hl
  unfold mX3_canBeName at hM
  have N41 : ∀ (v1 : Int32), mX3_canBeName_L41 v1 mR mT mL = some res → ∀ (H : Heap) (locs : List Loc), va_P (dC, dI) vwCl (wR ct aR (aT 0) (aL 0) mR ++ wT ct aT mT ++ wL ct aL mL) H → va_D A (wR ct aR (aT 0) (aL 0) mR ++ wT ct aT mT ++ wL ct aL mL) → va_S A s.heap H locs → ∀ ls : Array Slot, lv_has ls 2 [(0, .ref (aR 0)), (1, .int v1)] → W p l e (headSpec wsX3_canBeName rmX3_canBeName).room s m args below meth c H locs 0 0 Q (F0 m 41 ls []) := by
    intro v1 hM H locs hP hD hS ls hl
    unfold mX3_canBeName_L41 at hM
    obtain ⟨ex41, hit41, hM⟩ := bn_some hM
    have X41_0 : ex41 = (Sum.inl ()) → ∀ (H : Heap) (locs : List Loc), va_P (dC, dI) vwCl (wR ct aR (aT 0) (aL 0) mR ++ wT ct aT mT ++ wL ct aL mL) H → va_D A (wR ct aR (aT 0) (aL 0) mR ++ wT ct aT mT ++ wL ct aL mL) → va_S A s.heap H locs → ∀ ls : Array Slot, lv_has ls 2 [] → W p l e (headSpec wsX3_canBeName rmX3_canBeName).room s m args below meth c H locs 0 0 Q (F0 m 60 ls []) := by
      intro hex H locs hP hD hS ls hl
      have hM := el_l hex hM
      refine lv_iconst (v := 0) hx hb dX3_canBeName_60 (by decide) ?_
      have hR := som hM
      rw [hR] at hQ
      exact ret_z hQ hx hb hr hlocks rfl hP hK hD hS dX3_canBeName_61
    have X41_1 : ex41 = (Sum.inr ()) → ∀ (H : Heap) (locs : List Loc), va_P (dC, dI) vwCl (wR ct aR (aT 0) (aL 0) mR ++ wT ct aT mT ++ wL ct aL mL) H → va_D A (wR ct aR (aT 0) (aL 0) mR ++ wT ct aT mT ++ wL ct aL mL) → va_S A s.heap H locs → ∀ ls : Array Slot, lv_has ls 2 [] → W p l e (headSpec wsX3_canBeName rmX3_canBeName).room s m args below meth c H locs 0 0 Q (F0 m 68 ls []) := by
      intro hex H locs hP hD hS ls hl
      have hM := el_r hex hM
      refine lv_iconst (v := 1) hx hb dX3_canBeName_68 (by decide) ?_
      have hR := som hM
      rw [hR] at hQ
      exact ret_z hQ hx hb hr hlocks rfl hP hK hD hS dX3_canBeName_69
    have I41 : ∀ (n : Nat) (v1 : Int32), itr (fun q => mX3_canBeName_s41 mR mT mL q) n v1 = some ex41 → ∀ (H : Heap) (locs : List Loc), va_P (dC, dI) vwCl (wR ct aR (aT 0) (aL 0) mR ++ wT ct aT mT ++ wL ct aL mL) H → va_D A (wR ct aR (aT 0) (aL 0) mR ++ wT ct aT mT ++ wL ct aL mL) → va_S A s.heap H locs → ∀ ls : Array Slot, lv_has ls 2 [(0, .ref (aR 0)), (1, .int v1)] → W p l e (headSpec wsX3_canBeName rmX3_canBeName).room s m args below meth c H locs 0 0 Q (F0 m 41 ls []) := by
      intro n
      induction n with
      | zero => intro v1 hit; exact (itr_zero hit).elim
      | succ n ih41 =>
        intro v1 hit H locs hP hD hS ls hl
        obtain ⟨o41, hM, hbk41, hex41⟩ := itr_succ hit
        replace hM : mX3_canBeName_s41 mR mT mL v1 = some o41 := hM
        unfold mX3_canBeName_s41 at hM
        refine lv_iload_n hx hb dX3_canBeName_41 rfl (lv_at hl 1 rfl) ?_
        refine lv_aload_n hx hb dX3_canBeName_42 rfl (lv_at hl 0 rfl) ?_
        refine va_get (D := (dC, dI)) (ci := 3) (v := .ref (aL 0)) (C := RX3) (T := TX3) (N := 13) hx hb hts iwX3_canBeName_X3 hown hK hP 0 rfl rfl 4 (by decide) (hts _ (List.mem_of_getElem? (i := 4) rfl)) (fun _ h9 => h9) rfl dX3_canBeName_43 ?_
        refine va_get (D := (dC, dI)) (ci := 1) (v := .int (mL 0 5)) (C := RX1) (T := TX1) (N := 17) hx hb hts iwX3_canBeName_X1 hown hK hP 6 rfl rfl 5 (by decide) (hts _ (List.mem_of_getElem? (i := 5) rfl)) (fun _ h9 => h9) rfl dX3_canBeName_46 ?_
        refine lv_icmp_ge (tgt := 68) hx hb dX3_canBeName_49 (by decide) (fun hc_1 => ?_) (fun hc_1 => ?_)
        · have hM := it_p hc_1 hM
          have hR := som hM
          exact X41_1 (hex41 _ hR).symm _ _ hP hD hS _ (lv_sub hl [] rfl)
        · have hM := it_n hc_1 hM
          refine lv_aload_n hx hb dX3_canBeName_52 rfl (lv_at hl 0 rfl) ?_
          refine lv_iload_n hx hb dX3_canBeName_53 rfl (lv_at hl 1 rfl) ?_
          obtain ⟨x_2, hr_3, hM⟩ := bn_some hM
          refine gv_i (r0 := x_2) (wn := (wR ct aR (aT 0) (aL 0) mR ++ wT ct aT mT ++ wL ct aL mL)) (va_runV (As := [.int v1]) (rest := []) ⟨hx, hb, hml, hown, hts⟩ (kX3_tokenIsName l dC dI ct aR aT (aL 0) _ mR mT v1 _ hr_3) (cwV 1 hts gX3_canBeName_X3_tokenIsName rfl rfl rfl hvX3_tokenIsName ⟨Nat.le_of_ble_eq_true rfl, Nat.le_of_ble_eq_true rfl⟩) (preV_of E0_ok hK hP hD (is := [0, 1, 2, 3, 4, 5]) rfl rfl rfl (ci := 3) rfl 0 rfl e_0) rfl rfl hl.1 rfl (lv_room (Nat.le_of_ble_eq_true rfl)) dX3_canBeName_54 ⟨Nat.le_of_ble_eq_true rfl, Nat.le_of_ble_eq_true rfl⟩) hP hD hS hA [0, 1, 2, 3, 4, 5] [6, 7, 8, 9, 10, 11, 12, 13, 14, 15] [10, 11, 12, 13, 14, 15, 0, 1, 2, 3, 4, 5, 6, 7, 8, 9] rfl rfl rfl (by decide) rfl rfl (fun H locs hP hD hS => ?_)
          refine lv_if_eq (tgt := 62) hx hb dX3_canBeName_57 (by decide) (fun hc_5 => ?_) (fun hc_5 => ?_)
          · have hM := it_p hc_5 hM
            obtain ⟨x_6, ex_6⟩ : ∃ y : Int32, y = (v1 + (1 : Int32)) := ⟨_, rfl⟩
            have hM := nm_at ex_6 hM
            refine lv_iinc (v := x_6) (lv' := [(1, .int x_6), (0, .ref (aR 0))]) hx hb dX3_canBeName_62 hl (k := 1) rfl (by rw [ex_6]; rfl) (by decide) rfl (fun ls hl => ?_)
            refine lv_goto (tgt := 41) hx hb dX3_canBeName_65 (by decide) ?_
            have hR := som hM
            exact ih41 x_6 (hbk41 _ hR) _ _ hP hD hS _ (lv_sub hl [1, 0] rfl)
          · have hM := it_n hc_5 hM
            have hR := som hM
            exact X41_0 (hex41 _ hR).symm _ _ hP hD hS _ (lv_sub hl [] rfl)
    exact I41 FU v1 hit41 _ _ hP hD hS _ hl
  refine lv_aload_n hx hb dX3_canBeName_0 rfl (lv_at hl 0 rfl) ?_
  refine va_get (D := (dC, dI)) (ci := 3) (v := .int (mR 0 7)) (C := RX3) (T := TX3) (N := 13) hx hb hts iwX3_canBeName_X3 hown hK hP 0 rfl rfl 7 (by decide) (hts _ (List.mem_of_getElem? (i := 1) rfl)) (fun _ h9 => h9) rfl dX3_canBeName_1 ?_
  refine lv_iconst (v := 1) hx hb dX3_canBeName_4 (by decide) ?_
  refine lv_icmp_ne (tgt := 37) hx hb dX3_canBeName_5 (by decide) (fun hc_7 => ?_) (fun hc_7 => ?_)
  · have hM := it_p hc_7 hM
    refine lv_iconst (v := 0) hx hb dX3_canBeName_37 (by decide) ?_
    have hR := som hM
    rw [hR] at hQ
    exact ret_z hQ hx hb hr hlocks rfl hP hK hD hS dX3_canBeName_38
  · have hM := it_nn hc_7 hM
    refine lv_aload_n hx hb dX3_canBeName_8 rfl (lv_at hl 0 rfl) ?_
    refine va_get (D := (dC, dI)) (ci := 3) (v := .int (mR 0 6)) (C := RX3) (T := TX3) (N := 13) hx hb hts iwX3_canBeName_X3 hown hK hP 0 rfl rfl 6 (by decide) (hts _ (List.mem_of_getElem? (i := 2) rfl)) (fun _ h9 => h9) rfl dX3_canBeName_9 ?_
    refine lv_aload_n hx hb dX3_canBeName_12 rfl (lv_at hl 0 rfl) ?_
    refine va_get (D := (dC, dI)) (ci := 3) (v := .int (mR 0 5)) (C := RX3) (T := TX3) (N := 13) hx hb hts iwX3_canBeName_X3 hown hK hP 0 rfl rfl 5 (by decide) (hts _ (List.mem_of_getElem? (i := 3) rfl)) (fun _ h9 => h9) rfl dX3_canBeName_13 ?_
    refine lv_isub hx hb dX3_canBeName_16 ?_
    refine lv_bipush (v := 8) hx hb dX3_canBeName_17 (by decide) ?_
    refine lv_icmp_gt (tgt := 37) hx hb dX3_canBeName_19 (by decide) (fun hc_8 => ?_) (fun hc_8 => ?_)
    · have hM := it_p hc_8 hM
      refine lv_iconst (v := 0) hx hb dX3_canBeName_37 (by decide) ?_
      have hR := som hM
      rw [hR] at hQ
      exact ret_z hQ hx hb hr hlocks rfl hP hK hD hS dX3_canBeName_38
    · have hM := it_n hc_8 hM
      refine lv_aload_n hx hb dX3_canBeName_22 rfl (lv_at hl 0 rfl) ?_
      obtain ⟨x_9, hr_10, hM⟩ := bn_some hM
      refine gv_i (r0 := x_9) (wn := (wR ct aR (aT 0) (aL 0) mR ++ wT ct aT mT ++ wL ct aL mL)) (va_runV (As := []) (rest := []) ⟨hx, hb, hml, hown, hts⟩ (kX3_tokenKind l dC dI ct aR aT (aL 0) adK adV _ mR mT _ hr_10) (cwV 0 hts gX3_canBeName_X3_tokenKind rfl rfl rfl hvX3_tokenKind ⟨Nat.le_of_ble_eq_true rfl, Nat.le_of_ble_eq_true rfl⟩) (preV_of EV_ok hK hP hD (is := [0, 1, 2, 3, 4, 5]) rfl rfl rfl (ci := 3) rfl 0 rfl (e_sub EV_ok hE hS (va_free hD hS hA [0, 1, 2, 3, 4, 5] rfl))) rfl rfl hl.1 rfl (lv_room (Nat.le_of_ble_eq_true rfl)) dX3_canBeName_23 ⟨Nat.le_of_ble_eq_true rfl, Nat.le_of_ble_eq_true rfl⟩) hP hD hS hA [0, 1, 2, 3, 4, 5] [6, 7, 8, 9, 10, 11, 12, 13, 14, 15] [10, 11, 12, 13, 14, 15, 0, 1, 2, 3, 4, 5, 6, 7, 8, 9] rfl rfl rfl (by decide) rfl rfl (fun H locs hP hD hS => ?_)
      refine lv_iconst (v := -1) hx hb dX3_canBeName_26 (by decide) ?_
      refine lv_icmp_ne (tgt := 37) hx hb dX3_canBeName_27 (by decide) (fun hc_12 => ?_) (fun hc_12 => ?_)
      · have hM := it_p hc_12 hM
        refine lv_iconst (v := 0) hx hb dX3_canBeName_37 (by decide) ?_
        have hR := som hM
        rw [hR] at hQ
        exact ret_z hQ hx hb hr hlocks rfl hP hK hD hS dX3_canBeName_38
      · have hM := it_nn hc_12 hM
        refine lv_aload_n hx hb dX3_canBeName_30 rfl (lv_at hl 0 rfl) ?_
        obtain ⟨x_13, hr_14, hM⟩ := bn_some hM
        refine gv_i (r0 := x_13) (wn := (wR ct aR (aT 0) (aL 0) mR ++ wT ct aT mT ++ wL ct aL mL)) (va_runV (As := []) (rest := []) ⟨hx, hb, hml, hown, hts⟩ (kX3_isLineWord l dC dI ct aR aT (aL 0) adK adV _ mR mT _ hr_14) (cwV 0 hts gX3_canBeName_X3_isLineWord rfl rfl rfl hvX3_isLineWord ⟨Nat.le_of_ble_eq_true rfl, Nat.le_of_ble_eq_true rfl⟩) (preV_of EV_ok hK hP hD (is := [0, 1, 2, 3, 4, 5]) rfl rfl rfl (ci := 3) rfl 0 rfl (e_sub EV_ok hE hS (va_free hD hS hA [0, 1, 2, 3, 4, 5] rfl))) rfl rfl hl.1 rfl (lv_room (Nat.le_of_ble_eq_true rfl)) dX3_canBeName_31 ⟨Nat.le_of_ble_eq_true rfl, Nat.le_of_ble_eq_true rfl⟩) hP hD hS hA [0, 1, 2, 3, 4, 5] [6, 7, 8, 9, 10, 11, 12, 13, 14, 15] [10, 11, 12, 13, 14, 15, 0, 1, 2, 3, 4, 5, 6, 7, 8, 9] rfl rfl rfl (by decide) rfl rfl (fun H locs hP hD hS => ?_)
        refine lv_if_eq (tgt := 39) hx hb dX3_canBeName_34 (by decide) (fun hc_16 => ?_) (fun hc_16 => ?_)
        · have hM := it_p hc_16 hM
          refine lv_iconst (v := 0) hx hb dX3_canBeName_39 (by decide) ?_
          refine lv_istore_n (lv' := [(1, .int (0 : Int32)), (0, .ref (aR 0))]) hx hb dX3_canBeName_40 rfl hl (by decide) rfl (fun ls hl => ?_)
          exact N41 (0 : Int32) hM _ _ hP hD hS _ (lv_sub hl [1, 0] rfl)
        · have hM := it_n hc_16 hM
          refine lv_iconst (v := 0) hx hb dX3_canBeName_37 (by decide) ?_
          have hR := som hM
          rw [hR] at hQ
          exact ret_z hQ hx hb hr hlocks rfl hP hK hD hS dX3_canBeName_38
abbrev rmX3_readSort : Room := { frames := 7, cells := 0, slots := 0, locals := 148 }
theorem iwX3_readSort_X1 : ∀ w ∈ wsX10, w ∈ wsX3_readSort := fun _ h => List.mem_cons_of_mem _ (List.mem_append_left _ (List.mem_append_right _ (h)))
theorem iwX3_readSort_X3 : ∀ w ∈ wsX30, w ∈ wsX3_readSort := fun _ h => List.mem_cons_of_mem _ (List.mem_append_left _ (List.mem_append_left _ (List.mem_append_right _ (h))))
set_option maxHeartbeats 4000000 in
set_option maxRecDepth 100000 in
theorem kX3_readSort (l : Launch) (dC : Nat → ClassId) (dI : Nat → Nat → Nat) (ct : Nat → ClassId) (aR : Nat → Nat) (aT : Nat → Nat) (aL : Nat → Nat) (adK adV : Nat → Nat) (sz : Nat) (mR : Mem) (mT : Mem) (mL : Mem) (res : (Int32 × Mem × Mem)) (hM : mX3_readSort mR mT mL = some res) : Met l yX3_readSort wsX3_readSort rmX3_readSort (va_Pc [.ref (aR 0)] (PB (dC, dI) ct (EV adK adV) sz (wR ct aR (aT 0) (aL 0) mR ++ wT ct aT mT ++ wL ct aL mL))) (Qi (dC, dI) ct (va_A (wR ct aR (aT 0) (aL 0) mR ++ wT ct aT mT ++ wL ct aL mL) sz) res.1 (wR ct aR (aT 0) (aL 0) res.2.1 ++ wT ct aT mT ++ wL ct aL res.2.2)) 0 0 (va_A (wR ct aR (aT 0) (aL 0) mR ++ wT ct aT mT ++ wL ct aL mL) sz) := by
  refine Met.ofW (cc := cX3_readSort) (maxL := 3) (ret := (some .boolean)) (by decide) rfl ?_
  intro p e s m args below meth c s₁ B hml hv
  obtain ⟨hargs, hsz, hP, hK, hD0, hE⟩ := hv
  have hx := B.exec
  have hb := B.bytes
  have hr := B.returns
  have hts := atoms_spec (ws := wsX3_readSort) B.pre
  have hown : s.vm.findClass RX3 = some m.cls := findClass_of_methodNamed B.named
  have hlocks := B.notSynchronized
  clear B s₁
  subst hsz
  have hD := hD0.self (sz := s.heap.size)
  clear hD0
  generalize hAe : va_A (wR ct aR (aT 0) (aL 0) mR ++ wT ct aT mT ++ wL ct aL mL) s.heap.size = A at hD hE ⊢
  have hA : ∀ q : Nat, s.heap.size ≤ q → A q := fun q h => by rw [← hAe]; exact Or.inr h
  clear hAe
  have hS : va_S A s.heap s.heap [] := va_S.rf
  refine cutQ (fun Q hQ => ?_)
  refine entryW (vs := [.ref (aR 0)]) hargs (Nat.le_of_ble_eq_true rfl) (fun ls hl => ?_)
  replace hl : lv_has ls 3 [(0, .ref (aR 0))] := hl
  unfold mX3_readSort at hM
  have N55 : ∀ (v2 : Int32) (mR : Mem) (mL : Mem), mX3_readSort_L55 v2 mR mT mL = some res → ∀ (H : Heap) (locs : List Loc), va_P (dC, dI) vwCl (wR ct aR (aT 0) (aL 0) mR ++ wT ct aT mT ++ wL ct aL mL) H → va_D A (wR ct aR (aT 0) (aL 0) mR ++ wT ct aT mT ++ wL ct aL mL) → va_S A s.heap H locs → ∀ ls : Array Slot, lv_has ls 3 [(0, .ref (aR 0)), (2, .int v2)] → W p l e (headSpec wsX3_readSort rmX3_readSort).room s m args below meth c H locs 0 0 Q (F0 m 55 ls []) := by
    intro v2 mR mL hM H locs hP hD hS ls hl
    unfold mX3_readSort_L55 at hM
    obtain ⟨ex55, hit55, hM⟩ := bn_some hM
    have X55_0 : ∀ (mR : Mem), ex55 = (Sum.inl mR) → ∀ (H : Heap) (locs : List Loc), va_P (dC, dI) vwCl (wR ct aR (aT 0) (aL 0) mR ++ wT ct aT mT ++ wL ct aL mL) H → va_D A (wR ct aR (aT 0) (aL 0) mR ++ wT ct aT mT ++ wL ct aL mL) → va_S A s.heap H locs → ∀ ls : Array Slot, lv_has ls 3 [] → W p l e (headSpec wsX3_readSort rmX3_readSort).room s m args below meth c H locs 0 0 Q (F0 m 81 ls []) := by
      intro mR hex H locs hP hD hS ls hl
      have hM := el_l hex hM
      refine lv_iconst (v := 0) hx hb dX3_readSort_81 (by decide) ?_
      have hR := som hM
      rw [hR] at hQ
      exact ret_z hQ hx hb hr hlocks rfl hP hK hD hS dX3_readSort_82
    have X55_1 : ∀ (mR : Mem), ex55 = (Sum.inr mR) → ∀ (H : Heap) (locs : List Loc), va_P (dC, dI) vwCl (wR ct aR (aT 0) (aL 0) mR ++ wT ct aT mT ++ wL ct aL mL) H → va_D A (wR ct aR (aT 0) (aL 0) mR ++ wT ct aT mT ++ wL ct aL mL) → va_S A s.heap H locs → ∀ ls : Array Slot, lv_has ls 3 [(0, .ref (aR 0))] → W p l e (headSpec wsX3_readSort rmX3_readSort).room s m args below meth c H locs 0 0 Q (F0 m 99 ls []) := by
      intro mR hex H locs hP hD hS ls hl
      have hM := el_r hex hM
      refine lv_aload_n hx hb dX3_readSort_99 rfl (lv_at hl 0 rfl) ?_
      refine va_get (D := (dC, dI)) (ci := 3) (v := .ref (aL 0)) (C := RX3) (T := TX3) (N := 13) hx hb hts iwX3_readSort_X3 hown hK hP 0 rfl rfl 4 (by decide) (hts _ (List.mem_of_getElem? (i := 1) rfl)) (fun _ h9 => h9) rfl dX3_readSort_100 ?_
      refine lv_aload_n hx hb dX3_readSort_103 rfl (lv_at hl 0 rfl) ?_
      refine va_get (D := (dC, dI)) (ci := 3) (v := .ref (aR 3)) (C := RX3) (T := TX3) (N := 13) hx hb hts iwX3_readSort_X3 hown hK hP 0 rfl rfl 3 (by decide) (hts _ (List.mem_of_getElem? (i := 7) rfl)) (fun _ h9 => h9) rfl dX3_readSort_104 ?_
      obtain ⟨mL_1, hr_2, hM⟩ := bn_some hM
      refine gv_v (wn := (wR ct aR (aT 0) (aL 0) mR ++ wT ct aT mT ++ wL ct aL mL_1)) (va_runV (As := [.ref (aR 3)]) (rest := []) ⟨hx, hb, hml, hown, hts⟩ (kX1_addSort l dC dI ct aL (fun _ => (aR 3)) _ mL (mR 3) _ hr_2) (cwV 1 hts gX3_readSort_X1_addSort rfl rfl rfl hvX1_addSort ⟨Nat.le_of_ble_eq_true rfl, Nat.le_of_ble_eq_true rfl⟩) (preV_of E0_ok hK hP hD (is := [6, 7, 8, 9, 10, 11, 12, 13, 14, 15, 3]) rfl rfl rfl (ci := 1) rfl 6 rfl e_0) rfl rfl hl.1 rfl (lv_room (Nat.le_of_ble_eq_true rfl)) dX3_readSort_107 ⟨Nat.le_of_ble_eq_true rfl, Nat.le_of_ble_eq_true rfl⟩) hP hD hS hA [6, 7, 8, 9, 10, 11, 12, 13, 14, 15, 3] [0, 1, 2, 4, 5] [0, 1, 2, 15, 3, 4, 5, 6, 7, 8, 9, 10, 11, 12, 13, 14] rfl rfl rfl (by decide) rfl rfl (fun H locs hP hD hS => ?_)
      refine lv_aload_n hx hb dX3_readSort_110 rfl (lv_at hl 0 rfl) ?_
      obtain ⟨q_7, hr_6, hM⟩ := bn_some hM
      obtain ⟨x_4, mR_5⟩ := q_7
      have hM := nm_at (y := x_4) rfl hM
      have hM := nm_at (y := mR_5) rfl hM
      refine gv_i (r0 := x_4) (wn := (wR ct aR (aT 0) (aL 0) mR_5 ++ wT ct aT mT ++ wL ct aL mL_1)) (va_runV (As := []) (rest := []) ⟨hx, hb, hml, hown, hts⟩ (kX3_takeStop l dC dI ct aR aT (aL 0) _ mR mT _ hr_6) (cwV 0 hts gX3_readSort_X3_takeStop rfl rfl rfl hvX3_takeStop ⟨Nat.le_of_ble_eq_true rfl, Nat.le_of_ble_eq_true rfl⟩) (preV_of E0_ok hK hP hD (is := [0, 1, 2, 3, 4, 5]) rfl rfl rfl (ci := 3) rfl 0 rfl e_0) rfl rfl hl.1 rfl (lv_room (Nat.le_of_ble_eq_true rfl)) dX3_readSort_111 ⟨Nat.le_of_ble_eq_true rfl, Nat.le_of_ble_eq_true rfl⟩) hP hD hS hA [0, 1, 2, 3, 4, 5] [6, 7, 8, 9, 10, 11, 12, 13, 14, 15] [10, 11, 12, 13, 14, 15, 0, 1, 2, 3, 4, 5, 6, 7, 8, 9] rfl rfl rfl (by decide) rfl rfl (fun H locs hP hD hS => ?_)
      obtain ⟨hbz, hM⟩ := gb_some hM
      have hR := som hM
      rw [hR] at hQ
      exact ret_z hQ hx hb hr hlocks hbz hP hK hD hS dX3_readSort_114
    have I55 : ∀ (n : Nat) (v2 : Int32) (mR : Mem), itr (fun q => mX3_readSort_s55 mT mL q.1 q.2) n (v2, mR) = some ex55 → ∀ (H : Heap) (locs : List Loc), va_P (dC, dI) vwCl (wR ct aR (aT 0) (aL 0) mR ++ wT ct aT mT ++ wL ct aL mL) H → va_D A (wR ct aR (aT 0) (aL 0) mR ++ wT ct aT mT ++ wL ct aL mL) → va_S A s.heap H locs → ∀ ls : Array Slot, lv_has ls 3 [(0, .ref (aR 0)), (2, .int v2)] → W p l e (headSpec wsX3_readSort rmX3_readSort).room s m args below meth c H locs 0 0 Q (F0 m 55 ls []) := by
      intro n
      induction n with
      | zero => intro v2 mR hit; exact (itr_zero hit).elim
      | succ n ih55 =>
        intro v2 mR hit H locs hP hD hS ls hl
        obtain ⟨o55, hM, hbk55, hex55⟩ := itr_succ hit
        replace hM : mX3_readSort_s55 mT mL v2 mR = some o55 := hM
        unfold mX3_readSort_s55 at hM
        refine lv_iload_n hx hb dX3_readSort_55 rfl (lv_at hl 1 rfl) ?_
        refine lv_aload_n hx hb dX3_readSort_56 rfl (lv_at hl 0 rfl) ?_
        refine va_get (D := (dC, dI)) (ci := 3) (v := .ref (aR 3)) (C := RX3) (T := TX3) (N := 13) hx hb hts iwX3_readSort_X3 hown hK hP 0 rfl rfl 3 (by decide) (hts _ (List.mem_of_getElem? (i := 7) rfl)) (fun _ h9 => h9) rfl dX3_readSort_57 ?_
        refine va_alen (v := 6) hx hb hK hP 3 0 rfl rfl rfl dX3_readSort_60 ?_
        refine lv_icmp_ge (tgt := 99) hx hb dX3_readSort_61 (by decide) (fun hc_8 => ?_) (fun hc_8 => ?_)
        · have hM := it_p hc_8 hM
          have hR := som hM
          exact X55_1 mR (hex55 _ hR).symm _ _ hP hD hS _ (lv_sub hl [0] rfl)
        · have hM := it_n hc_8 hM
          refine lv_aload_n hx hb dX3_readSort_64 rfl (lv_at hl 0 rfl) ?_
          obtain ⟨tL, hZL, hTL⟩ := hE.2.2.2.2.2.1
          refine va_gets hx hb hZL hS hown (hts _ (List.mem_of_getElem? (i := 8) rfl)) (fun _ h9 => h9) dX3_readSort_65 ?_
          refine lv_iload_n hx hb dX3_readSort_68 rfl (lv_at hl 1 rfl) ?_
          obtain ⟨hi, hM⟩ := gi_some hM
          refine va_ti hx hb hTL hS hi rfl dX3_readSort_69 ?_
          obtain ⟨tM, hZM, hTM⟩ := hE.2.2.2.2.2.2.1
          refine va_gets hx hb hZM hS hown (hts _ (List.mem_of_getElem? (i := 9) rfl)) (fun _ h9 => h9) dX3_readSort_70 ?_
          refine lv_iload_n hx hb dX3_readSort_73 rfl (lv_at hl 1 rfl) ?_
          obtain ⟨hi, hM⟩ := gi_some hM
          refine va_ti hx hb hTM hS hi rfl dX3_readSort_74 ?_
          obtain ⟨q_12, hr_11, hM⟩ := bn_some hM
          obtain ⟨x_9, mR_10⟩ := q_12
          have hM := nm_at (y := x_9) rfl hM
          have hM := nm_at (y := mR_10) rfl hM
          refine gv_i (r0 := x_9) (wn := (wR ct aR (aT 0) (aL 0) mR_10 ++ wT ct aT mT ++ wL ct aL mL)) (va_runV (As := [.int (tabL v2.toNatClampNeg), .int (tabM v2.toNatClampNeg)]) (rest := []) ⟨hx, hb, hml, hown, hts⟩ (kX3_takeNumber l dC dI ct aR aT (aL 0) adK adV _ mR mT (tabL v2.toNatClampNeg) (tabM v2.toNatClampNeg) _ hr_11) (cwV 2 hts gX3_readSort_X3_takeNumber rfl rfl rfl hvX3_takeNumber ⟨Nat.le_of_ble_eq_true rfl, Nat.le_of_ble_eq_true rfl⟩) (preV_of EV_ok hK hP hD (is := [0, 1, 2, 3, 4, 5]) rfl rfl rfl (ci := 3) rfl 0 rfl (e_sub EV_ok hE hS (va_free hD hS hA [0, 1, 2, 3, 4, 5] rfl))) rfl rfl hl.1 rfl (lv_room (Nat.le_of_ble_eq_true rfl)) dX3_readSort_75 ⟨Nat.le_of_ble_eq_true rfl, Nat.le_of_ble_eq_true rfl⟩) hP hD hS hA [0, 1, 2, 3, 4, 5] [6, 7, 8, 9, 10, 11, 12, 13, 14, 15] [10, 11, 12, 13, 14, 15, 0, 1, 2, 3, 4, 5, 6, 7, 8, 9] rfl rfl rfl (by decide) rfl rfl (fun H locs hP hD hS => ?_)
          refine lv_if_ne (tgt := 83) hx hb dX3_readSort_78 (by decide) (fun hc_13 => ?_) (fun hc_13 => ?_)
          · have hM := it_p hc_13 hM
            refine lv_aload_n hx hb dX3_readSort_83 rfl (lv_at hl 0 rfl) ?_
            refine va_get (D := (dC, dI)) (ci := 3) (v := .ref (aR 3)) (C := RX3) (T := TX3) (N := 13) hx hb hts iwX3_readSort_X3 hown hK hP 0 rfl rfl 3 (by decide) (hts _ (List.mem_of_getElem? (i := 7) rfl)) (fun _ h9 => h9) rfl dX3_readSort_84 ?_
            refine lv_iload_n hx hb dX3_readSort_87 rfl (lv_at hl 1 rfl) ?_
            refine lv_aload_n hx hb dX3_readSort_88 rfl (lv_at hl 0 rfl) ?_
            refine va_get (D := (dC, dI)) (ci := 3) (v := .int (mR_10 0 9)) (C := RX3) (T := TX3) (N := 13) hx hb hts iwX3_readSort_X3 hown hK hP 0 rfl rfl 9 (by decide) (hts _ (List.mem_of_getElem? (i := 10) rfl)) (fun _ h9 => h9) rfl dX3_readSort_89 ?_
            obtain ⟨hi, hM⟩ := gi_some hM
            refine st_i (wf := fun z => (wR ct aR (aT 0) (aL 0) z ++ wT ct aT mT ++ wL ct aL mL)) (m1 := upi mR_10 3 v2.toNatClampNeg (mR_10 0 9)) hx hb hK hP hD hS 3 rfl hi dX3_readSort_92 rfl (fun mR_14 emR_14 H locs hP hD hS => ?_)
            have hM := nm_at emR_14 hM
            obtain ⟨x_15, ex_15⟩ : ∃ y : Int32, y = (v2 + (1 : Int32)) := ⟨_, rfl⟩
            have hM := nm_at ex_15 hM
            refine lv_iinc (v := x_15) (lv' := [(2, .int x_15), (0, .ref (aR 0))]) hx hb dX3_readSort_93 hl (k := 1) rfl (by rw [ex_15]; rfl) (by decide) rfl (fun ls hl => ?_)
            refine lv_goto (tgt := 55) hx hb dX3_readSort_96 (by decide) ?_
            have hR := som hM
            exact ih55 x_15 mR_14 (hbk55 _ hR) _ _ hP hD hS _ (lv_sub hl [1, 0] rfl)
          · have hM := it_nn hc_13 hM
            have hR := som hM
            exact X55_0 mR_10 (hex55 _ hR).symm _ _ hP hD hS _ (lv_sub hl [] rfl)
    exact I55 FU v2 mR hit55 _ _ hP hD hS _ hl
  refine lv_aload_n hx hb dX3_readSort_0 rfl (lv_at hl 0 rfl) ?_
  refine va_get (D := (dC, dI)) (ci := 3) (v := .ref (aL 0)) (C := RX3) (T := TX3) (N := 13) hx hb hts iwX3_readSort_X3 hown hK hP 0 rfl rfl 4 (by decide) (hts _ (List.mem_of_getElem? (i := 1) rfl)) (fun _ h9 => h9) rfl dX3_readSort_1 ?_
  refine va_get (D := (dC, dI)) (ci := 1) (v := .int (mL 0 5)) (C := RX1) (T := TX1) (N := 17) hx hb hts iwX3_readSort_X1 hown hK hP 6 rfl rfl 5 (by decide) (hts _ (List.mem_of_getElem? (i := 2) rfl)) (fun _ h9 => h9) rfl dX3_readSort_4 ?_
  refine lv_topi (fun x_16 ex_16 => ?_)
  have hM := nm_at ex_16 hM
  refine lv_istore_n (lv' := [(1, .int x_16), (0, .ref (aR 0))]) hx hb dX3_readSort_7 rfl hl (by decide) rfl (fun ls hl => ?_)
  refine lv_iload_n hx hb dX3_readSort_8 rfl (lv_at hl 0 rfl) ?_
  refine lv_bipush (v := 6) hx hb dX3_readSort_9 (by decide) ?_
  refine lv_icmp_lt (tgt := 16) hx hb dX3_readSort_11 (by decide) (fun hc_17 => ?_) (fun hc_17 => ?_)
  · have hM := it_p hc_17 hM
    refine lv_aload_n hx hb dX3_readSort_16 rfl (lv_at hl 1 rfl) ?_
    obtain ⟨mR_18, hr_19, hM⟩ := bn_some hM
    refine gv_v (wn := (wR ct aR (aT 0) (aL 0) mR_18 ++ wT ct aT mT ++ wL ct aL mL)) (va_runV (As := []) (rest := []) ⟨hx, hb, hml, hown, hts⟩ (kX3_step l dC dI ct aR aT (aL 0) _ mR mT _ hr_19) (cwV 0 hts gX3_readSort_X3_step rfl rfl rfl hvX3_step ⟨Nat.le_of_ble_eq_true rfl, Nat.le_of_ble_eq_true rfl⟩) (preV_of E0_ok hK hP hD (is := [0, 1, 2, 3, 4, 5]) rfl rfl rfl (ci := 3) rfl 0 rfl e_0) rfl rfl hl.1 rfl (lv_room (Nat.le_of_ble_eq_true rfl)) dX3_readSort_17 ⟨Nat.le_of_ble_eq_true rfl, Nat.le_of_ble_eq_true rfl⟩) hP hD hS hA [0, 1, 2, 3, 4, 5] [6, 7, 8, 9, 10, 11, 12, 13, 14, 15] [10, 11, 12, 13, 14, 15, 0, 1, 2, 3, 4, 5, 6, 7, 8, 9] rfl rfl rfl (by decide) rfl rfl (fun H locs hP hD hS => ?_)
    refine lv_aload_n hx hb dX3_readSort_20 rfl (lv_at hl 1 rfl) ?_
    obtain ⟨x_21, hr_22, hM⟩ := bn_some hM
    refine gv_i (r0 := x_21) (wn := (wR ct aR (aT 0) (aL 0) mR_18 ++ wT ct aT mT ++ wL ct aL mL)) (va_runV (As := []) (rest := []) ⟨hx, hb, hml, hown, hts⟩ (kX3_canBeName l dC dI ct aR aT aL adK adV _ mR_18 mT mL _ hr_22) (cwV 0 hts gX3_readSort_X3_canBeName rfl rfl rfl hvX3_canBeName ⟨Nat.le_of_ble_eq_true rfl, Nat.le_of_ble_eq_true rfl⟩) (preV_of EV_ok hK hP hD (is := [0, 1, 2, 3, 4, 5, 6, 7, 8, 9, 10, 11, 12, 13, 14, 15]) rfl rfl rfl (ci := 3) rfl 0 rfl (e_sub EV_ok hE hS (va_free hD hS hA [0, 1, 2, 3, 4, 5, 6, 7, 8, 9, 10, 11, 12, 13, 14, 15] rfl))) rfl rfl hl.1 rfl (lv_room (Nat.le_of_ble_eq_true rfl)) dX3_readSort_21 ⟨Nat.le_of_ble_eq_true rfl, Nat.le_of_ble_eq_true rfl⟩) hP hD hS hA [0, 1, 2, 3, 4, 5, 6, 7, 8, 9, 10, 11, 12, 13, 14, 15] [] [0, 1, 2, 3, 4, 5, 6, 7, 8, 9, 10, 11, 12, 13, 14, 15] rfl rfl rfl (by decide) rfl rfl (fun H locs hP hD hS => ?_)
    refine lv_if_ne (tgt := 29) hx hb dX3_readSort_24 (by decide) (fun hc_24 => ?_) (fun hc_24 => ?_)
    · have hM := it_p hc_24 hM
      refine lv_aload_n hx hb dX3_readSort_29 rfl (lv_at hl 1 rfl) ?_
      refine va_get (D := (dC, dI)) (ci := 3) (v := .ref (aR 1)) (C := RX3) (T := TX3) (N := 13) hx hb hts iwX3_readSort_X3 hown hK hP 0 rfl rfl 1 (by decide) (hts _ (List.mem_of_getElem? (i := 3) rfl)) (fun _ h9 => h9) rfl dX3_readSort_30 ?_
      refine lv_iload_n hx hb dX3_readSort_33 rfl (lv_at hl 0 rfl) ?_
      refine lv_aload_n hx hb dX3_readSort_34 rfl (lv_at hl 1 rfl) ?_
      refine va_get (D := (dC, dI)) (ci := 3) (v := .int (mR_18 0 5)) (C := RX3) (T := TX3) (N := 13) hx hb hts iwX3_readSort_X3 hown hK hP 0 rfl rfl 5 (by decide) (hts _ (List.mem_of_getElem? (i := 4) rfl)) (fun _ h9 => h9) rfl dX3_readSort_35 ?_
      obtain ⟨hi, hM⟩ := gi_some hM
      refine st_i (wf := fun z => (wR ct aR (aT 0) (aL 0) z ++ wT ct aT mT ++ wL ct aL mL)) (m1 := upi mR_18 1 x_16.toNatClampNeg (mR_18 0 5)) hx hb hK hP hD hS 1 rfl hi dX3_readSort_38 rfl (fun mR_25 emR_25 H locs hP hD hS => ?_)
      have hM := nm_at emR_25 hM
      refine lv_aload_n hx hb dX3_readSort_39 rfl (lv_at hl 1 rfl) ?_
      refine va_get (D := (dC, dI)) (ci := 3) (v := .ref (aR 2)) (C := RX3) (T := TX3) (N := 13) hx hb hts iwX3_readSort_X3 hown hK hP 0 rfl rfl 2 (by decide) (hts _ (List.mem_of_getElem? (i := 5) rfl)) (fun _ h9 => h9) rfl dX3_readSort_40 ?_
      refine lv_iload_n hx hb dX3_readSort_43 rfl (lv_at hl 0 rfl) ?_
      refine lv_aload_n hx hb dX3_readSort_44 rfl (lv_at hl 1 rfl) ?_
      refine va_get (D := (dC, dI)) (ci := 3) (v := .int (mR_25 0 6)) (C := RX3) (T := TX3) (N := 13) hx hb hts iwX3_readSort_X3 hown hK hP 0 rfl rfl 6 (by decide) (hts _ (List.mem_of_getElem? (i := 6) rfl)) (fun _ h9 => h9) rfl dX3_readSort_45 ?_
      obtain ⟨hi, hM⟩ := gi_some hM
      refine st_i (wf := fun z => (wR ct aR (aT 0) (aL 0) z ++ wT ct aT mT ++ wL ct aL mL)) (m1 := upi mR_25 2 x_16.toNatClampNeg (mR_25 0 6)) hx hb hK hP hD hS 2 rfl hi dX3_readSort_48 rfl (fun mR_26 emR_26 H locs hP hD hS => ?_)
      have hM := nm_at emR_26 hM
      refine lv_aload_n hx hb dX3_readSort_49 rfl (lv_at hl 1 rfl) ?_
      obtain ⟨mR_27, hr_28, hM⟩ := bn_some hM
      refine gv_v (wn := (wR ct aR (aT 0) (aL 0) mR_27 ++ wT ct aT mT ++ wL ct aL mL)) (va_runV (As := []) (rest := []) ⟨hx, hb, hml, hown, hts⟩ (kX3_step l dC dI ct aR aT (aL 0) _ mR_26 mT _ hr_28) (cwV 0 hts gX3_readSort_X3_step rfl rfl rfl hvX3_step ⟨Nat.le_of_ble_eq_true rfl, Nat.le_of_ble_eq_true rfl⟩) (preV_of E0_ok hK hP hD (is := [0, 1, 2, 3, 4, 5]) rfl rfl rfl (ci := 3) rfl 0 rfl e_0) rfl rfl hl.1 rfl (lv_room (Nat.le_of_ble_eq_true rfl)) dX3_readSort_50 ⟨Nat.le_of_ble_eq_true rfl, Nat.le_of_ble_eq_true rfl⟩) hP hD hS hA [0, 1, 2, 3, 4, 5] [6, 7, 8, 9, 10, 11, 12, 13, 14, 15] [10, 11, 12, 13, 14, 15, 0, 1, 2, 3, 4, 5, 6, 7, 8, 9] rfl rfl rfl (by decide) rfl rfl (fun H locs hP hD hS => ?_)
      refine lv_iconst (v := 0) hx hb dX3_readSort_53 (by decide) ?_
      refine lv_istore_n (lv' := [(2, .int (0 : Int32)), (1, .int x_16), (0, .ref (aR 0))]) hx hb dX3_readSort_54 rfl hl (by decide) rfl (fun ls hl => ?_)
      exact N55 (0 : Int32) mR_27 mL hM _ _ hP hD hS _ (lv_sub hl [2, 0] rfl)
    · have hM := it_nn hc_24 hM
      refine lv_iconst (v := 0) hx hb dX3_readSort_27 (by decide) ?_
      have hR := som hM
      rw [hR] at hQ
      exact ret_z hQ hx hb hr hlocks rfl hP hK hD hS dX3_readSort_28
  · have hM := it_n hc_17 hM
    refine lv_iconst (v := 0) hx hb dX3_readSort_14 (by decide) ?_
    have hR := som hM
    rw [hR] at hQ
    exact ret_z hQ hx hb hr hlocks rfl hP hK hD hS dX3_readSort_15
abbrev rmX3_readSpare : Room := { frames := 6, cells := 0, slots := 0, locals := 127 }
theorem iwX3_readSpare_X1 : ∀ w ∈ wsX10, w ∈ wsX3_readSpare := fun _ h => List.mem_cons_of_mem _ (List.mem_append_left _ (List.mem_append_right _ (h)))
theorem iwX3_readSpare_X3 : ∀ w ∈ wsX30, w ∈ wsX3_readSpare := fun _ h => List.mem_cons_of_mem _ (List.mem_append_left _ (List.mem_append_left _ (List.mem_append_right _ (h))))
set_option maxHeartbeats 4000000 in
set_option maxRecDepth 100000 in
theorem kX3_readSpare (l : Launch) (dC : Nat → ClassId) (dI : Nat → Nat → Nat) (ct : Nat → ClassId) (aR : Nat → Nat) (aT : Nat → Nat) (aL : Nat → Nat) (adK adV : Nat → Nat) (sz : Nat) (mR : Mem) (mT : Mem) (mL : Mem) (res : (Int32 × Mem × Mem)) (hM : mX3_readSpare mR mT mL = some res) : Met l yX3_readSpare wsX3_readSpare rmX3_readSpare (va_Pc [.ref (aR 0)] (PB (dC, dI) ct (EV adK adV) sz (wR ct aR (aT 0) (aL 0) mR ++ wT ct aT mT ++ wL ct aL mL))) (Qi (dC, dI) ct (va_A (wR ct aR (aT 0) (aL 0) mR ++ wT ct aT mT ++ wL ct aL mL) sz) res.1 (wR ct aR (aT 0) (aL 0) res.2.1 ++ wT ct aT mT ++ wL ct aL res.2.2)) 0 0 (va_A (wR ct aR (aT 0) (aL 0) mR ++ wT ct aT mT ++ wL ct aL mL) sz) := by
  refine Met.ofW (cc := cX3_readSpare) (maxL := 2) (ret := (some .boolean)) (by decide) rfl ?_
  intro p e s m args below meth c s₁ B hml hv
  obtain ⟨hargs, hsz, hP, hK, hD0, hE⟩ := hv
  have hx := B.exec
  have hb := B.bytes
  have hr := B.returns
  have hts := atoms_spec (ws := wsX3_readSpare) B.pre
  have hown : s.vm.findClass RX3 = some m.cls := findClass_of_methodNamed B.named
  have hlocks := B.notSynchronized
  clear B s₁
  subst hsz
  have hD := hD0.self (sz := s.heap.size)
  clear hD0
  generalize hAe : va_A (wR ct aR (aT 0) (aL 0) mR ++ wT ct aT mT ++ wL ct aL mL) s.heap.size = A at hD hE ⊢
  have hA : ∀ q : Nat, s.heap.size ≤ q → A q := fun q h => by rw [← hAe]; exact Or.inr h
  clear hAe
  have hS : va_S A s.heap s.heap [] := va_S.rf
  refine cutQ (fun Q hQ => ?_)
  refine entryW (vs := [.ref (aR 0)]) hargs (Nat.le_of_ble_eq_true rfl) (fun ls hl => ?_)
  replace hl : lv_has ls 2 [(0, .ref (aR 0))] := hl
  unfold mX3_readSpare at hM
  refine lv_aload_n hx hb dX3_readSpare_0 rfl (lv_at hl 0 rfl) ?_
  obtain ⟨mR_1, hr_2, hM⟩ := bn_some hM
  refine gv_v (wn := (wR ct aR (aT 0) (aL 0) mR_1 ++ wT ct aT mT ++ wL ct aL mL)) (va_runV (As := []) (rest := []) ⟨hx, hb, hml, hown, hts⟩ (kX3_step l dC dI ct aR aT (aL 0) _ mR mT _ hr_2) (cwV 0 hts gX3_readSpare_X3_step rfl rfl rfl hvX3_step ⟨Nat.le_of_ble_eq_true rfl, Nat.le_of_ble_eq_true rfl⟩) (preV_of E0_ok hK hP hD (is := [0, 1, 2, 3, 4, 5]) rfl rfl rfl (ci := 3) rfl 0 rfl e_0) rfl rfl hl.1 rfl (lv_room (Nat.le_of_ble_eq_true rfl)) dX3_readSpare_1 ⟨Nat.le_of_ble_eq_true rfl, Nat.le_of_ble_eq_true rfl⟩) hP hD hS hA [0, 1, 2, 3, 4, 5] [6, 7, 8, 9, 10, 11, 12, 13, 14, 15] [10, 11, 12, 13, 14, 15, 0, 1, 2, 3, 4, 5, 6, 7, 8, 9] rfl rfl rfl (by decide) rfl rfl (fun H locs hP hD hS => ?_)
  refine lv_aload_n hx hb dX3_readSpare_4 rfl (lv_at hl 0 rfl) ?_
  obtain ⟨x_4, hr_5, hM⟩ := bn_some hM
  refine gv_i (r0 := x_4) (wn := (wR ct aR (aT 0) (aL 0) mR_1 ++ wT ct aT mT ++ wL ct aL mL)) (va_runV (As := []) (rest := []) ⟨hx, hb, hml, hown, hts⟩ (kX3_tokenKind l dC dI ct aR aT (aL 0) adK adV _ mR_1 mT _ hr_5) (cwV 0 hts gX3_readSpare_X3_tokenKind rfl rfl rfl hvX3_tokenKind ⟨Nat.le_of_ble_eq_true rfl, Nat.le_of_ble_eq_true rfl⟩) (preV_of EV_ok hK hP hD (is := [0, 1, 2, 3, 4, 5]) rfl rfl rfl (ci := 3) rfl 0 rfl (e_sub EV_ok hE hS (va_free hD hS hA [0, 1, 2, 3, 4, 5] rfl))) rfl rfl hl.1 rfl (lv_room (Nat.le_of_ble_eq_true rfl)) dX3_readSpare_5 ⟨Nat.le_of_ble_eq_true rfl, Nat.le_of_ble_eq_true rfl⟩) hP hD hS hA [0, 1, 2, 3, 4, 5] [6, 7, 8, 9, 10, 11, 12, 13, 14, 15] [10, 11, 12, 13, 14, 15, 0, 1, 2, 3, 4, 5, 6, 7, 8, 9] rfl rfl rfl (by decide) rfl rfl (fun H locs hP hD hS => ?_)
  refine lv_istore_n (lv' := [(1, .int x_4), (0, .ref (aR 0))]) hx hb dX3_readSpare_8 rfl hl (by decide) rfl (fun ls hl => ?_)
  refine lv_iload_n hx hb dX3_readSpare_9 rfl (lv_at hl 0 rfl) ?_
  refine lv_iconst (v := -1) hx hb dX3_readSpare_10 (by decide) ?_
  refine lv_icmp_eq (tgt := 25) hx hb dX3_readSpare_11 (by decide) (fun hc_7 => ?_) (fun hc_7 => ?_)
  · have hM := it_p hc_7 hM
    refine lv_iconst (v := 0) hx hb dX3_readSpare_25 (by decide) ?_
    have hR := som hM
    rw [hR] at hQ
    exact ret_z hQ hx hb hr hlocks rfl hP hK hD hS dX3_readSpare_26
  · have hM := it_n hc_7 hM
    refine lv_aload_n hx hb dX3_readSpare_14 rfl (lv_at hl 1 rfl) ?_
    refine va_get (D := (dC, dI)) (ci := 3) (v := .ref (aL 0)) (C := RX3) (T := TX3) (N := 13) hx hb hts iwX3_readSpare_X3 hown hK hP 0 rfl rfl 4 (by decide) (hts _ (List.mem_of_getElem? (i := 1) rfl)) (fun _ h9 => h9) rfl dX3_readSpare_15 ?_
    refine lv_iload_n hx hb dX3_readSpare_18 rfl (lv_at hl 0 rfl) ?_
    obtain ⟨x_8, hr_9, hM⟩ := bn_some hM
    refine gv_i (r0 := x_8) (wn := (wR ct aR (aT 0) (aL 0) mR_1 ++ wT ct aT mT ++ wL ct aL mL)) (va_runV (As := [.int x_4]) (rest := []) ⟨hx, hb, hml, hown, hts⟩ (kX1_isSpared l dC dI ct aL _ mL x_4 _ hr_9) (cwV 1 hts gX3_readSpare_X1_isSpared rfl rfl rfl hvX1_isSpared ⟨Nat.le_of_ble_eq_true rfl, Nat.le_of_ble_eq_true rfl⟩) (preV_of E0_ok hK hP hD (is := [6, 7, 8, 9, 10, 11, 12, 13, 14, 15]) rfl rfl rfl (ci := 1) rfl 6 rfl e_0) rfl rfl hl.1 rfl (lv_room (Nat.le_of_ble_eq_true rfl)) dX3_readSpare_19 ⟨Nat.le_of_ble_eq_true rfl, Nat.le_of_ble_eq_true rfl⟩) hP hD hS hA [6, 7, 8, 9, 10, 11, 12, 13, 14, 15] [0, 1, 2, 3, 4, 5] [0, 1, 2, 3, 4, 5, 6, 7, 8, 9, 10, 11, 12, 13, 14, 15] rfl rfl rfl (by decide) rfl rfl (fun H locs hP hD hS => ?_)
    refine lv_if_eq (tgt := 27) hx hb dX3_readSpare_22 (by decide) (fun hc_11 => ?_) (fun hc_11 => ?_)
    · have hM := it_p hc_11 hM
      refine lv_aload_n hx hb dX3_readSpare_27 rfl (lv_at hl 1 rfl) ?_
      refine va_get (D := (dC, dI)) (ci := 3) (v := .ref (aL 0)) (C := RX3) (T := TX3) (N := 13) hx hb hts iwX3_readSpare_X3 hown hK hP 0 rfl rfl 4 (by decide) (hts _ (List.mem_of_getElem? (i := 1) rfl)) (fun _ h9 => h9) rfl dX3_readSpare_28 ?_
      refine lv_dup hx hb dX3_readSpare_31 rfl ?_
      refine va_get (D := (dC, dI)) (ci := 1) (v := .int (mL 0 12)) (C := RX1) (T := TX1) (N := 17) hx hb hts iwX3_readSpare_X1 hown hK hP 6 rfl rfl 12 (by decide) (hts _ (List.mem_of_getElem? (i := 2) rfl)) (fun _ h9 => h9) rfl dX3_readSpare_32 ?_
      refine lv_iconst (v := 1) hx hb dX3_readSpare_35 (by decide) ?_
      refine lv_iload_n hx hb dX3_readSpare_36 rfl (lv_at hl 0 rfl) ?_
      refine lv_ishl hx hb dX3_readSpare_37 ?_
      refine lv_ior hx hb dX3_readSpare_38 ?_
      refine pf_i (wf := fun z => (wR ct aR (aT 0) (aL 0) mR_1 ++ wT ct aT mT ++ wL ct aL z)) (m1 := upf mL 12 ((mL 0 12) ||| ((1 : Int32) <<< (x_4 &&& 31)))) hx hb hts iwX3_readSpare_X1 tyX1 tyX1_ok nmX1 hown hK hP hD hS 6 rfl rfl 12 (by decide) (hts _ (List.mem_of_getElem? (i := 2) rfl)) (fun _ h9 => h9) rfl rfl rfl (Nat.le_of_ble_eq_true rfl) dX3_readSpare_39 rfl (fun mL_12 emL_12 H locs hP hD hS => ?_)
      have hM := nm_at emL_12 hM
      refine lv_aload_n hx hb dX3_readSpare_42 rfl (lv_at hl 1 rfl) ?_
      obtain ⟨mR_13, hr_14, hM⟩ := bn_some hM
      refine gv_v (wn := (wR ct aR (aT 0) (aL 0) mR_13 ++ wT ct aT mT ++ wL ct aL mL_12)) (va_runV (As := []) (rest := []) ⟨hx, hb, hml, hown, hts⟩ (kX3_step l dC dI ct aR aT (aL 0) _ mR_1 mT _ hr_14) (cwV 0 hts gX3_readSpare_X3_step rfl rfl rfl hvX3_step ⟨Nat.le_of_ble_eq_true rfl, Nat.le_of_ble_eq_true rfl⟩) (preV_of E0_ok hK hP hD (is := [0, 1, 2, 3, 4, 5]) rfl rfl rfl (ci := 3) rfl 0 rfl e_0) rfl rfl hl.1 rfl (lv_room (Nat.le_of_ble_eq_true rfl)) dX3_readSpare_43 ⟨Nat.le_of_ble_eq_true rfl, Nat.le_of_ble_eq_true rfl⟩) hP hD hS hA [0, 1, 2, 3, 4, 5] [6, 7, 8, 9, 10, 11, 12, 13, 14, 15] [10, 11, 12, 13, 14, 15, 0, 1, 2, 3, 4, 5, 6, 7, 8, 9] rfl rfl rfl (by decide) rfl rfl (fun H locs hP hD hS => ?_)
      refine lv_aload_n hx hb dX3_readSpare_46 rfl (lv_at hl 1 rfl) ?_
      obtain ⟨q_19, hr_18, hM⟩ := bn_some hM
      obtain ⟨x_16, mR_17⟩ := q_19
      have hM := nm_at (y := x_16) rfl hM
      have hM := nm_at (y := mR_17) rfl hM
      refine gv_i (r0 := x_16) (wn := (wR ct aR (aT 0) (aL 0) mR_17 ++ wT ct aT mT ++ wL ct aL mL_12)) (va_runV (As := []) (rest := []) ⟨hx, hb, hml, hown, hts⟩ (kX3_takeStop l dC dI ct aR aT (aL 0) _ mR_13 mT _ hr_18) (cwV 0 hts gX3_readSpare_X3_takeStop rfl rfl rfl hvX3_takeStop ⟨Nat.le_of_ble_eq_true rfl, Nat.le_of_ble_eq_true rfl⟩) (preV_of E0_ok hK hP hD (is := [0, 1, 2, 3, 4, 5]) rfl rfl rfl (ci := 3) rfl 0 rfl e_0) rfl rfl hl.1 rfl (lv_room (Nat.le_of_ble_eq_true rfl)) dX3_readSpare_47 ⟨Nat.le_of_ble_eq_true rfl, Nat.le_of_ble_eq_true rfl⟩) hP hD hS hA [0, 1, 2, 3, 4, 5] [6, 7, 8, 9, 10, 11, 12, 13, 14, 15] [10, 11, 12, 13, 14, 15, 0, 1, 2, 3, 4, 5, 6, 7, 8, 9] rfl rfl rfl (by decide) rfl rfl (fun H locs hP hD hS => ?_)
      obtain ⟨hbz, hM⟩ := gb_some hM
      have hR := som hM
      rw [hR] at hQ
      exact ret_z hQ hx hb hr hlocks hbz hP hK hD hS dX3_readSpare_50
    · have hM := it_n hc_11 hM
      refine lv_iconst (v := 0) hx hb dX3_readSpare_25 (by decide) ?_
      have hR := som hM
      rw [hR] at hQ
      exact ret_z hQ hx hb hr hlocks rfl hP hK hD hS dX3_readSpare_26
abbrev rmX3_readTurn : Room := { frames := 6, cells := 0, slots := 0, locals := 127 }
theorem iwX3_readTurn_X1 : ∀ w ∈ wsX10, w ∈ wsX3_readTurn := fun _ h => List.mem_cons_of_mem _ (List.mem_append_left _ (List.mem_append_right _ (h)))
theorem iwX3_readTurn_X3 : ∀ w ∈ wsX30, w ∈ wsX3_readTurn := fun _ h => List.mem_cons_of_mem _ (List.mem_append_left _ (List.mem_append_left _ (List.mem_append_right _ (h))))
set_option maxHeartbeats 4000000 in
set_option maxRecDepth 100000 in
theorem kX3_readTurn (l : Launch) (dC : Nat → ClassId) (dI : Nat → Nat → Nat) (ct : Nat → ClassId) (aR : Nat → Nat) (aT : Nat → Nat) (aL : Nat → Nat) (adK adV : Nat → Nat) (sz : Nat) (mR : Mem) (mT : Mem) (mL : Mem) (res : (Int32 × Mem × Mem)) (hM : mX3_readTurn mR mT mL = some res) : Met l yX3_readTurn wsX3_readTurn rmX3_readTurn (va_Pc [.ref (aR 0)] (PB (dC, dI) ct (EV adK adV) sz (wR ct aR (aT 0) (aL 0) mR ++ wT ct aT mT ++ wL ct aL mL))) (Qi (dC, dI) ct (va_A (wR ct aR (aT 0) (aL 0) mR ++ wT ct aT mT ++ wL ct aL mL) sz) res.1 (wR ct aR (aT 0) (aL 0) res.2.1 ++ wT ct aT mT ++ wL ct aL res.2.2)) 0 0 (va_A (wR ct aR (aT 0) (aL 0) mR ++ wT ct aT mT ++ wL ct aL mL) sz) := by
  refine Met.ofW (cc := cX3_readTurn) (maxL := 3) (ret := (some .boolean)) (by decide) rfl ?_
  intro p e s m args below meth c s₁ B hml hv
  obtain ⟨hargs, hsz, hP, hK, hD0, hE⟩ := hv
  have hx := B.exec
  have hb := B.bytes
  have hr := B.returns
  have hts := atoms_spec (ws := wsX3_readTurn) B.pre
  have hown : s.vm.findClass RX3 = some m.cls := findClass_of_methodNamed B.named
  have hlocks := B.notSynchronized
  clear B s₁
  subst hsz
  have hD := hD0.self (sz := s.heap.size)
  clear hD0
  generalize hAe : va_A (wR ct aR (aT 0) (aL 0) mR ++ wT ct aT mT ++ wL ct aL mL) s.heap.size = A at hD hE ⊢
  have hA : ∀ q : Nat, s.heap.size ≤ q → A q := fun q h => by rw [← hAe]; exact Or.inr h
  clear hAe
  have hS : va_S A s.heap s.heap [] := va_S.rf
  refine cutQ (fun Q hQ => ?_)
  refine entryW (vs := [.ref (aR 0)]) hargs (Nat.le_of_ble_eq_true rfl) (fun ls hl => ?_)
  replace hl : lv_has ls 3 [(0, .ref (aR 0))] := hl
  unfold mX3_readTurn at hM
  refine lv_aload_n hx hb dX3_readTurn_0 rfl (lv_at hl 0 rfl) ?_
  refine va_get (D := (dC, dI)) (ci := 3) (v := .ref (aL 0)) (C := RX3) (T := TX3) (N := 13) hx hb hts iwX3_readTurn_X3 hown hK hP 0 rfl rfl 4 (by decide) (hts _ (List.mem_of_getElem? (i := 1) rfl)) (fun _ h9 => h9) rfl dX3_readTurn_1 ?_
  refine va_get (D := (dC, dI)) (ci := 1) (v := .int (mL 0 13)) (C := RX1) (T := TX1) (N := 17) hx hb hts iwX3_readTurn_X1 hown hK hP 6 rfl rfl 13 (by decide) (hts _ (List.mem_of_getElem? (i := 2) rfl)) (fun _ h9 => h9) rfl dX3_readTurn_4 ?_
  refine lv_bipush (v := 12) hx hb dX3_readTurn_7 (by decide) ?_
  refine lv_icmp_lt (tgt := 14) hx hb dX3_readTurn_9 (by decide) (fun hc_1 => ?_) (fun hc_1 => ?_)
  · have hM := it_p hc_1 hM
    refine lv_aload_n hx hb dX3_readTurn_14 rfl (lv_at hl 0 rfl) ?_
    obtain ⟨mR_2, hr_3, hM⟩ := bn_some hM
    refine gv_v (wn := (wR ct aR (aT 0) (aL 0) mR_2 ++ wT ct aT mT ++ wL ct aL mL)) (va_runV (As := []) (rest := []) ⟨hx, hb, hml, hown, hts⟩ (kX3_step l dC dI ct aR aT (aL 0) _ mR mT _ hr_3) (cwV 0 hts gX3_readTurn_X3_step rfl rfl rfl hvX3_step ⟨Nat.le_of_ble_eq_true rfl, Nat.le_of_ble_eq_true rfl⟩) (preV_of E0_ok hK hP hD (is := [0, 1, 2, 3, 4, 5]) rfl rfl rfl (ci := 3) rfl 0 rfl e_0) rfl rfl hl.1 rfl (lv_room (Nat.le_of_ble_eq_true rfl)) dX3_readTurn_15 ⟨Nat.le_of_ble_eq_true rfl, Nat.le_of_ble_eq_true rfl⟩) hP hD hS hA [0, 1, 2, 3, 4, 5] [6, 7, 8, 9, 10, 11, 12, 13, 14, 15] [10, 11, 12, 13, 14, 15, 0, 1, 2, 3, 4, 5, 6, 7, 8, 9] rfl rfl rfl (by decide) rfl rfl (fun H locs hP hD hS => ?_)
    refine lv_aload_n hx hb dX3_readTurn_18 rfl (lv_at hl 0 rfl) ?_
    obtain ⟨x_5, hr_6, hM⟩ := bn_some hM
    refine gv_i (r0 := x_5) (wn := (wR ct aR (aT 0) (aL 0) mR_2 ++ wT ct aT mT ++ wL ct aL mL)) (va_runV (As := []) (rest := []) ⟨hx, hb, hml, hown, hts⟩ (kX3_tokenKind l dC dI ct aR aT (aL 0) adK adV _ mR_2 mT _ hr_6) (cwV 0 hts gX3_readTurn_X3_tokenKind rfl rfl rfl hvX3_tokenKind ⟨Nat.le_of_ble_eq_true rfl, Nat.le_of_ble_eq_true rfl⟩) (preV_of EV_ok hK hP hD (is := [0, 1, 2, 3, 4, 5]) rfl rfl rfl (ci := 3) rfl 0 rfl (e_sub EV_ok hE hS (va_free hD hS hA [0, 1, 2, 3, 4, 5] rfl))) rfl rfl hl.1 rfl (lv_room (Nat.le_of_ble_eq_true rfl)) dX3_readTurn_19 ⟨Nat.le_of_ble_eq_true rfl, Nat.le_of_ble_eq_true rfl⟩) hP hD hS hA [0, 1, 2, 3, 4, 5] [6, 7, 8, 9, 10, 11, 12, 13, 14, 15] [10, 11, 12, 13, 14, 15, 0, 1, 2, 3, 4, 5, 6, 7, 8, 9] rfl rfl rfl (by decide) rfl rfl (fun H locs hP hD hS => ?_)
    refine lv_istore_n (lv' := [(1, .int x_5), (0, .ref (aR 0))]) hx hb dX3_readTurn_22 rfl hl (by decide) rfl (fun ls hl => ?_)
    refine lv_iload_n hx hb dX3_readTurn_23 rfl (lv_at hl 0 rfl) ?_
    refine lv_iconst (v := -1) hx hb dX3_readTurn_24 (by decide) ?_
    refine lv_icmp_ne (tgt := 30) hx hb dX3_readTurn_25 (by decide) (fun hc_8 => ?_) (fun hc_8 => ?_)
    · have hM := it_p hc_8 hM
      refine lv_aload_n hx hb dX3_readTurn_30 rfl (lv_at hl 1 rfl) ?_
      obtain ⟨mR_9, hr_10, hM⟩ := bn_some hM
      refine gv_v (wn := (wR ct aR (aT 0) (aL 0) mR_9 ++ wT ct aT mT ++ wL ct aL mL)) (va_runV (As := []) (rest := []) ⟨hx, hb, hml, hown, hts⟩ (kX3_step l dC dI ct aR aT (aL 0) _ mR_2 mT _ hr_10) (cwV 0 hts gX3_readTurn_X3_step rfl rfl rfl hvX3_step ⟨Nat.le_of_ble_eq_true rfl, Nat.le_of_ble_eq_true rfl⟩) (preV_of E0_ok hK hP hD (is := [0, 1, 2, 3, 4, 5]) rfl rfl rfl (ci := 3) rfl 0 rfl e_0) rfl rfl hl.1 rfl (lv_room (Nat.le_of_ble_eq_true rfl)) dX3_readTurn_31 ⟨Nat.le_of_ble_eq_true rfl, Nat.le_of_ble_eq_true rfl⟩) hP hD hS hA [0, 1, 2, 3, 4, 5] [6, 7, 8, 9, 10, 11, 12, 13, 14, 15] [10, 11, 12, 13, 14, 15, 0, 1, 2, 3, 4, 5, 6, 7, 8, 9] rfl rfl rfl (by decide) rfl rfl (fun H locs hP hD hS => ?_)
      refine lv_aload_n hx hb dX3_readTurn_34 rfl (lv_at hl 1 rfl) ?_
      obtain ⟨x_12, hr_13, hM⟩ := bn_some hM
      refine gv_i (r0 := x_12) (wn := (wR ct aR (aT 0) (aL 0) mR_9 ++ wT ct aT mT ++ wL ct aL mL)) (va_runV (As := []) (rest := []) ⟨hx, hb, hml, hown, hts⟩ (kX3_tokenKind l dC dI ct aR aT (aL 0) adK adV _ mR_9 mT _ hr_13) (cwV 0 hts gX3_readTurn_X3_tokenKind rfl rfl rfl hvX3_tokenKind ⟨Nat.le_of_ble_eq_true rfl, Nat.le_of_ble_eq_true rfl⟩) (preV_of EV_ok hK hP hD (is := [0, 1, 2, 3, 4, 5]) rfl rfl rfl (ci := 3) rfl 0 rfl (e_sub EV_ok hE hS (va_free hD hS hA [0, 1, 2, 3, 4, 5] rfl))) rfl rfl hl.1 rfl (lv_room (Nat.le_of_ble_eq_true rfl)) dX3_readTurn_35 ⟨Nat.le_of_ble_eq_true rfl, Nat.le_of_ble_eq_true rfl⟩) hP hD hS hA [0, 1, 2, 3, 4, 5] [6, 7, 8, 9, 10, 11, 12, 13, 14, 15] [10, 11, 12, 13, 14, 15, 0, 1, 2, 3, 4, 5, 6, 7, 8, 9] rfl rfl rfl (by decide) rfl rfl (fun H locs hP hD hS => ?_)
      refine lv_istore_n (lv' := [(2, .int x_12), (1, .int x_5), (0, .ref (aR 0))]) hx hb dX3_readTurn_38 rfl hl (by decide) rfl (fun ls hl => ?_)
      refine lv_iload_n hx hb dX3_readTurn_39 rfl (lv_at hl 0 rfl) ?_
      refine lv_iconst (v := -1) hx hb dX3_readTurn_40 (by decide) ?_
      refine lv_icmp_eq (tgt := 61) hx hb dX3_readTurn_41 (by decide) (fun hc_15 => ?_) (fun hc_15 => ?_)
      · have hM := it_p hc_15 hM
        refine lv_iconst (v := 0) hx hb dX3_readTurn_61 (by decide) ?_
        have hR := som hM
        rw [hR] at hQ
        exact ret_z hQ hx hb hr hlocks rfl hP hK hD hS dX3_readTurn_62
      · have hM := it_n hc_15 hM
        refine lv_iload_n hx hb dX3_readTurn_44 rfl (lv_at hl 0 rfl) ?_
        refine lv_iload_n hx hb dX3_readTurn_45 rfl (lv_at hl 1 rfl) ?_
        refine lv_icmp_eq (tgt := 61) hx hb dX3_readTurn_46 (by decide) (fun hc_16 => ?_) (fun hc_16 => ?_)
        · have hM := it_p hc_16 hM
          refine lv_iconst (v := 0) hx hb dX3_readTurn_61 (by decide) ?_
          have hR := som hM
          rw [hR] at hQ
          exact ret_z hQ hx hb hr hlocks rfl hP hK hD hS dX3_readTurn_62
        · have hM := it_n hc_16 hM
          refine lv_aload_n hx hb dX3_readTurn_49 rfl (lv_at hl 2 rfl) ?_
          refine va_get (D := (dC, dI)) (ci := 3) (v := .ref (aL 0)) (C := RX3) (T := TX3) (N := 13) hx hb hts iwX3_readTurn_X3 hown hK hP 0 rfl rfl 4 (by decide) (hts _ (List.mem_of_getElem? (i := 1) rfl)) (fun _ h9 => h9) rfl dX3_readTurn_50 ?_
          refine lv_iload_n hx hb dX3_readTurn_53 rfl (lv_at hl 1 rfl) ?_
          refine lv_iload_n hx hb dX3_readTurn_54 rfl (lv_at hl 0 rfl) ?_
          obtain ⟨x_17, hr_18, hM⟩ := bn_some hM
          refine gv_i (r0 := x_17) (wn := (wR ct aR (aT 0) (aL 0) mR_9 ++ wT ct aT mT ++ wL ct aL mL)) (va_runV (As := [.int x_5, .int x_12]) (rest := []) ⟨hx, hb, hml, hown, hts⟩ (kX1_hasTurn l dC dI ct aL _ mL x_5 x_12 _ hr_18) (cwV 2 hts gX3_readTurn_X1_hasTurn rfl rfl rfl hvX1_hasTurn ⟨Nat.le_of_ble_eq_true rfl, Nat.le_of_ble_eq_true rfl⟩) (preV_of E0_ok hK hP hD (is := [6, 7, 8, 9, 10, 11, 12, 13, 14, 15]) rfl rfl rfl (ci := 1) rfl 6 rfl e_0) rfl rfl hl.1 rfl (lv_room (Nat.le_of_ble_eq_true rfl)) dX3_readTurn_55 ⟨Nat.le_of_ble_eq_true rfl, Nat.le_of_ble_eq_true rfl⟩) hP hD hS hA [6, 7, 8, 9, 10, 11, 12, 13, 14, 15] [0, 1, 2, 3, 4, 5] [0, 1, 2, 3, 4, 5, 6, 7, 8, 9, 10, 11, 12, 13, 14, 15] rfl rfl rfl (by decide) rfl rfl (fun H locs hP hD hS => ?_)
          refine lv_if_eq (tgt := 63) hx hb dX3_readTurn_58 (by decide) (fun hc_20 => ?_) (fun hc_20 => ?_)
          · have hM := it_p hc_20 hM
            refine lv_aload_n hx hb dX3_readTurn_63 rfl (lv_at hl 2 rfl) ?_
            obtain ⟨mR_21, hr_22, hM⟩ := bn_some hM
            refine gv_v (wn := (wR ct aR (aT 0) (aL 0) mR_21 ++ wT ct aT mT ++ wL ct aL mL)) (va_runV (As := []) (rest := []) ⟨hx, hb, hml, hown, hts⟩ (kX3_step l dC dI ct aR aT (aL 0) _ mR_9 mT _ hr_22) (cwV 0 hts gX3_readTurn_X3_step rfl rfl rfl hvX3_step ⟨Nat.le_of_ble_eq_true rfl, Nat.le_of_ble_eq_true rfl⟩) (preV_of E0_ok hK hP hD (is := [0, 1, 2, 3, 4, 5]) rfl rfl rfl (ci := 3) rfl 0 rfl e_0) rfl rfl hl.1 rfl (lv_room (Nat.le_of_ble_eq_true rfl)) dX3_readTurn_64 ⟨Nat.le_of_ble_eq_true rfl, Nat.le_of_ble_eq_true rfl⟩) hP hD hS hA [0, 1, 2, 3, 4, 5] [6, 7, 8, 9, 10, 11, 12, 13, 14, 15] [10, 11, 12, 13, 14, 15, 0, 1, 2, 3, 4, 5, 6, 7, 8, 9] rfl rfl rfl (by decide) rfl rfl (fun H locs hP hD hS => ?_)
            refine lv_aload_n hx hb dX3_readTurn_67 rfl (lv_at hl 2 rfl) ?_
            refine lv_iconst (v := 0) hx hb dX3_readTurn_68 (by decide) ?_
            refine lv_bipush (v := 99) hx hb dX3_readTurn_69 (by decide) ?_
            obtain ⟨q_27, hr_26, hM⟩ := bn_some hM
            obtain ⟨x_24, mR_25⟩ := q_27
            have hM := nm_at (y := x_24) rfl hM
            have hM := nm_at (y := mR_25) rfl hM
            refine gv_i (r0 := x_24) (wn := (wR ct aR (aT 0) (aL 0) mR_25 ++ wT ct aT mT ++ wL ct aL mL)) (va_runV (As := [.int (0 : Int32), .int (99 : Int32)]) (rest := []) ⟨hx, hb, hml, hown, hts⟩ (kX3_takeNumber l dC dI ct aR aT (aL 0) adK adV _ mR_21 mT (0 : Int32) (99 : Int32) _ hr_26) (cwV 2 hts gX3_readTurn_X3_takeNumber rfl rfl rfl hvX3_takeNumber ⟨Nat.le_of_ble_eq_true rfl, Nat.le_of_ble_eq_true rfl⟩) (preV_of EV_ok hK hP hD (is := [0, 1, 2, 3, 4, 5]) rfl rfl rfl (ci := 3) rfl 0 rfl (e_sub EV_ok hE hS (va_free hD hS hA [0, 1, 2, 3, 4, 5] rfl))) rfl rfl hl.1 rfl (lv_room (Nat.le_of_ble_eq_true rfl)) dX3_readTurn_71 ⟨Nat.le_of_ble_eq_true rfl, Nat.le_of_ble_eq_true rfl⟩) hP hD hS hA [0, 1, 2, 3, 4, 5] [6, 7, 8, 9, 10, 11, 12, 13, 14, 15] [10, 11, 12, 13, 14, 15, 0, 1, 2, 3, 4, 5, 6, 7, 8, 9] rfl rfl rfl (by decide) rfl rfl (fun H locs hP hD hS => ?_)
            refine lv_if_ne (tgt := 79) hx hb dX3_readTurn_74 (by decide) (fun hc_28 => ?_) (fun hc_28 => ?_)
            · have hM := it_p hc_28 hM
              refine lv_aload_n hx hb dX3_readTurn_79 rfl (lv_at hl 2 rfl) ?_
              refine va_get (D := (dC, dI)) (ci := 3) (v := .ref (aL 0)) (C := RX3) (T := TX3) (N := 13) hx hb hts iwX3_readTurn_X3 hown hK hP 0 rfl rfl 4 (by decide) (hts _ (List.mem_of_getElem? (i := 1) rfl)) (fun _ h9 => h9) rfl dX3_readTurn_80 ?_
              refine lv_iload_n hx hb dX3_readTurn_83 rfl (lv_at hl 1 rfl) ?_
              refine lv_iload_n hx hb dX3_readTurn_84 rfl (lv_at hl 0 rfl) ?_
              refine lv_aload_n hx hb dX3_readTurn_85 rfl (lv_at hl 2 rfl) ?_
              refine va_get (D := (dC, dI)) (ci := 3) (v := .int (mR_25 0 9)) (C := RX3) (T := TX3) (N := 13) hx hb hts iwX3_readTurn_X3 hown hK hP 0 rfl rfl 9 (by decide) (hts _ (List.mem_of_getElem? (i := 3) rfl)) (fun _ h9 => h9) rfl dX3_readTurn_86 ?_
              obtain ⟨mL_29, hr_30, hM⟩ := bn_some hM
              refine gv_v (wn := (wR ct aR (aT 0) (aL 0) mR_25 ++ wT ct aT mT ++ wL ct aL mL_29)) (va_runV (As := [.int x_5, .int x_12, .int (mR_25 0 9)]) (rest := []) ⟨hx, hb, hml, hown, hts⟩ (kX1_addTurn l dC dI ct aL _ mL x_5 x_12 (mR_25 0 9) _ hr_30) (cwV 3 hts gX3_readTurn_X1_addTurn rfl rfl rfl hvX1_addTurn ⟨Nat.le_of_ble_eq_true rfl, Nat.le_of_ble_eq_true rfl⟩) (preV_of E0_ok hK hP hD (is := [6, 7, 8, 9, 10, 11, 12, 13, 14, 15]) rfl rfl rfl (ci := 1) rfl 6 rfl e_0) rfl rfl hl.1 rfl (lv_room (Nat.le_of_ble_eq_true rfl)) dX3_readTurn_89 ⟨Nat.le_of_ble_eq_true rfl, Nat.le_of_ble_eq_true rfl⟩) hP hD hS hA [6, 7, 8, 9, 10, 11, 12, 13, 14, 15] [0, 1, 2, 3, 4, 5] [0, 1, 2, 3, 4, 5, 6, 7, 8, 9, 10, 11, 12, 13, 14, 15] rfl rfl rfl (by decide) rfl rfl (fun H locs hP hD hS => ?_)
              refine lv_aload_n hx hb dX3_readTurn_92 rfl (lv_at hl 2 rfl) ?_
              obtain ⟨q_35, hr_34, hM⟩ := bn_some hM
              obtain ⟨x_32, mR_33⟩ := q_35
              have hM := nm_at (y := x_32) rfl hM
              have hM := nm_at (y := mR_33) rfl hM
              refine gv_i (r0 := x_32) (wn := (wR ct aR (aT 0) (aL 0) mR_33 ++ wT ct aT mT ++ wL ct aL mL_29)) (va_runV (As := []) (rest := []) ⟨hx, hb, hml, hown, hts⟩ (kX3_takeStop l dC dI ct aR aT (aL 0) _ mR_25 mT _ hr_34) (cwV 0 hts gX3_readTurn_X3_takeStop rfl rfl rfl hvX3_takeStop ⟨Nat.le_of_ble_eq_true rfl, Nat.le_of_ble_eq_true rfl⟩) (preV_of E0_ok hK hP hD (is := [0, 1, 2, 3, 4, 5]) rfl rfl rfl (ci := 3) rfl 0 rfl e_0) rfl rfl hl.1 rfl (lv_room (Nat.le_of_ble_eq_true rfl)) dX3_readTurn_93 ⟨Nat.le_of_ble_eq_true rfl, Nat.le_of_ble_eq_true rfl⟩) hP hD hS hA [0, 1, 2, 3, 4, 5] [6, 7, 8, 9, 10, 11, 12, 13, 14, 15] [10, 11, 12, 13, 14, 15, 0, 1, 2, 3, 4, 5, 6, 7, 8, 9] rfl rfl rfl (by decide) rfl rfl (fun H locs hP hD hS => ?_)
              obtain ⟨hbz, hM⟩ := gb_some hM
              have hR := som hM
              rw [hR] at hQ
              exact ret_z hQ hx hb hr hlocks hbz hP hK hD hS dX3_readTurn_96
            · have hM := it_nn hc_28 hM
              refine lv_iconst (v := 0) hx hb dX3_readTurn_77 (by decide) ?_
              have hR := som hM
              rw [hR] at hQ
              exact ret_z hQ hx hb hr hlocks rfl hP hK hD hS dX3_readTurn_78
          · have hM := it_n hc_20 hM
            refine lv_iconst (v := 0) hx hb dX3_readTurn_61 (by decide) ?_
            have hR := som hM
            rw [hR] at hQ
            exact ret_z hQ hx hb hr hlocks rfl hP hK hD hS dX3_readTurn_62
    · have hM := it_nn hc_8 hM
      refine lv_iconst (v := 0) hx hb dX3_readTurn_28 (by decide) ?_
      have hR := som hM
      rw [hR] at hQ
      exact ret_z hQ hx hb hr hlocks rfl hP hK hD hS dX3_readTurn_29
  · have hM := it_n hc_1 hM
    refine lv_iconst (v := 0) hx hb dX3_readTurn_12 (by decide) ?_
    have hR := som hM
    rw [hR] at hQ
    exact ret_z hQ hx hb hr hlocks rfl hP hK hD hS dX3_readTurn_13
abbrev rmX3_readLine : Room := { frames := 8, cells := 0, slots := 0, locals := 170 }
set_option maxHeartbeats 4000000 in
set_option maxRecDepth 100000 in
theorem kX3_readLine (l : Launch) (dC : Nat → ClassId) (dI : Nat → Nat → Nat) (ct : Nat → ClassId) (aR : Nat → Nat) (aT : Nat → Nat) (aL : Nat → Nat) (adK adV : Nat → Nat) (sz : Nat) (mR : Mem) (mT : Mem) (mL : Mem) (res : (Int32 × Mem × Mem)) (hM : mX3_readLine mR mT mL = some res) : Met l yX3_readLine wsX3_readLine rmX3_readLine (va_Pc [.ref (aR 0)] (PB (dC, dI) ct (EV adK adV) sz (wR ct aR (aT 0) (aL 0) mR ++ wT ct aT mT ++ wL ct aL mL))) (Qi (dC, dI) ct (va_A (wR ct aR (aT 0) (aL 0) mR ++ wT ct aT mT ++ wL ct aL mL) sz) res.1 (wR ct aR (aT 0) (aL 0) res.2.1 ++ wT ct aT mT ++ wL ct aL res.2.2)) 0 0 (va_A (wR ct aR (aT 0) (aL 0) mR ++ wT ct aT mT ++ wL ct aL mL) sz) := by
  refine Met.ofW (cc := cX3_readLine) (maxL := 1) (ret := (some .boolean)) (by decide) rfl ?_
  intro p e s m args below meth c s₁ B hml hv
  obtain ⟨hargs, hsz, hP, hK, hD0, hE⟩ := hv
  have hx := B.exec
  have hb := B.bytes
  have hr := B.returns
  have hts := atoms_spec (ws := wsX3_readLine) B.pre
  have hown : s.vm.findClass RX3 = some m.cls := findClass_of_methodNamed B.named
  have hlocks := B.notSynchronized
  clear B s₁
  subst hsz
  have hD := hD0.self (sz := s.heap.size)
  clear hD0
  generalize hAe : va_A (wR ct aR (aT 0) (aL 0) mR ++ wT ct aT mT ++ wL ct aL mL) s.heap.size = A at hD hE ⊢
  have hA : ∀ q : Nat, s.heap.size ≤ q → A q := fun q h => by rw [← hAe]; exact Or.inr h
  clear hAe
  have hS : va_S A s.heap s.heap [] := va_S.rf
  refine cutQ (fun Q hQ => ?_)
  refine entryW (vs := [.ref (aR 0)]) hargs (Nat.le_of_ble_eq_true rfl) (fun ls hl => ?_)
  replace hl : lv_has ls 1 [(0, .ref (aR 0))] := hl
  unfold mX3_readLine at hM
  refine lv_aload_n hx hb dX3_readLine_0 rfl (lv_at hl 0 rfl) ?_
  refine va_ldcS hx hb hown (show vk_R RX3 75 "moon" (adK 0) s from hE.2.1 0 (by decide)) dX3_readLine_1 ?_
  obtain ⟨x_1, hr_2, hM⟩ := bn_some hM
  refine gv_i (r0 := x_1) (wn := (wR ct aR (aT 0) (aL 0) mR ++ wT ct aT mT ++ wL ct aL mL)) (va_runV (As := [.ref (adK 0)]) (rest := []) ⟨hx, hb, hml, hown, hts⟩ (kX3_tokenIs l dC dI ct aR aT (aL 0) adK adV _ mR mT 0 _ hr_2) (cwV 1 hts gX3_readLine_X3_tokenIs rfl rfl rfl hvX3_tokenIs ⟨Nat.le_of_ble_eq_true rfl, Nat.le_of_ble_eq_true rfl⟩) (preV_of EV_ok hK hP hD (is := [0, 1, 2, 3, 4, 5]) rfl rfl rfl (ci := 3) rfl 0 rfl (e_sub EV_ok hE hS (va_free hD hS hA [0, 1, 2, 3, 4, 5] rfl))) rfl rfl hl.1 rfl (lv_room (Nat.le_of_ble_eq_true rfl)) dX3_readLine_3 ⟨Nat.le_of_ble_eq_true rfl, Nat.le_of_ble_eq_true rfl⟩) hP hD hS hA [0, 1, 2, 3, 4, 5] [6, 7, 8, 9, 10, 11, 12, 13, 14, 15] [10, 11, 12, 13, 14, 15, 0, 1, 2, 3, 4, 5, 6, 7, 8, 9] rfl rfl rfl (by decide) rfl rfl (fun H locs hP hD hS => ?_)
  refine lv_if_eq (tgt := 14) hx hb dX3_readLine_6 (by decide) (fun hc_4 => ?_) (fun hc_4 => ?_)
  · have hM := it_p hc_4 hM
    refine lv_aload_n hx hb dX3_readLine_14 rfl (lv_at hl 0 rfl) ?_
    refine va_ldcS hx hb hown (show vk_R RX3 84 "strike" (adK 1) s from hE.2.1 1 (by decide)) dX3_readLine_15 ?_
    obtain ⟨x_5, hr_6, hM⟩ := bn_some hM
    refine gv_i (r0 := x_5) (wn := (wR ct aR (aT 0) (aL 0) mR ++ wT ct aT mT ++ wL ct aL mL)) (va_runV (As := [.ref (adK 1)]) (rest := []) ⟨hx, hb, hml, hown, hts⟩ (kX3_tokenIs l dC dI ct aR aT (aL 0) adK adV _ mR mT 1 _ hr_6) (cwV 1 hts gX3_readLine_X3_tokenIs rfl rfl rfl hvX3_tokenIs ⟨Nat.le_of_ble_eq_true rfl, Nat.le_of_ble_eq_true rfl⟩) (preV_of EV_ok hK hP hD (is := [0, 1, 2, 3, 4, 5]) rfl rfl rfl (ci := 3) rfl 0 rfl (e_sub EV_ok hE hS (va_free hD hS hA [0, 1, 2, 3, 4, 5] rfl))) rfl rfl hl.1 rfl (lv_room (Nat.le_of_ble_eq_true rfl)) dX3_readLine_17 ⟨Nat.le_of_ble_eq_true rfl, Nat.le_of_ble_eq_true rfl⟩) hP hD hS hA [0, 1, 2, 3, 4, 5] [6, 7, 8, 9, 10, 11, 12, 13, 14, 15] [10, 11, 12, 13, 14, 15, 0, 1, 2, 3, 4, 5, 6, 7, 8, 9] rfl rfl rfl (by decide) rfl rfl (fun H locs hP hD hS => ?_)
    refine lv_if_eq (tgt := 28) hx hb dX3_readLine_20 (by decide) (fun hc_8 => ?_) (fun hc_8 => ?_)
    · have hM := it_p hc_8 hM
      refine lv_aload_n hx hb dX3_readLine_28 rfl (lv_at hl 0 rfl) ?_
      refine va_ldcS hx hb hown (show vk_R RX3 89 "wait" (adK 2) s from hE.2.1 2 (by decide)) dX3_readLine_29 ?_
      obtain ⟨x_9, hr_10, hM⟩ := bn_some hM
      refine gv_i (r0 := x_9) (wn := (wR ct aR (aT 0) (aL 0) mR ++ wT ct aT mT ++ wL ct aL mL)) (va_runV (As := [.ref (adK 2)]) (rest := []) ⟨hx, hb, hml, hown, hts⟩ (kX3_tokenIs l dC dI ct aR aT (aL 0) adK adV _ mR mT 2 _ hr_10) (cwV 1 hts gX3_readLine_X3_tokenIs rfl rfl rfl hvX3_tokenIs ⟨Nat.le_of_ble_eq_true rfl, Nat.le_of_ble_eq_true rfl⟩) (preV_of EV_ok hK hP hD (is := [0, 1, 2, 3, 4, 5]) rfl rfl rfl (ci := 3) rfl 0 rfl (e_sub EV_ok hE hS (va_free hD hS hA [0, 1, 2, 3, 4, 5] rfl))) rfl rfl hl.1 rfl (lv_room (Nat.le_of_ble_eq_true rfl)) dX3_readLine_31 ⟨Nat.le_of_ble_eq_true rfl, Nat.le_of_ble_eq_true rfl⟩) hP hD hS hA [0, 1, 2, 3, 4, 5] [6, 7, 8, 9, 10, 11, 12, 13, 14, 15] [10, 11, 12, 13, 14, 15, 0, 1, 2, 3, 4, 5, 6, 7, 8, 9] rfl rfl rfl (by decide) rfl rfl (fun H locs hP hD hS => ?_)
      refine lv_if_eq (tgt := 42) hx hb dX3_readLine_34 (by decide) (fun hc_12 => ?_) (fun hc_12 => ?_)
      · have hM := it_p hc_12 hM
        refine lv_aload_n hx hb dX3_readLine_42 rfl (lv_at hl 0 rfl) ?_
        refine va_ldcS hx hb hown (show vk_R RX3 94 "sort" (adK 3) s from hE.2.1 3 (by decide)) dX3_readLine_43 ?_
        obtain ⟨x_13, hr_14, hM⟩ := bn_some hM
        refine gv_i (r0 := x_13) (wn := (wR ct aR (aT 0) (aL 0) mR ++ wT ct aT mT ++ wL ct aL mL)) (va_runV (As := [.ref (adK 3)]) (rest := []) ⟨hx, hb, hml, hown, hts⟩ (kX3_tokenIs l dC dI ct aR aT (aL 0) adK adV _ mR mT 3 _ hr_14) (cwV 1 hts gX3_readLine_X3_tokenIs rfl rfl rfl hvX3_tokenIs ⟨Nat.le_of_ble_eq_true rfl, Nat.le_of_ble_eq_true rfl⟩) (preV_of EV_ok hK hP hD (is := [0, 1, 2, 3, 4, 5]) rfl rfl rfl (ci := 3) rfl 0 rfl (e_sub EV_ok hE hS (va_free hD hS hA [0, 1, 2, 3, 4, 5] rfl))) rfl rfl hl.1 rfl (lv_room (Nat.le_of_ble_eq_true rfl)) dX3_readLine_45 ⟨Nat.le_of_ble_eq_true rfl, Nat.le_of_ble_eq_true rfl⟩) hP hD hS hA [0, 1, 2, 3, 4, 5] [6, 7, 8, 9, 10, 11, 12, 13, 14, 15] [10, 11, 12, 13, 14, 15, 0, 1, 2, 3, 4, 5, 6, 7, 8, 9] rfl rfl rfl (by decide) rfl rfl (fun H locs hP hD hS => ?_)
        refine lv_if_eq (tgt := 56) hx hb dX3_readLine_48 (by decide) (fun hc_16 => ?_) (fun hc_16 => ?_)
        · have hM := it_p hc_16 hM
          refine lv_aload_n hx hb dX3_readLine_56 rfl (lv_at hl 0 rfl) ?_
          refine va_ldcS hx hb hown (show vk_R RX3 99 "spare" (adK 4) s from hE.2.1 4 (by decide)) dX3_readLine_57 ?_
          obtain ⟨x_17, hr_18, hM⟩ := bn_some hM
          refine gv_i (r0 := x_17) (wn := (wR ct aR (aT 0) (aL 0) mR ++ wT ct aT mT ++ wL ct aL mL)) (va_runV (As := [.ref (adK 4)]) (rest := []) ⟨hx, hb, hml, hown, hts⟩ (kX3_tokenIs l dC dI ct aR aT (aL 0) adK adV _ mR mT 4 _ hr_18) (cwV 1 hts gX3_readLine_X3_tokenIs rfl rfl rfl hvX3_tokenIs ⟨Nat.le_of_ble_eq_true rfl, Nat.le_of_ble_eq_true rfl⟩) (preV_of EV_ok hK hP hD (is := [0, 1, 2, 3, 4, 5]) rfl rfl rfl (ci := 3) rfl 0 rfl (e_sub EV_ok hE hS (va_free hD hS hA [0, 1, 2, 3, 4, 5] rfl))) rfl rfl hl.1 rfl (lv_room (Nat.le_of_ble_eq_true rfl)) dX3_readLine_59 ⟨Nat.le_of_ble_eq_true rfl, Nat.le_of_ble_eq_true rfl⟩) hP hD hS hA [0, 1, 2, 3, 4, 5] [6, 7, 8, 9, 10, 11, 12, 13, 14, 15] [10, 11, 12, 13, 14, 15, 0, 1, 2, 3, 4, 5, 6, 7, 8, 9] rfl rfl rfl (by decide) rfl rfl (fun H locs hP hD hS => ?_)
          refine lv_if_eq (tgt := 70) hx hb dX3_readLine_62 (by decide) (fun hc_20 => ?_) (fun hc_20 => ?_)
          · have hM := it_p hc_20 hM
            refine lv_aload_n hx hb dX3_readLine_70 rfl (lv_at hl 0 rfl) ?_
            refine va_ldcS hx hb hown (show vk_R RX3 104 "turn" (adK 5) s from hE.2.1 5 (by decide)) dX3_readLine_71 ?_
            obtain ⟨x_21, hr_22, hM⟩ := bn_some hM
            refine gv_i (r0 := x_21) (wn := (wR ct aR (aT 0) (aL 0) mR ++ wT ct aT mT ++ wL ct aL mL)) (va_runV (As := [.ref (adK 5)]) (rest := []) ⟨hx, hb, hml, hown, hts⟩ (kX3_tokenIs l dC dI ct aR aT (aL 0) adK adV _ mR mT 5 _ hr_22) (cwV 1 hts gX3_readLine_X3_tokenIs rfl rfl rfl hvX3_tokenIs ⟨Nat.le_of_ble_eq_true rfl, Nat.le_of_ble_eq_true rfl⟩) (preV_of EV_ok hK hP hD (is := [0, 1, 2, 3, 4, 5]) rfl rfl rfl (ci := 3) rfl 0 rfl (e_sub EV_ok hE hS (va_free hD hS hA [0, 1, 2, 3, 4, 5] rfl))) rfl rfl hl.1 rfl (lv_room (Nat.le_of_ble_eq_true rfl)) dX3_readLine_73 ⟨Nat.le_of_ble_eq_true rfl, Nat.le_of_ble_eq_true rfl⟩) hP hD hS hA [0, 1, 2, 3, 4, 5] [6, 7, 8, 9, 10, 11, 12, 13, 14, 15] [10, 11, 12, 13, 14, 15, 0, 1, 2, 3, 4, 5, 6, 7, 8, 9] rfl rfl rfl (by decide) rfl rfl (fun H locs hP hD hS => ?_)
            refine lv_if_eq (tgt := 90) hx hb dX3_readLine_76 (by decide) (fun hc_24 => ?_) (fun hc_24 => ?_)
            · have hM := it_p hc_24 hM
              refine lv_iconst (v := 0) hx hb dX3_readLine_90 (by decide) ?_
              have hR := som hM
              rw [hR] at hQ
              exact ret_z hQ hx hb hr hlocks rfl hP hK hD hS dX3_readLine_91
            · have hM := it_n hc_24 hM
              refine lv_aload_n hx hb dX3_readLine_79 rfl (lv_at hl 0 rfl) ?_
              obtain ⟨q_29, hr_28, hM⟩ := bn_some hM
              obtain ⟨x_25, mR_26, mL_27⟩ := q_29
              have hM := nm_at (y := x_25) rfl hM
              have hM := nm_at (y := mR_26) rfl hM
              have hM := nm_at (y := mL_27) rfl hM
              refine gv_i (r0 := x_25) (wn := (wR ct aR (aT 0) (aL 0) mR_26 ++ wT ct aT mT ++ wL ct aL mL_27)) (va_runV (As := []) (rest := []) ⟨hx, hb, hml, hown, hts⟩ (kX3_readTurn l dC dI ct aR aT aL adK adV _ mR mT mL _ hr_28) (cwV 0 hts gX3_readLine_X3_readTurn rfl rfl rfl hvX3_readTurn ⟨Nat.le_of_ble_eq_true rfl, Nat.le_of_ble_eq_true rfl⟩) (preV_of EV_ok hK hP hD (is := [0, 1, 2, 3, 4, 5, 6, 7, 8, 9, 10, 11, 12, 13, 14, 15]) rfl rfl rfl (ci := 3) rfl 0 rfl (e_sub EV_ok hE hS (va_free hD hS hA [0, 1, 2, 3, 4, 5, 6, 7, 8, 9, 10, 11, 12, 13, 14, 15] rfl))) rfl rfl hl.1 rfl (lv_room (Nat.le_of_ble_eq_true rfl)) dX3_readLine_80 ⟨Nat.le_of_ble_eq_true rfl, Nat.le_of_ble_eq_true rfl⟩) hP hD hS hA [0, 1, 2, 3, 4, 5, 6, 7, 8, 9, 10, 11, 12, 13, 14, 15] [] [0, 1, 2, 3, 4, 5, 6, 7, 8, 9, 10, 11, 12, 13, 14, 15] rfl rfl rfl (by decide) rfl rfl (fun H locs hP hD hS => ?_)
              refine lv_if_eq (tgt := 90) hx hb dX3_readLine_83 (by decide) (fun hc_30 => ?_) (fun hc_30 => ?_)
              · have hM := it_p hc_30 hM
                refine lv_iconst (v := 0) hx hb dX3_readLine_90 (by decide) ?_
                have hR := som hM
                rw [hR] at hQ
                exact ret_z hQ hx hb hr hlocks rfl hP hK hD hS dX3_readLine_91
              · have hM := it_n hc_30 hM
                refine lv_iconst (v := 1) hx hb dX3_readLine_86 (by decide) ?_
                refine lv_goto (tgt := 91) hx hb dX3_readLine_87 (by decide) ?_
                have hR := som hM
                rw [hR] at hQ
                exact ret_z hQ hx hb hr hlocks rfl hP hK hD hS dX3_readLine_91
          · have hM := it_n hc_20 hM
            refine lv_aload_n hx hb dX3_readLine_65 rfl (lv_at hl 0 rfl) ?_
            obtain ⟨q_35, hr_34, hM⟩ := bn_some hM
            obtain ⟨x_31, mR_32, mL_33⟩ := q_35
            have hM := nm_at (y := x_31) rfl hM
            have hM := nm_at (y := mR_32) rfl hM
            have hM := nm_at (y := mL_33) rfl hM
            refine gv_i (r0 := x_31) (wn := (wR ct aR (aT 0) (aL 0) mR_32 ++ wT ct aT mT ++ wL ct aL mL_33)) (va_runV (As := []) (rest := []) ⟨hx, hb, hml, hown, hts⟩ (kX3_readSpare l dC dI ct aR aT aL adK adV _ mR mT mL _ hr_34) (cwV 0 hts gX3_readLine_X3_readSpare rfl rfl rfl hvX3_readSpare ⟨Nat.le_of_ble_eq_true rfl, Nat.le_of_ble_eq_true rfl⟩) (preV_of EV_ok hK hP hD (is := [0, 1, 2, 3, 4, 5, 6, 7, 8, 9, 10, 11, 12, 13, 14, 15]) rfl rfl rfl (ci := 3) rfl 0 rfl (e_sub EV_ok hE hS (va_free hD hS hA [0, 1, 2, 3, 4, 5, 6, 7, 8, 9, 10, 11, 12, 13, 14, 15] rfl))) rfl rfl hl.1 rfl (lv_room (Nat.le_of_ble_eq_true rfl)) dX3_readLine_66 ⟨Nat.le_of_ble_eq_true rfl, Nat.le_of_ble_eq_true rfl⟩) hP hD hS hA [0, 1, 2, 3, 4, 5, 6, 7, 8, 9, 10, 11, 12, 13, 14, 15] [] [0, 1, 2, 3, 4, 5, 6, 7, 8, 9, 10, 11, 12, 13, 14, 15] rfl rfl rfl (by decide) rfl rfl (fun H locs hP hD hS => ?_)
            obtain ⟨hbz, hM⟩ := gb_some hM
            have hR := som hM
            rw [hR] at hQ
            exact ret_z hQ hx hb hr hlocks hbz hP hK hD hS dX3_readLine_69
        · have hM := it_n hc_16 hM
          refine lv_aload_n hx hb dX3_readLine_51 rfl (lv_at hl 0 rfl) ?_
          obtain ⟨q_40, hr_39, hM⟩ := bn_some hM
          obtain ⟨x_36, mR_37, mL_38⟩ := q_40
          have hM := nm_at (y := x_36) rfl hM
          have hM := nm_at (y := mR_37) rfl hM
          have hM := nm_at (y := mL_38) rfl hM
          refine gv_i (r0 := x_36) (wn := (wR ct aR (aT 0) (aL 0) mR_37 ++ wT ct aT mT ++ wL ct aL mL_38)) (va_runV (As := []) (rest := []) ⟨hx, hb, hml, hown, hts⟩ (kX3_readSort l dC dI ct aR aT aL adK adV _ mR mT mL _ hr_39) (cwV 0 hts gX3_readLine_X3_readSort rfl rfl rfl hvX3_readSort ⟨Nat.le_of_ble_eq_true rfl, Nat.le_of_ble_eq_true rfl⟩) (preV_of EV_ok hK hP hD (is := [0, 1, 2, 3, 4, 5, 6, 7, 8, 9, 10, 11, 12, 13, 14, 15]) rfl rfl rfl (ci := 3) rfl 0 rfl (e_sub EV_ok hE hS (va_free hD hS hA [0, 1, 2, 3, 4, 5, 6, 7, 8, 9, 10, 11, 12, 13, 14, 15] rfl))) rfl rfl hl.1 rfl (lv_room (Nat.le_of_ble_eq_true rfl)) dX3_readLine_52 ⟨Nat.le_of_ble_eq_true rfl, Nat.le_of_ble_eq_true rfl⟩) hP hD hS hA [0, 1, 2, 3, 4, 5, 6, 7, 8, 9, 10, 11, 12, 13, 14, 15] [] [0, 1, 2, 3, 4, 5, 6, 7, 8, 9, 10, 11, 12, 13, 14, 15] rfl rfl rfl (by decide) rfl rfl (fun H locs hP hD hS => ?_)
          obtain ⟨hbz, hM⟩ := gb_some hM
          have hR := som hM
          rw [hR] at hQ
          exact ret_z hQ hx hb hr hlocks hbz hP hK hD hS dX3_readLine_55
      · have hM := it_n hc_12 hM
        refine lv_aload_n hx hb dX3_readLine_37 rfl (lv_at hl 0 rfl) ?_
        obtain ⟨q_45, hr_44, hM⟩ := bn_some hM
        obtain ⟨x_41, mR_42, mL_43⟩ := q_45
        have hM := nm_at (y := x_41) rfl hM
        have hM := nm_at (y := mR_42) rfl hM
        have hM := nm_at (y := mL_43) rfl hM
        refine gv_i (r0 := x_41) (wn := (wR ct aR (aT 0) (aL 0) mR_42 ++ wT ct aT mT ++ wL ct aL mL_43)) (va_runV (As := []) (rest := []) ⟨hx, hb, hml, hown, hts⟩ (kX3_readWait l dC dI ct aR aT aL adK adV _ mR mT mL _ hr_44) (cwV 0 hts gX3_readLine_X3_readWait rfl rfl rfl hvX3_readWait ⟨Nat.le_of_ble_eq_true rfl, Nat.le_of_ble_eq_true rfl⟩) (preV_of EV_ok hK hP hD (is := [0, 1, 2, 3, 4, 5, 6, 7, 8, 9, 10, 11, 12, 13, 14, 15]) rfl rfl rfl (ci := 3) rfl 0 rfl (e_sub EV_ok hE hS (va_free hD hS hA [0, 1, 2, 3, 4, 5, 6, 7, 8, 9, 10, 11, 12, 13, 14, 15] rfl))) rfl rfl hl.1 rfl (lv_room (Nat.le_of_ble_eq_true rfl)) dX3_readLine_38 ⟨Nat.le_of_ble_eq_true rfl, Nat.le_of_ble_eq_true rfl⟩) hP hD hS hA [0, 1, 2, 3, 4, 5, 6, 7, 8, 9, 10, 11, 12, 13, 14, 15] [] [0, 1, 2, 3, 4, 5, 6, 7, 8, 9, 10, 11, 12, 13, 14, 15] rfl rfl rfl (by decide) rfl rfl (fun H locs hP hD hS => ?_)
        obtain ⟨hbz, hM⟩ := gb_some hM
        have hR := som hM
        rw [hR] at hQ
        exact ret_z hQ hx hb hr hlocks hbz hP hK hD hS dX3_readLine_41
    · have hM := it_n hc_8 hM
      refine lv_aload_n hx hb dX3_readLine_23 rfl (lv_at hl 0 rfl) ?_
      obtain ⟨q_50, hr_49, hM⟩ := bn_some hM
      obtain ⟨x_46, mR_47, mL_48⟩ := q_50
      have hM := nm_at (y := x_46) rfl hM
      have hM := nm_at (y := mR_47) rfl hM
      have hM := nm_at (y := mL_48) rfl hM
      refine gv_i (r0 := x_46) (wn := (wR ct aR (aT 0) (aL 0) mR_47 ++ wT ct aT mT ++ wL ct aL mL_48)) (va_runV (As := []) (rest := []) ⟨hx, hb, hml, hown, hts⟩ (kX3_readStrike l dC dI ct aR aT aL adK adV _ mR mT mL _ hr_49) (cwV 0 hts gX3_readLine_X3_readStrike rfl rfl rfl hvX3_readStrike ⟨Nat.le_of_ble_eq_true rfl, Nat.le_of_ble_eq_true rfl⟩) (preV_of EV_ok hK hP hD (is := [0, 1, 2, 3, 4, 5, 6, 7, 8, 9, 10, 11, 12, 13, 14, 15]) rfl rfl rfl (ci := 3) rfl 0 rfl (e_sub EV_ok hE hS (va_free hD hS hA [0, 1, 2, 3, 4, 5, 6, 7, 8, 9, 10, 11, 12, 13, 14, 15] rfl))) rfl rfl hl.1 rfl (lv_room (Nat.le_of_ble_eq_true rfl)) dX3_readLine_24 ⟨Nat.le_of_ble_eq_true rfl, Nat.le_of_ble_eq_true rfl⟩) hP hD hS hA [0, 1, 2, 3, 4, 5, 6, 7, 8, 9, 10, 11, 12, 13, 14, 15] [] [0, 1, 2, 3, 4, 5, 6, 7, 8, 9, 10, 11, 12, 13, 14, 15] rfl rfl rfl (by decide) rfl rfl (fun H locs hP hD hS => ?_)
      obtain ⟨hbz, hM⟩ := gb_some hM
      have hR := som hM
      rw [hR] at hQ
      exact ret_z hQ hx hb hr hlocks hbz hP hK hD hS dX3_readLine_27
  · have hM := it_n hc_4 hM
    refine lv_aload_n hx hb dX3_readLine_9 rfl (lv_at hl 0 rfl) ?_
    obtain ⟨q_55, hr_54, hM⟩ := bn_some hM
    obtain ⟨x_51, mR_52, mL_53⟩ := q_55
    have hM := nm_at (y := x_51) rfl hM
    have hM := nm_at (y := mR_52) rfl hM
    have hM := nm_at (y := mL_53) rfl hM
    refine gv_i (r0 := x_51) (wn := (wR ct aR (aT 0) (aL 0) mR_52 ++ wT ct aT mT ++ wL ct aL mL_53)) (va_runV (As := []) (rest := []) ⟨hx, hb, hml, hown, hts⟩ (kX3_readMoon l dC dI ct aR aT aL adK adV _ mR mT mL _ hr_54) (cwV 0 hts gX3_readLine_X3_readMoon rfl rfl rfl hvX3_readMoon ⟨Nat.le_of_ble_eq_true rfl, Nat.le_of_ble_eq_true rfl⟩) (preV_of EV_ok hK hP hD (is := [0, 1, 2, 3, 4, 5, 6, 7, 8, 9, 10, 11, 12, 13, 14, 15]) rfl rfl rfl (ci := 3) rfl 0 rfl (e_sub EV_ok hE hS (va_free hD hS hA [0, 1, 2, 3, 4, 5, 6, 7, 8, 9, 10, 11, 12, 13, 14, 15] rfl))) rfl rfl hl.1 rfl (lv_room (Nat.le_of_ble_eq_true rfl)) dX3_readLine_10 ⟨Nat.le_of_ble_eq_true rfl, Nat.le_of_ble_eq_true rfl⟩) hP hD hS hA [0, 1, 2, 3, 4, 5, 6, 7, 8, 9, 10, 11, 12, 13, 14, 15] [] [0, 1, 2, 3, 4, 5, 6, 7, 8, 9, 10, 11, 12, 13, 14, 15] rfl rfl rfl (by decide) rfl rfl (fun H locs hP hD hS => ?_)
    obtain ⟨hbz, hM⟩ := gb_some hM
    have hR := som hM
    rw [hR] at hQ
    exact ret_z hQ hx hb hr hlocks hbz hP hK hD hS dX3_readLine_13
abbrev rmX3_read : Room := { frames := 9, cells := 0, slots := 0, locals := 190 }
theorem iwX3_read_X1 : ∀ w ∈ wsX10, w ∈ wsX3_read := fun _ h => List.mem_cons_of_mem _ (List.mem_append_left _ (List.mem_append_right _ (h)))
theorem iwX3_read_X3 : ∀ w ∈ wsX30, w ∈ wsX3_read := fun _ h => List.mem_cons_of_mem _ (List.mem_append_left _ (List.mem_append_left _ (List.mem_append_right _ (h))))
theorem iwX3_read_X5 : ∀ w ∈ wsX50, w ∈ wsX3_read := fun _ h => List.mem_cons_of_mem _ (List.mem_append_right _ (h))
set_option maxHeartbeats 4000000 in
set_option maxRecDepth 100000 in
theorem kX3_read (l : Launch) (dC : Nat → ClassId) (dI : Nat → Nat → Nat) (ct : Nat → ClassId) (aR : Nat → Nat) (aT : Nat → Nat) (aL : Nat → Nat) (xR_land : Nat) (adK adV : Nat → Nat) (sz : Nat) (mR : Mem) (mT : Mem) (mL : Mem) (res : (Int32 × Mem × Mem)) (hM : mX3_read mR mT mL = some res) : Met l yX3_read wsX3_read rmX3_read (va_Pc [.ref (aR 0), .ref (aL 0)] (PB (dC, dI) ct (EV adK adV) sz (wR ct aR (aT 0) xR_land mR ++ wT ct aT mT ++ wL ct aL mL))) (Qi (dC, dI) ct (va_A (wR ct aR (aT 0) xR_land mR ++ wT ct aT mT ++ wL ct aL mL) sz) res.1 (wR ct aR (aT 0) (aL 0) res.2.1 ++ wT ct aT mT ++ wL ct aL res.2.2)) 0 0 (va_A (wR ct aR (aT 0) xR_land mR ++ wT ct aT mT ++ wL ct aL mL) sz) := by
  refine Met.ofW (cc := cX3_read) (maxL := 3) (ret := (some .int)) (by decide) rfl ?_
  intro p e s m args below meth c s₁ B hml hv
  obtain ⟨hargs, hsz, hP, hK, hD0, hE⟩ := hv
  have hx := B.exec
  have hb := B.bytes
  have hr := B.returns
  have hts := atoms_spec (ws := wsX3_read) B.pre
  have hown : s.vm.findClass RX3 = some m.cls := findClass_of_methodNamed B.named
  have hlocks := B.notSynchronized
  clear B s₁
  subst hsz
  have hD := hD0.self (sz := s.heap.size)
  clear hD0
  generalize hAe : va_A (wR ct aR (aT 0) xR_land mR ++ wT ct aT mT ++ wL ct aL mL) s.heap.size = A at hD hE ⊢
  have hA : ∀ q : Nat, s.heap.size ≤ q → A q := fun q h => by rw [← hAe]; exact Or.inr h
  clear hAe
  have hS : va_S A s.heap s.heap [] := va_S.rf
  refine cutQ (fun Q hQ => ?_)
  refine entryW (vs := [.ref (aR 0), .ref (aL 0)]) hargs (Nat.le_of_ble_eq_true rfl) (fun ls hl => ?_)
  replace hl : lv_has ls 3 [(0, .ref (aR 0)), (1, .ref (aL 0))] := hl
  unfold mX3_read at hM
  have N38 : ∀ (v2 : Int32) (mR : Mem) (mL : Mem), mX3_read_L38 v2 mR mT mL = some res → ∀ (H : Heap) (locs : List Loc), va_P (dC, dI) vwCl (wR ct aR (aT 0) (aL 0) mR ++ wT ct aT mT ++ wL ct aL mL) H → va_D A (wR ct aR (aT 0) (aL 0) mR ++ wT ct aT mT ++ wL ct aL mL) → va_S A s.heap H locs → ∀ ls : Array Slot, lv_has ls 3 [(0, .ref (aR 0)), (2, .int v2)] → W p l e (headSpec wsX3_read rmX3_read).room s m args below meth c H locs 0 0 Q (F0 m 38 ls []) := by
    intro v2 mR mL hM H locs hP hD hS ls hl
    unfold mX3_read_L38 at hM
    obtain ⟨ex38, hit38, hM⟩ := bn_some hM
    have X38_0 : ∀ (mR : Mem) (mL : Mem), ex38 = (Sum.inl (mR, mL)) → ∀ (H : Heap) (locs : List Loc), va_P (dC, dI) vwCl (wR ct aR (aT 0) (aL 0) mR ++ wT ct aT mT ++ wL ct aL mL) H → va_D A (wR ct aR (aT 0) (aL 0) mR ++ wT ct aT mT ++ wL ct aL mL) → va_S A s.heap H locs → ∀ ls : Array Slot, lv_has ls 3 [(0, .ref (aR 0))] → W p l e (headSpec wsX3_read rmX3_read).room s m args below meth c H locs 0 0 Q (F0 m 59 ls []) := by
      intro mR mL hex H locs hP hD hS ls hl
      have hM := el_l hex hM
      have hM := nm_at (y := mR) rfl hM
      have hM := nm_at (y := mL) rfl hM
      refine lv_aload_n hx hb dX3_read_59 rfl (lv_at hl 0 rfl) ?_
      refine va_get (D := (dC, dI)) (ci := 3) (v := .int (mR 0 5)) (C := RX3) (T := TX3) (N := 13) hx hb hts iwX3_read_X3 hown hK hP 0 rfl rfl 5 (by decide) (hts _ (List.mem_of_getElem? (i := 7) rfl)) (fun _ h9 => h9) rfl dX3_read_60 ?_
      refine lv_topi (fun x_1 ex_1 => ?_)
      have hM := nm_at ex_1 hM
      have hR := som hM
      rw [hR] at hQ
      exact ret_i hQ hx hb hr hlocks hP hK hD hS dX3_read_63
    have X38_1 : ∀ (mR : Mem) (mL : Mem), ex38 = (Sum.inr (mR, mL)) → ∀ (H : Heap) (locs : List Loc), va_P (dC, dI) vwCl (wR ct aR (aT 0) (aL 0) mR ++ wT ct aT mT ++ wL ct aL mL) H → va_D A (wR ct aR (aT 0) (aL 0) mR ++ wT ct aT mT ++ wL ct aL mL) → va_S A s.heap H locs → ∀ ls : Array Slot, lv_has ls 3 [(0, .ref (aR 0))] → W p l e (headSpec wsX3_read rmX3_read).room s m args below meth c H locs 0 0 Q (F0 m 70 ls []) := by
      intro mR mL hex H locs hP hD hS ls hl
      have hM := el_r hex hM
      have hM := nm_at (y := mR) rfl hM
      have hM := nm_at (y := mL) rfl hM
      refine lv_aload_n hx hb dX3_read_70 rfl (lv_at hl 0 rfl) ?_
      refine va_get (D := (dC, dI)) (ci := 3) (v := .int (mR 0 10)) (C := RX3) (T := TX3) (N := 13) hx hb hts iwX3_read_X3 hown hK hP 0 rfl rfl 10 (by decide) (hts _ (List.mem_of_getElem? (i := 2) rfl)) (fun _ h9 => h9) rfl dX3_read_71 ?_
      refine lv_if_eq (tgt := 91) hx hb dX3_read_74 (by decide) (fun hc_2 => ?_) (fun hc_2 => ?_)
      · have hM := it_p hc_2 hM
        refine lv_aload_n hx hb dX3_read_91 rfl (lv_at hl 0 rfl) ?_
        refine va_get (D := (dC, dI)) (ci := 3) (v := .ref (aT 0)) (C := RX3) (T := TX3) (N := 13) hx hb hts iwX3_read_X3 hown hK hP 0 rfl rfl 0 (by decide) (hts _ (List.mem_of_getElem? (i := 9) rfl)) (fun _ h9 => h9) rfl dX3_read_92 ?_
        refine va_get (D := (dC, dI)) (ci := 5) (v := .int (mT 0 1)) (C := RX5) (T := TX5) (N := 2) hx hb hts iwX3_read_X5 hown hK hP 4 rfl rfl 1 (by decide) (hts _ (List.mem_of_getElem? (i := 10) rfl)) (fun _ h9 => h9) rfl dX3_read_95 ?_
        refine lv_topi (fun x_3 ex_3 => ?_)
        have hM := nm_at ex_3 hM
        have hR := som hM
        rw [hR] at hQ
        exact ret_i hQ hx hb hr hlocks hP hK hD hS dX3_read_98
      · have hM := it_n hc_2 hM
        refine lv_aload_n hx hb dX3_read_77 rfl (lv_at hl 0 rfl) ?_
        refine va_get (D := (dC, dI)) (ci := 3) (v := .ref (aL 0)) (C := RX3) (T := TX3) (N := 13) hx hb hts iwX3_read_X3 hown hK hP 0 rfl rfl 4 (by decide) (hts _ (List.mem_of_getElem? (i := 1) rfl)) (fun _ h9 => h9) rfl dX3_read_78 ?_
        refine va_get (D := (dC, dI)) (ci := 1) (v := .int (mL 0 5)) (C := RX1) (T := TX1) (N := 17) hx hb hts iwX3_read_X1 hown hK hP 6 rfl rfl 5 (by decide) (hts _ (List.mem_of_getElem? (i := 8) rfl)) (fun _ h9 => h9) rfl dX3_read_81 ?_
        refine lv_if_le (tgt := 91) hx hb dX3_read_84 (by decide) (fun hc_4 => ?_) (fun hc_4 => ?_)
        · have hM := it_p hc_4 hM
          refine lv_aload_n hx hb dX3_read_91 rfl (lv_at hl 0 rfl) ?_
          refine va_get (D := (dC, dI)) (ci := 3) (v := .ref (aT 0)) (C := RX3) (T := TX3) (N := 13) hx hb hts iwX3_read_X3 hown hK hP 0 rfl rfl 0 (by decide) (hts _ (List.mem_of_getElem? (i := 9) rfl)) (fun _ h9 => h9) rfl dX3_read_92 ?_
          refine va_get (D := (dC, dI)) (ci := 5) (v := .int (mT 0 1)) (C := RX5) (T := TX5) (N := 2) hx hb hts iwX3_read_X5 hown hK hP 4 rfl rfl 1 (by decide) (hts _ (List.mem_of_getElem? (i := 10) rfl)) (fun _ h9 => h9) rfl dX3_read_95 ?_
          refine lv_topi (fun x_5 ex_5 => ?_)
          have hM := nm_at ex_5 hM
          have hR := som hM
          rw [hR] at hQ
          exact ret_i hQ hx hb hr hlocks hP hK hD hS dX3_read_98
        · have hM := it_n hc_4 hM
          refine lv_iconst (v := -1) hx hb dX3_read_87 (by decide) ?_
          refine lv_goto (tgt := 98) hx hb dX3_read_88 (by decide) ?_
          have hR := som hM
          rw [hR] at hQ
          exact ret_i hQ hx hb hr hlocks hP hK hD hS dX3_read_98
    have I38 : ∀ (n : Nat) (v2 : Int32) (mR : Mem) (mL : Mem), itr (fun q => mX3_read_s38 mT q.1 q.2.1 q.2.2) n (v2, mR, mL) = some ex38 → ∀ (H : Heap) (locs : List Loc), va_P (dC, dI) vwCl (wR ct aR (aT 0) (aL 0) mR ++ wT ct aT mT ++ wL ct aL mL) H → va_D A (wR ct aR (aT 0) (aL 0) mR ++ wT ct aT mT ++ wL ct aL mL) → va_S A s.heap H locs → ∀ ls : Array Slot, lv_has ls 3 [(0, .ref (aR 0)), (2, .int v2)] → W p l e (headSpec wsX3_read rmX3_read).room s m args below meth c H locs 0 0 Q (F0 m 38 ls []) := by
      intro n
      induction n with
      | zero => intro v2 mR mL hit; exact (itr_zero hit).elim
      | succ n ih38 =>
        intro v2 mR mL hit H locs hP hD hS ls hl
        obtain ⟨o38, hM, hbk38, hex38⟩ := itr_succ hit
        replace hM : mX3_read_s38 mT v2 mR mL = some o38 := hM
        unfold mX3_read_s38 at hM
        refine lv_iload_n hx hb dX3_read_38 rfl (lv_at hl 1 rfl) ?_
        refine lv_sipush (v := 500) hx hb dX3_read_39 (by decide) ?_
        refine lv_icmp_gt (tgt := 70) hx hb dX3_read_42 (by decide) (fun hc_6 => ?_) (fun hc_6 => ?_)
        · have hM := it_p hc_6 hM
          have hR := som hM
          exact X38_1 mR mL (hex38 _ hR).symm _ _ hP hD hS _ (lv_sub hl [0] rfl)
        · have hM := it_n hc_6 hM
          refine lv_aload_n hx hb dX3_read_45 rfl (lv_at hl 0 rfl) ?_
          refine va_get (D := (dC, dI)) (ci := 3) (v := .int (mR 0 7)) (C := RX3) (T := TX3) (N := 13) hx hb hts iwX3_read_X3 hown hK hP 0 rfl rfl 7 (by decide) (hts _ (List.mem_of_getElem? (i := 6) rfl)) (fun _ h9 => h9) rfl dX3_read_46 ?_
          refine lv_if_eq (tgt := 70) hx hb dX3_read_49 (by decide) (fun hc_7 => ?_) (fun hc_7 => ?_)
          · have hM := it_p hc_7 hM
            have hR := som hM
            exact X38_1 mR mL (hex38 _ hR).symm _ _ hP hD hS _ (lv_sub hl [0] rfl)
          · have hM := it_n hc_7 hM
            refine lv_aload_n hx hb dX3_read_52 rfl (lv_at hl 0 rfl) ?_
            obtain ⟨q_12, hr_11, hM⟩ := bn_some hM
            obtain ⟨x_8, mR_9, mL_10⟩ := q_12
            have hM := nm_at (y := x_8) rfl hM
            have hM := nm_at (y := mR_9) rfl hM
            have hM := nm_at (y := mL_10) rfl hM
            refine gv_i (r0 := x_8) (wn := (wR ct aR (aT 0) (aL 0) mR_9 ++ wT ct aT mT ++ wL ct aL mL_10)) (va_runV (As := []) (rest := []) ⟨hx, hb, hml, hown, hts⟩ (kX3_readLine l dC dI ct aR aT aL adK adV _ mR mT mL _ hr_11) (cwV 0 hts gX3_read_X3_readLine rfl rfl rfl hvX3_readLine ⟨Nat.le_of_ble_eq_true rfl, Nat.le_of_ble_eq_true rfl⟩) (preV_of EV_ok hK hP hD (is := [0, 1, 2, 3, 4, 5, 6, 7, 8, 9, 10, 11, 12, 13, 14, 15]) rfl rfl rfl (ci := 3) rfl 0 rfl (e_sub EV_ok hE hS (va_free hD hS hA [0, 1, 2, 3, 4, 5, 6, 7, 8, 9, 10, 11, 12, 13, 14, 15] rfl))) rfl rfl hl.1 rfl (lv_room (Nat.le_of_ble_eq_true rfl)) dX3_read_53 ⟨Nat.le_of_ble_eq_true rfl, Nat.le_of_ble_eq_true rfl⟩) hP hD hS hA [0, 1, 2, 3, 4, 5, 6, 7, 8, 9, 10, 11, 12, 13, 14, 15] [] [0, 1, 2, 3, 4, 5, 6, 7, 8, 9, 10, 11, 12, 13, 14, 15] rfl rfl rfl (by decide) rfl rfl (fun H locs hP hD hS => ?_)
            refine lv_if_ne (tgt := 64) hx hb dX3_read_56 (by decide) (fun hc_13 => ?_) (fun hc_13 => ?_)
            · have hM := it_p hc_13 hM
              obtain ⟨x_14, ex_14⟩ : ∃ y : Int32, y = (v2 + (1 : Int32)) := ⟨_, rfl⟩
              have hM := nm_at ex_14 hM
              refine lv_iinc (v := x_14) (lv' := [(2, .int x_14), (0, .ref (aR 0))]) hx hb dX3_read_64 hl (k := 1) rfl (by rw [ex_14]; rfl) (by decide) rfl (fun ls hl => ?_)
              refine lv_goto (tgt := 38) hx hb dX3_read_67 (by decide) ?_
              have hR := som hM
              exact ih38 x_14 mR_9 mL_10 (hbk38 _ hR) _ _ hP hD hS _ (lv_sub hl [1, 0] rfl)
            · have hM := it_nn hc_13 hM
              have hR := som hM
              exact X38_0 mR_9 mL_10 (hex38 _ hR).symm _ _ hP hD hS _ (lv_sub hl [0] rfl)
    exact I38 FU v2 mR mL hit38 _ _ hP hD hS _ hl
  refine lv_aload_n hx hb dX3_read_0 rfl (lv_at hl 0 rfl) ?_
  refine lv_aload_n hx hb dX3_read_1 rfl (lv_at hl 1 rfl) ?_
  refine pf_i (wf := fun z => (wR ct aR (aT 0) z mR ++ wT ct aT mT ++ wL ct aL mL)) (m1 := (aL 0)) hx hb hts iwX3_read_X3 tyX3 tyX3_ok nmX3 hown hK hP hD hS 0 rfl rfl 4 (by decide) (hts _ (List.mem_of_getElem? (i := 1) rfl)) (fun _ h9 => h9) rfl rfl rfl (Nat.le_of_ble_eq_true rfl) dX3_read_2 rfl (fun zz ezz H locs hP hD hS => ?_)
  subst ezz
  refine lv_aload_n hx hb dX3_read_5 rfl (lv_at hl 0 rfl) ?_
  refine va_get (D := (dC, dI)) (ci := 3) (v := .ref (aL 0)) (C := RX3) (T := TX3) (N := 13) hx hb hts iwX3_read_X3 hown hK hP 0 rfl rfl 4 (by decide) (hts _ (List.mem_of_getElem? (i := 1) rfl)) (fun _ h9 => h9) rfl dX3_read_6 ?_
  obtain ⟨mL_15, hr_16, hM⟩ := bn_some hM
  refine gv_v (wn := (wR ct aR (aT 0) (aL 0) mR ++ wT ct aT mT ++ wL ct aL mL_15)) (va_runV (As := []) (rest := []) ⟨hx, hb, hml, hown, hts⟩ (kX1_empty l dC dI ct aL _ mL _ hr_16) (cwV 0 hts gX3_read_X1_empty rfl rfl rfl hvX1_empty ⟨Nat.le_of_ble_eq_true rfl, Nat.le_of_ble_eq_true rfl⟩) (preV_of E0_ok hK hP hD (is := [6, 7, 8, 9, 10, 11, 12, 13, 14, 15]) rfl rfl rfl (ci := 1) rfl 6 rfl e_0) rfl rfl hl.1 rfl (lv_room (Nat.le_of_ble_eq_true rfl)) dX3_read_9 ⟨Nat.le_of_ble_eq_true rfl, Nat.le_of_ble_eq_true rfl⟩) hP hD hS hA [6, 7, 8, 9, 10, 11, 12, 13, 14, 15] [0, 1, 2, 3, 4, 5] [0, 1, 2, 3, 4, 5, 6, 7, 8, 9, 10, 11, 12, 13, 14, 15] rfl rfl rfl (by decide) rfl rfl (fun H locs hP hD hS => ?_)
  refine lv_aload_n hx hb dX3_read_12 rfl (lv_at hl 0 rfl) ?_
  refine lv_iconst (v := 0) hx hb dX3_read_13 (by decide) ?_
  refine pf_i (wf := fun z => (wR ct aR (aT 0) (aL 0) z ++ wT ct aT mT ++ wL ct aL mL_15)) (m1 := upf mR 10 (0 : Int32)) hx hb hts iwX3_read_X3 tyX3 tyX3_ok nmX3 hown hK hP hD hS 0 rfl rfl 10 (by decide) (hts _ (List.mem_of_getElem? (i := 2) rfl)) (fun _ h9 => h9) rfl rfl rfl (Nat.le_of_ble_eq_true rfl) dX3_read_14 rfl (fun mR_18 emR_18 H locs hP hD hS => ?_)
  have hM := nm_at emR_18 hM
  refine lv_aload_n hx hb dX3_read_17 rfl (lv_at hl 0 rfl) ?_
  refine lv_iconst (v := 0) hx hb dX3_read_18 (by decide) ?_
  refine pf_i (wf := fun z => (wR ct aR (aT 0) (aL 0) z ++ wT ct aT mT ++ wL ct aL mL_15)) (m1 := upf mR_18 11 (0 : Int32)) hx hb hts iwX3_read_X3 tyX3 tyX3_ok nmX3 hown hK hP hD hS 0 rfl rfl 11 (by decide) (hts _ (List.mem_of_getElem? (i := 3) rfl)) (fun _ h9 => h9) rfl rfl rfl (Nat.le_of_ble_eq_true rfl) dX3_read_19 rfl (fun mR_19 emR_19 H locs hP hD hS => ?_)
  have hM := nm_at emR_19 hM
  refine lv_aload_n hx hb dX3_read_22 rfl (lv_at hl 0 rfl) ?_
  refine lv_iconst (v := 0) hx hb dX3_read_23 (by decide) ?_
  refine pf_i (wf := fun z => (wR ct aR (aT 0) (aL 0) z ++ wT ct aT mT ++ wL ct aL mL_15)) (m1 := upf mR_19 12 (0 : Int32)) hx hb hts iwX3_read_X3 tyX3 tyX3_ok nmX3 hown hK hP hD hS 0 rfl rfl 12 (by decide) (hts _ (List.mem_of_getElem? (i := 4) rfl)) (fun _ h9 => h9) rfl rfl rfl (Nat.le_of_ble_eq_true rfl) dX3_read_24 rfl (fun mR_20 emR_20 H locs hP hD hS => ?_)
  have hM := nm_at emR_20 hM
  refine lv_aload_n hx hb dX3_read_27 rfl (lv_at hl 0 rfl) ?_
  refine lv_iconst (v := 0) hx hb dX3_read_28 (by decide) ?_
  refine pf_i (wf := fun z => (wR ct aR (aT 0) (aL 0) z ++ wT ct aT mT ++ wL ct aL mL_15)) (m1 := upf mR_20 6 (0 : Int32)) hx hb hts iwX3_read_X3 tyX3 tyX3_ok nmX3 hown hK hP hD hS 0 rfl rfl 6 (by decide) (hts _ (List.mem_of_getElem? (i := 5) rfl)) (fun _ h9 => h9) rfl rfl rfl (Nat.le_of_ble_eq_true rfl) dX3_read_29 rfl (fun mR_21 emR_21 H locs hP hD hS => ?_)
  have hM := nm_at emR_21 hM
  refine lv_aload_n hx hb dX3_read_32 rfl (lv_at hl 0 rfl) ?_
  obtain ⟨mR_22, hr_23, hM⟩ := bn_some hM
  refine gv_v (wn := (wR ct aR (aT 0) (aL 0) mR_22 ++ wT ct aT mT ++ wL ct aL mL_15)) (va_runV (As := []) (rest := []) ⟨hx, hb, hml, hown, hts⟩ (kX3_step l dC dI ct aR aT (aL 0) _ mR_21 mT _ hr_23) (cwV 0 hts gX3_read_X3_step rfl rfl rfl hvX3_step ⟨Nat.le_of_ble_eq_true rfl, Nat.le_of_ble_eq_true rfl⟩) (preV_of E0_ok hK hP hD (is := [0, 1, 2, 3, 4, 5]) rfl rfl rfl (ci := 3) rfl 0 rfl e_0) rfl rfl hl.1 rfl (lv_room (Nat.le_of_ble_eq_true rfl)) dX3_read_33 ⟨Nat.le_of_ble_eq_true rfl, Nat.le_of_ble_eq_true rfl⟩) hP hD hS hA [0, 1, 2, 3, 4, 5] [6, 7, 8, 9, 10, 11, 12, 13, 14, 15] [10, 11, 12, 13, 14, 15, 0, 1, 2, 3, 4, 5, 6, 7, 8, 9] rfl rfl rfl (by decide) rfl rfl (fun H locs hP hD hS => ?_)
  refine lv_iconst (v := 0) hx hb dX3_read_36 (by decide) ?_
  refine lv_istore_n (lv' := [(2, .int (0 : Int32)), (0, .ref (aR 0)), (1, .ref (aL 0))]) hx hb dX3_read_37 rfl hl (by decide) rfl (fun ls hl => ?_)
  exact N38 (0 : Int32) mR_22 mL_15 hM _ _ hP hD hS _ (lv_sub hl [1, 0] rfl)
