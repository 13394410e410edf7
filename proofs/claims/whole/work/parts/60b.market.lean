abbrev rmX2_begin : Room := { frames := 1, cells := 0, slots := 0, locals := 23 }
theorem iwX2_begin_X1 : ∀ w ∈ wsX10, w ∈ wsX2_begin := fun _ h => List.mem_cons_of_mem _ (List.mem_append_right _ (h))
theorem iwX2_begin_X2 : ∀ w ∈ wsX20, w ∈ wsX2_begin := fun _ h => List.mem_cons_of_mem _ (List.mem_append_left _ (List.mem_append_right _ (h)))
set_option maxHeartbeats 4000000 in
set_option maxRecDepth 100000 in
theorem kX2_begin (l : Launch) (dC : Nat → ClassId) (dI : Nat → Nat → Nat) (ct : Nat → ClassId) (aM : Nat → Nat) (aL : Nat → Nat) (sz : Nat) (mM : Mem) (mL : Mem) (res : Mem) (hM : mX2_begin mM mL = some res) : Met l yX2_begin wsX2_begin rmX2_begin (va_Pc [.ref (aM 0), .ref (aL 0)] (PB (dC, dI) ct E0 sz (wM ct aM mM ++ wL ct aL mL))) (Qv (dC, dI) ct (va_A (wM ct aM mM ++ wL ct aL mL) sz) (wM ct aM res ++ wL ct aL mL)) 0 0 (va_A (wM ct aM mM ++ wL ct aL mL) sz) := by
  refine Met.ofW (cc := cX2_begin) (maxL := 3) (ret := none) (by decide) rfl ?_
  intro p e s m args below meth c s₁ B hml hv
  obtain ⟨hargs, hsz, hP, hK, hD0, hE⟩ := hv
  have hx := B.exec
  have hb := B.bytes
  have hr := B.returns
  have hts := atoms_spec (ws := wsX2_begin) B.pre
  have hown : s.vm.findClass RX2 = some m.cls := findClass_of_methodNamed B.named
  have hlocks := B.notSynchronized
  clear B s₁
  subst hsz
  have hD := hD0.self (sz := s.heap.size)
  clear hD0
  generalize hAe : va_A (wM ct aM mM ++ wL ct aL mL) s.heap.size = A at hD hE ⊢
  have hA : ∀ q : Nat, s.heap.size ≤ q → A q := fun q h => by rw [← hAe]; exact Or.inr h
  clear hAe
  have hS : va_S A s.heap s.heap [] := va_S.rf
  refine cutQ (fun Q hQ => ?_)
  refine entryW (vs := [.ref (aM 0), .ref (aL 0)]) hargs (Nat.le_of_ble_eq_true rfl) (fun ls hl => ?_)
  replace hl : lv_has ls 3 [(0, .ref (aM 0)), (1, .ref (aL 0))] := hl
  unfold mX2_begin at hM
  have N7 : ∀ (v2 : Int32) (mM : Mem), mX2_begin_L7 v2 mM mL = some res → ∀ (H : Heap) (locs : List Loc), va_P (dC, dI) vwCl (wM ct aM mM ++ wL ct aL mL) H → va_D A (wM ct aM mM ++ wL ct aL mL) → va_S A s.heap H locs → ∀ ls : Array Slot, lv_has ls 3 [(0, .ref (aM 0)), (1, .ref (aL 0)), (2, .int v2)] → W p l e (headSpec wsX2_begin rmX2_begin).room s m args below meth c H locs 0 0 Q (F0 m 7 ls []) := by
    intro v2 mM hM H locs hP hD hS ls hl
    unfold mX2_begin_L7 at hM
    obtain ⟨ex7, hit7, hM⟩ := bn_some hM
    have X7_0 : ∀ (mM : Mem), ex7 = mM → ∀ (H : Heap) (locs : List Loc), va_P (dC, dI) vwCl (wM ct aM mM ++ wL ct aL mL) H → va_D A (wM ct aM mM ++ wL ct aL mL) → va_S A s.heap H locs → ∀ ls : Array Slot, lv_has ls 3 [(0, .ref (aM 0))] → W p l e (headSpec wsX2_begin rmX2_begin).room s m args below meth c H locs 0 0 Q (F0 m 57 ls []) := by
      intro mM hex H locs hP hD hS ls hl
      rw [hex] at hM
      have hM := nm_at (y := mM) rfl hM
      refine lv_aload_n hx hb dX2_begin_57 rfl (lv_at hl 0 rfl) ?_
      refine va_get (D := (dC, dI)) (ci := 2) (v := .ref (aM 6)) (C := RX2) (T := TX2) (N := 10) hx hb hts iwX2_begin_X2 hown hK hP 0 rfl rfl 7 (by decide) (hts _ (List.mem_of_getElem? (i := 7) rfl)) (fun _ h9 => h9) rfl dX2_begin_58 ?_
      refine lv_iconst (v := 0) hx hb dX2_begin_61 (by decide) ?_
      obtain ⟨mM_1, hr_2, hM⟩ := bn_some hM
      obtain ⟨mM_4, emM_4⟩ : ∃ y : Mem, y = ups mM 6 mM_1 := ⟨_, rfl⟩
      have hM := nm_at emM_4 hM
      refine gv_v (wn := (wM ct aM mM_4 ++ wL ct aL mL)) (va_runS (As := [.ref (aM 6), .int (0 : Int32)]) (rest := []) ⟨hx, hb, hml, hown, hts⟩ (kJ7_fill_53178 l dC dI ct (fun _ => (aM 6)) _ 40 (mM 6) (0 : Int32) _ hr_2) (va_cwS 2 hts gX2_begin_J7_fill_53178 rfl rfl rfl hvJ7_fill_53178.2 ⟨Nat.le_of_ble_eq_true rfl, Nat.le_of_ble_eq_true rfl⟩) (preS_of E0_ok hK hP hD (is := [6]) rfl rfl e_0) rfl rfl hl.1 rfl (lv_room (Nat.le_of_ble_eq_true rfl)) dX2_begin_62 ⟨Nat.le_of_ble_eq_true rfl, Nat.le_of_ble_eq_true rfl⟩) hP hD hS hA [6] [0, 1, 2, 3, 4, 5, 7, 8, 9, 10, 11, 12, 13, 14, 15, 16, 17, 18] [0, 1, 2, 3, 4, 5, 18, 6, 7, 8, 9, 10, 11, 12, 13, 14, 15, 16, 17] rfl rfl rfl (by decide) (by rw [emM_4]; rfl) rfl (fun H locs hP hD hS => ?_)
      have hR := som hM
      rw [hR] at hQ
      exact ret_v hQ hx hb hr hlocks hP hK hD hS dX2_begin_65
    have I7 : ∀ (n : Nat) (v2 : Int32) (mM : Mem), itr (fun q => mX2_begin_s7 mL q.1 q.2) n (v2, mM) = some ex7 → ∀ (H : Heap) (locs : List Loc), va_P (dC, dI) vwCl (wM ct aM mM ++ wL ct aL mL) H → va_D A (wM ct aM mM ++ wL ct aL mL) → va_S A s.heap H locs → ∀ ls : Array Slot, lv_has ls 3 [(0, .ref (aM 0)), (1, .ref (aL 0)), (2, .int v2)] → W p l e (headSpec wsX2_begin rmX2_begin).room s m args below meth c H locs 0 0 Q (F0 m 7 ls []) := by
      intro n
      induction n with
      | zero => intro v2 mM hit; exact (itr_zero hit).elim
      | succ n ih7 =>
        intro v2 mM hit H locs hP hD hS ls hl
        obtain ⟨o7, hM, hbk7, hex7⟩ := itr_succ hit
        replace hM : mX2_begin_s7 mL v2 mM = some o7 := hM
        have N43 : ∀ (v2 : Int32) (t1 : Int32) (t2 : Int32) (mM : Mem), mX2_begin_j43 v2 t1 t2 mM mL = some o7 → ∀ (H : Heap) (locs : List Loc), va_P (dC, dI) vwCl (wM ct aM mM ++ wL ct aL mL) H → va_D A (wM ct aM mM ++ wL ct aL mL) → va_S A s.heap H locs → ∀ ls : Array Slot, lv_has ls 3 [(0, .ref (aM 0)), (1, .ref (aL 0)), (2, .int v2)] → W p l e (headSpec wsX2_begin rmX2_begin).room s m args below meth c H locs 0 0 Q (F0 m 43 ls [.int t2, .int t1, .ref (aM 1)]) := by
          intro v2 t1 t2 mM hM H locs hP hD hS ls hl
          unfold mX2_begin_j43 at hM
          obtain ⟨hi, hM⟩ := gi_some hM
          refine st_i (wf := fun z => (wM ct aM z ++ wL ct aL mL)) (m1 := upi mM 1 t1.toNatClampNeg t2) hx hb hK hP hD hS 1 rfl hi dX2_begin_43 rfl (fun mM_5 emM_5 H locs hP hD hS => ?_)
          have hM := nm_at emM_5 hM
          refine lv_aload_n hx hb dX2_begin_44 rfl (lv_at hl 0 rfl) ?_
          refine va_get (D := (dC, dI)) (ci := 2) (v := .ref (aM 2)) (C := RX2) (T := TX2) (N := 10) hx hb hts iwX2_begin_X2 hown hK hP 0 rfl rfl 3 (by decide) (hts _ (List.mem_of_getElem? (i := 6) rfl)) (fun _ h9 => h9) rfl dX2_begin_45 ?_
          refine lv_iload_n hx hb dX2_begin_48 rfl (lv_at hl 2 rfl) ?_
          refine lv_iconst (v := 0) hx hb dX2_begin_49 (by decide) ?_
          obtain ⟨hi, hM⟩ := gi_some hM
          refine st_i (wf := fun z => (wM ct aM z ++ wL ct aL mL)) (m1 := upi mM_5 2 v2.toNatClampNeg (0 : Int32)) hx hb hK hP hD hS 2 rfl hi dX2_begin_50 rfl (fun mM_6 emM_6 H locs hP hD hS => ?_)
          have hM := nm_at emM_6 hM
          obtain ⟨x_7, ex_7⟩ : ∃ y : Int32, y = (v2 + (1 : Int32)) := ⟨_, rfl⟩
          have hM := nm_at ex_7 hM
          refine lv_iinc (v := x_7) (lv' := [(2, .int x_7), (0, .ref (aM 0)), (1, .ref (aL 0))]) hx hb dX2_begin_51 hl (k := 2) rfl (by rw [ex_7]; rfl) (by decide) rfl (fun ls hl => ?_)
          refine lv_goto (tgt := 7) hx hb dX2_begin_54 (by decide) ?_
          have hR := som hM
          exact ih7 x_7 mM_6 (hbk7 _ hR) _ _ hP hD hS _ (lv_sub hl [1, 2, 0] rfl)
        unfold mX2_begin_s7 at hM
        refine lv_iload_n hx hb dX2_begin_7 rfl (lv_at hl 2 rfl) ?_
        refine lv_bipush (v := 6) hx hb dX2_begin_8 (by decide) ?_
        refine lv_icmp_ge (tgt := 57) hx hb dX2_begin_10 (by decide) (fun hc_8 => ?_) (fun hc_8 => ?_)
        · have hM := it_p hc_8 hM
          have hR := som hM
          exact X7_0 mM (hex7 _ hR).symm _ _ hP hD hS _ (lv_sub hl [0] rfl)
        · have hM := it_n hc_8 hM
          refine lv_aload_n hx hb dX2_begin_13 rfl (lv_at hl 0 rfl) ?_
          refine va_get (D := (dC, dI)) (ci := 2) (v := .ref (aM 1)) (C := RX2) (T := TX2) (N := 10) hx hb hts iwX2_begin_X2 hown hK hP 0 rfl rfl 2 (by decide) (hts _ (List.mem_of_getElem? (i := 2) rfl)) (fun _ h9 => h9) rfl dX2_begin_14 ?_
          refine lv_iload_n hx hb dX2_begin_17 rfl (lv_at hl 2 rfl) ?_
          refine lv_iload_n hx hb dX2_begin_18 rfl (lv_at hl 2 rfl) ?_
          refine lv_aload_n hx hb dX2_begin_19 rfl (lv_at hl 1 rfl) ?_
          refine va_get (D := (dC, dI)) (ci := 1) (v := .int (mL 0 5)) (C := RX1) (T := TX1) (N := 17) hx hb hts iwX2_begin_X1 hown hK hP 9 rfl rfl 5 (by decide) (hts _ (List.mem_of_getElem? (i := 3) rfl)) (fun _ h9 => h9) rfl dX2_begin_20 ?_
          refine lv_icmp_ge (tgt := 42) hx hb dX2_begin_23 (by decide) (fun hc_9 => ?_) (fun hc_9 => ?_)
          · have hM := it_p hc_9 hM
            refine lv_iconst (v := 0) hx hb dX2_begin_42 (by decide) ?_
            exact N43 v2 v2 (0 : Int32) mM hM _ _ hP hD hS _ (lv_sub hl [0, 1, 2] rfl)
          · have hM := it_n hc_9 hM
            refine lv_aload_n hx hb dX2_begin_26 rfl (lv_at hl 1 rfl) ?_
            refine va_get (D := (dC, dI)) (ci := 1) (v := .ref (aL 1)) (C := RX1) (T := TX1) (N := 17) hx hb hts iwX2_begin_X1 hown hK hP 9 rfl rfl 6 (by decide) (hts _ (List.mem_of_getElem? (i := 4) rfl)) (fun _ h9 => h9) rfl dX2_begin_27 ?_
            refine lv_iload_n hx hb dX2_begin_30 rfl (lv_at hl 2 rfl) ?_
            obtain ⟨hi, hM⟩ := gi_some hM
            refine va_iald hx hb hK hP 10 0 rfl rfl hi dX2_begin_31 ?_
            refine lv_aload_n hx hb dX2_begin_32 rfl (lv_at hl 1 rfl) ?_
            refine va_get (D := (dC, dI)) (ci := 1) (v := .ref (aL 2)) (C := RX1) (T := TX1) (N := 17) hx hb hts iwX2_begin_X1 hown hK hP 9 rfl rfl 7 (by decide) (hts _ (List.mem_of_getElem? (i := 5) rfl)) (fun _ h9 => h9) rfl dX2_begin_33 ?_
            refine lv_iload_n hx hb dX2_begin_36 rfl (lv_at hl 2 rfl) ?_
            obtain ⟨hi, hM⟩ := gi_some hM
            refine va_iald hx hb hK hP 11 0 rfl rfl hi dX2_begin_37 ?_
            refine lv_imul hx hb dX2_begin_38 ?_
            refine lv_goto (tgt := 43) hx hb dX2_begin_39 (by decide) ?_
            exact N43 v2 v2 ((mL 1 v2.toNatClampNeg) * (mL 2 v2.toNatClampNeg)) mM hM _ _ hP hD hS _ (lv_sub hl [0, 1, 2] rfl)
    exact I7 FU v2 mM hit7 _ _ hP hD hS _ hl
  refine lv_aload_n hx hb dX2_begin_0 rfl (lv_at hl 0 rfl) ?_
  refine lv_iconst (v := 0) hx hb dX2_begin_1 (by decide) ?_
  refine pf_i (wf := fun z => (wM ct aM z ++ wL ct aL mL)) (m1 := upf mM 0 (0 : Int32)) hx hb hts iwX2_begin_X2 tyX2 tyX2_ok nmX2 hown hK hP hD hS 0 rfl rfl 0 (by decide) (hts _ (List.mem_of_getElem? (i := 1) rfl)) (fun _ h9 => h9) rfl rfl rfl (Nat.le_of_ble_eq_true rfl) dX2_begin_2 rfl (fun mM_10 emM_10 H locs hP hD hS => ?_)
  have hM := nm_at emM_10 hM
  refine lv_iconst (v := 0) hx hb dX2_begin_5 (by decide) ?_
  refine lv_istore_n (lv' := [(2, .int (0 : Int32)), (0, .ref (aM 0)), (1, .ref (aL 0))]) hx hb dX2_begin_6 rfl hl (by decide) rfl (fun ls hl => ?_)
  exact N7 (0 : Int32) mM_10 hM _ _ hP hD hS _ (lv_sub hl [1, 2, 0] rfl)
abbrev rmX2_freeNumber : Room := { frames := 0, cells := 0, slots := 0, locals := 0 }
theorem iwX2_freeNumber_X2 : ∀ w ∈ wsX20, w ∈ wsX2_freeNumber := fun _ h => List.mem_cons_of_mem _ (List.mem_append_right _ (h))
set_option maxHeartbeats 4000000 in
set_option maxRecDepth 100000 in
theorem kX2_freeNumber (l : Launch) (dC : Nat → ClassId) (dI : Nat → Nat → Nat) (ct : Nat → ClassId) (aM : Nat → Nat) (sz : Nat) (mM : Mem) (res : Int32) (hM : mX2_freeNumber mM = some res) : Met l yX2_freeNumber wsX2_freeNumber rmX2_freeNumber (va_Pc [.ref (aM 0)] (PB (dC, dI) ct E0 sz (wM ct aM mM))) (Qi (dC, dI) ct (va_A (wM ct aM mM) sz) res (wM ct aM mM)) 0 0 (va_A (wM ct aM mM) sz) := by
  refine Met.ofW (cc := cX2_freeNumber) (maxL := 2) (ret := (some .int)) (by decide) rfl ?_
  intro p e s m args below meth c s₁ B hml hv
  obtain ⟨hargs, hsz, hP, hK, hD0, hE⟩ := hv
  have hx := B.exec
  have hb := B.bytes
  have hr := B.returns
  have hts := atoms_spec (ws := wsX2_freeNumber) B.pre
  have hown : s.vm.findClass RX2 = some m.cls := findClass_of_methodNamed B.named
  have hlocks := B.notSynchronized
  clear B s₁
  subst hsz
  have hD := hD0.self (sz := s.heap.size)
  clear hD0
  generalize hAe : va_A (wM ct aM mM) s.heap.size = A at hD hE ⊢
  have hA : ∀ q : Nat, s.heap.size ≤ q → A q := fun q h => by rw [← hAe]; exact Or.inr h
  clear hAe
  have hS : va_S A s.heap s.heap [] := va_S.rf
  refine cutQ (fun Q hQ => ?_)
  refine entryW (vs := [.ref (aM 0)]) hargs (Nat.le_of_ble_eq_true rfl) (fun ls hl => ?_)
  replace hl : lv_has ls 2 [(0, .ref (aM 0))] := hl
  unfold mX2_freeNumber at hM
  have N2 : ∀ (v1 : Int32), mX2_freeNumber_L2 v1 mM = some res → ∀ (H : Heap) (locs : List Loc), va_P (dC, dI) vwCl (wM ct aM mM) H → va_D A (wM ct aM mM) → va_S A s.heap H locs → ∀ ls : Array Slot, lv_has ls 2 [(0, .ref (aM 0)), (1, .int v1)] → W p l e (headSpec wsX2_freeNumber rmX2_freeNumber).room s m args below meth c H locs 0 0 Q (F0 m 2 ls []) := by
    intro v1 hM H locs hP hD hS ls hl
    unfold mX2_freeNumber_L2 at hM
    obtain ⟨ex2, hit2, hM⟩ := bn_some hM
    have X2_0 : ∀ (v1 : Int32), ex2 = (Sum.inl v1) → ∀ (H : Heap) (locs : List Loc), va_P (dC, dI) vwCl (wM ct aM mM) H → va_D A (wM ct aM mM) → va_S A s.heap H locs → ∀ ls : Array Slot, lv_has ls 2 [(1, .int v1)] → W p l e (headSpec wsX2_freeNumber rmX2_freeNumber).room s m args below meth c H locs 0 0 Q (F0 m 17 ls []) := by
      intro v1 hex H locs hP hD hS ls hl
      have hM := el_l hex hM
      refine lv_iload_n hx hb dX2_freeNumber_17 rfl (lv_at hl 0 rfl) ?_
      have hR := som hM
      rw [hR] at hQ
      exact ret_i hQ hx hb hr hlocks hP hK hD hS dX2_freeNumber_18
    have X2_1 : ex2 = (Sum.inr ()) → ∀ (H : Heap) (locs : List Loc), va_P (dC, dI) vwCl (wM ct aM mM) H → va_D A (wM ct aM mM) → va_S A s.heap H locs → ∀ ls : Array Slot, lv_has ls 2 [] → W p l e (headSpec wsX2_freeNumber rmX2_freeNumber).room s m args below meth c H locs 0 0 Q (F0 m 25 ls []) := by
      intro hex H locs hP hD hS ls hl
      have hM := el_r hex hM
      refine lv_iconst (v := -1) hx hb dX2_freeNumber_25 (by decide) ?_
      have hR := som hM
      rw [hR] at hQ
      exact ret_i hQ hx hb hr hlocks hP hK hD hS dX2_freeNumber_26
    have I2 : ∀ (n : Nat) (v1 : Int32), itr (fun q => mX2_freeNumber_s2 mM q) n v1 = some ex2 → ∀ (H : Heap) (locs : List Loc), va_P (dC, dI) vwCl (wM ct aM mM) H → va_D A (wM ct aM mM) → va_S A s.heap H locs → ∀ ls : Array Slot, lv_has ls 2 [(0, .ref (aM 0)), (1, .int v1)] → W p l e (headSpec wsX2_freeNumber rmX2_freeNumber).room s m args below meth c H locs 0 0 Q (F0 m 2 ls []) := by
      intro n
      induction n with
      | zero => intro v1 hit; exact (itr_zero hit).elim
      | succ n ih2 =>
        intro v1 hit H locs hP hD hS ls hl
        obtain ⟨o2, hM, hbk2, hex2⟩ := itr_succ hit
        replace hM : mX2_freeNumber_s2 mM v1 = some o2 := hM
        unfold mX2_freeNumber_s2 at hM
        refine lv_iload_n hx hb dX2_freeNumber_2 rfl (lv_at hl 1 rfl) ?_
        refine lv_bipush (v := 40) hx hb dX2_freeNumber_3 (by decide) ?_
        refine lv_icmp_ge (tgt := 25) hx hb dX2_freeNumber_5 (by decide) (fun hc_1 => ?_) (fun hc_1 => ?_)
        · have hM := it_p hc_1 hM
          have hR := som hM
          exact X2_1 (hex2 _ hR).symm _ _ hP hD hS _ (lv_sub hl [] rfl)
        · have hM := it_n hc_1 hM
          refine lv_aload_n hx hb dX2_freeNumber_8 rfl (lv_at hl 0 rfl) ?_
          refine va_get (D := (dC, dI)) (ci := 2) (v := .ref (aM 6)) (C := RX2) (T := TX2) (N := 10) hx hb hts iwX2_freeNumber_X2 hown hK hP 0 rfl rfl 7 (by decide) (hts _ (List.mem_of_getElem? (i := 1) rfl)) (fun _ h9 => h9) rfl dX2_freeNumber_9 ?_
          refine lv_iload_n hx hb dX2_freeNumber_12 rfl (lv_at hl 1 rfl) ?_
          obtain ⟨hi, hM⟩ := gi_some hM
          refine va_iald hx hb hK hP 6 0 rfl rfl hi dX2_freeNumber_13 ?_
          refine lv_if_ne (tgt := 19) hx hb dX2_freeNumber_14 (by decide) (fun hc_2 => ?_) (fun hc_2 => ?_)
          · have hM := it_p hc_2 hM
            obtain ⟨x_3, ex_3⟩ : ∃ y : Int32, y = (v1 + (1 : Int32)) := ⟨_, rfl⟩
            have hM := nm_at ex_3 hM
            refine lv_iinc (v := x_3) (lv' := [(1, .int x_3), (0, .ref (aM 0))]) hx hb dX2_freeNumber_19 hl (k := 1) rfl (by rw [ex_3]; rfl) (by decide) rfl (fun ls hl => ?_)
            refine lv_goto (tgt := 2) hx hb dX2_freeNumber_22 (by decide) ?_
            have hR := som hM
            exact ih2 x_3 (hbk2 _ hR) _ _ hP hD hS _ (lv_sub hl [1, 0] rfl)
          · have hM := it_nn hc_2 hM
            have hR := som hM
            exact X2_0 v1 (hex2 _ hR).symm _ _ hP hD hS _ (lv_sub hl [1] rfl)
    exact I2 FU v1 hit2 _ _ hP hD hS _ hl
  refine lv_iconst (v := 0) hx hb dX2_freeNumber_0 (by decide) ?_
  refine lv_istore_n (lv' := [(1, .int (0 : Int32)), (0, .ref (aM 0))]) hx hb dX2_freeNumber_1 rfl hl (by decide) rfl (fun ls hl => ?_)
  exact N2 (0 : Int32) hM _ _ hP hD hS _ (lv_sub hl [1, 0] rfl)
abbrev rmX2_makeLoan : Room := { frames := 1, cells := 0, slots := 0, locals := 21 }
theorem iwX2_makeLoan_X1 : ∀ w ∈ wsX10, w ∈ wsX2_makeLoan := fun _ h => List.mem_cons_of_mem _ (List.mem_append_right _ (h))
theorem iwX2_makeLoan_X2 : ∀ w ∈ wsX20, w ∈ wsX2_makeLoan := fun _ h => List.mem_cons_of_mem _ (List.mem_append_left _ (List.mem_append_right _ (h)))
set_option maxHeartbeats 4000000 in
set_option maxRecDepth 100000 in
theorem kX2_makeLoan (l : Launch) (dC : Nat → ClassId) (dI : Nat → Nat → Nat) (ct : Nat → ClassId) (aM : Nat → Nat) (aL : Nat → Nat) (sz : Nat) (mM : Mem) (mL : Mem) (v2 : Int32) (v3 : Int32) (v4 : Int32) (v5 : Int32) (res : (Int32 × Mem)) (hM : mX2_makeLoan mM mL v2 v3 v4 v5 = some res) : Met l yX2_makeLoan wsX2_makeLoan rmX2_makeLoan (va_Pc [.ref (aM 0), .ref (aL 0), .int v2, .int v3, .int v4, .int v5] (PB (dC, dI) ct E0 sz (wM ct aM mM ++ wL ct aL mL))) (Qi (dC, dI) ct (va_A (wM ct aM mM ++ wL ct aL mL) sz) res.1 (wM ct aM res.2 ++ wL ct aL mL)) 0 0 (va_A (wM ct aM mM ++ wL ct aL mL) sz) := by
  refine Met.ofW (cc := cX2_makeLoan) (maxL := 9) (ret := (some .int)) (by decide) rfl ?_
  intro p e s m args below meth c s₁ B hml hv
  obtain ⟨hargs, hsz, hP, hK, hD0, hE⟩ := hv
  have hx := B.exec
  have hb := B.bytes
  have hr := B.returns
  have hts := atoms_spec (ws := wsX2_makeLoan) B.pre
  have hown : s.vm.findClass RX2 = some m.cls := findClass_of_methodNamed B.named
  have hlocks := B.notSynchronized
  clear B s₁
  subst hsz
  have hD := hD0.self (sz := s.heap.size)
  clear hD0
  generalize hAe : va_A (wM ct aM mM ++ wL ct aL mL) s.heap.size = A at hD hE ⊢
  have hA : ∀ q : Nat, s.heap.size ≤ q → A q := fun q h => by rw [← hAe]; exact Or.inr h
  clear hAe
  have hS : va_S A s.heap s.heap [] := va_S.rf
  refine cutQ (fun Q hQ => ?_)
  refine entryW (vs := [.ref (aM 0), .ref (aL 0), .int v2, .int v3, .int v4, .int v5]) hargs (Nat.le_of_ble_eq_true rfl) (fun ls hl => ?_)
  replace hl : lv_has ls 9 [(0, .ref (aM 0)), (1, .ref (aL 0)), (2, .int v2), (3, .int v3), (4, .int v4), (5, .int v5)] := hl
  unfold mX2_makeLoan at hM
  refine lv_iload_n hx hb dX2_makeLoan_0 rfl (lv_at hl 2 rfl) ?_
  refine lv_bipush (v := 10) hx hb dX2_makeLoan_1 (by decide) ?_
  refine lv_idiv hx hb dX2_makeLoan_3 (by decide) ?_
  refine lv_topi (fun x_1 ex_1 => ?_)
  have hM := nm_at ex_1 hM
  refine lv_istore (lv' := [(6, .int x_1), (0, .ref (aM 0)), (1, .ref (aL 0)), (2, .int v2), (3, .int v3), (4, .int v4), (5, .int v5)]) hx hb dX2_makeLoan_4 hl (by decide) rfl (fun ls hl => ?_)
  refine lv_iload_n hx hb dX2_makeLoan_6 rfl (lv_at hl 3 rfl) ?_
  refine lv_bipush (v := 10) hx hb dX2_makeLoan_7 (by decide) ?_
  refine lv_irem hx hb dX2_makeLoan_9 (by decide) ?_
  refine lv_topi (fun x_2 ex_2 => ?_)
  have hM := nm_at ex_2 hM
  refine lv_istore (lv' := [(7, .int x_2), (6, .int x_1), (0, .ref (aM 0)), (1, .ref (aL 0)), (2, .int v2), (3, .int v3), (4, .int v4), (5, .int v5)]) hx hb dX2_makeLoan_10 hl (by decide) rfl (fun ls hl => ?_)
  refine lv_aload_n hx hb dX2_makeLoan_12 rfl (lv_at hl 2 rfl) ?_
  obtain ⟨x_3, hr_4, hM⟩ := bn_some hM
  refine gv_i (r0 := x_3) (wn := (wM ct aM mM ++ wL ct aL mL)) (va_runV (As := []) (rest := []) ⟨hx, hb, hml, hown, hts⟩ (kX2_freeNumber l dC dI ct aM _ mM _ hr_4) (cwV 0 hts gX2_makeLoan_X2_freeNumber rfl rfl rfl hvX2_freeNumber ⟨Nat.le_of_ble_eq_true rfl, Nat.le_of_ble_eq_true rfl⟩) (preV_of E0_ok hK hP hD (is := [0, 1, 2, 3, 4, 5, 6, 7, 8]) rfl rfl rfl (ci := 2) rfl 0 rfl e_0) rfl rfl hl.1 rfl (lv_room (Nat.le_of_ble_eq_true rfl)) dX2_makeLoan_13 ⟨Nat.le_of_ble_eq_true rfl, Nat.le_of_ble_eq_true rfl⟩) hP hD hS hA [0, 1, 2, 3, 4, 5, 6, 7, 8] [9, 10, 11, 12, 13, 14, 15, 16, 17, 18] [10, 11, 12, 13, 14, 15, 16, 17, 18, 0, 1, 2, 3, 4, 5, 6, 7, 8, 9] rfl rfl rfl (by decide) rfl rfl (fun H locs hP hD hS => ?_)
  refine lv_istore (lv' := [(8, .int x_3), (7, .int x_2), (6, .int x_1), (0, .ref (aM 0)), (1, .ref (aL 0)), (2, .int v2), (3, .int v3), (4, .int v4), (5, .int v5)]) hx hb dX2_makeLoan_16 hl (by decide) rfl (fun ls hl => ?_)
  refine lv_iload hx hb dX2_makeLoan_18 (lv_at hl 0 rfl) ?_
  refine lv_iconst (v := -1) hx hb dX2_makeLoan_20 (by decide) ?_
  refine lv_icmp_eq (tgt := 54) hx hb dX2_makeLoan_21 (by decide) (fun hc_6 => ?_) (fun hc_6 => ?_)
  · have hM := it_p hc_6 hM
    refine lv_iconst (v := -1) hx hb dX2_makeLoan_54 (by decide) ?_
    have hR := som hM
    rw [hR] at hQ
    exact ret_i hQ hx hb hr hlocks hP hK hD hS dX2_makeLoan_55
  · have hM := it_n hc_6 hM
    refine lv_aload_n hx hb dX2_makeLoan_24 rfl (lv_at hl 4 rfl) ?_
    refine lv_iload hx hb dX2_makeLoan_25 (lv_at hl 2 rfl) ?_
    obtain ⟨x_7, hr_8, hM⟩ := bn_some hM
    refine gv_i (r0 := x_7) (wn := (wM ct aM mM ++ wL ct aL mL)) (va_runV (As := [.int x_1]) (rest := []) ⟨hx, hb, hml, hown, hts⟩ (kX1_hasSort l dC dI ct aL _ mL x_1 _ hr_8) (cwV 1 hts gX2_makeLoan_X1_hasSort rfl rfl rfl hvX1_hasSort ⟨Nat.le_of_ble_eq_true rfl, Nat.le_of_ble_eq_true rfl⟩) (preV_of E0_ok hK hP hD (is := [9, 10, 11, 12, 13, 14, 15, 16, 17, 18]) rfl rfl rfl (ci := 1) rfl 9 rfl e_0) rfl rfl hl.1 rfl (lv_room (Nat.le_of_ble_eq_true rfl)) dX2_makeLoan_27 ⟨Nat.le_of_ble_eq_true rfl, Nat.le_of_ble_eq_true rfl⟩) hP hD hS hA [9, 10, 11, 12, 13, 14, 15, 16, 17, 18] [0, 1, 2, 3, 4, 5, 6, 7, 8] [0, 1, 2, 3, 4, 5, 6, 7, 8, 9, 10, 11, 12, 13, 14, 15, 16, 17, 18] rfl rfl rfl (by decide) rfl rfl (fun H locs hP hD hS => ?_)
    refine lv_if_eq (tgt := 54) hx hb dX2_makeLoan_30 (by decide) (fun hc_10 => ?_) (fun hc_10 => ?_)
    · have hM := it_p hc_10 hM
      refine lv_iconst (v := -1) hx hb dX2_makeLoan_54 (by decide) ?_
      have hR := som hM
      rw [hR] at hQ
      exact ret_i hQ hx hb hr hlocks hP hK hD hS dX2_makeLoan_55
    · have hM := it_n hc_10 hM
      refine lv_aload_n hx hb dX2_makeLoan_33 rfl (lv_at hl 4 rfl) ?_
      refine lv_iload hx hb dX2_makeLoan_34 (lv_at hl 1 rfl) ?_
      obtain ⟨x_11, hr_12, hM⟩ := bn_some hM
      refine gv_i (r0 := x_11) (wn := (wM ct aM mM ++ wL ct aL mL)) (va_runV (As := [.int x_2]) (rest := []) ⟨hx, hb, hml, hown, hts⟩ (kX1_hasSort l dC dI ct aL _ mL x_2 _ hr_12) (cwV 1 hts gX2_makeLoan_X1_hasSort rfl rfl rfl hvX1_hasSort ⟨Nat.le_of_ble_eq_true rfl, Nat.le_of_ble_eq_true rfl⟩) (preV_of E0_ok hK hP hD (is := [9, 10, 11, 12, 13, 14, 15, 16, 17, 18]) rfl rfl rfl (ci := 1) rfl 9 rfl e_0) rfl rfl hl.1 rfl (lv_room (Nat.le_of_ble_eq_true rfl)) dX2_makeLoan_36 ⟨Nat.le_of_ble_eq_true rfl, Nat.le_of_ble_eq_true rfl⟩) hP hD hS hA [9, 10, 11, 12, 13, 14, 15, 16, 17, 18] [0, 1, 2, 3, 4, 5, 6, 7, 8] [0, 1, 2, 3, 4, 5, 6, 7, 8, 9, 10, 11, 12, 13, 14, 15, 16, 17, 18] rfl rfl rfl (by decide) rfl rfl (fun H locs hP hD hS => ?_)
      refine lv_if_eq (tgt := 54) hx hb dX2_makeLoan_39 (by decide) (fun hc_14 => ?_) (fun hc_14 => ?_)
      · have hM := it_p hc_14 hM
        refine lv_iconst (v := -1) hx hb dX2_makeLoan_54 (by decide) ?_
        have hR := som hM
        rw [hR] at hQ
        exact ret_i hQ hx hb hr hlocks hP hK hD hS dX2_makeLoan_55
      · have hM := it_n hc_14 hM
        refine lv_aload_n hx hb dX2_makeLoan_42 rfl (lv_at hl 3 rfl) ?_
        refine va_get (D := (dC, dI)) (ci := 2) (v := .ref (aM 1)) (C := RX2) (T := TX2) (N := 10) hx hb hts iwX2_makeLoan_X2 hown hK hP 0 rfl rfl 2 (by decide) (hts _ (List.mem_of_getElem? (i := 1) rfl)) (fun _ h9 => h9) rfl dX2_makeLoan_43 ?_
        refine lv_iload hx hb dX2_makeLoan_46 (lv_at hl 2 rfl) ?_
        obtain ⟨hi, hM⟩ := gi_some hM
        refine va_iald hx hb hK hP 1 0 rfl rfl hi dX2_makeLoan_48 ?_
        refine lv_iload hx hb dX2_makeLoan_49 (lv_at hl 7 rfl) ?_
        refine lv_icmp_ge (tgt := 56) hx hb dX2_makeLoan_51 (by decide) (fun hc_15 => ?_) (fun hc_15 => ?_)
        · have hM := it_p hc_15 hM
          refine lv_aload_n hx hb dX2_makeLoan_56 rfl (lv_at hl 3 rfl) ?_
          refine va_get (D := (dC, dI)) (ci := 2) (v := .ref (aM 1)) (C := RX2) (T := TX2) (N := 10) hx hb hts iwX2_makeLoan_X2 hown hK hP 0 rfl rfl 2 (by decide) (hts _ (List.mem_of_getElem? (i := 1) rfl)) (fun _ h9 => h9) rfl dX2_makeLoan_57 ?_
          refine lv_iload hx hb dX2_makeLoan_60 (lv_at hl 2 rfl) ?_
          refine lv_dup2_11 hx hb dX2_makeLoan_62 rfl rfl ?_
          obtain ⟨hi, hM⟩ := gi_some hM
          refine va_iald hx hb hK hP 1 0 rfl rfl hi dX2_makeLoan_63 ?_
          refine lv_iload hx hb dX2_makeLoan_64 (lv_at hl 7 rfl) ?_
          refine lv_isub hx hb dX2_makeLoan_66 ?_
          obtain ⟨hi, hM⟩ := gi_some hM
          refine st_i (wf := fun z => (wM ct aM z ++ wL ct aL mL)) (m1 := upi mM 1 x_1.toNatClampNeg ((mM 1 x_1.toNatClampNeg) - v4)) hx hb hK hP hD hS 1 rfl hi dX2_makeLoan_67 rfl (fun mM_16 emM_16 H locs hP hD hS => ?_)
          have hM := nm_at emM_16 hM
          refine lv_aload_n hx hb dX2_makeLoan_68 rfl (lv_at hl 3 rfl) ?_
          refine va_get (D := (dC, dI)) (ci := 2) (v := .ref (aM 3)) (C := RX2) (T := TX2) (N := 10) hx hb hts iwX2_makeLoan_X2 hown hK hP 0 rfl rfl 4 (by decide) (hts _ (List.mem_of_getElem? (i := 2) rfl)) (fun _ h9 => h9) rfl dX2_makeLoan_69 ?_
          refine lv_iload hx hb dX2_makeLoan_72 (lv_at hl 0 rfl) ?_
          refine lv_iload hx hb dX2_makeLoan_74 (lv_at hl 2 rfl) ?_
          obtain ⟨hi, hM⟩ := gi_some hM
          refine st_i (wf := fun z => (wM ct aM z ++ wL ct aL mL)) (m1 := upi mM_16 3 x_3.toNatClampNeg x_1) hx hb hK hP hD hS 3 rfl hi dX2_makeLoan_76 rfl (fun mM_17 emM_17 H locs hP hD hS => ?_)
          have hM := nm_at emM_17 hM
          refine lv_aload_n hx hb dX2_makeLoan_77 rfl (lv_at hl 3 rfl) ?_
          refine va_get (D := (dC, dI)) (ci := 2) (v := .ref (aM 4)) (C := RX2) (T := TX2) (N := 10) hx hb hts iwX2_makeLoan_X2 hown hK hP 0 rfl rfl 5 (by decide) (hts _ (List.mem_of_getElem? (i := 3) rfl)) (fun _ h9 => h9) rfl dX2_makeLoan_78 ?_
          refine lv_iload hx hb dX2_makeLoan_81 (lv_at hl 0 rfl) ?_
          refine lv_iload hx hb dX2_makeLoan_83 (lv_at hl 1 rfl) ?_
          obtain ⟨hi, hM⟩ := gi_some hM
          refine st_i (wf := fun z => (wM ct aM z ++ wL ct aL mL)) (m1 := upi mM_17 4 x_3.toNatClampNeg x_2) hx hb hK hP hD hS 4 rfl hi dX2_makeLoan_85 rfl (fun mM_18 emM_18 H locs hP hD hS => ?_)
          have hM := nm_at emM_18 hM
          refine lv_aload_n hx hb dX2_makeLoan_86 rfl (lv_at hl 3 rfl) ?_
          refine va_get (D := (dC, dI)) (ci := 2) (v := .ref (aM 5)) (C := RX2) (T := TX2) (N := 10) hx hb hts iwX2_makeLoan_X2 hown hK hP 0 rfl rfl 6 (by decide) (hts _ (List.mem_of_getElem? (i := 4) rfl)) (fun _ h9 => h9) rfl dX2_makeLoan_87 ?_
          refine lv_iload hx hb dX2_makeLoan_90 (lv_at hl 0 rfl) ?_
          refine lv_iload_n hx hb dX2_makeLoan_92 rfl (lv_at hl 6 rfl) ?_
          obtain ⟨hi, hM⟩ := gi_some hM
          refine st_i (wf := fun z => (wM ct aM z ++ wL ct aL mL)) (m1 := upi mM_18 5 x_3.toNatClampNeg v3) hx hb hK hP hD hS 5 rfl hi dX2_makeLoan_93 rfl (fun mM_19 emM_19 H locs hP hD hS => ?_)
          have hM := nm_at emM_19 hM
          refine lv_aload_n hx hb dX2_makeLoan_94 rfl (lv_at hl 3 rfl) ?_
          refine va_get (D := (dC, dI)) (ci := 2) (v := .ref (aM 6)) (C := RX2) (T := TX2) (N := 10) hx hb hts iwX2_makeLoan_X2 hown hK hP 0 rfl rfl 7 (by decide) (hts _ (List.mem_of_getElem? (i := 5) rfl)) (fun _ h9 => h9) rfl dX2_makeLoan_95 ?_
          refine lv_iload hx hb dX2_makeLoan_98 (lv_at hl 0 rfl) ?_
          refine lv_iload hx hb dX2_makeLoan_100 (lv_at hl 7 rfl) ?_
          obtain ⟨hi, hM⟩ := gi_some hM
          refine st_i (wf := fun z => (wM ct aM z ++ wL ct aL mL)) (m1 := upi mM_19 6 x_3.toNatClampNeg v4) hx hb hK hP hD hS 6 rfl hi dX2_makeLoan_102 rfl (fun mM_20 emM_20 H locs hP hD hS => ?_)
          have hM := nm_at emM_20 hM
          refine lv_aload_n hx hb dX2_makeLoan_103 rfl (lv_at hl 3 rfl) ?_
          refine va_get (D := (dC, dI)) (ci := 2) (v := .ref (aM 7)) (C := RX2) (T := TX2) (N := 10) hx hb hts iwX2_makeLoan_X2 hown hK hP 0 rfl rfl 8 (by decide) (hts _ (List.mem_of_getElem? (i := 6) rfl)) (fun _ h9 => h9) rfl dX2_makeLoan_104 ?_
          refine lv_iload hx hb dX2_makeLoan_107 (lv_at hl 0 rfl) ?_
          refine lv_iload hx hb dX2_makeLoan_109 (lv_at hl 7 rfl) ?_
          refine lv_iload hx hb dX2_makeLoan_111 (lv_at hl 7 rfl) ?_
          refine lv_iload hx hb dX2_makeLoan_113 (lv_at hl 8 rfl) ?_
          refine lv_imul hx hb dX2_makeLoan_115 ?_
          refine lv_bipush (v := 100) hx hb dX2_makeLoan_116 (by decide) ?_
          refine lv_idiv hx hb dX2_makeLoan_118 (by decide) ?_
          refine lv_iadd hx hb dX2_makeLoan_119 ?_
          obtain ⟨hi, hM⟩ := gi_some hM
          refine st_i (wf := fun z => (wM ct aM z ++ wL ct aL mL)) (m1 := upi mM_20 7 x_3.toNatClampNeg (v4 + ((v4 * v5) / (100 : Int32)))) hx hb hK hP hD hS 7 rfl hi dX2_makeLoan_120 rfl (fun mM_21 emM_21 H locs hP hD hS => ?_)
          have hM := nm_at emM_21 hM
          refine lv_aload_n hx hb dX2_makeLoan_121 rfl (lv_at hl 3 rfl) ?_
          refine va_get (D := (dC, dI)) (ci := 2) (v := .ref (aM 8)) (C := RX2) (T := TX2) (N := 10) hx hb hts iwX2_makeLoan_X2 hown hK hP 0 rfl rfl 9 (by decide) (hts _ (List.mem_of_getElem? (i := 7) rfl)) (fun _ h9 => h9) rfl dX2_makeLoan_122 ?_
          refine lv_iload hx hb dX2_makeLoan_125 (lv_at hl 0 rfl) ?_
          refine lv_aload_n hx hb dX2_makeLoan_127 rfl (lv_at hl 3 rfl) ?_
          refine va_get (D := (dC, dI)) (ci := 2) (v := .int (mM_21 0 0)) (C := RX2) (T := TX2) (N := 10) hx hb hts iwX2_makeLoan_X2 hown hK hP 0 rfl rfl 0 (by decide) (hts _ (List.mem_of_getElem? (i := 8) rfl)) (fun _ h9 => h9) rfl dX2_makeLoan_128 ?_
          refine lv_aload_n hx hb dX2_makeLoan_131 rfl (lv_at hl 4 rfl) ?_
          refine va_get (D := (dC, dI)) (ci := 1) (v := .ref (aL 4)) (C := RX1) (T := TX1) (N := 17) hx hb hts iwX2_makeLoan_X1 hown hK hP 9 rfl rfl 9 (by decide) (hts _ (List.mem_of_getElem? (i := 9) rfl)) (fun _ h9 => h9) rfl dX2_makeLoan_132 ?_
          refine lv_iload hx hb dX2_makeLoan_135 (lv_at hl 1 rfl) ?_
          obtain ⟨hi, hM⟩ := gi_some hM
          refine va_iald hx hb hK hP 13 0 rfl rfl hi dX2_makeLoan_137 ?_
          refine lv_iadd hx hb dX2_makeLoan_138 ?_
          obtain ⟨hi, hM⟩ := gi_some hM
          refine st_i (wf := fun z => (wM ct aM z ++ wL ct aL mL)) (m1 := upi mM_21 8 x_3.toNatClampNeg ((mM_21 0 0) + (mL 4 x_2.toNatClampNeg))) hx hb hK hP hD hS 8 rfl hi dX2_makeLoan_139 rfl (fun mM_22 emM_22 H locs hP hD hS => ?_)
          have hM := nm_at emM_22 hM
          refine lv_iload hx hb dX2_makeLoan_140 (lv_at hl 0 rfl) ?_
          have hR := som hM
          rw [hR] at hQ
          exact ret_i hQ hx hb hr hlocks hP hK hD hS dX2_makeLoan_142
        · have hM := it_n hc_15 hM
          refine lv_iconst (v := -1) hx hb dX2_makeLoan_54 (by decide) ?_
          have hR := som hM
          rw [hR] at hQ
          exact ret_i hQ hx hb hr hlocks hP hK hD hS dX2_makeLoan_55
abbrev rmX2_payBack : Room := { frames := 1, cells := 0, slots := 0, locals := 22 }
theorem iwX2_payBack_X2 : ∀ w ∈ wsX20, w ∈ wsX2_payBack := fun _ h => List.mem_cons_of_mem _ (List.mem_append_left _ (List.mem_append_right _ (h)))
set_option maxHeartbeats 4000000 in
set_option maxRecDepth 100000 in
theorem kX2_payBack (l : Launch) (dC : Nat → ClassId) (dI : Nat → Nat → Nat) (ct : Nat → ClassId) (aM : Nat → Nat) (aL : Nat → Nat) (sz : Nat) (mM : Mem) (mL : Mem) (v2 : Int32) (res : Mem) (hM : mX2_payBack mM mL v2 = some res) : Met l yX2_payBack wsX2_payBack rmX2_payBack (va_Pc [.ref (aM 0), .ref (aL 0), .int v2] (PB (dC, dI) ct E0 sz (wM ct aM mM ++ wL ct aL mL))) (Qv (dC, dI) ct (va_A (wM ct aM mM ++ wL ct aL mL) sz) (wM ct aM res ++ wL ct aL mL)) 0 0 (va_A (wM ct aM mM ++ wL ct aL mL) sz) := by
  refine Met.ofW (cc := cX2_payBack) (maxL := 5) (ret := none) (by decide) rfl ?_
  intro p e s m args below meth c s₁ B hml hv
  obtain ⟨hargs, hsz, hP, hK, hD0, hE⟩ := hv
  have hx := B.exec
  have hb := B.bytes
  have hr := B.returns
  have hts := atoms_spec (ws := wsX2_payBack) B.pre
  have hown : s.vm.findClass RX2 = some m.cls := findClass_of_methodNamed B.named
  have hlocks := B.notSynchronized
  clear B s₁
  subst hsz
  have hD := hD0.self (sz := s.heap.size)
  clear hD0
  generalize hAe : va_A (wM ct aM mM ++ wL ct aL mL) s.heap.size = A at hD hE ⊢
  have hA : ∀ q : Nat, s.heap.size ≤ q → A q := fun q h => by rw [← hAe]; exact Or.inr h
  clear hAe
  have hS : va_S A s.heap s.heap [] := va_S.rf
  refine cutQ (fun Q hQ => ?_)
  refine entryW (vs := [.ref (aM 0), .ref (aL 0), .int v2]) hargs (Nat.le_of_ble_eq_true rfl) (fun ls hl => ?_)
  replace hl : lv_has ls 5 [(0, .ref (aM 0)), (1, .ref (aL 0)), (2, .int v2)] := hl
  unfold mX2_payBack at hM
  refine lv_aload_n hx hb dX2_payBack_0 rfl (lv_at hl 0 rfl) ?_
  refine va_get (D := (dC, dI)) (ci := 2) (v := .ref (aM 4)) (C := RX2) (T := TX2) (N := 10) hx hb hts iwX2_payBack_X2 hown hK hP 0 rfl rfl 5 (by decide) (hts _ (List.mem_of_getElem? (i := 1) rfl)) (fun _ h9 => h9) rfl dX2_payBack_1 ?_
  refine lv_iload_n hx hb dX2_payBack_4 rfl (lv_at hl 2 rfl) ?_
  obtain ⟨hi, hM⟩ := gi_some hM
  refine va_iald hx hb hK hP 4 0 rfl rfl hi dX2_payBack_5 ?_
  refine lv_topi (fun x_1 ex_1 => ?_)
  have hM := nm_at ex_1 hM
  refine lv_istore_n (lv' := [(3, .int x_1), (0, .ref (aM 0)), (1, .ref (aL 0)), (2, .int v2)]) hx hb dX2_payBack_6 rfl hl (by decide) rfl (fun ls hl => ?_)
  refine lv_aload_n hx hb dX2_payBack_7 rfl (lv_at hl 1 rfl) ?_
  refine va_get (D := (dC, dI)) (ci := 2) (v := .ref (aM 1)) (C := RX2) (T := TX2) (N := 10) hx hb hts iwX2_payBack_X2 hown hK hP 0 rfl rfl 2 (by decide) (hts _ (List.mem_of_getElem? (i := 2) rfl)) (fun _ h9 => h9) rfl dX2_payBack_8 ?_
  refine lv_iload_n hx hb dX2_payBack_11 rfl (lv_at hl 0 rfl) ?_
  refine lv_dup2_11 hx hb dX2_payBack_12 rfl rfl ?_
  obtain ⟨hi, hM⟩ := gi_some hM
  refine va_iald hx hb hK hP 1 0 rfl rfl hi dX2_payBack_13 ?_
  refine lv_aload_n hx hb dX2_payBack_14 rfl (lv_at hl 2 rfl) ?_
  refine lv_iload_n hx hb dX2_payBack_15 rfl (lv_at hl 0 rfl) ?_
  refine lv_aload_n hx hb dX2_payBack_16 rfl (lv_at hl 1 rfl) ?_
  refine va_get (D := (dC, dI)) (ci := 2) (v := .ref (aM 6)) (C := RX2) (T := TX2) (N := 10) hx hb hts iwX2_payBack_X2 hown hK hP 0 rfl rfl 7 (by decide) (hts _ (List.mem_of_getElem? (i := 3) rfl)) (fun _ h9 => h9) rfl dX2_payBack_17 ?_
  refine lv_iload_n hx hb dX2_payBack_20 rfl (lv_at hl 3 rfl) ?_
  obtain ⟨hi, hM⟩ := gi_some hM
  refine va_iald hx hb hK hP 6 0 rfl rfl hi dX2_payBack_21 ?_
  obtain ⟨x_2, hr_3, hM⟩ := bn_some hM
  refine gv_i (r0 := x_2) (wn := (wM ct aM mM ++ wL ct aL mL)) (va_runV (As := [.int x_1, .int (mM 6 v2.toNatClampNeg)]) (rest := [.int (mM 1 x_1.toNatClampNeg), .int x_1, .ref (aM 1)]) ⟨hx, hb, hml, hown, hts⟩ (kX1_yieldOf l dC dI ct aL _ mL x_1 (mM 6 v2.toNatClampNeg) _ hr_3) (cwV 2 hts gX2_payBack_X1_yieldOf rfl rfl rfl hvX1_yieldOf ⟨Nat.le_of_ble_eq_true rfl, Nat.le_of_ble_eq_true rfl⟩) (preV_of E0_ok hK hP hD (is := [9, 10, 11, 12, 13, 14, 15, 16, 17, 18]) rfl rfl rfl (ci := 1) rfl 9 rfl e_0) rfl rfl hl.1 rfl (lv_room (Nat.le_of_ble_eq_true rfl)) dX2_payBack_22 ⟨Nat.le_of_ble_eq_true rfl, Nat.le_of_ble_eq_true rfl⟩) hP hD hS hA [9, 10, 11, 12, 13, 14, 15, 16, 17, 18] [0, 1, 2, 3, 4, 5, 6, 7, 8] [0, 1, 2, 3, 4, 5, 6, 7, 8, 9, 10, 11, 12, 13, 14, 15, 16, 17, 18] rfl rfl rfl (by decide) rfl rfl (fun H locs hP hD hS => ?_)
  refine lv_aload_n hx hb dX2_payBack_25 rfl (lv_at hl 1 rfl) ?_
  refine va_get (D := (dC, dI)) (ci := 2) (v := .ref (aM 6)) (C := RX2) (T := TX2) (N := 10) hx hb hts iwX2_payBack_X2 hown hK hP 0 rfl rfl 7 (by decide) (hts _ (List.mem_of_getElem? (i := 3) rfl)) (fun _ h9 => h9) rfl dX2_payBack_26 ?_
  refine lv_iload_n hx hb dX2_payBack_29 rfl (lv_at hl 3 rfl) ?_
  obtain ⟨hi, hM⟩ := gi_some hM
  refine va_iald hx hb hK hP 6 0 rfl rfl hi dX2_payBack_30 ?_
  refine lv_iadd hx hb dX2_payBack_31 ?_
  refine lv_iadd hx hb dX2_payBack_32 ?_
  obtain ⟨hi, hM⟩ := gi_some hM
  refine st_i (wf := fun z => (wM ct aM z ++ wL ct aL mL)) (m1 := upi mM 1 x_1.toNatClampNeg ((mM 1 x_1.toNatClampNeg) + (x_2 + (mM 6 v2.toNatClampNeg)))) hx hb hK hP hD hS 1 rfl hi dX2_payBack_33 rfl (fun mM_5 emM_5 H locs hP hD hS => ?_)
  have hM := nm_at emM_5 hM
  refine lv_aload_n hx hb dX2_payBack_34 rfl (lv_at hl 1 rfl) ?_
  refine va_get (D := (dC, dI)) (ci := 2) (v := .ref (aM 1)) (C := RX2) (T := TX2) (N := 10) hx hb hts iwX2_payBack_X2 hown hK hP 0 rfl rfl 2 (by decide) (hts _ (List.mem_of_getElem? (i := 2) rfl)) (fun _ h9 => h9) rfl dX2_payBack_35 ?_
  refine lv_iload_n hx hb dX2_payBack_38 rfl (lv_at hl 0 rfl) ?_
  obtain ⟨hi, hM⟩ := gi_some hM
  refine va_iald hx hb hK hP 1 0 rfl rfl hi dX2_payBack_39 ?_
  refine lv_aload_n hx hb dX2_payBack_40 rfl (lv_at hl 1 rfl) ?_
  refine va_get (D := (dC, dI)) (ci := 2) (v := .ref (aM 7)) (C := RX2) (T := TX2) (N := 10) hx hb hts iwX2_payBack_X2 hown hK hP 0 rfl rfl 8 (by decide) (hts _ (List.mem_of_getElem? (i := 4) rfl)) (fun _ h9 => h9) rfl dX2_payBack_41 ?_
  refine lv_iload_n hx hb dX2_payBack_44 rfl (lv_at hl 3 rfl) ?_
  obtain ⟨hi, hM⟩ := gi_some hM
  refine va_iald hx hb hK hP 7 0 rfl rfl hi dX2_payBack_45 ?_
  refine va_mmin hx hb (hml.trans hl.1.symm) hown (hts _ (List.mem_of_getElem? (i := 5) rfl)) (hts _ (List.mem_of_getElem? (i := 6) rfl)) (hts _ (List.mem_of_getElem? (i := 7) rfl)) (hts _ (List.mem_of_getElem? (i := 8) rfl)) (Nat.le_of_ble_eq_true rfl) (Nat.le_of_ble_eq_true rfl) (Nat.le_of_ble_eq_true rfl) (Nat.le_of_ble_eq_true rfl) dX2_payBack_46 ?_
  refine lv_topi (fun x_6 ex_6 => ?_)
  have hM := nm_at ex_6 hM
  refine lv_istore (lv' := [(4, .int x_6), (3, .int x_1), (0, .ref (aM 0)), (1, .ref (aL 0)), (2, .int v2)]) hx hb dX2_payBack_49 hl (by decide) rfl (fun ls hl => ?_)
  refine lv_aload_n hx hb dX2_payBack_51 rfl (lv_at hl 2 rfl) ?_
  refine va_get (D := (dC, dI)) (ci := 2) (v := .ref (aM 1)) (C := RX2) (T := TX2) (N := 10) hx hb hts iwX2_payBack_X2 hown hK hP 0 rfl rfl 2 (by decide) (hts _ (List.mem_of_getElem? (i := 2) rfl)) (fun _ h9 => h9) rfl dX2_payBack_52 ?_
  refine lv_iload_n hx hb dX2_payBack_55 rfl (lv_at hl 1 rfl) ?_
  refine lv_dup2_11 hx hb dX2_payBack_56 rfl rfl ?_
  obtain ⟨hi, hM⟩ := gi_some hM
  refine va_iald hx hb hK hP 1 0 rfl rfl hi dX2_payBack_57 ?_
  refine lv_iload hx hb dX2_payBack_58 (lv_at hl 0 rfl) ?_
  refine lv_isub hx hb dX2_payBack_60 ?_
  obtain ⟨hi, hM⟩ := gi_some hM
  refine st_i (wf := fun z => (wM ct aM z ++ wL ct aL mL)) (m1 := upi mM_5 1 x_1.toNatClampNeg ((mM_5 1 x_1.toNatClampNeg) - x_6)) hx hb hK hP hD hS 1 rfl hi dX2_payBack_61 rfl (fun mM_7 emM_7 H locs hP hD hS => ?_)
  have hM := nm_at emM_7 hM
  refine lv_aload_n hx hb dX2_payBack_62 rfl (lv_at hl 2 rfl) ?_
  refine va_get (D := (dC, dI)) (ci := 2) (v := .ref (aM 1)) (C := RX2) (T := TX2) (N := 10) hx hb hts iwX2_payBack_X2 hown hK hP 0 rfl rfl 2 (by decide) (hts _ (List.mem_of_getElem? (i := 2) rfl)) (fun _ h9 => h9) rfl dX2_payBack_63 ?_
  refine lv_aload_n hx hb dX2_payBack_66 rfl (lv_at hl 2 rfl) ?_
  refine va_get (D := (dC, dI)) (ci := 2) (v := .ref (aM 3)) (C := RX2) (T := TX2) (N := 10) hx hb hts iwX2_payBack_X2 hown hK hP 0 rfl rfl 4 (by decide) (hts _ (List.mem_of_getElem? (i := 9) rfl)) (fun _ h9 => h9) rfl dX2_payBack_67 ?_
  refine lv_iload_n hx hb dX2_payBack_70 rfl (lv_at hl 4 rfl) ?_
  obtain ⟨hi, hM⟩ := gi_some hM
  refine va_iald hx hb hK hP 3 0 rfl rfl hi dX2_payBack_71 ?_
  refine lv_dup2_11 hx hb dX2_payBack_72 rfl rfl ?_
  obtain ⟨hi, hM⟩ := gi_some hM
  refine va_iald hx hb hK hP 1 0 rfl rfl hi dX2_payBack_73 ?_
  refine lv_iload hx hb dX2_payBack_74 (lv_at hl 0 rfl) ?_
  refine lv_iadd hx hb dX2_payBack_76 ?_
  obtain ⟨hi, hM⟩ := gi_some hM
  refine st_i (wf := fun z => (wM ct aM z ++ wL ct aL mL)) (m1 := upi mM_7 1 (mM_7 3 v2.toNatClampNeg).toNatClampNeg ((mM_7 1 (mM_7 3 v2.toNatClampNeg).toNatClampNeg) + x_6)) hx hb hK hP hD hS 1 rfl hi dX2_payBack_77 rfl (fun mM_8 emM_8 H locs hP hD hS => ?_)
  have hM := nm_at emM_8 hM
  refine lv_aload_n hx hb dX2_payBack_78 rfl (lv_at hl 2 rfl) ?_
  refine va_get (D := (dC, dI)) (ci := 2) (v := .ref (aM 6)) (C := RX2) (T := TX2) (N := 10) hx hb hts iwX2_payBack_X2 hown hK hP 0 rfl rfl 7 (by decide) (hts _ (List.mem_of_getElem? (i := 3) rfl)) (fun _ h9 => h9) rfl dX2_payBack_79 ?_
  refine lv_iload_n hx hb dX2_payBack_82 rfl (lv_at hl 4 rfl) ?_
  refine lv_iconst (v := 0) hx hb dX2_payBack_83 (by decide) ?_
  obtain ⟨hi, hM⟩ := gi_some hM
  refine st_i (wf := fun z => (wM ct aM z ++ wL ct aL mL)) (m1 := upi mM_8 6 v2.toNatClampNeg (0 : Int32)) hx hb hK hP hD hS 6 rfl hi dX2_payBack_84 rfl (fun mM_9 emM_9 H locs hP hD hS => ?_)
  have hM := nm_at emM_9 hM
  have hR := som hM
  rw [hR] at hQ
  exact ret_v hQ hx hb hr hlocks hP hK hD hS dX2_payBack_85
abbrev rmX2_passNight : Room := { frames := 2, cells := 0, slots := 0, locals := 46 }
theorem iwX2_passNight_X2 : ∀ w ∈ wsX20, w ∈ wsX2_passNight := fun _ h => List.mem_cons_of_mem _ (List.mem_append_left _ (List.mem_append_right _ (h)))
set_option maxHeartbeats 4000000 in
set_option maxRecDepth 100000 in
theorem kX2_passNight (l : Launch) (dC : Nat → ClassId) (dI : Nat → Nat → Nat) (ct : Nat → ClassId) (aM : Nat → Nat) (aL : Nat → Nat) (sz : Nat) (mM : Mem) (mL : Mem) (res : Mem) (hM : mX2_passNight mM mL = some res) : Met l yX2_passNight wsX2_passNight rmX2_passNight (va_Pc [.ref (aM 0), .ref (aL 0)] (PB (dC, dI) ct E0 sz (wM ct aM mM ++ wL ct aL mL))) (Qv (dC, dI) ct (va_A (wM ct aM mM ++ wL ct aL mL) sz) (wM ct aM res ++ wL ct aL mL)) 0 0 (va_A (wM ct aM mM ++ wL ct aL mL) sz) := by
  refine Met.ofW (cc := cX2_passNight) (maxL := 3) (ret := none) (by decide) rfl ?_
  intro p e s m args below meth c s₁ B hml hv
  obtain ⟨hargs, hsz, hP, hK, hD0, hE⟩ := hv
  have hx := B.exec
  have hb := B.bytes
  have hr := B.returns
  have hts := atoms_spec (ws := wsX2_passNight) B.pre
  have hown : s.vm.findClass RX2 = some m.cls := findClass_of_methodNamed B.named
  have hlocks := B.notSynchronized
  clear B s₁
  subst hsz
  have hD := hD0.self (sz := s.heap.size)
  clear hD0
  generalize hAe : va_A (wM ct aM mM ++ wL ct aL mL) s.heap.size = A at hD hE ⊢
  have hA : ∀ q : Nat, s.heap.size ≤ q → A q := fun q h => by rw [← hAe]; exact Or.inr h
  clear hAe
  have hS : va_S A s.heap s.heap [] := va_S.rf
  refine cutQ (fun Q hQ => ?_)
  refine entryW (vs := [.ref (aM 0), .ref (aL 0)]) hargs (Nat.le_of_ble_eq_true rfl) (fun ls hl => ?_)
  replace hl : lv_has ls 3 [(0, .ref (aM 0)), (1, .ref (aL 0))] := hl
  unfold mX2_passNight at hM
  have N12 : ∀ (v2 : Int32) (mM : Mem), mX2_passNight_L12 v2 mM mL = some res → ∀ (H : Heap) (locs : List Loc), va_P (dC, dI) vwCl (wM ct aM mM ++ wL ct aL mL) H → va_D A (wM ct aM mM ++ wL ct aL mL) → va_S A s.heap H locs → ∀ ls : Array Slot, lv_has ls 3 [(0, .ref (aM 0)), (1, .ref (aL 0)), (2, .int v2)] → W p l e (headSpec wsX2_passNight rmX2_passNight).room s m args below meth c H locs 0 0 Q (F0 m 12 ls []) := by
    intro v2 mM hM H locs hP hD hS ls hl
    unfold mX2_passNight_L12 at hM
    obtain ⟨ex12, hit12, hM⟩ := bn_some hM
    have X12_0 : ∀ (mM : Mem), ex12 = mM → ∀ (H : Heap) (locs : List Loc), va_P (dC, dI) vwCl (wM ct aM mM ++ wL ct aL mL) H → va_D A (wM ct aM mM ++ wL ct aL mL) → va_S A s.heap H locs → ∀ ls : Array Slot, lv_has ls 3 [] → W p l e (headSpec wsX2_passNight rmX2_passNight).room s m args below meth c H locs 0 0 Q (F0 m 52 ls []) := by
      intro mM hex H locs hP hD hS ls hl
      rw [hex] at hM
      have hM := nm_at (y := mM) rfl hM
      have hR := som hM
      rw [hR] at hQ
      exact ret_v hQ hx hb hr hlocks hP hK hD hS dX2_passNight_52
    have I12 : ∀ (n : Nat) (v2 : Int32) (mM : Mem), itr (fun q => mX2_passNight_s12 mL q.1 q.2) n (v2, mM) = some ex12 → ∀ (H : Heap) (locs : List Loc), va_P (dC, dI) vwCl (wM ct aM mM ++ wL ct aL mL) H → va_D A (wM ct aM mM ++ wL ct aL mL) → va_S A s.heap H locs → ∀ ls : Array Slot, lv_has ls 3 [(0, .ref (aM 0)), (1, .ref (aL 0)), (2, .int v2)] → W p l e (headSpec wsX2_passNight rmX2_passNight).room s m args below meth c H locs 0 0 Q (F0 m 12 ls []) := by
      intro n
      induction n with
      | zero => intro v2 mM hit; exact (itr_zero hit).elim
      | succ n ih12 =>
        intro v2 mM hit H locs hP hD hS ls hl
        obtain ⟨o12, hM, hbk12, hex12⟩ := itr_succ hit
        replace hM : mX2_passNight_s12 mL v2 mM = some o12 := hM
        unfold mX2_passNight_s12 at hM
        refine lv_iload_n hx hb dX2_passNight_12 rfl (lv_at hl 2 rfl) ?_
        refine lv_bipush (v := 40) hx hb dX2_passNight_13 (by decide) ?_
        refine lv_icmp_ge (tgt := 52) hx hb dX2_passNight_15 (by decide) (fun hc_1 => ?_) (fun hc_1 => ?_)
        · have hM := it_p hc_1 hM
          have hR := som hM
          exact X12_0 mM (hex12 _ hR).symm _ _ hP hD hS _ (lv_sub hl [] rfl)
        · have hM := it_n hc_1 hM
          refine lv_aload_n hx hb dX2_passNight_18 rfl (lv_at hl 0 rfl) ?_
          refine va_get (D := (dC, dI)) (ci := 2) (v := .ref (aM 6)) (C := RX2) (T := TX2) (N := 10) hx hb hts iwX2_passNight_X2 hown hK hP 0 rfl rfl 7 (by decide) (hts _ (List.mem_of_getElem? (i := 2) rfl)) (fun _ h9 => h9) rfl dX2_passNight_19 ?_
          refine lv_iload_n hx hb dX2_passNight_22 rfl (lv_at hl 2 rfl) ?_
          obtain ⟨hi, hM⟩ := gi_some hM
          refine va_iald hx hb hK hP 6 0 rfl rfl hi dX2_passNight_23 ?_
          refine lv_if_le (tgt := 46) hx hb dX2_passNight_24 (by decide) (fun hc_2 => ?_) (fun hc_2 => ?_)
          · have hM := it_p hc_2 hM
            obtain ⟨x_3, ex_3⟩ : ∃ y : Int32, y = (v2 + (1 : Int32)) := ⟨_, rfl⟩
            have hM := nm_at ex_3 hM
            refine lv_iinc (v := x_3) (lv' := [(2, .int x_3), (0, .ref (aM 0)), (1, .ref (aL 0))]) hx hb dX2_passNight_46 hl (k := 2) rfl (by rw [ex_3]; rfl) (by decide) rfl (fun ls hl => ?_)
            refine lv_goto (tgt := 12) hx hb dX2_passNight_49 (by decide) ?_
            have hR := som hM
            exact ih12 x_3 mM (hbk12 _ hR) _ _ hP hD hS _ (lv_sub hl [1, 2, 0] rfl)
          · have hM := it_n hc_2 hM
            refine lv_aload_n hx hb dX2_passNight_27 rfl (lv_at hl 0 rfl) ?_
            refine va_get (D := (dC, dI)) (ci := 2) (v := .ref (aM 8)) (C := RX2) (T := TX2) (N := 10) hx hb hts iwX2_passNight_X2 hown hK hP 0 rfl rfl 9 (by decide) (hts _ (List.mem_of_getElem? (i := 3) rfl)) (fun _ h9 => h9) rfl dX2_passNight_28 ?_
            refine lv_iload_n hx hb dX2_passNight_31 rfl (lv_at hl 2 rfl) ?_
            obtain ⟨hi, hM⟩ := gi_some hM
            refine va_iald hx hb hK hP 8 0 rfl rfl hi dX2_passNight_32 ?_
            refine lv_aload_n hx hb dX2_passNight_33 rfl (lv_at hl 0 rfl) ?_
            refine va_get (D := (dC, dI)) (ci := 2) (v := .int (mM 0 0)) (C := RX2) (T := TX2) (N := 10) hx hb hts iwX2_passNight_X2 hown hK hP 0 rfl rfl 0 (by decide) (hts _ (List.mem_of_getElem? (i := 1) rfl)) (fun _ h9 => h9) rfl dX2_passNight_34 ?_
            refine lv_icmp_ne (tgt := 46) hx hb dX2_passNight_37 (by decide) (fun hc_4 => ?_) (fun hc_4 => ?_)
            · have hM := it_p hc_4 hM
              obtain ⟨x_5, ex_5⟩ : ∃ y : Int32, y = (v2 + (1 : Int32)) := ⟨_, rfl⟩
              have hM := nm_at ex_5 hM
              refine lv_iinc (v := x_5) (lv' := [(2, .int x_5), (0, .ref (aM 0)), (1, .ref (aL 0))]) hx hb dX2_passNight_46 hl (k := 2) rfl (by rw [ex_5]; rfl) (by decide) rfl (fun ls hl => ?_)
              refine lv_goto (tgt := 12) hx hb dX2_passNight_49 (by decide) ?_
              have hR := som hM
              exact ih12 x_5 mM (hbk12 _ hR) _ _ hP hD hS _ (lv_sub hl [1, 2, 0] rfl)
            · have hM := it_nn hc_4 hM
              refine lv_aload_n hx hb dX2_passNight_40 rfl (lv_at hl 0 rfl) ?_
              refine lv_aload_n hx hb dX2_passNight_41 rfl (lv_at hl 1 rfl) ?_
              refine lv_iload_n hx hb dX2_passNight_42 rfl (lv_at hl 2 rfl) ?_
              obtain ⟨mM_6, hr_7, hM⟩ := bn_some hM
              refine gv_v (wn := (wM ct aM mM_6 ++ wL ct aL mL)) (va_runV (As := [.ref (aL 0), .int v2]) (rest := []) ⟨hx, hb, hml, hown, hts⟩ (kX2_payBack l dC dI ct aM aL _ mM mL v2 _ hr_7) (cwV 2 hts gX2_passNight_X2_payBack rfl rfl rfl hvX2_payBack ⟨Nat.le_of_ble_eq_true rfl, Nat.le_of_ble_eq_true rfl⟩) (preV_of E0_ok hK hP hD (is := [0, 1, 2, 3, 4, 5, 6, 7, 8, 9, 10, 11, 12, 13, 14, 15, 16, 17, 18]) rfl rfl rfl (ci := 2) rfl 0 rfl e_0) rfl rfl hl.1 rfl (lv_room (Nat.le_of_ble_eq_true rfl)) dX2_passNight_43 ⟨Nat.le_of_ble_eq_true rfl, Nat.le_of_ble_eq_true rfl⟩) hP hD hS hA [0, 1, 2, 3, 4, 5, 6, 7, 8, 9, 10, 11, 12, 13, 14, 15, 16, 17, 18] [] [0, 1, 2, 3, 4, 5, 6, 7, 8, 9, 10, 11, 12, 13, 14, 15, 16, 17, 18] rfl rfl rfl (by decide) rfl rfl (fun H locs hP hD hS => ?_)
              obtain ⟨x_9, ex_9⟩ : ∃ y : Int32, y = (v2 + (1 : Int32)) := ⟨_, rfl⟩
              have hM := nm_at ex_9 hM
              refine lv_iinc (v := x_9) (lv' := [(2, .int x_9), (0, .ref (aM 0)), (1, .ref (aL 0))]) hx hb dX2_passNight_46 hl (k := 2) rfl (by rw [ex_9]; rfl) (by decide) rfl (fun ls hl => ?_)
              refine lv_goto (tgt := 12) hx hb dX2_passNight_49 (by decide) ?_
              have hR := som hM
              exact ih12 x_9 mM_6 (hbk12 _ hR) _ _ hP hD hS _ (lv_sub hl [1, 2, 0] rfl)
    exact I12 FU v2 mM hit12 _ _ hP hD hS _ hl
  refine lv_aload_n hx hb dX2_passNight_0 rfl (lv_at hl 0 rfl) ?_
  refine lv_dup hx hb dX2_passNight_1 rfl ?_
  refine va_get (D := (dC, dI)) (ci := 2) (v := .int (mM 0 0)) (C := RX2) (T := TX2) (N := 10) hx hb hts iwX2_passNight_X2 hown hK hP 0 rfl rfl 0 (by decide) (hts _ (List.mem_of_getElem? (i := 1) rfl)) (fun _ h9 => h9) rfl dX2_passNight_2 ?_
  refine lv_iconst (v := 1) hx hb dX2_passNight_5 (by decide) ?_
  refine lv_iadd hx hb dX2_passNight_6 ?_
  refine pf_i (wf := fun z => (wM ct aM z ++ wL ct aL mL)) (m1 := upf mM 0 ((mM 0 0) + (1 : Int32))) hx hb hts iwX2_passNight_X2 tyX2 tyX2_ok nmX2 hown hK hP hD hS 0 rfl rfl 0 (by decide) (hts _ (List.mem_of_getElem? (i := 1) rfl)) (fun _ h9 => h9) rfl rfl rfl (Nat.le_of_ble_eq_true rfl) dX2_passNight_7 rfl (fun mM_10 emM_10 H locs hP hD hS => ?_)
  have hM := nm_at emM_10 hM
  refine lv_iconst (v := 0) hx hb dX2_passNight_10 (by decide) ?_
  refine lv_istore_n (lv' := [(2, .int (0 : Int32)), (0, .ref (aM 0)), (1, .ref (aL 0))]) hx hb dX2_passNight_11 rfl hl (by decide) rfl (fun ls hl => ?_)
  exact N12 (0 : Int32) mM_10 hM _ _ hP hD hS _ (lv_sub hl [1, 2, 0] rfl)
abbrev rmX2_lotBelow16 : Room := { frames := 0, cells := 0, slots := 0, locals := 0 }
theorem iwX2_lotBelow16_X2 : ∀ w ∈ wsX20, w ∈ wsX2_lotBelow16 := fun _ h => List.mem_cons_of_mem _ (List.mem_append_right _ (h))
set_option maxHeartbeats 4000000 in
set_option maxRecDepth 100000 in
theorem kX2_lotBelow16 (l : Launch) (dC : Nat → ClassId) (dI : Nat → Nat → Nat) (ct : Nat → ClassId) (aM : Nat → Nat) (sz : Nat) (mM : Mem) (res : (Int32 × Mem)) (hM : mX2_lotBelow16 mM = some res) : Met l yX2_lotBelow16 wsX2_lotBelow16 rmX2_lotBelow16 (va_Pc [.ref (aM 0)] (PB (dC, dI) ct E0 sz (wM ct aM mM))) (Qi (dC, dI) ct (va_A (wM ct aM mM) sz) res.1 (wM ct aM res.2)) 0 0 (va_A (wM ct aM mM) sz) := by
  refine Met.ofW (cc := cX2_lotBelow16) (maxL := 1) (ret := (some .int)) (by decide) rfl ?_
  intro p e s m args below meth c s₁ B hml hv
  obtain ⟨hargs, hsz, hP, hK, hD0, hE⟩ := hv
  have hx := B.exec
  have hb := B.bytes
  have hr := B.returns
  have hts := atoms_spec (ws := wsX2_lotBelow16) B.pre
  have hown : s.vm.findClass RX2 = some m.cls := findClass_of_methodNamed B.named
  have hlocks := B.notSynchronized
  clear B s₁
  subst hsz
  have hD := hD0.self (sz := s.heap.size)
  clear hD0
  generalize hAe : va_A (wM ct aM mM) s.heap.size = A at hD hE ⊢
  have hA : ∀ q : Nat, s.heap.size ≤ q → A q := fun q h => by rw [← hAe]; exact Or.inr h
  clear hAe
  have hS : va_S A s.heap s.heap [] := va_S.rf
  refine cutQ (fun Q hQ => ?_)
  refine entryW (vs := [.ref (aM 0)]) hargs (Nat.le_of_ble_eq_true rfl) (fun ls hl => ?_)
  replace hl : lv_has ls 1 [(0, .ref (aM 0))] := hl
  unfold mX2_lotBelow16 at hM
  refine lv_aload_n hx hb dX2_lotBelow16_0 rfl (lv_at hl 0 rfl) ?_
  refine lv_aload_n hx hb dX2_lotBelow16_1 rfl (lv_at hl 0 rfl) ?_
  refine va_get (D := (dC, dI)) (ci := 2) (v := .int (mM 0 1)) (C := RX2) (T := TX2) (N := 10) hx hb hts iwX2_lotBelow16_X2 hown hK hP 0 rfl rfl 1 (by decide) (hts _ (List.mem_of_getElem? (i := 1) rfl)) (fun _ h9 => h9) rfl dX2_lotBelow16_2 ?_
  refine lv_ldc (v := 1103515245) hx hb hown (hts _ (List.mem_of_getElem? (i := 2) rfl)) dX2_lotBelow16_5 ?_
  refine lv_imul hx hb dX2_lotBelow16_7 ?_
  refine lv_sipush (v := 12345) hx hb dX2_lotBelow16_8 (by decide) ?_
  refine lv_iadd hx hb dX2_lotBelow16_11 ?_
  refine lv_ldc (v := 2147483647) hx hb hown (hts _ (List.mem_of_getElem? (i := 3) rfl)) dX2_lotBelow16_12 ?_
  refine lv_iand hx hb dX2_lotBelow16_14 ?_
  refine pf_i (wf := fun z => (wM ct aM z)) (m1 := upf mM 1 ((((mM 0 1) * (1103515245 : Int32)) + (12345 : Int32)) &&& (2147483647 : Int32))) hx hb hts iwX2_lotBelow16_X2 tyX2 tyX2_ok nmX2 hown hK hP hD hS 0 rfl rfl 1 (by decide) (hts _ (List.mem_of_getElem? (i := 1) rfl)) (fun _ h9 => h9) rfl rfl rfl (Nat.le_of_ble_eq_true rfl) dX2_lotBelow16_15 rfl (fun mM_1 emM_1 H locs hP hD hS => ?_)
  have hM := nm_at emM_1 hM
  refine lv_aload_n hx hb dX2_lotBelow16_18 rfl (lv_at hl 0 rfl) ?_
  refine va_get (D := (dC, dI)) (ci := 2) (v := .int (mM_1 0 1)) (C := RX2) (T := TX2) (N := 10) hx hb hts iwX2_lotBelow16_X2 hown hK hP 0 rfl rfl 1 (by decide) (hts _ (List.mem_of_getElem? (i := 1) rfl)) (fun _ h9 => h9) rfl dX2_lotBelow16_19 ?_
  refine lv_bipush (v := 8) hx hb dX2_lotBelow16_22 (by decide) ?_
  refine lv_ishr hx hb dX2_lotBelow16_24 ?_
  refine lv_bipush (v := 16) hx hb dX2_lotBelow16_25 (by decide) ?_
  refine lv_irem hx hb dX2_lotBelow16_27 (by decide) ?_
  refine lv_topi (fun x_2 ex_2 => ?_)
  have hM := nm_at ex_2 hM
  have hR := som hM
  rw [hR] at hQ
  exact ret_i hQ hx hb hr hlocks hP hK hD hS dX2_lotBelow16_28
abbrev rmX2_canBeStruck : Room := { frames := 1, cells := 0, slots := 0, locals := 21 }
theorem iwX2_canBeStruck_X2 : ∀ w ∈ wsX20, w ∈ wsX2_canBeStruck := fun _ h => List.mem_cons_of_mem _ (List.mem_append_left _ (List.mem_append_right _ (h)))
set_option maxHeartbeats 4000000 in
set_option maxRecDepth 100000 in
theorem kX2_canBeStruck (l : Launch) (dC : Nat → ClassId) (dI : Nat → Nat → Nat) (ct : Nat → ClassId) (aM : Nat → Nat) (aL : Nat → Nat) (sz : Nat) (mM : Mem) (mL : Mem) (v2 : Int32) (res : Int32) (hM : mX2_canBeStruck mM mL v2 = some res) : Met l yX2_canBeStruck wsX2_canBeStruck rmX2_canBeStruck (va_Pc [.ref (aM 0), .ref (aL 0), .int v2] (PB (dC, dI) ct E0 sz (wM ct aM mM ++ wL ct aL mL))) (Qi (dC, dI) ct (va_A (wM ct aM mM ++ wL ct aL mL) sz) res (wM ct aM mM ++ wL ct aL mL)) 0 0 (va_A (wM ct aM mM ++ wL ct aL mL) sz) := by
  refine Met.ofW (cc := cX2_canBeStruck) (maxL := 3) (ret := (some .boolean)) (by decide) rfl ?_
  intro p e s m args below meth c s₁ B hml hv
  obtain ⟨hargs, hsz, hP, hK, hD0, hE⟩ := hv
  have hx := B.exec
  have hb := B.bytes
  have hr := B.returns
  have hts := atoms_spec (ws := wsX2_canBeStruck) B.pre
  have hown : s.vm.findClass RX2 = some m.cls := findClass_of_methodNamed B.named
  have hlocks := B.notSynchronized
  clear B s₁
  subst hsz
  have hD := hD0.self (sz := s.heap.size)
  clear hD0
  generalize hAe : va_A (wM ct aM mM ++ wL ct aL mL) s.heap.size = A at hD hE ⊢
  have hA : ∀ q : Nat, s.heap.size ≤ q → A q := fun q h => by rw [← hAe]; exact Or.inr h
  clear hAe
  have hS : va_S A s.heap s.heap [] := va_S.rf
  refine cutQ (fun Q hQ => ?_)
  refine entryW (vs := [.ref (aM 0), .ref (aL 0), .int v2]) hargs (Nat.le_of_ble_eq_true rfl) (fun ls hl => ?_)
  replace hl : lv_has ls 3 [(0, .ref (aM 0)), (1, .ref (aL 0)), (2, .int v2)] := hl
  unfold mX2_canBeStruck at hM
  refine lv_aload_n hx hb dX2_canBeStruck_0 rfl (lv_at hl 0 rfl) ?_
  refine va_get (D := (dC, dI)) (ci := 2) (v := .ref (aM 6)) (C := RX2) (T := TX2) (N := 10) hx hb hts iwX2_canBeStruck_X2 hown hK hP 0 rfl rfl 7 (by decide) (hts _ (List.mem_of_getElem? (i := 1) rfl)) (fun _ h9 => h9) rfl dX2_canBeStruck_1 ?_
  refine lv_iload_n hx hb dX2_canBeStruck_4 rfl (lv_at hl 2 rfl) ?_
  obtain ⟨hi, hM⟩ := gi_some hM
  refine va_iald hx hb hK hP 6 0 rfl rfl hi dX2_canBeStruck_5 ?_
  refine lv_if_le (tgt := 26) hx hb dX2_canBeStruck_6 (by decide) (fun hc_1 => ?_) (fun hc_1 => ?_)
  · have hM := it_p hc_1 hM
    refine lv_iconst (v := 0) hx hb dX2_canBeStruck_26 (by decide) ?_
    have hR := som hM
    rw [hR] at hQ
    exact ret_z hQ hx hb hr hlocks rfl hP hK hD hS dX2_canBeStruck_27
  · have hM := it_n hc_1 hM
    refine lv_aload_n hx hb dX2_canBeStruck_9 rfl (lv_at hl 1 rfl) ?_
    refine lv_aload_n hx hb dX2_canBeStruck_10 rfl (lv_at hl 0 rfl) ?_
    refine va_get (D := (dC, dI)) (ci := 2) (v := .ref (aM 5)) (C := RX2) (T := TX2) (N := 10) hx hb hts iwX2_canBeStruck_X2 hown hK hP 0 rfl rfl 6 (by decide) (hts _ (List.mem_of_getElem? (i := 2) rfl)) (fun _ h9 => h9) rfl dX2_canBeStruck_11 ?_
    refine lv_iload_n hx hb dX2_canBeStruck_14 rfl (lv_at hl 2 rfl) ?_
    obtain ⟨hi, hM⟩ := gi_some hM
    refine va_iald hx hb hK hP 5 0 rfl rfl hi dX2_canBeStruck_15 ?_
    obtain ⟨x_2, hr_3, hM⟩ := bn_some hM
    refine gv_i (r0 := x_2) (wn := (wM ct aM mM ++ wL ct aL mL)) (va_runV (As := [.int (mM 5 v2.toNatClampNeg)]) (rest := []) ⟨hx, hb, hml, hown, hts⟩ (kX1_isSpared l dC dI ct aL _ mL (mM 5 v2.toNatClampNeg) _ hr_3) (cwV 1 hts gX2_canBeStruck_X1_isSpared rfl rfl rfl hvX1_isSpared ⟨Nat.le_of_ble_eq_true rfl, Nat.le_of_ble_eq_true rfl⟩) (preV_of E0_ok hK hP hD (is := [9, 10, 11, 12, 13, 14, 15, 16, 17, 18]) rfl rfl rfl (ci := 1) rfl 9 rfl e_0) rfl rfl hl.1 rfl (lv_room (Nat.le_of_ble_eq_true rfl)) dX2_canBeStruck_16 ⟨Nat.le_of_ble_eq_true rfl, Nat.le_of_ble_eq_true rfl⟩) hP hD hS hA [9, 10, 11, 12, 13, 14, 15, 16, 17, 18] [0, 1, 2, 3, 4, 5, 6, 7, 8] [0, 1, 2, 3, 4, 5, 6, 7, 8, 9, 10, 11, 12, 13, 14, 15, 16, 17, 18] rfl rfl rfl (by decide) rfl rfl (fun H locs hP hD hS => ?_)
    refine lv_if_ne (tgt := 26) hx hb dX2_canBeStruck_19 (by decide) (fun hc_5 => ?_) (fun hc_5 => ?_)
    · have hM := it_p hc_5 hM
      refine lv_iconst (v := 0) hx hb dX2_canBeStruck_26 (by decide) ?_
      have hR := som hM
      rw [hR] at hQ
      exact ret_z hQ hx hb hr hlocks rfl hP hK hD hS dX2_canBeStruck_27
    · have hM := it_nn hc_5 hM
      refine lv_iconst (v := 1) hx hb dX2_canBeStruck_22 (by decide) ?_
      refine lv_goto (tgt := 27) hx hb dX2_canBeStruck_23 (by decide) ?_
      have hR := som hM
      rw [hR] at hQ
      exact ret_z hQ hx hb hr hlocks rfl hP hK hD hS dX2_canBeStruck_27
abbrev rmX2_strikeLoan : Room := { frames := 0, cells := 0, slots := 0, locals := 0 }
theorem iwX2_strikeLoan_X1 : ∀ w ∈ wsX10, w ∈ wsX2_strikeLoan := fun _ h => List.mem_cons_of_mem _ (List.mem_append_right _ (h))
theorem iwX2_strikeLoan_X2 : ∀ w ∈ wsX20, w ∈ wsX2_strikeLoan := fun _ h => List.mem_cons_of_mem _ (List.mem_append_left _ (List.mem_append_right _ (h)))
set_option maxHeartbeats 4000000 in
set_option maxRecDepth 100000 in
theorem kX2_strikeLoan (l : Launch) (dC : Nat → ClassId) (dI : Nat → Nat → Nat) (ct : Nat → ClassId) (aM : Nat → Nat) (aL : Nat → Nat) (sz : Nat) (mM : Mem) (mL : Mem) (v2 : Int32) (res : (Int32 × Mem)) (hM : mX2_strikeLoan mM mL v2 = some res) : Met l yX2_strikeLoan wsX2_strikeLoan rmX2_strikeLoan (va_Pc [.ref (aM 0), .ref (aL 0), .int v2] (PB (dC, dI) ct E0 sz (wM ct aM mM ++ wL ct aL mL))) (Qi (dC, dI) ct (va_A (wM ct aM mM ++ wL ct aL mL) sz) res.1 (wM ct aM res.2 ++ wL ct aL mL)) 0 0 (va_A (wM ct aM mM ++ wL ct aL mL) sz) := by
  refine Met.ofW (cc := cX2_strikeLoan) (maxL := 4) (ret := (some .int)) (by decide) rfl ?_
  intro p e s m args below meth c s₁ B hml hv
  obtain ⟨hargs, hsz, hP, hK, hD0, hE⟩ := hv
  have hx := B.exec
  have hb := B.bytes
  have hr := B.returns
  have hts := atoms_spec (ws := wsX2_strikeLoan) B.pre
  have hown : s.vm.findClass RX2 = some m.cls := findClass_of_methodNamed B.named
  have hlocks := B.notSynchronized
  clear B s₁
  subst hsz
  have hD := hD0.self (sz := s.heap.size)
  clear hD0
  generalize hAe : va_A (wM ct aM mM ++ wL ct aL mL) s.heap.size = A at hD hE ⊢
  have hA : ∀ q : Nat, s.heap.size ≤ q → A q := fun q h => by rw [← hAe]; exact Or.inr h
  clear hAe
  have hS : va_S A s.heap s.heap [] := va_S.rf
  refine cutQ (fun Q hQ => ?_)
  refine entryW (vs := [.ref (aM 0), .ref (aL 0), .int v2]) hargs (Nat.le_of_ble_eq_true rfl) (fun ls hl => ?_)
  replace hl : lv_has ls 4 [(0, .ref (aM 0)), (1, .ref (aL 0)), (2, .int v2)] := hl
  unfold mX2_strikeLoan at hM
  refine lv_aload_n hx hb dX2_strikeLoan_0 rfl (lv_at hl 0 rfl) ?_
  refine va_get (D := (dC, dI)) (ci := 2) (v := .ref (aM 7)) (C := RX2) (T := TX2) (N := 10) hx hb hts iwX2_strikeLoan_X2 hown hK hP 0 rfl rfl 8 (by decide) (hts _ (List.mem_of_getElem? (i := 1) rfl)) (fun _ h9 => h9) rfl dX2_strikeLoan_1 ?_
  refine lv_iload_n hx hb dX2_strikeLoan_4 rfl (lv_at hl 2 rfl) ?_
  obtain ⟨hi, hM⟩ := gi_some hM
  refine va_iald hx hb hK hP 7 0 rfl rfl hi dX2_strikeLoan_5 ?_
  refine lv_aload_n hx hb dX2_strikeLoan_6 rfl (lv_at hl 1 rfl) ?_
  refine va_get (D := (dC, dI)) (ci := 1) (v := .int (mL 0 2)) (C := RX1) (T := TX1) (N := 17) hx hb hts iwX2_strikeLoan_X1 hown hK hP 9 rfl rfl 2 (by decide) (hts _ (List.mem_of_getElem? (i := 2) rfl)) (fun _ h9 => h9) rfl dX2_strikeLoan_7 ?_
  refine lv_imul hx hb dX2_strikeLoan_10 ?_
  refine lv_bipush (v := 16) hx hb dX2_strikeLoan_11 (by decide) ?_
  refine lv_idiv hx hb dX2_strikeLoan_13 (by decide) ?_
  refine lv_topi (fun x_1 ex_1 => ?_)
  have hM := nm_at ex_1 hM
  refine lv_istore_n (lv' := [(3, .int x_1), (0, .ref (aM 0)), (1, .ref (aL 0)), (2, .int v2)]) hx hb dX2_strikeLoan_14 rfl hl (by decide) rfl (fun ls hl => ?_)
  refine lv_aload_n hx hb dX2_strikeLoan_15 rfl (lv_at hl 1 rfl) ?_
  refine va_get (D := (dC, dI)) (ci := 2) (v := .ref (aM 7)) (C := RX2) (T := TX2) (N := 10) hx hb hts iwX2_strikeLoan_X2 hown hK hP 0 rfl rfl 8 (by decide) (hts _ (List.mem_of_getElem? (i := 1) rfl)) (fun _ h9 => h9) rfl dX2_strikeLoan_16 ?_
  refine lv_iload_n hx hb dX2_strikeLoan_19 rfl (lv_at hl 3 rfl) ?_
  refine lv_dup2_11 hx hb dX2_strikeLoan_20 rfl rfl ?_
  obtain ⟨hi, hM⟩ := gi_some hM
  refine va_iald hx hb hK hP 7 0 rfl rfl hi dX2_strikeLoan_21 ?_
  refine lv_iload_n hx hb dX2_strikeLoan_22 rfl (lv_at hl 0 rfl) ?_
  refine lv_isub hx hb dX2_strikeLoan_23 ?_
  obtain ⟨hi, hM⟩ := gi_some hM
  refine st_i (wf := fun z => (wM ct aM z ++ wL ct aL mL)) (m1 := upi mM 7 v2.toNatClampNeg ((mM 7 v2.toNatClampNeg) - x_1)) hx hb hK hP hD hS 7 rfl hi dX2_strikeLoan_24 rfl (fun mM_2 emM_2 H locs hP hD hS => ?_)
  have hM := nm_at emM_2 hM
  refine lv_aload_n hx hb dX2_strikeLoan_25 rfl (lv_at hl 1 rfl) ?_
  refine va_get (D := (dC, dI)) (ci := 2) (v := .ref (aM 2)) (C := RX2) (T := TX2) (N := 10) hx hb hts iwX2_strikeLoan_X2 hown hK hP 0 rfl rfl 3 (by decide) (hts _ (List.mem_of_getElem? (i := 3) rfl)) (fun _ h9 => h9) rfl dX2_strikeLoan_26 ?_
  refine lv_aload_n hx hb dX2_strikeLoan_29 rfl (lv_at hl 1 rfl) ?_
  refine va_get (D := (dC, dI)) (ci := 2) (v := .ref (aM 3)) (C := RX2) (T := TX2) (N := 10) hx hb hts iwX2_strikeLoan_X2 hown hK hP 0 rfl rfl 4 (by decide) (hts _ (List.mem_of_getElem? (i := 4) rfl)) (fun _ h9 => h9) rfl dX2_strikeLoan_30 ?_
  refine lv_iload_n hx hb dX2_strikeLoan_33 rfl (lv_at hl 3 rfl) ?_
  obtain ⟨hi, hM⟩ := gi_some hM
  refine va_iald hx hb hK hP 3 0 rfl rfl hi dX2_strikeLoan_34 ?_
  refine lv_dup2_11 hx hb dX2_strikeLoan_35 rfl rfl ?_
  obtain ⟨hi, hM⟩ := gi_some hM
  refine va_iald hx hb hK hP 2 0 rfl rfl hi dX2_strikeLoan_36 ?_
  refine lv_iload_n hx hb dX2_strikeLoan_37 rfl (lv_at hl 0 rfl) ?_
  refine lv_iadd hx hb dX2_strikeLoan_38 ?_
  obtain ⟨hi, hM⟩ := gi_some hM
  refine st_i (wf := fun z => (wM ct aM z ++ wL ct aL mL)) (m1 := upi mM_2 2 (mM_2 3 v2.toNatClampNeg).toNatClampNeg ((mM_2 2 (mM_2 3 v2.toNatClampNeg).toNatClampNeg) + x_1)) hx hb hK hP hD hS 2 rfl hi dX2_strikeLoan_39 rfl (fun mM_3 emM_3 H locs hP hD hS => ?_)
  have hM := nm_at emM_3 hM
  refine lv_iload_n hx hb dX2_strikeLoan_40 rfl (lv_at hl 0 rfl) ?_
  have hR := som hM
  rw [hR] at hQ
  exact ret_i hQ hx hb hr hlocks hP hK hD hS dX2_strikeLoan_41
abbrev rmX2_strikeByLots : Room := { frames := 2, cells := 0, slots := 0, locals := 43 }
theorem iwX2_strikeByLots_X1 : ∀ w ∈ wsX10, w ∈ wsX2_strikeByLots := fun _ h => List.mem_cons_of_mem _ (List.mem_append_left _ (List.mem_append_right _ (h)))
theorem iwX2_strikeByLots_X2 : ∀ w ∈ wsX20, w ∈ wsX2_strikeByLots := fun _ h => List.mem_cons_of_mem _ (List.mem_append_right _ (h))
set_option maxHeartbeats 4000000 in
set_option maxRecDepth 100000 in
theorem kX2_strikeByLots (l : Launch) (dC : Nat → ClassId) (dI : Nat → Nat → Nat) (ct : Nat → ClassId) (aM : Nat → Nat) (aL : Nat → Nat) (sz : Nat) (mM : Mem) (mL : Mem) (res : Mem) (hM : mX2_strikeByLots mM mL = some res) : Met l yX2_strikeByLots wsX2_strikeByLots rmX2_strikeByLots (va_Pc [.ref (aM 0), .ref (aL 0)] (PB (dC, dI) ct E0 sz (wM ct aM mM ++ wL ct aL mL))) (Qv (dC, dI) ct (va_A (wM ct aM mM ++ wL ct aL mL) sz) (wM ct aM res ++ wL ct aL mL)) 0 0 (va_A (wM ct aM mM ++ wL ct aL mL) sz) := by
  refine Met.ofW (cc := cX2_strikeByLots) (maxL := 3) (ret := none) (by decide) rfl ?_
  intro p e s m args below meth c s₁ B hml hv
  obtain ⟨hargs, hsz, hP, hK, hD0, hE⟩ := hv
  have hx := B.exec
  have hb := B.bytes
  have hr := B.returns
  have hts := atoms_spec (ws := wsX2_strikeByLots) B.pre
  have hown : s.vm.findClass RX2 = some m.cls := findClass_of_methodNamed B.named
  have hlocks := B.notSynchronized
  clear B s₁
  subst hsz
  have hD := hD0.self (sz := s.heap.size)
  clear hD0
  generalize hAe : va_A (wM ct aM mM ++ wL ct aL mL) s.heap.size = A at hD hE ⊢
  have hA : ∀ q : Nat, s.heap.size ≤ q → A q := fun q h => by rw [← hAe]; exact Or.inr h
  clear hAe
  have hS : va_S A s.heap s.heap [] := va_S.rf
  refine cutQ (fun Q hQ => ?_)
  refine entryW (vs := [.ref (aM 0), .ref (aL 0)]) hargs (Nat.le_of_ble_eq_true rfl) (fun ls hl => ?_)
  replace hl : lv_has ls 3 [(0, .ref (aM 0)), (1, .ref (aL 0))] := hl
  unfold mX2_strikeByLots at hM
  have N14 : ∀ (v2 : Int32) (mM : Mem), mX2_strikeByLots_L14 v2 mM mL = some res → ∀ (H : Heap) (locs : List Loc), va_P (dC, dI) vwCl (wM ct aM mM ++ wL ct aL mL) H → va_D A (wM ct aM mM ++ wL ct aL mL) → va_S A s.heap H locs → ∀ ls : Array Slot, lv_has ls 3 [(0, .ref (aM 0)), (1, .ref (aL 0)), (2, .int v2)] → W p l e (headSpec wsX2_strikeByLots rmX2_strikeByLots).room s m args below meth c H locs 0 0 Q (F0 m 14 ls []) := by
    intro v2 mM hM H locs hP hD hS ls hl
    unfold mX2_strikeByLots_L14 at hM
    obtain ⟨ex14, hit14, hM⟩ := bn_some hM
    have X14_0 : ∀ (mM : Mem), ex14 = mM → ∀ (H : Heap) (locs : List Loc), va_P (dC, dI) vwCl (wM ct aM mM ++ wL ct aL mL) H → va_D A (wM ct aM mM ++ wL ct aL mL) → va_S A s.heap H locs → ∀ ls : Array Slot, lv_has ls 3 [] → W p l e (headSpec wsX2_strikeByLots rmX2_strikeByLots).room s m args below meth c H locs 0 0 Q (F0 m 60 ls []) := by
      intro mM hex H locs hP hD hS ls hl
      rw [hex] at hM
      have hM := nm_at (y := mM) rfl hM
      have hR := som hM
      rw [hR] at hQ
      exact ret_v hQ hx hb hr hlocks hP hK hD hS dX2_strikeByLots_60
    have I14 : ∀ (n : Nat) (v2 : Int32) (mM : Mem), itr (fun q => mX2_strikeByLots_s14 mL q.1 q.2) n (v2, mM) = some ex14 → ∀ (H : Heap) (locs : List Loc), va_P (dC, dI) vwCl (wM ct aM mM ++ wL ct aL mL) H → va_D A (wM ct aM mM ++ wL ct aL mL) → va_S A s.heap H locs → ∀ ls : Array Slot, lv_has ls 3 [(0, .ref (aM 0)), (1, .ref (aL 0)), (2, .int v2)] → W p l e (headSpec wsX2_strikeByLots rmX2_strikeByLots).room s m args below meth c H locs 0 0 Q (F0 m 14 ls []) := by
      intro n
      induction n with
      | zero => intro v2 mM hit; exact (itr_zero hit).elim
      | succ n ih14 =>
        intro v2 mM hit H locs hP hD hS ls hl
        obtain ⟨o14, hM, hbk14, hex14⟩ := itr_succ hit
        replace hM : mX2_strikeByLots_s14 mL v2 mM = some o14 := hM
        unfold mX2_strikeByLots_s14 at hM
        refine lv_iload_n hx hb dX2_strikeByLots_14 rfl (lv_at hl 2 rfl) ?_
        refine lv_bipush (v := 40) hx hb dX2_strikeByLots_15 (by decide) ?_
        refine lv_icmp_ge (tgt := 60) hx hb dX2_strikeByLots_17 (by decide) (fun hc_1 => ?_) (fun hc_1 => ?_)
        · have hM := it_p hc_1 hM
          have hR := som hM
          exact X14_0 mM (hex14 _ hR).symm _ _ hP hD hS _ (lv_sub hl [] rfl)
        · have hM := it_n hc_1 hM
          refine lv_aload_n hx hb dX2_strikeByLots_20 rfl (lv_at hl 0 rfl) ?_
          refine lv_aload_n hx hb dX2_strikeByLots_21 rfl (lv_at hl 1 rfl) ?_
          refine lv_iload_n hx hb dX2_strikeByLots_22 rfl (lv_at hl 2 rfl) ?_
          obtain ⟨x_2, hr_3, hM⟩ := bn_some hM
          refine gv_i (r0 := x_2) (wn := (wM ct aM mM ++ wL ct aL mL)) (va_runV (As := [.ref (aL 0), .int v2]) (rest := []) ⟨hx, hb, hml, hown, hts⟩ (kX2_canBeStruck l dC dI ct aM aL _ mM mL v2 _ hr_3) (cwV 2 hts gX2_strikeByLots_X2_canBeStruck rfl rfl rfl hvX2_canBeStruck ⟨Nat.le_of_ble_eq_true rfl, Nat.le_of_ble_eq_true rfl⟩) (preV_of E0_ok hK hP hD (is := [0, 1, 2, 3, 4, 5, 6, 7, 8, 9, 10, 11, 12, 13, 14, 15, 16, 17, 18]) rfl rfl rfl (ci := 2) rfl 0 rfl e_0) rfl rfl hl.1 rfl (lv_room (Nat.le_of_ble_eq_true rfl)) dX2_strikeByLots_23 ⟨Nat.le_of_ble_eq_true rfl, Nat.le_of_ble_eq_true rfl⟩) hP hD hS hA [0, 1, 2, 3, 4, 5, 6, 7, 8, 9, 10, 11, 12, 13, 14, 15, 16, 17, 18] [] [0, 1, 2, 3, 4, 5, 6, 7, 8, 9, 10, 11, 12, 13, 14, 15, 16, 17, 18] rfl rfl rfl (by decide) rfl rfl (fun H locs hP hD hS => ?_)
          refine lv_if_eq (tgt := 54) hx hb dX2_strikeByLots_26 (by decide) (fun hc_5 => ?_) (fun hc_5 => ?_)
          · have hM := it_p hc_5 hM
            obtain ⟨x_6, ex_6⟩ : ∃ y : Int32, y = (v2 + (1 : Int32)) := ⟨_, rfl⟩
            have hM := nm_at ex_6 hM
            refine lv_iinc (v := x_6) (lv' := [(2, .int x_6), (0, .ref (aM 0)), (1, .ref (aL 0))]) hx hb dX2_strikeByLots_54 hl (k := 2) rfl (by rw [ex_6]; rfl) (by decide) rfl (fun ls hl => ?_)
            refine lv_goto (tgt := 14) hx hb dX2_strikeByLots_57 (by decide) ?_
            have hR := som hM
            exact ih14 x_6 mM (hbk14 _ hR) _ _ hP hD hS _ (lv_sub hl [1, 2, 0] rfl)
          · have hM := it_n hc_5 hM
            refine lv_aload_n hx hb dX2_strikeByLots_29 rfl (lv_at hl 0 rfl) ?_
            obtain ⟨q_10, hr_9, hM⟩ := bn_some hM
            obtain ⟨x_7, mM_8⟩ := q_10
            have hM := nm_at (y := x_7) rfl hM
            have hM := nm_at (y := mM_8) rfl hM
            refine gv_i (r0 := x_7) (wn := (wM ct aM mM_8 ++ wL ct aL mL)) (va_runV (As := []) (rest := []) ⟨hx, hb, hml, hown, hts⟩ (kX2_lotBelow16 l dC dI ct aM _ mM _ hr_9) (cwV 0 hts gX2_strikeByLots_X2_lotBelow16 rfl rfl rfl hvX2_lotBelow16 ⟨Nat.le_of_ble_eq_true rfl, Nat.le_of_ble_eq_true rfl⟩) (preV_of E0_ok hK hP hD (is := [0, 1, 2, 3, 4, 5, 6, 7, 8]) rfl rfl rfl (ci := 2) rfl 0 rfl e_0) rfl rfl hl.1 rfl (lv_room (Nat.le_of_ble_eq_true rfl)) dX2_strikeByLots_30 ⟨Nat.le_of_ble_eq_true rfl, Nat.le_of_ble_eq_true rfl⟩) hP hD hS hA [0, 1, 2, 3, 4, 5, 6, 7, 8] [9, 10, 11, 12, 13, 14, 15, 16, 17, 18] [10, 11, 12, 13, 14, 15, 16, 17, 18, 0, 1, 2, 3, 4, 5, 6, 7, 8, 9] rfl rfl rfl (by decide) rfl rfl (fun H locs hP hD hS => ?_)
            refine lv_aload_n hx hb dX2_strikeByLots_33 rfl (lv_at hl 1 rfl) ?_
            refine va_get (D := (dC, dI)) (ci := 1) (v := .ref (aL 6)) (C := RX1) (T := TX1) (N := 17) hx hb hts iwX2_strikeByLots_X1 hown hK hP 9 rfl rfl 11 (by decide) (hts _ (List.mem_of_getElem? (i := 2) rfl)) (fun _ h9 => h9) rfl dX2_strikeByLots_34 ?_
            refine lv_aload_n hx hb dX2_strikeByLots_37 rfl (lv_at hl 0 rfl) ?_
            refine va_get (D := (dC, dI)) (ci := 2) (v := .ref (aM 4)) (C := RX2) (T := TX2) (N := 10) hx hb hts iwX2_strikeByLots_X2 hown hK hP 0 rfl rfl 5 (by decide) (hts _ (List.mem_of_getElem? (i := 3) rfl)) (fun _ h9 => h9) rfl dX2_strikeByLots_38 ?_
            refine lv_iload_n hx hb dX2_strikeByLots_41 rfl (lv_at hl 2 rfl) ?_
            obtain ⟨hi, hM⟩ := gi_some hM
            refine va_iald hx hb hK hP 4 0 rfl rfl hi dX2_strikeByLots_42 ?_
            obtain ⟨hi, hM⟩ := gi_some hM
            refine va_iald hx hb hK hP 15 0 rfl rfl hi dX2_strikeByLots_43 ?_
            refine lv_icmp_lt (tgt := 54) hx hb dX2_strikeByLots_44 (by decide) (fun hc_11 => ?_) (fun hc_11 => ?_)
            · have hM := it_p hc_11 hM
              obtain ⟨x_12, ex_12⟩ : ∃ y : Int32, y = (v2 + (1 : Int32)) := ⟨_, rfl⟩
              have hM := nm_at ex_12 hM
              refine lv_iinc (v := x_12) (lv' := [(2, .int x_12), (0, .ref (aM 0)), (1, .ref (aL 0))]) hx hb dX2_strikeByLots_54 hl (k := 2) rfl (by rw [ex_12]; rfl) (by decide) rfl (fun ls hl => ?_)
              refine lv_goto (tgt := 14) hx hb dX2_strikeByLots_57 (by decide) ?_
              have hR := som hM
              exact ih14 x_12 mM_8 (hbk14 _ hR) _ _ hP hD hS _ (lv_sub hl [1, 2, 0] rfl)
            · have hM := it_n hc_11 hM
              refine lv_aload_n hx hb dX2_strikeByLots_47 rfl (lv_at hl 0 rfl) ?_
              refine lv_aload_n hx hb dX2_strikeByLots_48 rfl (lv_at hl 1 rfl) ?_
              refine lv_iload_n hx hb dX2_strikeByLots_49 rfl (lv_at hl 2 rfl) ?_
              obtain ⟨q_16, hr_15, hM⟩ := bn_some hM
              obtain ⟨x_13, mM_14⟩ := q_16
              have hM := nm_at (y := x_13) rfl hM
              have hM := nm_at (y := mM_14) rfl hM
              refine gv_i (r0 := x_13) (wn := (wM ct aM mM_14 ++ wL ct aL mL)) (va_runV (As := [.ref (aL 0), .int v2]) (rest := []) ⟨hx, hb, hml, hown, hts⟩ (kX2_strikeLoan l dC dI ct aM aL _ mM_8 mL v2 _ hr_15) (cwV 2 hts gX2_strikeByLots_X2_strikeLoan rfl rfl rfl hvX2_strikeLoan ⟨Nat.le_of_ble_eq_true rfl, Nat.le_of_ble_eq_true rfl⟩) (preV_of E0_ok hK hP hD (is := [0, 1, 2, 3, 4, 5, 6, 7, 8, 9, 10, 11, 12, 13, 14, 15, 16, 17, 18]) rfl rfl rfl (ci := 2) rfl 0 rfl e_0) rfl rfl hl.1 rfl (lv_room (Nat.le_of_ble_eq_true rfl)) dX2_strikeByLots_50 ⟨Nat.le_of_ble_eq_true rfl, Nat.le_of_ble_eq_true rfl⟩) hP hD hS hA [0, 1, 2, 3, 4, 5, 6, 7, 8, 9, 10, 11, 12, 13, 14, 15, 16, 17, 18] [] [0, 1, 2, 3, 4, 5, 6, 7, 8, 9, 10, 11, 12, 13, 14, 15, 16, 17, 18] rfl rfl rfl (by decide) rfl rfl (fun H locs hP hD hS => ?_)
              refine lv_pop hx hb dX2_strikeByLots_53 rfl ?_
              obtain ⟨x_17, ex_17⟩ : ∃ y : Int32, y = (v2 + (1 : Int32)) := ⟨_, rfl⟩
              have hM := nm_at ex_17 hM
              refine lv_iinc (v := x_17) (lv' := [(2, .int x_17), (0, .ref (aM 0)), (1, .ref (aL 0))]) hx hb dX2_strikeByLots_54 hl (k := 2) rfl (by rw [ex_17]; rfl) (by decide) rfl (fun ls hl => ?_)
              refine lv_goto (tgt := 14) hx hb dX2_strikeByLots_57 (by decide) ?_
              have hR := som hM
              exact ih14 x_17 mM_14 (hbk14 _ hR) _ _ hP hD hS _ (lv_sub hl [1, 2, 0] rfl)
    exact I14 FU v2 mM hit14 _ _ hP hD hS _ hl
  refine lv_aload_n hx hb dX2_strikeByLots_0 rfl (lv_at hl 0 rfl) ?_
  obtain ⟨q_21, hr_20, hM⟩ := bn_some hM
  obtain ⟨x_18, mM_19⟩ := q_21
  have hM := nm_at (y := x_18) rfl hM
  have hM := nm_at (y := mM_19) rfl hM
  refine gv_i (r0 := x_18) (wn := (wM ct aM mM_19 ++ wL ct aL mL)) (va_runV (As := []) (rest := []) ⟨hx, hb, hml, hown, hts⟩ (kX2_lotBelow16 l dC dI ct aM _ mM _ hr_20) (cwV 0 hts gX2_strikeByLots_X2_lotBelow16 rfl rfl rfl hvX2_lotBelow16 ⟨Nat.le_of_ble_eq_true rfl, Nat.le_of_ble_eq_true rfl⟩) (preV_of E0_ok hK hP hD (is := [0, 1, 2, 3, 4, 5, 6, 7, 8]) rfl rfl rfl (ci := 2) rfl 0 rfl e_0) rfl rfl hl.1 rfl (lv_room (Nat.le_of_ble_eq_true rfl)) dX2_strikeByLots_1 ⟨Nat.le_of_ble_eq_true rfl, Nat.le_of_ble_eq_true rfl⟩) hP hD hS hA [0, 1, 2, 3, 4, 5, 6, 7, 8] [9, 10, 11, 12, 13, 14, 15, 16, 17, 18] [10, 11, 12, 13, 14, 15, 16, 17, 18, 0, 1, 2, 3, 4, 5, 6, 7, 8, 9] rfl rfl rfl (by decide) rfl rfl (fun H locs hP hD hS => ?_)
  refine lv_aload_n hx hb dX2_strikeByLots_4 rfl (lv_at hl 1 rfl) ?_
  refine va_get (D := (dC, dI)) (ci := 1) (v := .int (mL 0 1)) (C := RX1) (T := TX1) (N := 17) hx hb hts iwX2_strikeByLots_X1 hown hK hP 9 rfl rfl 1 (by decide) (hts _ (List.mem_of_getElem? (i := 1) rfl)) (fun _ h9 => h9) rfl dX2_strikeByLots_5 ?_
  refine lv_icmp_ge (tgt := 12) hx hb dX2_strikeByLots_8 (by decide) (fun hc_22 => ?_) (fun hc_22 => ?_)
  · have hM := it_p hc_22 hM
    refine lv_iconst (v := 0) hx hb dX2_strikeByLots_12 (by decide) ?_
    refine lv_istore_n (lv' := [(2, .int (0 : Int32)), (0, .ref (aM 0)), (1, .ref (aL 0))]) hx hb dX2_strikeByLots_13 rfl hl (by decide) rfl (fun ls hl => ?_)
    exact N14 (0 : Int32) mM_19 hM _ _ hP hD hS _ (lv_sub hl [1, 2, 0] rfl)
  · have hM := it_n hc_22 hM
    have hR := som hM
    rw [hR] at hQ
    exact ret_v hQ hx hb hr hlocks hP hK hD hS dX2_strikeByLots_11
abbrev rmX2_isOwed : Room := { frames := 0, cells := 0, slots := 0, locals := 0 }
theorem iwX2_isOwed_X2 : ∀ w ∈ wsX20, w ∈ wsX2_isOwed := fun _ h => List.mem_cons_of_mem _ (List.mem_append_right _ (h))
set_option maxHeartbeats 4000000 in
set_option maxRecDepth 100000 in
theorem kX2_isOwed (l : Launch) (dC : Nat → ClassId) (dI : Nat → Nat → Nat) (ct : Nat → ClassId) (aM : Nat → Nat) (sz : Nat) (mM : Mem) (v1 : Int32) (res : Int32) (hM : mX2_isOwed mM v1 = some res) : Met l yX2_isOwed wsX2_isOwed rmX2_isOwed (va_Pc [.ref (aM 0), .int v1] (PB (dC, dI) ct E0 sz (wM ct aM mM))) (Qi (dC, dI) ct (va_A (wM ct aM mM) sz) res (wM ct aM mM)) 0 0 (va_A (wM ct aM mM) sz) := by
  refine Met.ofW (cc := cX2_isOwed) (maxL := 2) (ret := (some .boolean)) (by decide) rfl ?_
  intro p e s m args below meth c s₁ B hml hv
  obtain ⟨hargs, hsz, hP, hK, hD0, hE⟩ := hv
  have hx := B.exec
  have hb := B.bytes
  have hr := B.returns
  have hts := atoms_spec (ws := wsX2_isOwed) B.pre
  have hown : s.vm.findClass RX2 = some m.cls := findClass_of_methodNamed B.named
  have hlocks := B.notSynchronized
  clear B s₁
  subst hsz
  have hD := hD0.self (sz := s.heap.size)
  clear hD0
  generalize hAe : va_A (wM ct aM mM) s.heap.size = A at hD hE ⊢
  have hA : ∀ q : Nat, s.heap.size ≤ q → A q := fun q h => by rw [← hAe]; exact Or.inr h
  clear hAe
  have hS : va_S A s.heap s.heap [] := va_S.rf
  refine cutQ (fun Q hQ => ?_)
  refine entryW (vs := [.ref (aM 0), .int v1]) hargs (Nat.le_of_ble_eq_true rfl) (fun ls hl => ?_)
  replace hl : lv_has ls 2 [(0, .ref (aM 0)), (1, .int v1)] := hl
  unfold mX2_isOwed at hM
  refine lv_iload_n hx hb dX2_isOwed_0 rfl (lv_at hl 1 rfl) ?_
  refine lv_if_lt (tgt := 23) hx hb dX2_isOwed_1 (by decide) (fun hc_1 => ?_) (fun hc_1 => ?_)
  · have hM := it_p hc_1 hM
    refine lv_iconst (v := 0) hx hb dX2_isOwed_23 (by decide) ?_
    have hR := som hM
    rw [hR] at hQ
    exact ret_z hQ hx hb hr hlocks rfl hP hK hD hS dX2_isOwed_24
  · have hM := it_n hc_1 hM
    refine lv_iload_n hx hb dX2_isOwed_4 rfl (lv_at hl 1 rfl) ?_
    refine lv_bipush (v := 40) hx hb dX2_isOwed_5 (by decide) ?_
    refine lv_icmp_ge (tgt := 23) hx hb dX2_isOwed_7 (by decide) (fun hc_2 => ?_) (fun hc_2 => ?_)
    · have hM := it_p hc_2 hM
      refine lv_iconst (v := 0) hx hb dX2_isOwed_23 (by decide) ?_
      have hR := som hM
      rw [hR] at hQ
      exact ret_z hQ hx hb hr hlocks rfl hP hK hD hS dX2_isOwed_24
    · have hM := it_n hc_2 hM
      refine lv_aload_n hx hb dX2_isOwed_10 rfl (lv_at hl 0 rfl) ?_
      refine va_get (D := (dC, dI)) (ci := 2) (v := .ref (aM 6)) (C := RX2) (T := TX2) (N := 10) hx hb hts iwX2_isOwed_X2 hown hK hP 0 rfl rfl 7 (by decide) (hts _ (List.mem_of_getElem? (i := 1) rfl)) (fun _ h9 => h9) rfl dX2_isOwed_11 ?_
      refine lv_iload_n hx hb dX2_isOwed_14 rfl (lv_at hl 1 rfl) ?_
      obtain ⟨hi, hM⟩ := gi_some hM
      refine va_iald hx hb hK hP 6 0 rfl rfl hi dX2_isOwed_15 ?_
      refine lv_if_le (tgt := 23) hx hb dX2_isOwed_16 (by decide) (fun hc_3 => ?_) (fun hc_3 => ?_)
      · have hM := it_p hc_3 hM
        refine lv_iconst (v := 0) hx hb dX2_isOwed_23 (by decide) ?_
        have hR := som hM
        rw [hR] at hQ
        exact ret_z hQ hx hb hr hlocks rfl hP hK hD hS dX2_isOwed_24
      · have hM := it_n hc_3 hM
        refine lv_iconst (v := 1) hx hb dX2_isOwed_19 (by decide) ?_
        refine lv_goto (tgt := 24) hx hb dX2_isOwed_20 (by decide) ?_
        have hR := som hM
        rw [hR] at hQ
        exact ret_z hQ hx hb hr hlocks rfl hP hK hD hS dX2_isOwed_24
abbrev rmX2_numberOf : Room := { frames := 0, cells := 0, slots := 0, locals := 0 }
theorem iwX2_numberOf_X2 : ∀ w ∈ wsX20, w ∈ wsX2_numberOf := fun _ h => List.mem_cons_of_mem _ (List.mem_append_right _ (h))
set_option maxHeartbeats 4000000 in
set_option maxRecDepth 100000 in
theorem kX2_numberOf (l : Launch) (dC : Nat → ClassId) (dI : Nat → Nat → Nat) (ct : Nat → ClassId) (aM : Nat → Nat) (sz : Nat) (mM : Mem) (v1 : Int32) (v2 : Int32) (res : Int32) (hM : mX2_numberOf mM v1 v2 = some res) : Met l yX2_numberOf wsX2_numberOf rmX2_numberOf (va_Pc [.ref (aM 0), .int v1, .int v2] (PB (dC, dI) ct E0 sz (wM ct aM mM))) (Qi (dC, dI) ct (va_A (wM ct aM mM) sz) res (wM ct aM mM)) 0 0 (va_A (wM ct aM mM) sz) := by
  refine Met.ofW (cc := cX2_numberOf) (maxL := 3) (ret := (some .int)) (by decide) rfl ?_
  intro p e s m args below meth c s₁ B hml hv
  obtain ⟨hargs, hsz, hP, hK, hD0, hE⟩ := hv
  have hx := B.exec
  have hb := B.bytes
  have hr := B.returns
  have hts := atoms_spec (ws := wsX2_numberOf) B.pre
  have hown : s.vm.findClass RX2 = some m.cls := findClass_of_methodNamed B.named
  have hlocks := B.notSynchronized
  clear B s₁
  subst hsz
  have hD := hD0.self (sz := s.heap.size)
  clear hD0
  generalize hAe : va_A (wM ct aM mM) s.heap.size = A at hD hE ⊢
  have hA : ∀ q : Nat, s.heap.size ≤ q → A q := fun q h => by rw [← hAe]; exact Or.inr h
  clear hAe
  have hS : va_S A s.heap s.heap [] := va_S.rf
  refine cutQ (fun Q hQ => ?_)
  refine entryW (vs := [.ref (aM 0), .int v1, .int v2]) hargs (Nat.le_of_ble_eq_true rfl) (fun ls hl => ?_)
  replace hl : lv_has ls 3 [(0, .ref (aM 0)), (1, .int v1), (2, .int v2)] := hl
  unfold mX2_numberOf at hM
  refine lv_iload_n hx hb dX2_numberOf_0 rfl (lv_at hl 2 rfl) ?_
  by_cases hc_1 : v2 = 0
  · have hM := it_p hc_1 hM
    refine lv_tableIn (off := 39) (tgt := 40) hx hb dX2_numberOf_1 (by rw [hc_1]; decide) (by rw [hc_1]; decide) (by rw [hc_1]; decide) (by decide) ?_
    refine lv_aload_n hx hb dX2_numberOf_40 rfl (lv_at hl 0 rfl) ?_
    refine va_get (D := (dC, dI)) (ci := 2) (v := .ref (aM 3)) (C := RX2) (T := TX2) (N := 10) hx hb hts iwX2_numberOf_X2 hown hK hP 0 rfl rfl 4 (by decide) (hts _ (List.mem_of_getElem? (i := 1) rfl)) (fun _ h9 => h9) rfl dX2_numberOf_41 ?_
    refine lv_iload_n hx hb dX2_numberOf_44 rfl (lv_at hl 1 rfl) ?_
    obtain ⟨hi, hM⟩ := gi_some hM
    refine va_iald hx hb hK hP 3 0 rfl rfl hi dX2_numberOf_45 ?_
    refine lv_topi (fun x_2 ex_2 => ?_)
    have hM := nm_at ex_2 hM
    have hR := som hM
    rw [hR] at hQ
    exact ret_i hQ hx hb hr hlocks hP hK hD hS dX2_numberOf_46
  · have hM := it_n hc_1 hM
    by_cases hc_3 : v2 = 1
    · have hM := it_p hc_3 hM
      refine lv_tableIn (off := 46) (tgt := 47) hx hb dX2_numberOf_1 (by rw [hc_3]; decide) (by rw [hc_3]; decide) (by rw [hc_3]; decide) (by decide) ?_
      refine lv_aload_n hx hb dX2_numberOf_47 rfl (lv_at hl 0 rfl) ?_
      refine va_get (D := (dC, dI)) (ci := 2) (v := .ref (aM 4)) (C := RX2) (T := TX2) (N := 10) hx hb hts iwX2_numberOf_X2 hown hK hP 0 rfl rfl 5 (by decide) (hts _ (List.mem_of_getElem? (i := 2) rfl)) (fun _ h9 => h9) rfl dX2_numberOf_48 ?_
      refine lv_iload_n hx hb dX2_numberOf_51 rfl (lv_at hl 1 rfl) ?_
      obtain ⟨hi, hM⟩ := gi_some hM
      refine va_iald hx hb hK hP 4 0 rfl rfl hi dX2_numberOf_52 ?_
      refine lv_topi (fun x_4 ex_4 => ?_)
      have hM := nm_at ex_4 hM
      have hR := som hM
      rw [hR] at hQ
      exact ret_i hQ hx hb hr hlocks hP hK hD hS dX2_numberOf_53
    · have hM := it_n hc_3 hM
      by_cases hc_5 : v2 = 2
      · have hM := it_p hc_5 hM
        refine lv_tableIn (off := 53) (tgt := 54) hx hb dX2_numberOf_1 (by rw [hc_5]; decide) (by rw [hc_5]; decide) (by rw [hc_5]; decide) (by decide) ?_
        refine lv_aload_n hx hb dX2_numberOf_54 rfl (lv_at hl 0 rfl) ?_
        refine va_get (D := (dC, dI)) (ci := 2) (v := .ref (aM 5)) (C := RX2) (T := TX2) (N := 10) hx hb hts iwX2_numberOf_X2 hown hK hP 0 rfl rfl 6 (by decide) (hts _ (List.mem_of_getElem? (i := 3) rfl)) (fun _ h9 => h9) rfl dX2_numberOf_55 ?_
        refine lv_iload_n hx hb dX2_numberOf_58 rfl (lv_at hl 1 rfl) ?_
        obtain ⟨hi, hM⟩ := gi_some hM
        refine va_iald hx hb hK hP 5 0 rfl rfl hi dX2_numberOf_59 ?_
        refine lv_topi (fun x_6 ex_6 => ?_)
        have hM := nm_at ex_6 hM
        have hR := som hM
        rw [hR] at hQ
        exact ret_i hQ hx hb hr hlocks hP hK hD hS dX2_numberOf_60
      · have hM := it_n hc_5 hM
        by_cases hc_7 : v2 = 3
        · have hM := it_p hc_7 hM
          refine lv_tableIn (off := 60) (tgt := 61) hx hb dX2_numberOf_1 (by rw [hc_7]; decide) (by rw [hc_7]; decide) (by rw [hc_7]; decide) (by decide) ?_
          refine lv_aload_n hx hb dX2_numberOf_61 rfl (lv_at hl 0 rfl) ?_
          refine va_get (D := (dC, dI)) (ci := 2) (v := .ref (aM 6)) (C := RX2) (T := TX2) (N := 10) hx hb hts iwX2_numberOf_X2 hown hK hP 0 rfl rfl 7 (by decide) (hts _ (List.mem_of_getElem? (i := 4) rfl)) (fun _ h9 => h9) rfl dX2_numberOf_62 ?_
          refine lv_iload_n hx hb dX2_numberOf_65 rfl (lv_at hl 1 rfl) ?_
          obtain ⟨hi, hM⟩ := gi_some hM
          refine va_iald hx hb hK hP 6 0 rfl rfl hi dX2_numberOf_66 ?_
          refine lv_topi (fun x_8 ex_8 => ?_)
          have hM := nm_at ex_8 hM
          have hR := som hM
          rw [hR] at hQ
          exact ret_i hQ hx hb hr hlocks hP hK hD hS dX2_numberOf_67
        · have hM := it_n hc_7 hM
          by_cases hc_9 : v2 = 4
          · have hM := it_p hc_9 hM
            refine lv_tableIn (off := 67) (tgt := 68) hx hb dX2_numberOf_1 (by rw [hc_9]; decide) (by rw [hc_9]; decide) (by rw [hc_9]; decide) (by decide) ?_
            refine lv_aload_n hx hb dX2_numberOf_68 rfl (lv_at hl 0 rfl) ?_
            refine va_get (D := (dC, dI)) (ci := 2) (v := .ref (aM 7)) (C := RX2) (T := TX2) (N := 10) hx hb hts iwX2_numberOf_X2 hown hK hP 0 rfl rfl 8 (by decide) (hts _ (List.mem_of_getElem? (i := 5) rfl)) (fun _ h9 => h9) rfl dX2_numberOf_69 ?_
            refine lv_iload_n hx hb dX2_numberOf_72 rfl (lv_at hl 1 rfl) ?_
            obtain ⟨hi, hM⟩ := gi_some hM
            refine va_iald hx hb hK hP 7 0 rfl rfl hi dX2_numberOf_73 ?_
            refine lv_topi (fun x_10 ex_10 => ?_)
            have hM := nm_at ex_10 hM
            have hR := som hM
            rw [hR] at hQ
            exact ret_i hQ hx hb hr hlocks hP hK hD hS dX2_numberOf_74
          · have hM := it_n hc_9 hM
            by_cases hc_11 : v2 = 5
            · have hM := it_p hc_11 hM
              refine lv_tableIn (off := 74) (tgt := 75) hx hb dX2_numberOf_1 (by rw [hc_11]; decide) (by rw [hc_11]; decide) (by rw [hc_11]; decide) (by decide) ?_
              refine lv_aload_n hx hb dX2_numberOf_75 rfl (lv_at hl 0 rfl) ?_
              refine va_get (D := (dC, dI)) (ci := 2) (v := .ref (aM 8)) (C := RX2) (T := TX2) (N := 10) hx hb hts iwX2_numberOf_X2 hown hK hP 0 rfl rfl 9 (by decide) (hts _ (List.mem_of_getElem? (i := 6) rfl)) (fun _ h9 => h9) rfl dX2_numberOf_76 ?_
              refine lv_iload_n hx hb dX2_numberOf_79 rfl (lv_at hl 1 rfl) ?_
              obtain ⟨hi, hM⟩ := gi_some hM
              refine va_iald hx hb hK hP 8 0 rfl rfl hi dX2_numberOf_80 ?_
              refine lv_topi (fun x_12 ex_12 => ?_)
              have hM := nm_at ex_12 hM
              have hR := som hM
              rw [hR] at hQ
              exact ret_i hQ hx hb hr hlocks hP hK hD hS dX2_numberOf_81
            · have hM := it_n hc_11 hM
              have nhc_1 := ne_toInt hc_1
              have nhc_3 := ne_toInt hc_3
              have nhc_5 := ne_toInt hc_5
              have nhc_7 := ne_toInt hc_7
              have nhc_9 := ne_toInt hc_9
              have nhc_11 := ne_toInt hc_11
              refine lv_tableOut (tgt := 82) hx hb dX2_numberOf_1 (by rw [show ((0 : Int32)).toInt = 0 from by decide] at nhc_1; rw [show ((1 : Int32)).toInt = 1 from by decide] at nhc_3; rw [show ((2 : Int32)).toInt = 2 from by decide] at nhc_5; rw [show ((3 : Int32)).toInt = 3 from by decide] at nhc_7; rw [show ((4 : Int32)).toInt = 4 from by decide] at nhc_9; rw [show ((5 : Int32)).toInt = 5 from by decide] at nhc_11; omega) (by decide) ?_
              refine lv_iconst (v := -1) hx hb dX2_numberOf_82 (by decide) ?_
              have hR := som hM
              rw [hR] at hQ
              exact ret_i hQ hx hb hr hlocks hP hK hD hS dX2_numberOf_83
abbrev rmX2_loansOwed : Room := { frames := 0, cells := 0, slots := 0, locals := 0 }
theorem iwX2_loansOwed_X2 : ∀ w ∈ wsX20, w ∈ wsX2_loansOwed := fun _ h => List.mem_cons_of_mem _ (List.mem_append_right _ (h))
set_option maxHeartbeats 4000000 in
set_option maxRecDepth 100000 in
theorem kX2_loansOwed (l : Launch) (dC : Nat → ClassId) (dI : Nat → Nat → Nat) (ct : Nat → ClassId) (aM : Nat → Nat) (sz : Nat) (mM : Mem) (res : Int32) (hM : mX2_loansOwed mM = some res) : Met l yX2_loansOwed wsX2_loansOwed rmX2_loansOwed (va_Pc [.ref (aM 0)] (PB (dC, dI) ct E0 sz (wM ct aM mM))) (Qi (dC, dI) ct (va_A (wM ct aM mM) sz) res (wM ct aM mM)) 0 0 (va_A (wM ct aM mM) sz) := by
  refine Met.ofW (cc := cX2_loansOwed) (maxL := 3) (ret := (some .int)) (by decide) rfl ?_
  intro p e s m args below meth c s₁ B hml hv
  obtain ⟨hargs, hsz, hP, hK, hD0, hE⟩ := hv
  have hx := B.exec
  have hb := B.bytes
  have hr := B.returns
  have hts := atoms_spec (ws := wsX2_loansOwed) B.pre
  have hown : s.vm.findClass RX2 = some m.cls := findClass_of_methodNamed B.named
  have hlocks := B.notSynchronized
  clear B s₁
  subst hsz
  have hD := hD0.self (sz := s.heap.size)
  clear hD0
  generalize hAe : va_A (wM ct aM mM) s.heap.size = A at hD hE ⊢
  have hA : ∀ q : Nat, s.heap.size ≤ q → A q := fun q h => by rw [← hAe]; exact Or.inr h
  clear hAe
  have hS : va_S A s.heap s.heap [] := va_S.rf
  refine cutQ (fun Q hQ => ?_)
  refine entryW (vs := [.ref (aM 0)]) hargs (Nat.le_of_ble_eq_true rfl) (fun ls hl => ?_)
  replace hl : lv_has ls 3 [(0, .ref (aM 0))] := hl
  unfold mX2_loansOwed at hM
  have N4 : ∀ (v1 : Int32) (v2 : Int32), mX2_loansOwed_L4 v1 v2 mM = some res → ∀ (H : Heap) (locs : List Loc), va_P (dC, dI) vwCl (wM ct aM mM) H → va_D A (wM ct aM mM) → va_S A s.heap H locs → ∀ ls : Array Slot, lv_has ls 3 [(0, .ref (aM 0)), (1, .int v1), (2, .int v2)] → W p l e (headSpec wsX2_loansOwed rmX2_loansOwed).room s m args below meth c H locs 0 0 Q (F0 m 4 ls []) := by
    intro v1 v2 hM H locs hP hD hS ls hl
    unfold mX2_loansOwed_L4 at hM
    obtain ⟨ex4, hit4, hM⟩ := bn_some hM
    have X4_0 : ∀ (v1 : Int32), ex4 = v1 → ∀ (H : Heap) (locs : List Loc), va_P (dC, dI) vwCl (wM ct aM mM) H → va_D A (wM ct aM mM) → va_S A s.heap H locs → ∀ ls : Array Slot, lv_has ls 3 [(1, .int v1)] → W p l e (headSpec wsX2_loansOwed rmX2_loansOwed).room s m args below meth c H locs 0 0 Q (F0 m 28 ls []) := by
      intro v1 hex H locs hP hD hS ls hl
      rw [hex] at hM
      have hM := nm_at (y := v1) rfl hM
      refine lv_iload_n hx hb dX2_loansOwed_28 rfl (lv_at hl 0 rfl) ?_
      have hR := som hM
      rw [hR] at hQ
      exact ret_i hQ hx hb hr hlocks hP hK hD hS dX2_loansOwed_29
    have I4 : ∀ (n : Nat) (v1 : Int32) (v2 : Int32), itr (fun q => mX2_loansOwed_s4 mM q.1 q.2) n (v1, v2) = some ex4 → ∀ (H : Heap) (locs : List Loc), va_P (dC, dI) vwCl (wM ct aM mM) H → va_D A (wM ct aM mM) → va_S A s.heap H locs → ∀ ls : Array Slot, lv_has ls 3 [(0, .ref (aM 0)), (1, .int v1), (2, .int v2)] → W p l e (headSpec wsX2_loansOwed rmX2_loansOwed).room s m args below meth c H locs 0 0 Q (F0 m 4 ls []) := by
      intro n
      induction n with
      | zero => intro v1 v2 hit; exact (itr_zero hit).elim
      | succ n ih4 =>
        intro v1 v2 hit H locs hP hD hS ls hl
        obtain ⟨o4, hM, hbk4, hex4⟩ := itr_succ hit
        replace hM : mX2_loansOwed_s4 mM v1 v2 = some o4 := hM
        unfold mX2_loansOwed_s4 at hM
        refine lv_iload_n hx hb dX2_loansOwed_4 rfl (lv_at hl 2 rfl) ?_
        refine lv_bipush (v := 40) hx hb dX2_loansOwed_5 (by decide) ?_
        refine lv_icmp_ge (tgt := 28) hx hb dX2_loansOwed_7 (by decide) (fun hc_1 => ?_) (fun hc_1 => ?_)
        · have hM := it_p hc_1 hM
          have hR := som hM
          exact X4_0 v1 (hex4 _ hR).symm _ _ hP hD hS _ (lv_sub hl [1] rfl)
        · have hM := it_n hc_1 hM
          refine lv_aload_n hx hb dX2_loansOwed_10 rfl (lv_at hl 0 rfl) ?_
          refine va_get (D := (dC, dI)) (ci := 2) (v := .ref (aM 6)) (C := RX2) (T := TX2) (N := 10) hx hb hts iwX2_loansOwed_X2 hown hK hP 0 rfl rfl 7 (by decide) (hts _ (List.mem_of_getElem? (i := 1) rfl)) (fun _ h9 => h9) rfl dX2_loansOwed_11 ?_
          refine lv_iload_n hx hb dX2_loansOwed_14 rfl (lv_at hl 2 rfl) ?_
          obtain ⟨hi, hM⟩ := gi_some hM
          refine va_iald hx hb hK hP 6 0 rfl rfl hi dX2_loansOwed_15 ?_
          refine lv_if_le (tgt := 22) hx hb dX2_loansOwed_16 (by decide) (fun hc_2 => ?_) (fun hc_2 => ?_)
          · have hM := it_p hc_2 hM
            obtain ⟨x_3, ex_3⟩ : ∃ y : Int32, y = (v2 + (1 : Int32)) := ⟨_, rfl⟩
            have hM := nm_at ex_3 hM
            refine lv_iinc (v := x_3) (lv' := [(2, .int x_3), (0, .ref (aM 0)), (1, .int v1)]) hx hb dX2_loansOwed_22 hl (k := 2) rfl (by rw [ex_3]; rfl) (by decide) rfl (fun ls hl => ?_)
            refine lv_goto (tgt := 4) hx hb dX2_loansOwed_25 (by decide) ?_
            have hR := som hM
            exact ih4 v1 x_3 (hbk4 _ hR) _ _ hP hD hS _ (lv_sub hl [1, 2, 0] rfl)
          · have hM := it_n hc_2 hM
            obtain ⟨x_4, ex_4⟩ : ∃ y : Int32, y = (v1 + (1 : Int32)) := ⟨_, rfl⟩
            have hM := nm_at ex_4 hM
            refine lv_iinc (v := x_4) (lv' := [(1, .int x_4), (0, .ref (aM 0)), (2, .int v2)]) hx hb dX2_loansOwed_19 hl (k := 1) rfl (by rw [ex_4]; rfl) (by decide) rfl (fun ls hl => ?_)
            obtain ⟨x_5, ex_5⟩ : ∃ y : Int32, y = (v2 + (1 : Int32)) := ⟨_, rfl⟩
            have hM := nm_at ex_5 hM
            refine lv_iinc (v := x_5) (lv' := [(2, .int x_5), (1, .int x_4), (0, .ref (aM 0))]) hx hb dX2_loansOwed_22 hl (k := 2) rfl (by rw [ex_5]; rfl) (by decide) rfl (fun ls hl => ?_)
            refine lv_goto (tgt := 4) hx hb dX2_loansOwed_25 (by decide) ?_
            have hR := som hM
            exact ih4 x_4 x_5 (hbk4 _ hR) _ _ hP hD hS _ (lv_sub hl [2, 1, 0] rfl)
    exact I4 FU v1 v2 hit4 _ _ hP hD hS _ hl
  refine lv_iconst (v := 0) hx hb dX2_loansOwed_0 (by decide) ?_
  refine lv_istore_n (lv' := [(1, .int (0 : Int32)), (0, .ref (aM 0))]) hx hb dX2_loansOwed_1 rfl hl (by decide) rfl (fun ls hl => ?_)
  refine lv_iconst (v := 0) hx hb dX2_loansOwed_2 (by decide) ?_
  refine lv_istore_n (lv' := [(2, .int (0 : Int32)), (1, .int (0 : Int32)), (0, .ref (aM 0))]) hx hb dX2_loansOwed_3 rfl hl (by decide) rfl (fun ls hl => ?_)
  exact N4 (0 : Int32) (0 : Int32) hM _ _ hP hD hS _ (lv_sub hl [2, 1, 0] rfl)
abbrev rmX2_allOwed : Room := { frames := 0, cells := 0, slots := 0, locals := 0 }
theorem iwX2_allOwed_X2 : ∀ w ∈ wsX20, w ∈ wsX2_allOwed := fun _ h => List.mem_cons_of_mem _ (List.mem_append_right _ (h))
set_option maxHeartbeats 4000000 in
set_option maxRecDepth 100000 in
theorem kX2_allOwed (l : Launch) (dC : Nat → ClassId) (dI : Nat → Nat → Nat) (ct : Nat → ClassId) (aM : Nat → Nat) (sz : Nat) (mM : Mem) (res : Int32) (hM : mX2_allOwed mM = some res) : Met l yX2_allOwed wsX2_allOwed rmX2_allOwed (va_Pc [.ref (aM 0)] (PB (dC, dI) ct E0 sz (wM ct aM mM))) (Qi (dC, dI) ct (va_A (wM ct aM mM) sz) res (wM ct aM mM)) 0 0 (va_A (wM ct aM mM) sz) := by
  refine Met.ofW (cc := cX2_allOwed) (maxL := 3) (ret := (some .int)) (by decide) rfl ?_
  intro p e s m args below meth c s₁ B hml hv
  obtain ⟨hargs, hsz, hP, hK, hD0, hE⟩ := hv
  have hx := B.exec
  have hb := B.bytes
  have hr := B.returns
  have hts := atoms_spec (ws := wsX2_allOwed) B.pre
  have hown : s.vm.findClass RX2 = some m.cls := findClass_of_methodNamed B.named
  have hlocks := B.notSynchronized
  clear B s₁
  subst hsz
  have hD := hD0.self (sz := s.heap.size)
  clear hD0
  generalize hAe : va_A (wM ct aM mM) s.heap.size = A at hD hE ⊢
  have hA : ∀ q : Nat, s.heap.size ≤ q → A q := fun q h => by rw [← hAe]; exact Or.inr h
  clear hAe
  have hS : va_S A s.heap s.heap [] := va_S.rf
  refine cutQ (fun Q hQ => ?_)
  refine entryW (vs := [.ref (aM 0)]) hargs (Nat.le_of_ble_eq_true rfl) (fun ls hl => ?_)
  replace hl : lv_has ls 3 [(0, .ref (aM 0))] := hl
  unfold mX2_allOwed at hM
  have N4 : ∀ (v1 : Int32) (v2 : Int32), mX2_allOwed_L4 v1 v2 mM = some res → ∀ (H : Heap) (locs : List Loc), va_P (dC, dI) vwCl (wM ct aM mM) H → va_D A (wM ct aM mM) → va_S A s.heap H locs → ∀ ls : Array Slot, lv_has ls 3 [(0, .ref (aM 0)), (1, .int v1), (2, .int v2)] → W p l e (headSpec wsX2_allOwed rmX2_allOwed).room s m args below meth c H locs 0 0 Q (F0 m 4 ls []) := by
    intro v1 v2 hM H locs hP hD hS ls hl
    unfold mX2_allOwed_L4 at hM
    obtain ⟨ex4, hit4, hM⟩ := bn_some hM
    have X4_0 : ∀ (v1 : Int32), ex4 = v1 → ∀ (H : Heap) (locs : List Loc), va_P (dC, dI) vwCl (wM ct aM mM) H → va_D A (wM ct aM mM) → va_S A s.heap H locs → ∀ ls : Array Slot, lv_has ls 3 [(1, .int v1)] → W p l e (headSpec wsX2_allOwed rmX2_allOwed).room s m args below meth c H locs 0 0 Q (F0 m 34 ls []) := by
      intro v1 hex H locs hP hD hS ls hl
      rw [hex] at hM
      have hM := nm_at (y := v1) rfl hM
      refine lv_iload_n hx hb dX2_allOwed_34 rfl (lv_at hl 0 rfl) ?_
      have hR := som hM
      rw [hR] at hQ
      exact ret_i hQ hx hb hr hlocks hP hK hD hS dX2_allOwed_35
    have I4 : ∀ (n : Nat) (v1 : Int32) (v2 : Int32), itr (fun q => mX2_allOwed_s4 mM q.1 q.2) n (v1, v2) = some ex4 → ∀ (H : Heap) (locs : List Loc), va_P (dC, dI) vwCl (wM ct aM mM) H → va_D A (wM ct aM mM) → va_S A s.heap H locs → ∀ ls : Array Slot, lv_has ls 3 [(0, .ref (aM 0)), (1, .int v1), (2, .int v2)] → W p l e (headSpec wsX2_allOwed rmX2_allOwed).room s m args below meth c H locs 0 0 Q (F0 m 4 ls []) := by
      intro n
      induction n with
      | zero => intro v1 v2 hit; exact (itr_zero hit).elim
      | succ n ih4 =>
        intro v1 v2 hit H locs hP hD hS ls hl
        obtain ⟨o4, hM, hbk4, hex4⟩ := itr_succ hit
        replace hM : mX2_allOwed_s4 mM v1 v2 = some o4 := hM
        unfold mX2_allOwed_s4 at hM
        refine lv_iload_n hx hb dX2_allOwed_4 rfl (lv_at hl 2 rfl) ?_
        refine lv_bipush (v := 40) hx hb dX2_allOwed_5 (by decide) ?_
        refine lv_icmp_ge (tgt := 34) hx hb dX2_allOwed_7 (by decide) (fun hc_1 => ?_) (fun hc_1 => ?_)
        · have hM := it_p hc_1 hM
          have hR := som hM
          exact X4_0 v1 (hex4 _ hR).symm _ _ hP hD hS _ (lv_sub hl [1] rfl)
        · have hM := it_n hc_1 hM
          refine lv_aload_n hx hb dX2_allOwed_10 rfl (lv_at hl 0 rfl) ?_
          refine va_get (D := (dC, dI)) (ci := 2) (v := .ref (aM 6)) (C := RX2) (T := TX2) (N := 10) hx hb hts iwX2_allOwed_X2 hown hK hP 0 rfl rfl 7 (by decide) (hts _ (List.mem_of_getElem? (i := 1) rfl)) (fun _ h9 => h9) rfl dX2_allOwed_11 ?_
          refine lv_iload_n hx hb dX2_allOwed_14 rfl (lv_at hl 2 rfl) ?_
          obtain ⟨hi, hM⟩ := gi_some hM
          refine va_iald hx hb hK hP 6 0 rfl rfl hi dX2_allOwed_15 ?_
          refine lv_if_le (tgt := 28) hx hb dX2_allOwed_16 (by decide) (fun hc_2 => ?_) (fun hc_2 => ?_)
          · have hM := it_p hc_2 hM
            obtain ⟨x_3, ex_3⟩ : ∃ y : Int32, y = (v2 + (1 : Int32)) := ⟨_, rfl⟩
            have hM := nm_at ex_3 hM
            refine lv_iinc (v := x_3) (lv' := [(2, .int x_3), (0, .ref (aM 0)), (1, .int v1)]) hx hb dX2_allOwed_28 hl (k := 2) rfl (by rw [ex_3]; rfl) (by decide) rfl (fun ls hl => ?_)
            refine lv_goto (tgt := 4) hx hb dX2_allOwed_31 (by decide) ?_
            have hR := som hM
            exact ih4 v1 x_3 (hbk4 _ hR) _ _ hP hD hS _ (lv_sub hl [1, 2, 0] rfl)
          · have hM := it_n hc_2 hM
            refine lv_iload_n hx hb dX2_allOwed_19 rfl (lv_at hl 1 rfl) ?_
            refine lv_aload_n hx hb dX2_allOwed_20 rfl (lv_at hl 0 rfl) ?_
            refine va_get (D := (dC, dI)) (ci := 2) (v := .ref (aM 7)) (C := RX2) (T := TX2) (N := 10) hx hb hts iwX2_allOwed_X2 hown hK hP 0 rfl rfl 8 (by decide) (hts _ (List.mem_of_getElem? (i := 2) rfl)) (fun _ h9 => h9) rfl dX2_allOwed_21 ?_
            refine lv_iload_n hx hb dX2_allOwed_24 rfl (lv_at hl 2 rfl) ?_
            obtain ⟨hi, hM⟩ := gi_some hM
            refine va_iald hx hb hK hP 7 0 rfl rfl hi dX2_allOwed_25 ?_
            refine lv_iadd hx hb dX2_allOwed_26 ?_
            refine lv_topi (fun x_4 ex_4 => ?_)
            have hM := nm_at ex_4 hM
            refine lv_istore_n (lv' := [(1, .int x_4), (0, .ref (aM 0)), (2, .int v2)]) hx hb dX2_allOwed_27 rfl hl (by decide) rfl (fun ls hl => ?_)
            obtain ⟨x_5, ex_5⟩ : ∃ y : Int32, y = (v2 + (1 : Int32)) := ⟨_, rfl⟩
            have hM := nm_at ex_5 hM
            refine lv_iinc (v := x_5) (lv' := [(2, .int x_5), (1, .int x_4), (0, .ref (aM 0))]) hx hb dX2_allOwed_28 hl (k := 2) rfl (by rw [ex_5]; rfl) (by decide) rfl (fun ls hl => ?_)
            refine lv_goto (tgt := 4) hx hb dX2_allOwed_31 (by decide) ?_
            have hR := som hM
            exact ih4 x_4 x_5 (hbk4 _ hR) _ _ hP hD hS _ (lv_sub hl [2, 1, 0] rfl)
    exact I4 FU v1 v2 hit4 _ _ hP hD hS _ hl
  refine lv_iconst (v := 0) hx hb dX2_allOwed_0 (by decide) ?_
  refine lv_istore_n (lv' := [(1, .int (0 : Int32)), (0, .ref (aM 0))]) hx hb dX2_allOwed_1 rfl hl (by decide) rfl (fun ls hl => ?_)
  refine lv_iconst (v := 0) hx hb dX2_allOwed_2 (by decide) ?_
  refine lv_istore_n (lv' := [(2, .int (0 : Int32)), (1, .int (0 : Int32)), (0, .ref (aM 0))]) hx hb dX2_allOwed_3 rfl hl (by decide) rfl (fun ls hl => ?_)
  exact N4 (0 : Int32) (0 : Int32) hM _ _ hP hD hS _ (lv_sub hl [2, 1, 0] rfl)
abbrev rmX2_allLost : Room := { frames := 0, cells := 0, slots := 0, locals := 0 }
theorem iwX2_allLost_X2 : ∀ w ∈ wsX20, w ∈ wsX2_allLost := fun _ h => List.mem_cons_of_mem _ (List.mem_append_right _ (h))
set_option maxHeartbeats 4000000 in
set_option maxRecDepth 100000 in
theorem kX2_allLost (l : Launch) (dC : Nat → ClassId) (dI : Nat → Nat → Nat) (ct : Nat → ClassId) (aM : Nat → Nat) (sz : Nat) (mM : Mem) (res : Int32) (hM : mX2_allLost mM = some res) : Met l yX2_allLost wsX2_allLost rmX2_allLost (va_Pc [.ref (aM 0)] (PB (dC, dI) ct E0 sz (wM ct aM mM))) (Qi (dC, dI) ct (va_A (wM ct aM mM) sz) res (wM ct aM mM)) 0 0 (va_A (wM ct aM mM) sz) := by
  refine Met.ofW (cc := cX2_allLost) (maxL := 3) (ret := (some .int)) (by decide) rfl ?_
  intro p e s m args below meth c s₁ B hml hv
  obtain ⟨hargs, hsz, hP, hK, hD0, hE⟩ := hv
  have hx := B.exec
  have hb := B.bytes
  have hr := B.returns
  have hts := atoms_spec (ws := wsX2_allLost) B.pre
  have hown : s.vm.findClass RX2 = some m.cls := findClass_of_methodNamed B.named
  have hlocks := B.notSynchronized
  clear B s₁
  subst hsz
  have hD := hD0.self (sz := s.heap.size)
  clear hD0
  generalize hAe : va_A (wM ct aM mM) s.heap.size = A at hD hE ⊢
  have hA : ∀ q : Nat, s.heap.size ≤ q → A q := fun q h => by rw [← hAe]; exact Or.inr h
  clear hAe
  have hS : va_S A s.heap s.heap [] := va_S.rf
  refine cutQ (fun Q hQ => ?_)
  refine entryW (vs := [.ref (aM 0)]) hargs (Nat.le_of_ble_eq_true rfl) (fun ls hl => ?_)
  replace hl : lv_has ls 3 [(0, .ref (aM 0))] := hl
  unfold mX2_allLost at hM
  have N4 : ∀ (v1 : Int32) (v2 : Int32), mX2_allLost_L4 v1 v2 mM = some res → ∀ (H : Heap) (locs : List Loc), va_P (dC, dI) vwCl (wM ct aM mM) H → va_D A (wM ct aM mM) → va_S A s.heap H locs → ∀ ls : Array Slot, lv_has ls 3 [(0, .ref (aM 0)), (1, .int v1), (2, .int v2)] → W p l e (headSpec wsX2_allLost rmX2_allLost).room s m args below meth c H locs 0 0 Q (F0 m 4 ls []) := by
    intro v1 v2 hM H locs hP hD hS ls hl
    unfold mX2_allLost_L4 at hM
    obtain ⟨ex4, hit4, hM⟩ := bn_some hM
    have X4_0 : ∀ (v1 : Int32), ex4 = v1 → ∀ (H : Heap) (locs : List Loc), va_P (dC, dI) vwCl (wM ct aM mM) H → va_D A (wM ct aM mM) → va_S A s.heap H locs → ∀ ls : Array Slot, lv_has ls 3 [(1, .int v1)] → W p l e (headSpec wsX2_allLost rmX2_allLost).room s m args below meth c H locs 0 0 Q (F0 m 25 ls []) := by
      intro v1 hex H locs hP hD hS ls hl
      rw [hex] at hM
      have hM := nm_at (y := v1) rfl hM
      refine lv_iload_n hx hb dX2_allLost_25 rfl (lv_at hl 0 rfl) ?_
      have hR := som hM
      rw [hR] at hQ
      exact ret_i hQ hx hb hr hlocks hP hK hD hS dX2_allLost_26
    have I4 : ∀ (n : Nat) (v1 : Int32) (v2 : Int32), itr (fun q => mX2_allLost_s4 mM q.1 q.2) n (v1, v2) = some ex4 → ∀ (H : Heap) (locs : List Loc), va_P (dC, dI) vwCl (wM ct aM mM) H → va_D A (wM ct aM mM) → va_S A s.heap H locs → ∀ ls : Array Slot, lv_has ls 3 [(0, .ref (aM 0)), (1, .int v1), (2, .int v2)] → W p l e (headSpec wsX2_allLost rmX2_allLost).room s m args below meth c H locs 0 0 Q (F0 m 4 ls []) := by
      intro n
      induction n with
      | zero => intro v1 v2 hit; exact (itr_zero hit).elim
      | succ n ih4 =>
        intro v1 v2 hit H locs hP hD hS ls hl
        obtain ⟨o4, hM, hbk4, hex4⟩ := itr_succ hit
        replace hM : mX2_allLost_s4 mM v1 v2 = some o4 := hM
        unfold mX2_allLost_s4 at hM
        refine lv_iload_n hx hb dX2_allLost_4 rfl (lv_at hl 2 rfl) ?_
        refine lv_bipush (v := 6) hx hb dX2_allLost_5 (by decide) ?_
        refine lv_icmp_ge (tgt := 25) hx hb dX2_allLost_7 (by decide) (fun hc_1 => ?_) (fun hc_1 => ?_)
        · have hM := it_p hc_1 hM
          have hR := som hM
          exact X4_0 v1 (hex4 _ hR).symm _ _ hP hD hS _ (lv_sub hl [1] rfl)
        · have hM := it_n hc_1 hM
          refine lv_iload_n hx hb dX2_allLost_10 rfl (lv_at hl 1 rfl) ?_
          refine lv_aload_n hx hb dX2_allLost_11 rfl (lv_at hl 0 rfl) ?_
          refine va_get (D := (dC, dI)) (ci := 2) (v := .ref (aM 2)) (C := RX2) (T := TX2) (N := 10) hx hb hts iwX2_allLost_X2 hown hK hP 0 rfl rfl 3 (by decide) (hts _ (List.mem_of_getElem? (i := 1) rfl)) (fun _ h9 => h9) rfl dX2_allLost_12 ?_
          refine lv_iload_n hx hb dX2_allLost_15 rfl (lv_at hl 2 rfl) ?_
          obtain ⟨hi, hM⟩ := gi_some hM
          refine va_iald hx hb hK hP 2 0 rfl rfl hi dX2_allLost_16 ?_
          refine lv_iadd hx hb dX2_allLost_17 ?_
          refine lv_topi (fun x_2 ex_2 => ?_)
          have hM := nm_at ex_2 hM
          refine lv_istore_n (lv' := [(1, .int x_2), (0, .ref (aM 0)), (2, .int v2)]) hx hb dX2_allLost_18 rfl hl (by decide) rfl (fun ls hl => ?_)
          obtain ⟨x_3, ex_3⟩ : ∃ y : Int32, y = (v2 + (1 : Int32)) := ⟨_, rfl⟩
          have hM := nm_at ex_3 hM
          refine lv_iinc (v := x_3) (lv' := [(2, .int x_3), (1, .int x_2), (0, .ref (aM 0))]) hx hb dX2_allLost_19 hl (k := 2) rfl (by rw [ex_3]; rfl) (by decide) rfl (fun ls hl => ?_)
          refine lv_goto (tgt := 4) hx hb dX2_allLost_22 (by decide) ?_
          have hR := som hM
          exact ih4 x_2 x_3 (hbk4 _ hR) _ _ hP hD hS _ (lv_sub hl [2, 1, 0] rfl)
    exact I4 FU v1 v2 hit4 _ _ hP hD hS _ hl
  refine lv_iconst (v := 0) hx hb dX2_allLost_0 (by decide) ?_
  refine lv_istore_n (lv' := [(1, .int (0 : Int32)), (0, .ref (aM 0))]) hx hb dX2_allLost_1 rfl hl (by decide) rfl (fun ls hl => ?_)
  refine lv_iconst (v := 0) hx hb dX2_allLost_2 (by decide) ?_
  refine lv_istore_n (lv' := [(2, .int (0 : Int32)), (1, .int (0 : Int32)), (0, .ref (aM 0))]) hx hb dX2_allLost_3 rfl hl (by decide) rfl (fun ls hl => ?_)
  exact N4 (0 : Int32) (0 : Int32) hM _ _ hP hD hS _ (lv_sub hl [2, 1, 0] rfl)
abbrev rmX2_copyFrom : Room := { frames := 1, cells := 0, slots := 0, locals := 64 }
theorem iwX2_copyFrom_X2 : ∀ w ∈ wsX20, w ∈ wsX2_copyFrom := fun _ h => List.mem_cons_of_mem _ (List.mem_append_right _ (h))
set_option maxHeartbeats 4000000 in
set_option maxRecDepth 100000 in
theorem kX2_copyFrom (l : Launch) (dC : Nat → ClassId) (dI : Nat → Nat → Nat) (ct : Nat → ClassId) (aM : Nat → Nat) (aN : Nat → Nat) (sz : Nat) (mM : Mem) (mN : Mem) (res : Mem) (hM : mX2_copyFrom mM mN = some res) : Met l yX2_copyFrom wsX2_copyFrom rmX2_copyFrom (va_Pc [.ref (aM 0), .ref (aN 0)] (PB (dC, dI) ct E0 sz (wM ct aM mM ++ wM ct aN mN))) (Qv (dC, dI) ct (va_A (wM ct aM mM ++ wM ct aN mN) sz) (wM ct aM res ++ wM ct aN mN)) 0 0 (va_A (wM ct aM mM ++ wM ct aN mN) sz) := by
  refine Met.ofW (cc := cX2_copyFrom) (maxL := 2) (ret := none) (by decide) rfl ?_
  intro p e s m args below meth c s₁ B hml hv
  obtain ⟨hargs, hsz, hP, hK, hD0, hE⟩ := hv
  have hx := B.exec
  have hb := B.bytes
  have hr := B.returns
  have hts := atoms_spec (ws := wsX2_copyFrom) B.pre
  have hown : s.vm.findClass RX2 = some m.cls := findClass_of_methodNamed B.named
  have hlocks := B.notSynchronized
  clear B s₁
  subst hsz
  have hD := hD0.self (sz := s.heap.size)
  clear hD0
  generalize hAe : va_A (wM ct aM mM ++ wM ct aN mN) s.heap.size = A at hD hE ⊢
  have hA : ∀ q : Nat, s.heap.size ≤ q → A q := fun q h => by rw [← hAe]; exact Or.inr h
  clear hAe
  have hS : va_S A s.heap s.heap [] := va_S.rf
  refine cutQ (fun Q hQ => ?_)
  refine entryW (vs := [.ref (aM 0), .ref (aN 0)]) hargs (Nat.le_of_ble_eq_true rfl) (fun ls hl => ?_)
  replace hl : lv_has ls 2 [(0, .ref (aM 0)), (1, .ref (aN 0))] := hl
  unfold mX2_copyFrom at hM
  refine lv_aload_n hx hb dX2_copyFrom_0 rfl (lv_at hl 0 rfl) ?_
  refine lv_aload_n hx hb dX2_copyFrom_1 rfl (lv_at hl 1 rfl) ?_
  refine va_get (D := (dC, dI)) (ci := 2) (v := .int (mN 0 0)) (C := RX2) (T := TX2) (N := 10) hx hb hts iwX2_copyFrom_X2 hown hK hP 9 rfl rfl 0 (by decide) (hts _ (List.mem_of_getElem? (i := 1) rfl)) (fun _ h9 => h9) rfl dX2_copyFrom_2 ?_
  refine pf_i (wf := fun z => (wM ct aM z ++ wM ct aN mN)) (m1 := upf mM 0 (mN 0 0)) hx hb hts iwX2_copyFrom_X2 tyX2 tyX2_ok nmX2 hown hK hP hD hS 0 rfl rfl 0 (by decide) (hts _ (List.mem_of_getElem? (i := 1) rfl)) (fun _ h9 => h9) rfl rfl rfl (Nat.le_of_ble_eq_true rfl) dX2_copyFrom_5 rfl (fun mM_1 emM_1 H locs hP hD hS => ?_)
  have hM := nm_at emM_1 hM
  refine lv_aload_n hx hb dX2_copyFrom_8 rfl (lv_at hl 0 rfl) ?_
  refine lv_aload_n hx hb dX2_copyFrom_9 rfl (lv_at hl 1 rfl) ?_
  refine va_get (D := (dC, dI)) (ci := 2) (v := .int (mN 0 1)) (C := RX2) (T := TX2) (N := 10) hx hb hts iwX2_copyFrom_X2 hown hK hP 9 rfl rfl 1 (by decide) (hts _ (List.mem_of_getElem? (i := 2) rfl)) (fun _ h9 => h9) rfl dX2_copyFrom_10 ?_
  refine pf_i (wf := fun z => (wM ct aM z ++ wM ct aN mN)) (m1 := upf mM_1 1 (mN 0 1)) hx hb hts iwX2_copyFrom_X2 tyX2 tyX2_ok nmX2 hown hK hP hD hS 0 rfl rfl 1 (by decide) (hts _ (List.mem_of_getElem? (i := 2) rfl)) (fun _ h9 => h9) rfl rfl rfl (Nat.le_of_ble_eq_true rfl) dX2_copyFrom_13 rfl (fun mM_2 emM_2 H locs hP hD hS => ?_)
  have hM := nm_at emM_2 hM
  refine lv_aload_n hx hb dX2_copyFrom_16 rfl (lv_at hl 1 rfl) ?_
  refine va_get (D := (dC, dI)) (ci := 2) (v := .ref (aN 1)) (C := RX2) (T := TX2) (N := 10) hx hb hts iwX2_copyFrom_X2 hown hK hP 9 rfl rfl 2 (by decide) (hts _ (List.mem_of_getElem? (i := 3) rfl)) (fun _ h9 => h9) rfl dX2_copyFrom_17 ?_
  refine lv_iconst (v := 0) hx hb dX2_copyFrom_20 (by decide) ?_
  refine lv_aload_n hx hb dX2_copyFrom_21 rfl (lv_at hl 0 rfl) ?_
  refine va_get (D := (dC, dI)) (ci := 2) (v := .ref (aM 1)) (C := RX2) (T := TX2) (N := 10) hx hb hts iwX2_copyFrom_X2 hown hK hP 0 rfl rfl 2 (by decide) (hts _ (List.mem_of_getElem? (i := 3) rfl)) (fun _ h9 => h9) rfl dX2_copyFrom_22 ?_
  refine lv_iconst (v := 0) hx hb dX2_copyFrom_25 (by decide) ?_
  refine lv_bipush (v := 6) hx hb dX2_copyFrom_26 (by decide) ?_
  refine cp_i (wf := fun z => (wM ct aM z ++ wM ct aN mN)) (m1 := ups mM_2 1 (va_cpy (mN 1) (mM_2 1) (0 : Int32).toNatClampNeg (0 : Int32).toNatClampNeg (6 : Int32).toNatClampNeg)) hx hb (hml.trans hl.1.symm) hown (hts _ (List.mem_of_getElem? (i := 4) rfl)) (hts _ (List.mem_of_getElem? (i := 5) rfl)) (hts _ (List.mem_of_getElem? (i := 6) rfl)) (hts _ (List.mem_of_getElem? (i := 7) rfl)) hK hP hD hS 10 1 rfl rfl (by decide) (by decide) (by decide) (by decide) (by decide) (Nat.le_of_ble_eq_true rfl) (Nat.le_of_ble_eq_true rfl) dX2_copyFrom_28 rfl (fun mM_3 emM_3 H locs hP hD hS => ?_)
  have hM := nm_at emM_3 hM
  refine lv_aload_n hx hb dX2_copyFrom_31 rfl (lv_at hl 1 rfl) ?_
  refine va_get (D := (dC, dI)) (ci := 2) (v := .ref (aN 2)) (C := RX2) (T := TX2) (N := 10) hx hb hts iwX2_copyFrom_X2 hown hK hP 9 rfl rfl 3 (by decide) (hts _ (List.mem_of_getElem? (i := 8) rfl)) (fun _ h9 => h9) rfl dX2_copyFrom_32 ?_
  refine lv_iconst (v := 0) hx hb dX2_copyFrom_35 (by decide) ?_
  refine lv_aload_n hx hb dX2_copyFrom_36 rfl (lv_at hl 0 rfl) ?_
  refine va_get (D := (dC, dI)) (ci := 2) (v := .ref (aM 2)) (C := RX2) (T := TX2) (N := 10) hx hb hts iwX2_copyFrom_X2 hown hK hP 0 rfl rfl 3 (by decide) (hts _ (List.mem_of_getElem? (i := 8) rfl)) (fun _ h9 => h9) rfl dX2_copyFrom_37 ?_
  refine lv_iconst (v := 0) hx hb dX2_copyFrom_40 (by decide) ?_
  refine lv_bipush (v := 6) hx hb dX2_copyFrom_41 (by decide) ?_
  refine cp_i (wf := fun z => (wM ct aM z ++ wM ct aN mN)) (m1 := ups mM_3 2 (va_cpy (mN 2) (mM_3 2) (0 : Int32).toNatClampNeg (0 : Int32).toNatClampNeg (6 : Int32).toNatClampNeg)) hx hb (hml.trans hl.1.symm) hown (hts _ (List.mem_of_getElem? (i := 4) rfl)) (hts _ (List.mem_of_getElem? (i := 5) rfl)) (hts _ (List.mem_of_getElem? (i := 6) rfl)) (hts _ (List.mem_of_getElem? (i := 7) rfl)) hK hP hD hS 11 2 rfl rfl (by decide) (by decide) (by decide) (by decide) (by decide) (Nat.le_of_ble_eq_true rfl) (Nat.le_of_ble_eq_true rfl) dX2_copyFrom_43 rfl (fun mM_4 emM_4 H locs hP hD hS => ?_)
  have hM := nm_at emM_4 hM
  refine lv_aload_n hx hb dX2_copyFrom_46 rfl (lv_at hl 1 rfl) ?_
  refine va_get (D := (dC, dI)) (ci := 2) (v := .ref (aN 3)) (C := RX2) (T := TX2) (N := 10) hx hb hts iwX2_copyFrom_X2 hown hK hP 9 rfl rfl 4 (by decide) (hts _ (List.mem_of_getElem? (i := 9) rfl)) (fun _ h9 => h9) rfl dX2_copyFrom_47 ?_
  refine lv_iconst (v := 0) hx hb dX2_copyFrom_50 (by decide) ?_
  refine lv_aload_n hx hb dX2_copyFrom_51 rfl (lv_at hl 0 rfl) ?_
  refine va_get (D := (dC, dI)) (ci := 2) (v := .ref (aM 3)) (C := RX2) (T := TX2) (N := 10) hx hb hts iwX2_copyFrom_X2 hown hK hP 0 rfl rfl 4 (by decide) (hts _ (List.mem_of_getElem? (i := 9) rfl)) (fun _ h9 => h9) rfl dX2_copyFrom_52 ?_
  refine lv_iconst (v := 0) hx hb dX2_copyFrom_55 (by decide) ?_
  refine lv_bipush (v := 40) hx hb dX2_copyFrom_56 (by decide) ?_
  refine cp_i (wf := fun z => (wM ct aM z ++ wM ct aN mN)) (m1 := ups mM_4 3 (va_cpy (mN 3) (mM_4 3) (0 : Int32).toNatClampNeg (0 : Int32).toNatClampNeg (40 : Int32).toNatClampNeg)) hx hb (hml.trans hl.1.symm) hown (hts _ (List.mem_of_getElem? (i := 4) rfl)) (hts _ (List.mem_of_getElem? (i := 5) rfl)) (hts _ (List.mem_of_getElem? (i := 6) rfl)) (hts _ (List.mem_of_getElem? (i := 7) rfl)) hK hP hD hS 12 3 rfl rfl (by decide) (by decide) (by decide) (by decide) (by decide) (Nat.le_of_ble_eq_true rfl) (Nat.le_of_ble_eq_true rfl) dX2_copyFrom_58 rfl (fun mM_5 emM_5 H locs hP hD hS => ?_)
  have hM := nm_at emM_5 hM
  refine lv_aload_n hx hb dX2_copyFrom_61 rfl (lv_at hl 1 rfl) ?_
  refine va_get (D := (dC, dI)) (ci := 2) (v := .ref (aN 4)) (C := RX2) (T := TX2) (N := 10) hx hb hts iwX2_copyFrom_X2 hown hK hP 9 rfl rfl 5 (by decide) (hts _ (List.mem_of_getElem? (i := 10) rfl)) (fun _ h9 => h9) rfl dX2_copyFrom_62 ?_
  refine lv_iconst (v := 0) hx hb dX2_copyFrom_65 (by decide) ?_
  refine lv_aload_n hx hb dX2_copyFrom_66 rfl (lv_at hl 0 rfl) ?_
  refine va_get (D := (dC, dI)) (ci := 2) (v := .ref (aM 4)) (C := RX2) (T := TX2) (N := 10) hx hb hts iwX2_copyFrom_X2 hown hK hP 0 rfl rfl 5 (by decide) (hts _ (List.mem_of_getElem? (i := 10) rfl)) (fun _ h9 => h9) rfl dX2_copyFrom_67 ?_
  refine lv_iconst (v := 0) hx hb dX2_copyFrom_70 (by decide) ?_
  refine lv_bipush (v := 40) hx hb dX2_copyFrom_71 (by decide) ?_
  refine cp_i (wf := fun z => (wM ct aM z ++ wM ct aN mN)) (m1 := ups mM_5 4 (va_cpy (mN 4) (mM_5 4) (0 : Int32).toNatClampNeg (0 : Int32).toNatClampNeg (40 : Int32).toNatClampNeg)) hx hb (hml.trans hl.1.symm) hown (hts _ (List.mem_of_getElem? (i := 4) rfl)) (hts _ (List.mem_of_getElem? (i := 5) rfl)) (hts _ (List.mem_of_getElem? (i := 6) rfl)) (hts _ (List.mem_of_getElem? (i := 7) rfl)) hK hP hD hS 13 4 rfl rfl (by decide) (by decide) (by decide) (by decide) (by decide) (Nat.le_of_ble_eq_true rfl) (Nat.le_of_ble_eq_true rfl) dX2_copyFrom_73 rfl (fun mM_6 emM_6 H locs hP hD hS => ?_)
  have hM := nm_at emM_6 hM
  refine lv_aload_n hx hb dX2_copyFrom_76 rfl (lv_at hl 1 rfl) ?_
  refine va_get (D := (dC, dI)) (ci := 2) (v := .ref (aN 5)) (C := RX2) (T := TX2) (N := 10) hx hb hts iwX2_copyFrom_X2 hown hK hP 9 rfl rfl 6 (by decide) (hts _ (List.mem_of_getElem? (i := 11) rfl)) (fun _ h9 => h9) rfl dX2_copyFrom_77 ?_
  refine lv_iconst (v := 0) hx hb dX2_copyFrom_80 (by decide) ?_
  refine lv_aload_n hx hb dX2_copyFrom_81 rfl (lv_at hl 0 rfl) ?_
  refine va_get (D := (dC, dI)) (ci := 2) (v := .ref (aM 5)) (C := RX2) (T := TX2) (N := 10) hx hb hts iwX2_copyFrom_X2 hown hK hP 0 rfl rfl 6 (by decide) (hts _ (List.mem_of_getElem? (i := 11) rfl)) (fun _ h9 => h9) rfl dX2_copyFrom_82 ?_
  refine lv_iconst (v := 0) hx hb dX2_copyFrom_85 (by decide) ?_
  refine lv_bipush (v := 40) hx hb dX2_copyFrom_86 (by decide) ?_
  refine cp_i (wf := fun z => (wM ct aM z ++ wM ct aN mN)) (m1 := ups mM_6 5 (va_cpy (mN 5) (mM_6 5) (0 : Int32).toNatClampNeg (0 : Int32).toNatClampNeg (40 : Int32).toNatClampNeg)) hx hb (hml.trans hl.1.symm) hown (hts _ (List.mem_of_getElem? (i := 4) rfl)) (hts _ (List.mem_of_getElem? (i := 5) rfl)) (hts _ (List.mem_of_getElem? (i := 6) rfl)) (hts _ (List.mem_of_getElem? (i := 7) rfl)) hK hP hD hS 14 5 rfl rfl (by decide) (by decide) (by decide) (by decide) (by decide) (Nat.le_of_ble_eq_true rfl) (Nat.le_of_ble_eq_true rfl) dX2_copyFrom_88 rfl (fun mM_7 emM_7 H locs hP hD hS => ?_)
  have hM := nm_at emM_7 hM
  refine lv_aload_n hx hb dX2_copyFrom_91 rfl (lv_at hl 1 rfl) ?_
  refine va_get (D := (dC, dI)) (ci := 2) (v := .ref (aN 6)) (C := RX2) (T := TX2) (N := 10) hx hb hts iwX2_copyFrom_X2 hown hK hP 9 rfl rfl 7 (by decide) (hts _ (List.mem_of_getElem? (i := 12) rfl)) (fun _ h9 => h9) rfl dX2_copyFrom_92 ?_
  refine lv_iconst (v := 0) hx hb dX2_copyFrom_95 (by decide) ?_
  refine lv_aload_n hx hb dX2_copyFrom_96 rfl (lv_at hl 0 rfl) ?_
  refine va_get (D := (dC, dI)) (ci := 2) (v := .ref (aM 6)) (C := RX2) (T := TX2) (N := 10) hx hb hts iwX2_copyFrom_X2 hown hK hP 0 rfl rfl 7 (by decide) (hts _ (List.mem_of_getElem? (i := 12) rfl)) (fun _ h9 => h9) rfl dX2_copyFrom_97 ?_
  refine lv_iconst (v := 0) hx hb dX2_copyFrom_100 (by decide) ?_
  refine lv_bipush (v := 40) hx hb dX2_copyFrom_101 (by decide) ?_
  refine cp_i (wf := fun z => (wM ct aM z ++ wM ct aN mN)) (m1 := ups mM_7 6 (va_cpy (mN 6) (mM_7 6) (0 : Int32).toNatClampNeg (0 : Int32).toNatClampNeg (40 : Int32).toNatClampNeg)) hx hb (hml.trans hl.1.symm) hown (hts _ (List.mem_of_getElem? (i := 4) rfl)) (hts _ (List.mem_of_getElem? (i := 5) rfl)) (hts _ (List.mem_of_getElem? (i := 6) rfl)) (hts _ (List.mem_of_getElem? (i := 7) rfl)) hK hP hD hS 15 6 rfl rfl (by decide) (by decide) (by decide) (by decide) (by decide) (Nat.le_of_ble_eq_true rfl) (Nat.le_of_ble_eq_true rfl) dX2_copyFrom_103 rfl (fun mM_8 emM_8 H locs hP hD hS => ?_)
  have hM := nm_at emM_8 hM
  refine lv_aload_n hx hb dX2_copyFrom_106 rfl (lv_at hl 1 rfl) ?_
  refine va_get (D := (dC, dI)) (ci := 2) (v := .ref (aN 7)) (C := RX2) (T := TX2) (N := 10) hx hb hts iwX2_copyFrom_X2 hown hK hP 9 rfl rfl 8 (by decide) (hts _ (List.mem_of_getElem? (i := 13) rfl)) (fun _ h9 => h9) rfl dX2_copyFrom_107 ?_
  refine lv_iconst (v := 0) hx hb dX2_copyFrom_110 (by decide) ?_
  refine lv_aload_n hx hb dX2_copyFrom_111 rfl (lv_at hl 0 rfl) ?_
  refine va_get (D := (dC, dI)) (ci := 2) (v := .ref (aM 7)) (C := RX2) (T := TX2) (N := 10) hx hb hts iwX2_copyFrom_X2 hown hK hP 0 rfl rfl 8 (by decide) (hts _ (List.mem_of_getElem? (i := 13) rfl)) (fun _ h9 => h9) rfl dX2_copyFrom_112 ?_
  refine lv_iconst (v := 0) hx hb dX2_copyFrom_115 (by decide) ?_
  refine lv_bipush (v := 40) hx hb dX2_copyFrom_116 (by decide) ?_
  refine cp_i (wf := fun z => (wM ct aM z ++ wM ct aN mN)) (m1 := ups mM_8 7 (va_cpy (mN 7) (mM_8 7) (0 : Int32).toNatClampNeg (0 : Int32).toNatClampNeg (40 : Int32).toNatClampNeg)) hx hb (hml.trans hl.1.symm) hown (hts _ (List.mem_of_getElem? (i := 4) rfl)) (hts _ (List.mem_of_getElem? (i := 5) rfl)) (hts _ (List.mem_of_getElem? (i := 6) rfl)) (hts _ (List.mem_of_getElem? (i := 7) rfl)) hK hP hD hS 16 7 rfl rfl (by decide) (by decide) (by decide) (by decide) (by decide) (Nat.le_of_ble_eq_true rfl) (Nat.le_of_ble_eq_true rfl) dX2_copyFrom_118 rfl (fun mM_9 emM_9 H locs hP hD hS => ?_)
  have hM := nm_at emM_9 hM
  refine lv_aload_n hx hb dX2_copyFrom_121 rfl (lv_at hl 1 rfl) ?_
  refine va_get (D := (dC, dI)) (ci := 2) (v := .ref (aN 8)) (C := RX2) (T := TX2) (N := 10) hx hb hts iwX2_copyFrom_X2 hown hK hP 9 rfl rfl 9 (by decide) (hts _ (List.mem_of_getElem? (i := 14) rfl)) (fun _ h9 => h9) rfl dX2_copyFrom_122 ?_
  refine lv_iconst (v := 0) hx hb dX2_copyFrom_125 (by decide) ?_
  refine lv_aload_n hx hb dX2_copyFrom_126 rfl (lv_at hl 0 rfl) ?_
  refine va_get (D := (dC, dI)) (ci := 2) (v := .ref (aM 8)) (C := RX2) (T := TX2) (N := 10) hx hb hts iwX2_copyFrom_X2 hown hK hP 0 rfl rfl 9 (by decide) (hts _ (List.mem_of_getElem? (i := 14) rfl)) (fun _ h9 => h9) rfl dX2_copyFrom_127 ?_
  refine lv_iconst (v := 0) hx hb dX2_copyFrom_130 (by decide) ?_
  refine lv_bipush (v := 40) hx hb dX2_copyFrom_131 (by decide) ?_
  refine cp_i (wf := fun z => (wM ct aM z ++ wM ct aN mN)) (m1 := ups mM_9 8 (va_cpy (mN 8) (mM_9 8) (0 : Int32).toNatClampNeg (0 : Int32).toNatClampNeg (40 : Int32).toNatClampNeg)) hx hb (hml.trans hl.1.symm) hown (hts _ (List.mem_of_getElem? (i := 4) rfl)) (hts _ (List.mem_of_getElem? (i := 5) rfl)) (hts _ (List.mem_of_getElem? (i := 6) rfl)) (hts _ (List.mem_of_getElem? (i := 7) rfl)) hK hP hD hS 17 8 rfl rfl (by decide) (by decide) (by decide) (by decide) (by decide) (Nat.le_of_ble_eq_true rfl) (Nat.le_of_ble_eq_true rfl) dX2_copyFrom_133 rfl (fun mM_10 emM_10 H locs hP hD hS => ?_)
  have hM := nm_at emM_10 hM
  have hR := som hM
  rw [hR] at hQ
  exact ret_v hQ hx hb hr hlocks hP hK hD hS dX2_copyFrom_136
