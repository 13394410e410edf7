abbrev rmX0_append : Room := { frames := 0, cells := 0, slots := 0, locals := 0 }
theorem iwX0_append_X0 : ∀ w ∈ wsX00, w ∈ wsX0_append := fun _ h => List.mem_cons_of_mem _ (List.mem_append_right _ (h))
set_option maxHeartbeats 4000000 in
set_option maxRecDepth 100000 in
theorem kX0_append (l : Launch) (dC : Nat → ClassId) (dI : Nat → Nat → Nat) (ct : Nat → ClassId) (aB : Nat → Nat) (xB_judged : Nat) (sz : Nat) (mB : Mem) (v1 : Int32) (v2 : Int32) (v3 : Int32) (res : Mem) (hM : mX0_append mB v1 v2 v3 = some res) : Met l yX0_append wsX0_append rmX0_append (va_Pc [.ref (aB 0), .int v1, .int v2, .int v3] (PB (dC, dI) ct E0 sz (wB ct aB xB_judged mB))) (Qv (dC, dI) ct (va_A (wB ct aB xB_judged mB) sz) (wB ct aB xB_judged res)) 0 0 (va_A (wB ct aB xB_judged mB) sz) := by
  refine Met.ofW (cc := cX0_append) (maxL := 4) (ret := none) (by decide) rfl ?_
  intro p e s m args below meth c s₁ B hml hv
  obtain ⟨hargs, hsz, hP, hK, hD0, hE⟩ := hv
  have hx := B.exec
  have hb := B.bytes
  have hr := B.returns
  have hts := atoms_spec (ws := wsX0_append) B.pre
  have hown : s.vm.findClass RX0 = some m.cls := findClass_of_methodNamed B.named
  have hlocks := B.notSynchronized
  clear B s₁
  subst hsz
  have hD := hD0.self (sz := s.heap.size)
  clear hD0
  generalize hAe : va_A (wB ct aB xB_judged mB) s.heap.size = A at hD hE ⊢
  have hA : ∀ q : Nat, s.heap.size ≤ q → A q := fun q h => by rw [← hAe]; exact Or.inr h
  clear hAe
  have hS : va_S A s.heap s.heap [] := va_S.rf
  refine cutQ (fun Q hQ => ?_)
  refine entryW (vs := [.ref (aB 0), .int v1, .int v2, .int v3]) hargs (Nat.le_of_ble_eq_true rfl) (fun ls hl => ?_)
  replace hl : lv_has ls 4 [(0, .ref (aB 0)), (1, .int v1), (2, .int v2), (3, .int v3)] := hl
  unfold mX0_append at hM
  refine lv_aload_n hx hb dX0_append_0 rfl (lv_at hl 0 rfl) ?_
  refine va_get (D := (dC, dI)) (ci := 0) (v := .int (mB 0 0)) (C := RX0) (T := TX0) (N := 7) hx hb hts iwX0_append_X0 hown hK hP 0 rfl rfl 0 (by decide) (hts _ (List.mem_of_getElem? (i := 1) rfl)) (fun _ h9 => h9) rfl dX0_append_1 ?_
  refine lv_bipush (v := 20) hx hb dX0_append_4 (by decide) ?_
  refine lv_icmp_ge (tgt := 49) hx hb dX0_append_6 (by decide) (fun hc_1 => ?_) (fun hc_1 => ?_)
  · have hM := it_p hc_1 hM
    have hR := som hM
    rw [hR] at hQ
    exact ret_v hQ hx hb hr hlocks hP hK hD hS dX0_append_49
  · have hM := it_n hc_1 hM
    refine lv_aload_n hx hb dX0_append_9 rfl (lv_at hl 0 rfl) ?_
    refine va_get (D := (dC, dI)) (ci := 0) (v := .ref (aB 1)) (C := RX0) (T := TX0) (N := 7) hx hb hts iwX0_append_X0 hown hK hP 0 rfl rfl 1 (by decide) (hts _ (List.mem_of_getElem? (i := 2) rfl)) (fun _ h9 => h9) rfl dX0_append_10 ?_
    refine lv_aload_n hx hb dX0_append_13 rfl (lv_at hl 0 rfl) ?_
    refine va_get (D := (dC, dI)) (ci := 0) (v := .int (mB 0 0)) (C := RX0) (T := TX0) (N := 7) hx hb hts iwX0_append_X0 hown hK hP 0 rfl rfl 0 (by decide) (hts _ (List.mem_of_getElem? (i := 1) rfl)) (fun _ h9 => h9) rfl dX0_append_14 ?_
    refine lv_iload_n hx hb dX0_append_17 rfl (lv_at hl 1 rfl) ?_
    obtain ⟨hi, hM⟩ := gi_some hM
    refine st_i (wf := fun z => (wB ct aB xB_judged z)) (m1 := upi mB 1 (mB 0 0).toNatClampNeg v1) hx hb hK hP hD hS 1 rfl hi dX0_append_18 rfl (fun mB_2 emB_2 H locs hP hD hS => ?_)
    have hM := nm_at emB_2 hM
    refine lv_aload_n hx hb dX0_append_19 rfl (lv_at hl 0 rfl) ?_
    refine va_get (D := (dC, dI)) (ci := 0) (v := .ref (aB 3)) (C := RX0) (T := TX0) (N := 7) hx hb hts iwX0_append_X0 hown hK hP 0 rfl rfl 3 (by decide) (hts _ (List.mem_of_getElem? (i := 3) rfl)) (fun _ h9 => h9) rfl dX0_append_20 ?_
    refine lv_aload_n hx hb dX0_append_23 rfl (lv_at hl 0 rfl) ?_
    refine va_get (D := (dC, dI)) (ci := 0) (v := .int (mB_2 0 0)) (C := RX0) (T := TX0) (N := 7) hx hb hts iwX0_append_X0 hown hK hP 0 rfl rfl 0 (by decide) (hts _ (List.mem_of_getElem? (i := 1) rfl)) (fun _ h9 => h9) rfl dX0_append_24 ?_
    refine lv_iload_n hx hb dX0_append_27 rfl (lv_at hl 2 rfl) ?_
    obtain ⟨hi, hM⟩ := gi_some hM
    refine st_i (wf := fun z => (wB ct aB xB_judged z)) (m1 := upi mB_2 3 (mB_2 0 0).toNatClampNeg v2) hx hb hK hP hD hS 3 rfl hi dX0_append_28 rfl (fun mB_3 emB_3 H locs hP hD hS => ?_)
    have hM := nm_at emB_3 hM
    refine lv_aload_n hx hb dX0_append_29 rfl (lv_at hl 0 rfl) ?_
    refine va_get (D := (dC, dI)) (ci := 0) (v := .ref (aB 4)) (C := RX0) (T := TX0) (N := 7) hx hb hts iwX0_append_X0 hown hK hP 0 rfl rfl 4 (by decide) (hts _ (List.mem_of_getElem? (i := 4) rfl)) (fun _ h9 => h9) rfl dX0_append_30 ?_
    refine lv_aload_n hx hb dX0_append_33 rfl (lv_at hl 0 rfl) ?_
    refine va_get (D := (dC, dI)) (ci := 0) (v := .int (mB_3 0 0)) (C := RX0) (T := TX0) (N := 7) hx hb hts iwX0_append_X0 hown hK hP 0 rfl rfl 0 (by decide) (hts _ (List.mem_of_getElem? (i := 1) rfl)) (fun _ h9 => h9) rfl dX0_append_34 ?_
    refine lv_iload_n hx hb dX0_append_37 rfl (lv_at hl 3 rfl) ?_
    obtain ⟨hi, hM⟩ := gi_some hM
    refine st_i (wf := fun z => (wB ct aB xB_judged z)) (m1 := upi mB_3 4 (mB_3 0 0).toNatClampNeg v3) hx hb hK hP hD hS 4 rfl hi dX0_append_38 rfl (fun mB_4 emB_4 H locs hP hD hS => ?_)
    have hM := nm_at emB_4 hM
    refine lv_aload_n hx hb dX0_append_39 rfl (lv_at hl 0 rfl) ?_
    refine lv_dup hx hb dX0_append_40 rfl ?_
    refine va_get (D := (dC, dI)) (ci := 0) (v := .int (mB_4 0 0)) (C := RX0) (T := TX0) (N := 7) hx hb hts iwX0_append_X0 hown hK hP 0 rfl rfl 0 (by decide) (hts _ (List.mem_of_getElem? (i := 1) rfl)) (fun _ h9 => h9) rfl dX0_append_41 ?_
    refine lv_iconst (v := 1) hx hb dX0_append_44 (by decide) ?_
    refine lv_iadd hx hb dX0_append_45 ?_
    refine pf_i (wf := fun z => (wB ct aB xB_judged z)) (m1 := upf mB_4 0 ((mB_4 0 0) + (1 : Int32))) hx hb hts iwX0_append_X0 tyX0 tyX0_ok nmX0 hown hK hP hD hS 0 rfl rfl 0 (by decide) (hts _ (List.mem_of_getElem? (i := 1) rfl)) (fun _ h9 => h9) rfl rfl rfl (Nat.le_of_ble_eq_true rfl) dX0_append_46 rfl (fun mB_5 emB_5 H locs hP hD hS => ?_)
    have hM := nm_at emB_5 hM
    have hR := som hM
    rw [hR] at hQ
    exact ret_v hQ hx hb hr hlocks hP hK hD hS dX0_append_49
abbrev rmX0_judgeNight : Room := { frames := 3, cells := 0, slots := 0, locals := 68 }
theorem iwX0_judgeNight_X0 : ∀ w ∈ wsX00, w ∈ wsX0_judgeNight := fun _ h => List.mem_cons_of_mem _ (List.mem_append_left _ (List.mem_append_left _ (List.mem_append_right _ (h))))
theorem iwX0_judgeNight_X2 : ∀ w ∈ wsX20, w ∈ wsX0_judgeNight := fun _ h => List.mem_cons_of_mem _ (List.mem_append_left _ (List.mem_append_right _ (h)))
set_option maxHeartbeats 4000000 in
set_option maxRecDepth 100000 in
theorem kX0_judgeNight (l : Launch) (dC : Nat → ClassId) (dI : Nat → Nat → Nat) (ct : Nat → ClassId) (aB : Nat → Nat) (aJ : Nat → Nat) (aL : Nat → Nat) (sz : Nat) (mB : Mem) (mJ : Mem) (mL : Mem) (res : (Mem × Mem)) (hM : mX0_judgeNight mB mJ mL = some res) : Met l yX0_judgeNight wsX0_judgeNight rmX0_judgeNight (va_Pc [.ref (aB 0), .ref (aL 0)] (PB (dC, dI) ct E0 sz (wB ct aB (aJ 0) mB ++ wM ct aJ mJ ++ wL ct aL mL))) (Qv (dC, dI) ct (va_A (wB ct aB (aJ 0) mB ++ wM ct aJ mJ ++ wL ct aL mL) sz) (wB ct aB (aJ 0) res.1 ++ wM ct aJ res.2 ++ wL ct aL mL)) 0 0 (va_A (wB ct aB (aJ 0) mB ++ wM ct aJ mJ ++ wL ct aL mL) sz) := by
  refine Met.ofW (cc := cX0_judgeNight) (maxL := 3) (ret := none) (by decide) rfl ?_
  intro p e s m args below meth c s₁ B hml hv
  obtain ⟨hargs, hsz, hP, hK, hD0, hE⟩ := hv
  have hx := B.exec
  have hb := B.bytes
  have hr := B.returns
  have hts := atoms_spec (ws := wsX0_judgeNight) B.pre
  have hown : s.vm.findClass RX0 = some m.cls := findClass_of_methodNamed B.named
  have hlocks := B.notSynchronized
  clear B s₁
  subst hsz
  have hD := hD0.self (sz := s.heap.size)
  clear hD0
  generalize hAe : va_A (wB ct aB (aJ 0) mB ++ wM ct aJ mJ ++ wL ct aL mL) s.heap.size = A at hD hE ⊢
  have hA : ∀ q : Nat, s.heap.size ≤ q → A q := fun q h => by rw [← hAe]; exact Or.inr h
  clear hAe
  have hS : va_S A s.heap s.heap [] := va_S.rf
  refine cutQ (fun Q hQ => ?_)
  refine entryW (vs := [.ref (aB 0), .ref (aL 0)]) hargs (Nat.le_of_ble_eq_true rfl) (fun ls hl => ?_)
  replace hl : lv_has ls 3 [(0, .ref (aB 0)), (1, .ref (aL 0))] := hl
  unfold mX0_judgeNight at hM
  have N25 : ∀ (v2 : Int32) (mB : Mem) (mJ : Mem), mX0_judgeNight_L25 v2 mB mJ mL = some res → ∀ (H : Heap) (locs : List Loc), va_P (dC, dI) vwCl (wB ct aB (aJ 0) mB ++ wM ct aJ mJ ++ wL ct aL mL) H → va_D A (wB ct aB (aJ 0) mB ++ wM ct aJ mJ ++ wL ct aL mL) → va_S A s.heap H locs → ∀ ls : Array Slot, lv_has ls 3 [(0, .ref (aB 0)), (1, .ref (aL 0)), (2, .int v2)] → W p l e (headSpec wsX0_judgeNight rmX0_judgeNight).room s m args below meth c H locs 0 0 Q (F0 m 25 ls []) := by
    intro v2 mB mJ hM H locs hP hD hS ls hl
    unfold mX0_judgeNight_L25 at hM
    obtain ⟨ex25, hit25, hM⟩ := bn_some hM
    have X25_0 : ∀ (mB : Mem) (mJ : Mem), ex25 = (mB, mJ) → ∀ (H : Heap) (locs : List Loc), va_P (dC, dI) vwCl (wB ct aB (aJ 0) mB ++ wM ct aJ mJ ++ wL ct aL mL) H → va_D A (wB ct aB (aJ 0) mB ++ wM ct aJ mJ ++ wL ct aL mL) → va_S A s.heap H locs → ∀ ls : Array Slot, lv_has ls 3 [] → W p l e (headSpec wsX0_judgeNight rmX0_judgeNight).room s m args below meth c H locs 0 0 Q (F0 m 72 ls []) := by
      intro mB mJ hex H locs hP hD hS ls hl
      rw [hex] at hM
      have hM := nm_at (y := mB) rfl hM
      have hM := nm_at (y := mJ) rfl hM
      have hR := som hM
      rw [hR] at hQ
      exact ret_v hQ hx hb hr hlocks hP hK hD hS dX0_judgeNight_72
    have I25 : ∀ (n : Nat) (v2 : Int32) (mB : Mem) (mJ : Mem), itr (fun q => mX0_judgeNight_s25 mL q.1 q.2.1 q.2.2) n (v2, mB, mJ) = some ex25 → ∀ (H : Heap) (locs : List Loc), va_P (dC, dI) vwCl (wB ct aB (aJ 0) mB ++ wM ct aJ mJ ++ wL ct aL mL) H → va_D A (wB ct aB (aJ 0) mB ++ wM ct aJ mJ ++ wL ct aL mL) → va_S A s.heap H locs → ∀ ls : Array Slot, lv_has ls 3 [(0, .ref (aB 0)), (1, .ref (aL 0)), (2, .int v2)] → W p l e (headSpec wsX0_judgeNight rmX0_judgeNight).room s m args below meth c H locs 0 0 Q (F0 m 25 ls []) := by
      intro n
      induction n with
      | zero => intro v2 mB mJ hit; exact (itr_zero hit).elim
      | succ n ih25 =>
        intro v2 mB mJ hit H locs hP hD hS ls hl
        obtain ⟨o25, hM, hbk25, hex25⟩ := itr_succ hit
        replace hM : mX0_judgeNight_s25 mL v2 mB mJ = some o25 := hM
        unfold mX0_judgeNight_s25 at hM
        refine lv_iload_n hx hb dX0_judgeNight_25 rfl (lv_at hl 2 rfl) ?_
        refine lv_bipush (v := 40) hx hb dX0_judgeNight_26 (by decide) ?_
        refine lv_icmp_ge (tgt := 72) hx hb dX0_judgeNight_28 (by decide) (fun hc_1 => ?_) (fun hc_1 => ?_)
        · have hM := it_p hc_1 hM
          have hR := som hM
          exact X25_0 mB mJ (hex25 _ hR).symm _ _ hP hD hS _ (lv_sub hl [] rfl)
        · have hM := it_n hc_1 hM
          refine lv_aload_n hx hb dX0_judgeNight_31 rfl (lv_at hl 0 rfl) ?_
          refine va_get (D := (dC, dI)) (ci := 0) (v := .ref (aJ 0)) (C := RX0) (T := TX0) (N := 7) hx hb hts iwX0_judgeNight_X0 hown hK hP 0 rfl rfl 6 (by decide) (hts _ (List.mem_of_getElem? (i := 1) rfl)) (fun _ h9 => h9) rfl dX0_judgeNight_32 ?_
          refine lv_aload_n hx hb dX0_judgeNight_35 rfl (lv_at hl 1 rfl) ?_
          refine lv_iload_n hx hb dX0_judgeNight_36 rfl (lv_at hl 2 rfl) ?_
          obtain ⟨x_2, hr_3, hM⟩ := bn_some hM
          have hPs := pm_P (ws' := (wM ct aJ mJ ++ wL ct aL mL) ++ (wB ct aB (aJ 0) mB)) [wB ct aB (aJ 0) mB, wM ct aJ mJ, wL ct aL mL] [1, 2, 0] (show List.Perm [1, 2, 0] (List.range 3) from by decide) (by simp only [List.flatten_cons, List.flatten_nil, List.append_nil, List.nil_append, List.append_assoc]) (by show List.flatten [wM ct aJ mJ, wL ct aL mL, wB ct aB (aJ 0) mB] = _; simp only [List.flatten_cons, List.flatten_nil, List.append_nil, List.nil_append, List.append_assoc]) hP
          have hDs := pm_D (ws' := (wM ct aJ mJ ++ wL ct aL mL) ++ (wB ct aB (aJ 0) mB)) [wB ct aB (aJ 0) mB, wM ct aJ mJ, wL ct aL mL] [1, 2, 0] (show List.Perm [1, 2, 0] (List.range 3) from by decide) (by simp only [List.flatten_cons, List.flatten_nil, List.append_nil, List.nil_append, List.append_assoc]) (by show List.flatten [wM ct aJ mJ, wL ct aL mL, wB ct aB (aJ 0) mB] = _; simp only [List.flatten_cons, List.flatten_nil, List.append_nil, List.nil_append, List.append_assoc]) hD
          refine sp_i (r0 := x_2) (wr := (wB ct aB (aJ 0) mB)) (va_runV (As := [.ref (aL 0), .int v2]) (rest := []) ⟨hx, hb, hml, hown, hts⟩ (kX2_canBeStruck l dC dI ct aJ aL _ mJ mL v2 _ hr_3) (cwV 2 hts gX0_judgeNight_X2_canBeStruck rfl rfl rfl hvX2_canBeStruck ⟨Nat.le_of_ble_eq_true rfl, Nat.le_of_ble_eq_true rfl⟩) (sp_preV E0_ok hK hPs hDs rfl (ci := 2) rfl 0 rfl e_0) rfl rfl hl.1 rfl (lv_room (Nat.le_of_ble_eq_true rfl)) dX0_judgeNight_37 ⟨Nat.le_of_ble_eq_true rfl, Nat.le_of_ble_eq_true rfl⟩) hPs hDs hS hA (fun H locs hPs hDs hS => ?_)
          replace hPs : va_P (dC, dI) vwCl ((wM ct aJ mJ ++ wL ct aL mL) ++ (wB ct aB (aJ 0) mB)) H := hPs
          replace hDs : va_D A ((wM ct aJ mJ ++ wL ct aL mL) ++ (wB ct aB (aJ 0) mB)) := hDs
          have hP := pm_P (ws' := (wB ct aB (aJ 0) mB ++ wM ct aJ mJ ++ wL ct aL mL)) [wM ct aJ mJ, wL ct aL mL, wB ct aB (aJ 0) mB] [2, 0, 1] (show List.Perm [2, 0, 1] (List.range 3) from by decide) (by simp only [List.flatten_cons, List.flatten_nil, List.append_nil, List.nil_append, List.append_assoc]) (by show List.flatten [wB ct aB (aJ 0) mB, wM ct aJ mJ, wL ct aL mL] = _; simp only [List.flatten_cons, List.flatten_nil, List.append_nil, List.nil_append, List.append_assoc]) hPs
          have hD := pm_D (ws' := (wB ct aB (aJ 0) mB ++ wM ct aJ mJ ++ wL ct aL mL)) [wM ct aJ mJ, wL ct aL mL, wB ct aB (aJ 0) mB] [2, 0, 1] (show List.Perm [2, 0, 1] (List.range 3) from by decide) (by simp only [List.flatten_cons, List.flatten_nil, List.append_nil, List.nil_append, List.append_assoc]) (by show List.flatten [wB ct aB (aJ 0) mB, wM ct aJ mJ, wL ct aL mL] = _; simp only [List.flatten_cons, List.flatten_nil, List.append_nil, List.nil_append, List.append_assoc]) hDs
          clear hPs hDs
          refine lv_if_eq (tgt := 66) hx hb dX0_judgeNight_40 (by decide) (fun hc_5 => ?_) (fun hc_5 => ?_)
          · have hM := it_p hc_5 hM
            obtain ⟨x_6, ex_6⟩ : ∃ y : Int32, y = (v2 + (1 : Int32)) := ⟨_, rfl⟩
            have hM := nm_at ex_6 hM
            refine lv_iinc (v := x_6) (lv' := [(2, .int x_6), (0, .ref (aB 0)), (1, .ref (aL 0))]) hx hb dX0_judgeNight_66 hl (k := 2) rfl (by rw [ex_6]; rfl) (by decide) rfl (fun ls hl => ?_)
            refine lv_goto (tgt := 25) hx hb dX0_judgeNight_69 (by decide) ?_
            have hR := som hM
            exact ih25 x_6 mB mJ (hbk25 _ hR) _ _ hP hD hS _ (lv_sub hl [1, 2, 0] rfl)
          · have hM := it_n hc_5 hM
            refine lv_aload_n hx hb dX0_judgeNight_43 rfl (lv_at hl 0 rfl) ?_
            refine va_get (D := (dC, dI)) (ci := 0) (v := .ref (aB 2)) (C := RX0) (T := TX0) (N := 7) hx hb hts iwX0_judgeNight_X0 hown hK hP 0 rfl rfl 2 (by decide) (hts _ (List.mem_of_getElem? (i := 3) rfl)) (fun _ h9 => h9) rfl dX0_judgeNight_44 ?_
            refine lv_aload_n hx hb dX0_judgeNight_47 rfl (lv_at hl 0 rfl) ?_
            refine va_get (D := (dC, dI)) (ci := 0) (v := .ref (aB 5)) (C := RX0) (T := TX0) (N := 7) hx hb hts iwX0_judgeNight_X0 hown hK hP 0 rfl rfl 5 (by decide) (hts _ (List.mem_of_getElem? (i := 4) rfl)) (fun _ h9 => h9) rfl dX0_judgeNight_48 ?_
            refine lv_iload_n hx hb dX0_judgeNight_51 rfl (lv_at hl 2 rfl) ?_
            obtain ⟨hi, hM⟩ := gi_some hM
            refine va_iald hx hb hK hP 5 0 rfl rfl hi dX0_judgeNight_52 ?_
            refine lv_dup2_11 hx hb dX0_judgeNight_53 rfl rfl ?_
            obtain ⟨hi, hM⟩ := gi_some hM
            refine va_iald hx hb hK hP 2 0 rfl rfl hi dX0_judgeNight_54 ?_
            refine lv_aload_n hx hb dX0_judgeNight_55 rfl (lv_at hl 0 rfl) ?_
            refine va_get (D := (dC, dI)) (ci := 0) (v := .ref (aJ 0)) (C := RX0) (T := TX0) (N := 7) hx hb hts iwX0_judgeNight_X0 hown hK hP 0 rfl rfl 6 (by decide) (hts _ (List.mem_of_getElem? (i := 1) rfl)) (fun _ h9 => h9) rfl dX0_judgeNight_56 ?_
            refine lv_aload_n hx hb dX0_judgeNight_59 rfl (lv_at hl 1 rfl) ?_
            refine lv_iload_n hx hb dX0_judgeNight_60 rfl (lv_at hl 2 rfl) ?_
            obtain ⟨q_10, hr_9, hM⟩ := bn_some hM
            obtain ⟨x_7, mJ_8⟩ := q_10
            have hM := nm_at (y := x_7) rfl hM
            have hM := nm_at (y := mJ_8) rfl hM
            have hPs := pm_P (ws' := (wM ct aJ mJ ++ wL ct aL mL) ++ (wB ct aB (aJ 0) mB)) [wB ct aB (aJ 0) mB, wM ct aJ mJ, wL ct aL mL] [1, 2, 0] (show List.Perm [1, 2, 0] (List.range 3) from by decide) (by simp only [List.flatten_cons, List.flatten_nil, List.append_nil, List.nil_append, List.append_assoc]) (by show List.flatten [wM ct aJ mJ, wL ct aL mL, wB ct aB (aJ 0) mB] = _; simp only [List.flatten_cons, List.flatten_nil, List.append_nil, List.nil_append, List.append_assoc]) hP
            have hDs := pm_D (ws' := (wM ct aJ mJ ++ wL ct aL mL) ++ (wB ct aB (aJ 0) mB)) [wB ct aB (aJ 0) mB, wM ct aJ mJ, wL ct aL mL] [1, 2, 0] (show List.Perm [1, 2, 0] (List.range 3) from by decide) (by simp only [List.flatten_cons, List.flatten_nil, List.append_nil, List.nil_append, List.append_assoc]) (by show List.flatten [wM ct aJ mJ, wL ct aL mL, wB ct aB (aJ 0) mB] = _; simp only [List.flatten_cons, List.flatten_nil, List.append_nil, List.nil_append, List.append_assoc]) hD
            refine sp_i (r0 := x_7) (wr := (wB ct aB (aJ 0) mB)) (va_runV (As := [.ref (aL 0), .int v2]) (rest := [.int (mB 2 (mB 5 v2.toNatClampNeg).toNatClampNeg), .int (mB 5 v2.toNatClampNeg), .ref (aB 2)]) ⟨hx, hb, hml, hown, hts⟩ (kX2_strikeLoan l dC dI ct aJ aL _ mJ mL v2 _ hr_9) (cwV 2 hts gX0_judgeNight_X2_strikeLoan rfl rfl rfl hvX2_strikeLoan ⟨Nat.le_of_ble_eq_true rfl, Nat.le_of_ble_eq_true rfl⟩) (sp_preV E0_ok hK hPs hDs rfl (ci := 2) rfl 0 rfl e_0) rfl rfl hl.1 rfl (lv_room (Nat.le_of_ble_eq_true rfl)) dX0_judgeNight_61 ⟨Nat.le_of_ble_eq_true rfl, Nat.le_of_ble_eq_true rfl⟩) hPs hDs hS hA (fun H locs hPs hDs hS => ?_)
            replace hPs : va_P (dC, dI) vwCl ((wM ct aJ mJ_8 ++ wL ct aL mL) ++ (wB ct aB (aJ 0) mB)) H := hPs
            replace hDs : va_D A ((wM ct aJ mJ_8 ++ wL ct aL mL) ++ (wB ct aB (aJ 0) mB)) := hDs
            have hP := pm_P (ws' := (wB ct aB (aJ 0) mB ++ wM ct aJ mJ_8 ++ wL ct aL mL)) [wM ct aJ mJ_8, wL ct aL mL, wB ct aB (aJ 0) mB] [2, 0, 1] (show List.Perm [2, 0, 1] (List.range 3) from by decide) (by simp only [List.flatten_cons, List.flatten_nil, List.append_nil, List.nil_append, List.append_assoc]) (by show List.flatten [wB ct aB (aJ 0) mB, wM ct aJ mJ_8, wL ct aL mL] = _; simp only [List.flatten_cons, List.flatten_nil, List.append_nil, List.nil_append, List.append_assoc]) hPs
            have hD := pm_D (ws' := (wB ct aB (aJ 0) mB ++ wM ct aJ mJ_8 ++ wL ct aL mL)) [wM ct aJ mJ_8, wL ct aL mL, wB ct aB (aJ 0) mB] [2, 0, 1] (show List.Perm [2, 0, 1] (List.range 3) from by decide) (by simp only [List.flatten_cons, List.flatten_nil, List.append_nil, List.nil_append, List.append_assoc]) (by show List.flatten [wB ct aB (aJ 0) mB, wM ct aJ mJ_8, wL ct aL mL] = _; simp only [List.flatten_cons, List.flatten_nil, List.append_nil, List.nil_append, List.append_assoc]) hDs
            clear hPs hDs
            refine lv_iadd hx hb dX0_judgeNight_64 ?_
            obtain ⟨hi, hM⟩ := gi_some hM
            refine st_i (wf := fun z => (wB ct aB (aJ 0) z ++ wM ct aJ mJ_8 ++ wL ct aL mL)) (m1 := upi mB 2 (mB 5 v2.toNatClampNeg).toNatClampNeg ((mB 2 (mB 5 v2.toNatClampNeg).toNatClampNeg) + x_7)) hx hb hK hP hD hS 2 rfl hi dX0_judgeNight_65 rfl (fun mB_11 emB_11 H locs hP hD hS => ?_)
            have hM := nm_at emB_11 hM
            obtain ⟨x_12, ex_12⟩ : ∃ y : Int32, y = (v2 + (1 : Int32)) := ⟨_, rfl⟩
            have hM := nm_at ex_12 hM
            refine lv_iinc (v := x_12) (lv' := [(2, .int x_12), (0, .ref (aB 0)), (1, .ref (aL 0))]) hx hb dX0_judgeNight_66 hl (k := 2) rfl (by rw [ex_12]; rfl) (by decide) rfl (fun ls hl => ?_)
            refine lv_goto (tgt := 25) hx hb dX0_judgeNight_69 (by decide) ?_
            have hR := som hM
            exact ih25 x_12 mB_11 mJ_8 (hbk25 _ hR) _ _ hP hD hS _ (lv_sub hl [1, 2, 0] rfl)
    exact I25 FU v2 mB mJ hit25 _ _ hP hD hS _ hl
  refine lv_aload_n hx hb dX0_judgeNight_0 rfl (lv_at hl 0 rfl) ?_
  refine va_get (D := (dC, dI)) (ci := 0) (v := .ref (aJ 0)) (C := RX0) (T := TX0) (N := 7) hx hb hts iwX0_judgeNight_X0 hown hK hP 0 rfl rfl 6 (by decide) (hts _ (List.mem_of_getElem? (i := 1) rfl)) (fun _ h9 => h9) rfl dX0_judgeNight_1 ?_
  refine lv_aload_n hx hb dX0_judgeNight_4 rfl (lv_at hl 1 rfl) ?_
  obtain ⟨mJ_13, hr_14, hM⟩ := bn_some hM
  have hPs := pm_P (ws' := (wM ct aJ mJ ++ wL ct aL mL) ++ (wB ct aB (aJ 0) mB)) [wB ct aB (aJ 0) mB, wM ct aJ mJ, wL ct aL mL] [1, 2, 0] (show List.Perm [1, 2, 0] (List.range 3) from by decide) (by simp only [List.flatten_cons, List.flatten_nil, List.append_nil, List.nil_append, List.append_assoc]) (by show List.flatten [wM ct aJ mJ, wL ct aL mL, wB ct aB (aJ 0) mB] = _; simp only [List.flatten_cons, List.flatten_nil, List.append_nil, List.nil_append, List.append_assoc]) hP
  have hDs := pm_D (ws' := (wM ct aJ mJ ++ wL ct aL mL) ++ (wB ct aB (aJ 0) mB)) [wB ct aB (aJ 0) mB, wM ct aJ mJ, wL ct aL mL] [1, 2, 0] (show List.Perm [1, 2, 0] (List.range 3) from by decide) (by simp only [List.flatten_cons, List.flatten_nil, List.append_nil, List.nil_append, List.append_assoc]) (by show List.flatten [wM ct aJ mJ, wL ct aL mL, wB ct aB (aJ 0) mB] = _; simp only [List.flatten_cons, List.flatten_nil, List.append_nil, List.nil_append, List.append_assoc]) hD
  refine sp_v (wr := (wB ct aB (aJ 0) mB)) (va_runV (As := [.ref (aL 0)]) (rest := []) ⟨hx, hb, hml, hown, hts⟩ (kX2_passNight l dC dI ct aJ aL _ mJ mL _ hr_14) (cwV 1 hts gX0_judgeNight_X2_passNight rfl rfl rfl hvX2_passNight ⟨Nat.le_of_ble_eq_true rfl, Nat.le_of_ble_eq_true rfl⟩) (sp_preV E0_ok hK hPs hDs rfl (ci := 2) rfl 0 rfl e_0) rfl rfl hl.1 rfl (lv_room (Nat.le_of_ble_eq_true rfl)) dX0_judgeNight_5 ⟨Nat.le_of_ble_eq_true rfl, Nat.le_of_ble_eq_true rfl⟩) hPs hDs hS hA (fun H locs hPs hDs hS => ?_)
  replace hPs : va_P (dC, dI) vwCl ((wM ct aJ mJ_13 ++ wL ct aL mL) ++ (wB ct aB (aJ 0) mB)) H := hPs
  replace hDs : va_D A ((wM ct aJ mJ_13 ++ wL ct aL mL) ++ (wB ct aB (aJ 0) mB)) := hDs
  have hP := pm_P (ws' := (wB ct aB (aJ 0) mB ++ wM ct aJ mJ_13 ++ wL ct aL mL)) [wM ct aJ mJ_13, wL ct aL mL, wB ct aB (aJ 0) mB] [2, 0, 1] (show List.Perm [2, 0, 1] (List.range 3) from by decide) (by simp only [List.flatten_cons, List.flatten_nil, List.append_nil, List.nil_append, List.append_assoc]) (by show List.flatten [wB ct aB (aJ 0) mB, wM ct aJ mJ_13, wL ct aL mL] = _; simp only [List.flatten_cons, List.flatten_nil, List.append_nil, List.nil_append, List.append_assoc]) hPs
  have hD := pm_D (ws' := (wB ct aB (aJ 0) mB ++ wM ct aJ mJ_13 ++ wL ct aL mL)) [wM ct aJ mJ_13, wL ct aL mL, wB ct aB (aJ 0) mB] [2, 0, 1] (show List.Perm [2, 0, 1] (List.range 3) from by decide) (by simp only [List.flatten_cons, List.flatten_nil, List.append_nil, List.nil_append, List.append_assoc]) (by show List.flatten [wB ct aB (aJ 0) mB, wM ct aJ mJ_13, wL ct aL mL] = _; simp only [List.flatten_cons, List.flatten_nil, List.append_nil, List.nil_append, List.append_assoc]) hDs
  clear hPs hDs
  refine lv_aload_n hx hb dX0_judgeNight_8 rfl (lv_at hl 1 rfl) ?_
  refine lv_aload_n hx hb dX0_judgeNight_9 rfl (lv_at hl 0 rfl) ?_
  refine va_get (D := (dC, dI)) (ci := 0) (v := .ref (aJ 0)) (C := RX0) (T := TX0) (N := 7) hx hb hts iwX0_judgeNight_X0 hown hK hP 0 rfl rfl 6 (by decide) (hts _ (List.mem_of_getElem? (i := 1) rfl)) (fun _ h9 => h9) rfl dX0_judgeNight_10 ?_
  refine va_get (D := (dC, dI)) (ci := 2) (v := .int (mJ_13 0 0)) (C := RX2) (T := TX2) (N := 10) hx hb hts iwX0_judgeNight_X2 hown hK hP 6 rfl rfl 0 (by decide) (hts _ (List.mem_of_getElem? (i := 2) rfl)) (fun _ h9 => h9) rfl dX0_judgeNight_13 ?_
  obtain ⟨x_16, hr_17, hM⟩ := bn_some hM
  have hPs := pm_P (ws' := (wL ct aL mL) ++ (wB ct aB (aJ 0) mB ++ wM ct aJ mJ_13)) [wB ct aB (aJ 0) mB, wM ct aJ mJ_13, wL ct aL mL] [2, 0, 1] (show List.Perm [2, 0, 1] (List.range 3) from by decide) (by simp only [List.flatten_cons, List.flatten_nil, List.append_nil, List.nil_append, List.append_assoc]) (by show List.flatten [wL ct aL mL, wB ct aB (aJ 0) mB, wM ct aJ mJ_13] = _; simp only [List.flatten_cons, List.flatten_nil, List.append_nil, List.nil_append, List.append_assoc]) hP
  have hDs := pm_D (ws' := (wL ct aL mL) ++ (wB ct aB (aJ 0) mB ++ wM ct aJ mJ_13)) [wB ct aB (aJ 0) mB, wM ct aJ mJ_13, wL ct aL mL] [2, 0, 1] (show List.Perm [2, 0, 1] (List.range 3) from by decide) (by simp only [List.flatten_cons, List.flatten_nil, List.append_nil, List.nil_append, List.append_assoc]) (by show List.flatten [wL ct aL mL, wB ct aB (aJ 0) mB, wM ct aJ mJ_13] = _; simp only [List.flatten_cons, List.flatten_nil, List.append_nil, List.nil_append, List.append_assoc]) hD
  refine sp_i (r0 := x_16) (wr := (wB ct aB (aJ 0) mB ++ wM ct aJ mJ_13)) (va_runV (As := [.int (mJ_13 0 0)]) (rest := []) ⟨hx, hb, hml, hown, hts⟩ (kX1_isStruckAt l dC dI ct aL _ mL (mJ_13 0 0) _ hr_17) (cwV 1 hts gX0_judgeNight_X1_isStruckAt rfl rfl rfl hvX1_isStruckAt ⟨Nat.le_of_ble_eq_true rfl, Nat.le_of_ble_eq_true rfl⟩) (sp_preV E0_ok hK hPs hDs rfl (ci := 1) rfl 0 rfl e_0) rfl rfl hl.1 rfl (lv_room (Nat.le_of_ble_eq_true rfl)) dX0_judgeNight_16 ⟨Nat.le_of_ble_eq_true rfl, Nat.le_of_ble_eq_true rfl⟩) hPs hDs hS hA (fun H locs hPs hDs hS => ?_)
  replace hPs : va_P (dC, dI) vwCl ((wL ct aL mL) ++ (wB ct aB (aJ 0) mB ++ wM ct aJ mJ_13)) H := hPs
  replace hDs : va_D A ((wL ct aL mL) ++ (wB ct aB (aJ 0) mB ++ wM ct aJ mJ_13)) := hDs
  have hP := pm_P (ws' := (wB ct aB (aJ 0) mB ++ wM ct aJ mJ_13 ++ wL ct aL mL)) [wL ct aL mL, wB ct aB (aJ 0) mB, wM ct aJ mJ_13] [1, 2, 0] (show List.Perm [1, 2, 0] (List.range 3) from by decide) (by simp only [List.flatten_cons, List.flatten_nil, List.append_nil, List.nil_append, List.append_assoc]) (by show List.flatten [wB ct aB (aJ 0) mB, wM ct aJ mJ_13, wL ct aL mL] = _; simp only [List.flatten_cons, List.flatten_nil, List.append_nil, List.nil_append, List.append_assoc]) hPs
  have hD := pm_D (ws' := (wB ct aB (aJ 0) mB ++ wM ct aJ mJ_13 ++ wL ct aL mL)) [wL ct aL mL, wB ct aB (aJ 0) mB, wM ct aJ mJ_13] [1, 2, 0] (show List.Perm [1, 2, 0] (List.range 3) from by decide) (by simp only [List.flatten_cons, List.flatten_nil, List.append_nil, List.nil_append, List.append_assoc]) (by show List.flatten [wB ct aB (aJ 0) mB, wM ct aJ mJ_13, wL ct aL mL] = _; simp only [List.flatten_cons, List.flatten_nil, List.append_nil, List.nil_append, List.append_assoc]) hDs
  clear hPs hDs
  refine lv_if_ne (tgt := 23) hx hb dX0_judgeNight_19 (by decide) (fun hc_19 => ?_) (fun hc_19 => ?_)
  · have hM := it_p hc_19 hM
    refine lv_iconst (v := 0) hx hb dX0_judgeNight_23 (by decide) ?_
    refine lv_istore_n (lv' := [(2, .int (0 : Int32)), (0, .ref (aB 0)), (1, .ref (aL 0))]) hx hb dX0_judgeNight_24 rfl hl (by decide) rfl (fun ls hl => ?_)
    exact N25 (0 : Int32) mB mJ_13 hM _ _ hP hD hS _ (lv_sub hl [1, 2, 0] rfl)
  · have hM := it_nn hc_19 hM
    have hR := som hM
    rw [hR] at hQ
    exact ret_v hQ hx hb hr hlocks hP hK hD hS dX0_judgeNight_22
abbrev rmX0_judgeAll : Room := { frames := 4, cells := 0, slots := 0, locals := 90 }
theorem iwX0_judgeAll_X0 : ∀ w ∈ wsX00, w ∈ wsX0_judgeAll := fun _ h => List.mem_cons_of_mem _ (List.mem_append_left _ (List.mem_append_left _ (List.mem_append_right _ (h))))
theorem iwX0_judgeAll_X2 : ∀ w ∈ wsX20, w ∈ wsX0_judgeAll := fun _ h => List.mem_cons_of_mem _ (List.mem_append_left _ (List.mem_append_right _ (h)))
set_option maxHeartbeats 4000000 in
set_option maxRecDepth 100000 in
theorem kX0_judgeAll (l : Launch) (dC : Nat → ClassId) (dI : Nat → Nat → Nat) (ct : Nat → ClassId) (aB : Nat → Nat) (aJ : Nat → Nat) (aL : Nat → Nat) (sz : Nat) (mB : Mem) (mJ : Mem) (mL : Mem) (res : (Int32 × Mem × Mem)) (hM : mX0_judgeAll mB mJ mL = some res) : Met l yX0_judgeAll wsX0_judgeAll rmX0_judgeAll (va_Pc [.ref (aB 0), .ref (aL 0)] (PB (dC, dI) ct E0 sz (wB ct aB (aJ 0) mB ++ wM ct aJ mJ ++ wL ct aL mL))) (Qi (dC, dI) ct (va_A (wB ct aB (aJ 0) mB ++ wM ct aJ mJ ++ wL ct aL mL) sz) res.1 (wB ct aB (aJ 0) res.2.1 ++ wM ct aJ res.2.2 ++ wL ct aL mL)) 0 0 (va_A (wB ct aB (aJ 0) mB ++ wM ct aJ mJ ++ wL ct aL mL) sz) := by
  refine Met.ofW (cc := cX0_judgeAll) (maxL := 4) (ret := (some .int)) (by decide) rfl ?_
  intro p e s m args below meth c s₁ B hml hv
  obtain ⟨hargs, hsz, hP, hK, hD0, hE⟩ := hv
  have hx := B.exec
  have hb := B.bytes
  have hr := B.returns
  have hts := atoms_spec (ws := wsX0_judgeAll) B.pre
  have hown : s.vm.findClass RX0 = some m.cls := findClass_of_methodNamed B.named
  have hlocks := B.notSynchronized
  clear B s₁
  subst hsz
  have hD := hD0.self (sz := s.heap.size)
  clear hD0
  generalize hAe : va_A (wB ct aB (aJ 0) mB ++ wM ct aJ mJ ++ wL ct aL mL) s.heap.size = A at hD hE ⊢
  have hA : ∀ q : Nat, s.heap.size ≤ q → A q := fun q h => by rw [← hAe]; exact Or.inr h
  clear hAe
  have hS : va_S A s.heap s.heap [] := va_S.rf
  refine cutQ (fun Q hQ => ?_)
  refine entryW (vs := [.ref (aB 0), .ref (aL 0)]) hargs (Nat.le_of_ble_eq_true rfl) (fun ls hl => ?_)
  replace hl : lv_has ls 4 [(0, .ref (aB 0)), (1, .ref (aL 0))] := hl
  unfold mX0_judgeAll at hM
  have N18 : ∀ (v2 : Int32) (mB : Mem) (mJ : Mem), mX0_judgeAll_L18 v2 mB mJ mL = some res → ∀ (H : Heap) (locs : List Loc), va_P (dC, dI) vwCl (wB ct aB (aJ 0) mB ++ wM ct aJ mJ ++ wL ct aL mL) H → va_D A (wB ct aB (aJ 0) mB ++ wM ct aJ mJ ++ wL ct aL mL) → va_S A s.heap H locs → ∀ ls : Array Slot, lv_has ls 4 [(0, .ref (aB 0)), (1, .ref (aL 0)), (2, .int v2)] → W p l e (headSpec wsX0_judgeAll rmX0_judgeAll).room s m args below meth c H locs 0 0 Q (F0 m 18 ls []) := by
    intro v2 mB mJ hM H locs hP hD hS ls hl
    unfold mX0_judgeAll_L18 at hM
    obtain ⟨ex18, hit18, hM⟩ := bn_some hM
    have X18_0 : ∀ (v2 : Int32) (mB : Mem) (mJ : Mem), ex18 = (Sum.inl (v2, mB, mJ)) → ∀ (H : Heap) (locs : List Loc), va_P (dC, dI) vwCl (wB ct aB (aJ 0) mB ++ wM ct aJ mJ ++ wL ct aL mL) H → va_D A (wB ct aB (aJ 0) mB ++ wM ct aJ mJ ++ wL ct aL mL) → va_S A s.heap H locs → ∀ ls : Array Slot, lv_has ls 4 [(2, .int v2)] → W p l e (headSpec wsX0_judgeAll rmX0_judgeAll).room s m args below meth c H locs 0 0 Q (F0 m 107 ls []) := by
      intro v2 mB mJ hex H locs hP hD hS ls hl
      have hM := el_l hex hM
      have hM := nm_at (y := v2) rfl hM
      have hM := nm_at (y := mB) rfl hM
      have hM := nm_at (y := mJ) rfl hM
      refine lv_iload_n hx hb dX0_judgeAll_107 rfl (lv_at hl 0 rfl) ?_
      have hR := som hM
      rw [hR] at hQ
      exact ret_i hQ hx hb hr hlocks hP hK hD hS dX0_judgeAll_108
    have X18_1 : ∀ (mB : Mem) (mJ : Mem), ex18 = (Sum.inr (mB, mJ)) → ∀ (H : Heap) (locs : List Loc), va_P (dC, dI) vwCl (wB ct aB (aJ 0) mB ++ wM ct aJ mJ ++ wL ct aL mL) H → va_D A (wB ct aB (aJ 0) mB ++ wM ct aJ mJ ++ wL ct aL mL) → va_S A s.heap H locs → ∀ ls : Array Slot, lv_has ls 4 [] → W p l e (headSpec wsX0_judgeAll rmX0_judgeAll).room s m args below meth c H locs 0 0 Q (F0 m 122 ls []) := by
      intro mB mJ hex H locs hP hD hS ls hl
      have hM := el_r hex hM
      have hM := nm_at (y := mB) rfl hM
      have hM := nm_at (y := mJ) rfl hM
      refine lv_iconst (v := -1) hx hb dX0_judgeAll_122 (by decide) ?_
      have hR := som hM
      rw [hR] at hQ
      exact ret_i hQ hx hb hr hlocks hP hK hD hS dX0_judgeAll_123
    have I18 : ∀ (n : Nat) (v2 : Int32) (mB : Mem) (mJ : Mem), itr (fun q => mX0_judgeAll_s18 mL q.1 q.2.1 q.2.2) n (v2, mB, mJ) = some ex18 → ∀ (H : Heap) (locs : List Loc), va_P (dC, dI) vwCl (wB ct aB (aJ 0) mB ++ wM ct aJ mJ ++ wL ct aL mL) H → va_D A (wB ct aB (aJ 0) mB ++ wM ct aJ mJ ++ wL ct aL mL) → va_S A s.heap H locs → ∀ ls : Array Slot, lv_has ls 4 [(0, .ref (aB 0)), (1, .ref (aL 0)), (2, .int v2)] → W p l e (headSpec wsX0_judgeAll rmX0_judgeAll).room s m args below meth c H locs 0 0 Q (F0 m 18 ls []) := by
      intro n
      induction n with
      | zero => intro v2 mB mJ hit; exact (itr_zero hit).elim
      | succ n ih18 =>
        intro v2 mB mJ hit H locs hP hD hS ls hl
        obtain ⟨o18, hM, hbk18, hex18⟩ := itr_succ hit
        replace hM : mX0_judgeAll_s18 mL v2 mB mJ = some o18 := hM
        have N34 : ∀ (v2 : Int32) (v3 : Int32) (mB : Mem) (mJ : Mem), mX0_judgeAll_L34 v2 v3 mB mJ mL = some o18 → ∀ (H : Heap) (locs : List Loc), va_P (dC, dI) vwCl (wB ct aB (aJ 0) mB ++ wM ct aJ mJ ++ wL ct aL mL) H → va_D A (wB ct aB (aJ 0) mB ++ wM ct aJ mJ ++ wL ct aL mL) → va_S A s.heap H locs → ∀ ls : Array Slot, lv_has ls 4 [(0, .ref (aB 0)), (1, .ref (aL 0)), (2, .int v2), (3, .int v3)] → W p l e (headSpec wsX0_judgeAll rmX0_judgeAll).room s m args below meth c H locs 0 0 Q (F0 m 34 ls []) := by
          intro v2 v3 mB mJ hM H locs hP hD hS ls hl
          unfold mX0_judgeAll_L34 at hM
          obtain ⟨ex34, hit34, hM⟩ := bn_some hM
          have X34_0 : ∀ (mB : Mem) (mJ : Mem), ex34 = (mB, mJ) → ∀ (H : Heap) (locs : List Loc), va_P (dC, dI) vwCl (wB ct aB (aJ 0) mB ++ wM ct aJ mJ ++ wL ct aL mL) H → va_D A (wB ct aB (aJ 0) mB ++ wM ct aJ mJ ++ wL ct aL mL) → va_S A s.heap H locs → ∀ ls : Array Slot, lv_has ls 4 [(0, .ref (aB 0)), (1, .ref (aL 0)), (2, .int v2)] → W p l e (headSpec wsX0_judgeAll rmX0_judgeAll).room s m args below meth c H locs 0 0 Q (F0 m 55 ls []) := by
            intro mB mJ hex H locs hP hD hS ls hl
            rw [hex] at hM
            have hM := nm_at (y := mB) rfl hM
            have hM := nm_at (y := mJ) rfl hM
            refine lv_aload_n hx hb dX0_judgeAll_55 rfl (lv_at hl 0 rfl) ?_
            refine va_get (D := (dC, dI)) (ci := 0) (v := .ref (aJ 0)) (C := RX0) (T := TX0) (N := 7) hx hb hts iwX0_judgeAll_X0 hown hK hP 0 rfl rfl 6 (by decide) (hts _ (List.mem_of_getElem? (i := 2) rfl)) (fun _ h9 => h9) rfl dX0_judgeAll_56 ?_
            refine lv_aload_n hx hb dX0_judgeAll_59 rfl (lv_at hl 1 rfl) ?_
            refine lv_aload_n hx hb dX0_judgeAll_60 rfl (lv_at hl 0 rfl) ?_
            refine va_get (D := (dC, dI)) (ci := 0) (v := .ref (aB 3)) (C := RX0) (T := TX0) (N := 7) hx hb hts iwX0_judgeAll_X0 hown hK hP 0 rfl rfl 3 (by decide) (hts _ (List.mem_of_getElem? (i := 6) rfl)) (fun _ h9 => h9) rfl dX0_judgeAll_61 ?_
            refine lv_iload_n hx hb dX0_judgeAll_64 rfl (lv_at hl 2 rfl) ?_
            obtain ⟨hi, hM⟩ := gi_some hM
            refine va_iald hx hb hK hP 3 0 rfl rfl hi dX0_judgeAll_65 ?_
            refine lv_bipush (v := 100) hx hb dX0_judgeAll_66 (by decide) ?_
            refine lv_irem hx hb dX0_judgeAll_68 (by decide) ?_
            refine lv_aload_n hx hb dX0_judgeAll_69 rfl (lv_at hl 0 rfl) ?_
            refine va_get (D := (dC, dI)) (ci := 0) (v := .ref (aB 3)) (C := RX0) (T := TX0) (N := 7) hx hb hts iwX0_judgeAll_X0 hown hK hP 0 rfl rfl 3 (by decide) (hts _ (List.mem_of_getElem? (i := 6) rfl)) (fun _ h9 => h9) rfl dX0_judgeAll_70 ?_
            refine lv_iload_n hx hb dX0_judgeAll_73 rfl (lv_at hl 2 rfl) ?_
            obtain ⟨hi, hM⟩ := gi_some hM
            refine va_iald hx hb hK hP 3 0 rfl rfl hi dX0_judgeAll_74 ?_
            refine lv_bipush (v := 100) hx hb dX0_judgeAll_75 (by decide) ?_
            refine lv_idiv hx hb dX0_judgeAll_77 (by decide) ?_
            refine lv_aload_n hx hb dX0_judgeAll_78 rfl (lv_at hl 0 rfl) ?_
            refine va_get (D := (dC, dI)) (ci := 0) (v := .ref (aB 4)) (C := RX0) (T := TX0) (N := 7) hx hb hts iwX0_judgeAll_X0 hown hK hP 0 rfl rfl 4 (by decide) (hts _ (List.mem_of_getElem? (i := 7) rfl)) (fun _ h9 => h9) rfl dX0_judgeAll_79 ?_
            refine lv_iload_n hx hb dX0_judgeAll_82 rfl (lv_at hl 2 rfl) ?_
            obtain ⟨hi, hM⟩ := gi_some hM
            refine va_iald hx hb hK hP 4 0 rfl rfl hi dX0_judgeAll_83 ?_
            refine lv_sipush (v := 1000) hx hb dX0_judgeAll_84 (by decide) ?_
            refine lv_idiv hx hb dX0_judgeAll_87 (by decide) ?_
            refine lv_aload_n hx hb dX0_judgeAll_88 rfl (lv_at hl 0 rfl) ?_
            refine va_get (D := (dC, dI)) (ci := 0) (v := .ref (aB 4)) (C := RX0) (T := TX0) (N := 7) hx hb hts iwX0_judgeAll_X0 hown hK hP 0 rfl rfl 4 (by decide) (hts _ (List.mem_of_getElem? (i := 7) rfl)) (fun _ h9 => h9) rfl dX0_judgeAll_89 ?_
            refine lv_iload_n hx hb dX0_judgeAll_92 rfl (lv_at hl 2 rfl) ?_
            obtain ⟨hi, hM⟩ := gi_some hM
            refine va_iald hx hb hK hP 4 0 rfl rfl hi dX0_judgeAll_93 ?_
            refine lv_sipush (v := 1000) hx hb dX0_judgeAll_94 (by decide) ?_
            refine lv_irem hx hb dX0_judgeAll_97 (by decide) ?_
            obtain ⟨q_4, hr_3, hM⟩ := bn_some hM
            obtain ⟨x_1, mJ_2⟩ := q_4
            have hM := nm_at (y := x_1) rfl hM
            have hM := nm_at (y := mJ_2) rfl hM
            have hPs := pm_P (ws' := (wM ct aJ mJ ++ wL ct aL mL) ++ (wB ct aB (aJ 0) mB)) [wB ct aB (aJ 0) mB, wM ct aJ mJ, wL ct aL mL] [1, 2, 0] (show List.Perm [1, 2, 0] (List.range 3) from by decide) (by simp only [List.flatten_cons, List.flatten_nil, List.append_nil, List.nil_append, List.append_assoc]) (by show List.flatten [wM ct aJ mJ, wL ct aL mL, wB ct aB (aJ 0) mB] = _; simp only [List.flatten_cons, List.flatten_nil, List.append_nil, List.nil_append, List.append_assoc]) hP
            have hDs := pm_D (ws' := (wM ct aJ mJ ++ wL ct aL mL) ++ (wB ct aB (aJ 0) mB)) [wB ct aB (aJ 0) mB, wM ct aJ mJ, wL ct aL mL] [1, 2, 0] (show List.Perm [1, 2, 0] (List.range 3) from by decide) (by simp only [List.flatten_cons, List.flatten_nil, List.append_nil, List.nil_append, List.append_assoc]) (by show List.flatten [wM ct aJ mJ, wL ct aL mL, wB ct aB (aJ 0) mB] = _; simp only [List.flatten_cons, List.flatten_nil, List.append_nil, List.nil_append, List.append_assoc]) hD
            refine sp_i (r0 := x_1) (wr := (wB ct aB (aJ 0) mB)) (va_runV (As := [.ref (aL 0), .int ((mB 3 v2.toNatClampNeg) - (mB 3 v2.toNatClampNeg) / (100 : Int32) * (100 : Int32)), .int ((mB 3 v2.toNatClampNeg) / (100 : Int32)), .int ((mB 4 v2.toNatClampNeg) / (1000 : Int32)), .int ((mB 4 v2.toNatClampNeg) - (mB 4 v2.toNatClampNeg) / (1000 : Int32) * (1000 : Int32))]) (rest := []) ⟨hx, hb, hml, hown, hts⟩ (kX2_makeLoan l dC dI ct aJ aL _ mJ mL ((mB 3 v2.toNatClampNeg) - (mB 3 v2.toNatClampNeg) / (100 : Int32) * (100 : Int32)) ((mB 3 v2.toNatClampNeg) / (100 : Int32)) ((mB 4 v2.toNatClampNeg) / (1000 : Int32)) ((mB 4 v2.toNatClampNeg) - (mB 4 v2.toNatClampNeg) / (1000 : Int32) * (1000 : Int32)) _ hr_3) (cwV 5 hts gX0_judgeAll_X2_makeLoan rfl rfl rfl hvX2_makeLoan ⟨Nat.le_of_ble_eq_true rfl, Nat.le_of_ble_eq_true rfl⟩) (sp_preV E0_ok hK hPs hDs rfl (ci := 2) rfl 0 rfl e_0) rfl rfl hl.1 rfl (lv_room (Nat.le_of_ble_eq_true rfl)) dX0_judgeAll_98 ⟨Nat.le_of_ble_eq_true rfl, Nat.le_of_ble_eq_true rfl⟩) hPs hDs hS hA (fun H locs hPs hDs hS => ?_)
            replace hPs : va_P (dC, dI) vwCl ((wM ct aJ mJ_2 ++ wL ct aL mL) ++ (wB ct aB (aJ 0) mB)) H := hPs
            replace hDs : va_D A ((wM ct aJ mJ_2 ++ wL ct aL mL) ++ (wB ct aB (aJ 0) mB)) := hDs
            have hP := pm_P (ws' := (wB ct aB (aJ 0) mB ++ wM ct aJ mJ_2 ++ wL ct aL mL)) [wM ct aJ mJ_2, wL ct aL mL, wB ct aB (aJ 0) mB] [2, 0, 1] (show List.Perm [2, 0, 1] (List.range 3) from by decide) (by simp only [List.flatten_cons, List.flatten_nil, List.append_nil, List.nil_append, List.append_assoc]) (by show List.flatten [wB ct aB (aJ 0) mB, wM ct aJ mJ_2, wL ct aL mL] = _; simp only [List.flatten_cons, List.flatten_nil, List.append_nil, List.nil_append, List.append_assoc]) hPs
            have hD := pm_D (ws' := (wB ct aB (aJ 0) mB ++ wM ct aJ mJ_2 ++ wL ct aL mL)) [wM ct aJ mJ_2, wL ct aL mL, wB ct aB (aJ 0) mB] [2, 0, 1] (show List.Perm [2, 0, 1] (List.range 3) from by decide) (by simp only [List.flatten_cons, List.flatten_nil, List.append_nil, List.nil_append, List.append_assoc]) (by show List.flatten [wB ct aB (aJ 0) mB, wM ct aJ mJ_2, wL ct aL mL] = _; simp only [List.flatten_cons, List.flatten_nil, List.append_nil, List.nil_append, List.append_assoc]) hDs
            clear hPs hDs
            refine lv_istore_n (lv' := [(3, .int x_1), (0, .ref (aB 0)), (1, .ref (aL 0)), (2, .int v2)]) hx hb dX0_judgeAll_101 rfl hl (by decide) rfl (fun ls hl => ?_)
            refine lv_iload_n hx hb dX0_judgeAll_102 rfl (lv_at hl 0 rfl) ?_
            refine lv_iconst (v := -1) hx hb dX0_judgeAll_103 (by decide) ?_
            refine lv_icmp_ne (tgt := 109) hx hb dX0_judgeAll_104 (by decide) (fun hc_5 => ?_) (fun hc_5 => ?_)
            · have hM := it_p hc_5 hM
              refine lv_aload_n hx hb dX0_judgeAll_109 rfl (lv_at hl 1 rfl) ?_
              refine va_get (D := (dC, dI)) (ci := 0) (v := .ref (aB 5)) (C := RX0) (T := TX0) (N := 7) hx hb hts iwX0_judgeAll_X0 hown hK hP 0 rfl rfl 5 (by decide) (hts _ (List.mem_of_getElem? (i := 8) rfl)) (fun _ h9 => h9) rfl dX0_judgeAll_110 ?_
              refine lv_iload_n hx hb dX0_judgeAll_113 rfl (lv_at hl 0 rfl) ?_
              refine lv_iload_n hx hb dX0_judgeAll_114 rfl (lv_at hl 3 rfl) ?_
              obtain ⟨hi, hM⟩ := gi_some hM
              refine st_i (wf := fun z => (wB ct aB (aJ 0) z ++ wM ct aJ mJ_2 ++ wL ct aL mL)) (m1 := upi mB 5 x_1.toNatClampNeg v2) hx hb hK hP hD hS 5 rfl hi dX0_judgeAll_115 rfl (fun mB_6 emB_6 H locs hP hD hS => ?_)
              have hM := nm_at emB_6 hM
              obtain ⟨x_7, ex_7⟩ : ∃ y : Int32, y = (v2 + (1 : Int32)) := ⟨_, rfl⟩
              have hM := nm_at ex_7 hM
              refine lv_iinc (v := x_7) (lv' := [(2, .int x_7), (3, .int x_1), (0, .ref (aB 0)), (1, .ref (aL 0))]) hx hb dX0_judgeAll_116 hl (k := 3) rfl (by rw [ex_7]; rfl) (by decide) rfl (fun ls hl => ?_)
              refine lv_goto (tgt := 18) hx hb dX0_judgeAll_119 (by decide) ?_
              have hR := som hM
              exact ih18 x_7 mB_6 mJ_2 (hbk18 _ hR) _ _ hP hD hS _ (lv_sub hl [2, 3, 0] rfl)
            · have hM := it_nn hc_5 hM
              have hR := som hM
              exact X18_0 v2 mB mJ_2 (hex18 _ hR).symm _ _ hP hD hS _ (lv_sub hl [3] rfl)
          have I34 : ∀ (n : Nat) (v3 : Int32) (mB : Mem) (mJ : Mem), itr (fun q => mX0_judgeAll_s34 v2 mL q.1 q.2.1 q.2.2) n (v3, mB, mJ) = some ex34 → ∀ (H : Heap) (locs : List Loc), va_P (dC, dI) vwCl (wB ct aB (aJ 0) mB ++ wM ct aJ mJ ++ wL ct aL mL) H → va_D A (wB ct aB (aJ 0) mB ++ wM ct aJ mJ ++ wL ct aL mL) → va_S A s.heap H locs → ∀ ls : Array Slot, lv_has ls 4 [(0, .ref (aB 0)), (1, .ref (aL 0)), (2, .int v2), (3, .int v3)] → W p l e (headSpec wsX0_judgeAll rmX0_judgeAll).room s m args below meth c H locs 0 0 Q (F0 m 34 ls []) := by
            intro n
            induction n with
            | zero => intro v3 mB mJ hit; exact (itr_zero hit).elim
            | succ n ih34 =>
              intro v3 mB mJ hit H locs hP hD hS ls hl
              obtain ⟨o34, hM, hbk34, hex34⟩ := itr_succ hit
              replace hM : mX0_judgeAll_s34 v2 mL v3 mB mJ = some o34 := hM
              unfold mX0_judgeAll_s34 at hM
              refine lv_iload_n hx hb dX0_judgeAll_34 rfl (lv_at hl 3 rfl) ?_
              refine lv_aload_n hx hb dX0_judgeAll_35 rfl (lv_at hl 0 rfl) ?_
              refine va_get (D := (dC, dI)) (ci := 0) (v := .ref (aB 1)) (C := RX0) (T := TX0) (N := 7) hx hb hts iwX0_judgeAll_X0 hown hK hP 0 rfl rfl 1 (by decide) (hts _ (List.mem_of_getElem? (i := 5) rfl)) (fun _ h9 => h9) rfl dX0_judgeAll_36 ?_
              refine lv_iload_n hx hb dX0_judgeAll_39 rfl (lv_at hl 2 rfl) ?_
              obtain ⟨hi, hM⟩ := gi_some hM
              refine va_iald hx hb hK hP 1 0 rfl rfl hi dX0_judgeAll_40 ?_
              refine lv_icmp_ge (tgt := 55) hx hb dX0_judgeAll_41 (by decide) (fun hc_8 => ?_) (fun hc_8 => ?_)
              · have hM := it_p hc_8 hM
                have hR := som hM
                exact X34_0 mB mJ (hex34 _ hR).symm _ _ hP hD hS _ (lv_sub hl [0, 1, 2] rfl)
              · have hM := it_n hc_8 hM
                refine lv_aload_n hx hb dX0_judgeAll_44 rfl (lv_at hl 0 rfl) ?_
                refine lv_aload_n hx hb dX0_judgeAll_45 rfl (lv_at hl 1 rfl) ?_
                obtain ⟨q_12, hr_11, hM⟩ := bn_some hM
                obtain ⟨mB_9, mJ_10⟩ := q_12
                have hM := nm_at (y := mB_9) rfl hM
                have hM := nm_at (y := mJ_10) rfl hM
                have hPs := pm_P (ws' := (wB ct aB (aJ 0) mB ++ wM ct aJ mJ ++ wL ct aL mL) ++ ([] : va_W)) [wB ct aB (aJ 0) mB, wM ct aJ mJ, wL ct aL mL] [0, 1, 2] (show List.Perm [0, 1, 2] (List.range 3) from by decide) (by simp only [List.flatten_cons, List.flatten_nil, List.append_nil, List.nil_append, List.append_assoc]) (by show List.flatten [wB ct aB (aJ 0) mB, wM ct aJ mJ, wL ct aL mL] = _; simp only [List.flatten_cons, List.flatten_nil, List.append_nil, List.nil_append, List.append_assoc]) hP
                have hDs := pm_D (ws' := (wB ct aB (aJ 0) mB ++ wM ct aJ mJ ++ wL ct aL mL) ++ ([] : va_W)) [wB ct aB (aJ 0) mB, wM ct aJ mJ, wL ct aL mL] [0, 1, 2] (show List.Perm [0, 1, 2] (List.range 3) from by decide) (by simp only [List.flatten_cons, List.flatten_nil, List.append_nil, List.nil_append, List.append_assoc]) (by show List.flatten [wB ct aB (aJ 0) mB, wM ct aJ mJ, wL ct aL mL] = _; simp only [List.flatten_cons, List.flatten_nil, List.append_nil, List.nil_append, List.append_assoc]) hD
                refine sp_v (wr := ([] : va_W)) (va_runV (As := [.ref (aL 0)]) (rest := []) ⟨hx, hb, hml, hown, hts⟩ (kX0_judgeNight l dC dI ct aB aJ aL _ mB mJ mL _ hr_11) (cwV 1 hts gX0_judgeAll_X0_judgeNight rfl rfl rfl hvX0_judgeNight ⟨Nat.le_of_ble_eq_true rfl, Nat.le_of_ble_eq_true rfl⟩) (sp_preV E0_ok hK hPs hDs rfl (ci := 0) rfl 0 rfl e_0) rfl rfl hl.1 rfl (lv_room (Nat.le_of_ble_eq_true rfl)) dX0_judgeAll_46 ⟨Nat.le_of_ble_eq_true rfl, Nat.le_of_ble_eq_true rfl⟩) hPs hDs hS hA (fun H locs hPs hDs hS => ?_)
                replace hPs : va_P (dC, dI) vwCl ((wB ct aB (aJ 0) mB_9 ++ wM ct aJ mJ_10 ++ wL ct aL mL) ++ ([] : va_W)) H := hPs
                replace hDs : va_D A ((wB ct aB (aJ 0) mB_9 ++ wM ct aJ mJ_10 ++ wL ct aL mL) ++ ([] : va_W)) := hDs
                have hP := pm_P (ws' := (wB ct aB (aJ 0) mB_9 ++ wM ct aJ mJ_10 ++ wL ct aL mL)) [wB ct aB (aJ 0) mB_9, wM ct aJ mJ_10, wL ct aL mL] [0, 1, 2] (show List.Perm [0, 1, 2] (List.range 3) from by decide) (by simp only [List.flatten_cons, List.flatten_nil, List.append_nil, List.nil_append, List.append_assoc]) (by show List.flatten [wB ct aB (aJ 0) mB_9, wM ct aJ mJ_10, wL ct aL mL] = _; simp only [List.flatten_cons, List.flatten_nil, List.append_nil, List.nil_append, List.append_assoc]) hPs
                have hD := pm_D (ws' := (wB ct aB (aJ 0) mB_9 ++ wM ct aJ mJ_10 ++ wL ct aL mL)) [wB ct aB (aJ 0) mB_9, wM ct aJ mJ_10, wL ct aL mL] [0, 1, 2] (show List.Perm [0, 1, 2] (List.range 3) from by decide) (by simp only [List.flatten_cons, List.flatten_nil, List.append_nil, List.nil_append, List.append_assoc]) (by show List.flatten [wB ct aB (aJ 0) mB_9, wM ct aJ mJ_10, wL ct aL mL] = _; simp only [List.flatten_cons, List.flatten_nil, List.append_nil, List.nil_append, List.append_assoc]) hDs
                clear hPs hDs
                obtain ⟨x_13, ex_13⟩ : ∃ y : Int32, y = (v3 + (1 : Int32)) := ⟨_, rfl⟩
                have hM := nm_at ex_13 hM
                refine lv_iinc (v := x_13) (lv' := [(3, .int x_13), (0, .ref (aB 0)), (1, .ref (aL 0)), (2, .int v2)]) hx hb dX0_judgeAll_49 hl (k := 3) rfl (by rw [ex_13]; rfl) (by decide) rfl (fun ls hl => ?_)
                refine lv_goto (tgt := 34) hx hb dX0_judgeAll_52 (by decide) ?_
                have hR := som hM
                exact ih34 x_13 mB_9 mJ_10 (hbk34 _ hR) _ _ hP hD hS _ (lv_sub hl [1, 2, 3, 0] rfl)
          exact I34 FU v3 mB mJ hit34 _ _ hP hD hS _ hl
        unfold mX0_judgeAll_s18 at hM
        refine lv_iload_n hx hb dX0_judgeAll_18 rfl (lv_at hl 2 rfl) ?_
        refine lv_aload_n hx hb dX0_judgeAll_19 rfl (lv_at hl 0 rfl) ?_
        refine va_get (D := (dC, dI)) (ci := 0) (v := .int (mB 0 0)) (C := RX0) (T := TX0) (N := 7) hx hb hts iwX0_judgeAll_X0 hown hK hP 0 rfl rfl 0 (by decide) (hts _ (List.mem_of_getElem? (i := 3) rfl)) (fun _ h9 => h9) rfl dX0_judgeAll_20 ?_
        refine lv_icmp_ge (tgt := 122) hx hb dX0_judgeAll_23 (by decide) (fun hc_14 => ?_) (fun hc_14 => ?_)
        · have hM := it_p hc_14 hM
          have hR := som hM
          exact X18_1 mB mJ (hex18 _ hR).symm _ _ hP hD hS _ (lv_sub hl [] rfl)
        · have hM := it_n hc_14 hM
          refine lv_aload_n hx hb dX0_judgeAll_26 rfl (lv_at hl 0 rfl) ?_
          refine va_get (D := (dC, dI)) (ci := 0) (v := .ref (aJ 0)) (C := RX0) (T := TX0) (N := 7) hx hb hts iwX0_judgeAll_X0 hown hK hP 0 rfl rfl 6 (by decide) (hts _ (List.mem_of_getElem? (i := 2) rfl)) (fun _ h9 => h9) rfl dX0_judgeAll_27 ?_
          refine va_get (D := (dC, dI)) (ci := 2) (v := .int (mJ 0 0)) (C := RX2) (T := TX2) (N := 10) hx hb hts iwX0_judgeAll_X2 hown hK hP 6 rfl rfl 0 (by decide) (hts _ (List.mem_of_getElem? (i := 4) rfl)) (fun _ h9 => h9) rfl dX0_judgeAll_30 ?_
          refine lv_topi (fun x_15 ex_15 => ?_)
          have hM := nm_at ex_15 hM
          refine lv_istore_n (lv' := [(3, .int x_15), (0, .ref (aB 0)), (1, .ref (aL 0)), (2, .int v2)]) hx hb dX0_judgeAll_33 rfl hl (by decide) rfl (fun ls hl => ?_)
          exact N34 v2 x_15 mB mJ hM _ _ hP hD hS _ (lv_sub hl [1, 2, 3, 0] rfl)
    exact I18 FU v2 mB mJ hit18 _ _ hP hD hS _ hl
  refine lv_aload_n hx hb dX0_judgeAll_0 rfl (lv_at hl 0 rfl) ?_
  refine va_get (D := (dC, dI)) (ci := 0) (v := .ref (aB 2)) (C := RX0) (T := TX0) (N := 7) hx hb hts iwX0_judgeAll_X0 hown hK hP 0 rfl rfl 2 (by decide) (hts _ (List.mem_of_getElem? (i := 1) rfl)) (fun _ h9 => h9) rfl dX0_judgeAll_1 ?_
  refine lv_iconst (v := 0) hx hb dX0_judgeAll_4 (by decide) ?_
  obtain ⟨mB_16, hr_17, hM⟩ := bn_some hM
  obtain ⟨mB_19, emB_19⟩ : ∃ y : Mem, y = ups mB 2 mB_16 := ⟨_, rfl⟩
  have hM := nm_at emB_19 hM
  refine gv_v (wn := (wB ct aB (aJ 0) mB_19 ++ wM ct aJ mJ ++ wL ct aL mL)) (va_runS (As := [.ref (aB 2), .int (0 : Int32)]) (rest := []) ⟨hx, hb, hml, hown, hts⟩ (kJ7_fill_53178 l dC dI ct (fun _ => (aB 2)) _ 20 (mB 2) (0 : Int32) _ hr_17) (va_cwS 2 hts gX0_judgeAll_J7_fill_53178 rfl rfl rfl hvJ7_fill_53178.2 ⟨Nat.le_of_ble_eq_true rfl, Nat.le_of_ble_eq_true rfl⟩) (preS_of E0_ok hK hP hD (is := [2]) rfl rfl e_0) rfl rfl hl.1 rfl (lv_room (Nat.le_of_ble_eq_true rfl)) dX0_judgeAll_5 ⟨Nat.le_of_ble_eq_true rfl, Nat.le_of_ble_eq_true rfl⟩) hP hD hS hA [2] [0, 1, 3, 4, 5, 6, 7, 8, 9, 10, 11, 12, 13, 14, 15, 16, 17, 18, 19, 20, 21, 22, 23, 24] [0, 1, 24, 2, 3, 4, 5, 6, 7, 8, 9, 10, 11, 12, 13, 14, 15, 16, 17, 18, 19, 20, 21, 22, 23] rfl rfl rfl (by decide) (by rw [emB_19]; rfl) rfl (fun H locs hP hD hS => ?_)
  refine lv_aload_n hx hb dX0_judgeAll_8 rfl (lv_at hl 0 rfl) ?_
  refine va_get (D := (dC, dI)) (ci := 0) (v := .ref (aJ 0)) (C := RX0) (T := TX0) (N := 7) hx hb hts iwX0_judgeAll_X0 hown hK hP 0 rfl rfl 6 (by decide) (hts _ (List.mem_of_getElem? (i := 2) rfl)) (fun _ h9 => h9) rfl dX0_judgeAll_9 ?_
  refine lv_aload_n hx hb dX0_judgeAll_12 rfl (lv_at hl 1 rfl) ?_
  obtain ⟨mJ_20, hr_21, hM⟩ := bn_some hM
  have hPs := pm_P (ws' := (wM ct aJ mJ ++ wL ct aL mL) ++ (wB ct aB (aJ 0) mB_19)) [wB ct aB (aJ 0) mB_19, wM ct aJ mJ, wL ct aL mL] [1, 2, 0] (show List.Perm [1, 2, 0] (List.range 3) from by decide) (by simp only [List.flatten_cons, List.flatten_nil, List.append_nil, List.nil_append, List.append_assoc]) (by show List.flatten [wM ct aJ mJ, wL ct aL mL, wB ct aB (aJ 0) mB_19] = _; simp only [List.flatten_cons, List.flatten_nil, List.append_nil, List.nil_append, List.append_assoc]) hP
  have hDs := pm_D (ws' := (wM ct aJ mJ ++ wL ct aL mL) ++ (wB ct aB (aJ 0) mB_19)) [wB ct aB (aJ 0) mB_19, wM ct aJ mJ, wL ct aL mL] [1, 2, 0] (show List.Perm [1, 2, 0] (List.range 3) from by decide) (by simp only [List.flatten_cons, List.flatten_nil, List.append_nil, List.nil_append, List.append_assoc]) (by show List.flatten [wM ct aJ mJ, wL ct aL mL, wB ct aB (aJ 0) mB_19] = _; simp only [List.flatten_cons, List.flatten_nil, List.append_nil, List.nil_append, List.append_assoc]) hD
  refine sp_v (wr := (wB ct aB (aJ 0) mB_19)) (va_runV (As := [.ref (aL 0)]) (rest := []) ⟨hx, hb, hml, hown, hts⟩ (kX2_begin l dC dI ct aJ aL _ mJ mL _ hr_21) (cwV 1 hts gX0_judgeAll_X2_begin rfl rfl rfl hvX2_begin ⟨Nat.le_of_ble_eq_true rfl, Nat.le_of_ble_eq_true rfl⟩) (sp_preV E0_ok hK hPs hDs rfl (ci := 2) rfl 0 rfl e_0) rfl rfl hl.1 rfl (lv_room (Nat.le_of_ble_eq_true rfl)) dX0_judgeAll_13 ⟨Nat.le_of_ble_eq_true rfl, Nat.le_of_ble_eq_true rfl⟩) hPs hDs hS hA (fun H locs hPs hDs hS => ?_)
  replace hPs : va_P (dC, dI) vwCl ((wM ct aJ mJ_20 ++ wL ct aL mL) ++ (wB ct aB (aJ 0) mB_19)) H := hPs
  replace hDs : va_D A ((wM ct aJ mJ_20 ++ wL ct aL mL) ++ (wB ct aB (aJ 0) mB_19)) := hDs
  have hP := pm_P (ws' := (wB ct aB (aJ 0) mB_19 ++ wM ct aJ mJ_20 ++ wL ct aL mL)) [wM ct aJ mJ_20, wL ct aL mL, wB ct aB (aJ 0) mB_19] [2, 0, 1] (show List.Perm [2, 0, 1] (List.range 3) from by decide) (by simp only [List.flatten_cons, List.flatten_nil, List.append_nil, List.nil_append, List.append_assoc]) (by show List.flatten [wB ct aB (aJ 0) mB_19, wM ct aJ mJ_20, wL ct aL mL] = _; simp only [List.flatten_cons, List.flatten_nil, List.append_nil, List.nil_append, List.append_assoc]) hPs
  have hD := pm_D (ws' := (wB ct aB (aJ 0) mB_19 ++ wM ct aJ mJ_20 ++ wL ct aL mL)) [wM ct aJ mJ_20, wL ct aL mL, wB ct aB (aJ 0) mB_19] [2, 0, 1] (show List.Perm [2, 0, 1] (List.range 3) from by decide) (by simp only [List.flatten_cons, List.flatten_nil, List.append_nil, List.nil_append, List.append_assoc]) (by show List.flatten [wB ct aB (aJ 0) mB_19, wM ct aJ mJ_20, wL ct aL mL] = _; simp only [List.flatten_cons, List.flatten_nil, List.append_nil, List.nil_append, List.append_assoc]) hDs
  clear hPs hDs
  refine lv_iconst (v := 0) hx hb dX0_judgeAll_16 (by decide) ?_
  refine lv_istore_n (lv' := [(2, .int (0 : Int32)), (0, .ref (aB 0)), (1, .ref (aL 0))]) hx hb dX0_judgeAll_17 rfl hl (by decide) rfl (fun ls hl => ?_)
  exact N18 (0 : Int32) mB_19 mJ_20 hM _ _ hP hD hS _ (lv_sub hl [1, 2, 0] rfl)
abbrev rmX6_tryTurn : Room := { frames := 0, cells := 0, slots := 0, locals := 0 }
theorem iwX6_tryTurn_X1 : ∀ w ∈ wsX10, w ∈ wsX6_tryTurn := fun _ h => List.mem_cons_of_mem _ (List.mem_append_left _ (List.mem_append_right _ (h)))
theorem iwX6_tryTurn_X6 : ∀ w ∈ wsX60, w ∈ wsX6_tryTurn := fun _ h => List.mem_cons_of_mem _ (List.mem_append_right _ (h))
set_option maxHeartbeats 4000000 in
set_option maxRecDepth 100000 in
theorem kX6_tryTurn (l : Launch) (dC : Nat → ClassId) (dI : Nat → Nat → Nat) (ct : Nat → ClassId) (aY : Nat → Nat) (aL : Nat → Nat) (sz : Nat) (mY : Mem) (mL : Mem) (v2 : Int32) (res : Mem) (hM : mX6_tryTurn mY mL v2 = some res) : Met l yX6_tryTurn wsX6_tryTurn rmX6_tryTurn (va_Pc [.ref (aY 0), .ref (aL 0), .int v2] (PB (dC, dI) ct E0 sz (wY ct aY mY ++ wL ct aL mL))) (Qv (dC, dI) ct (va_A (wY ct aY mY ++ wL ct aL mL) sz) (wY ct aY res ++ wL ct aL mL)) 0 0 (va_A (wY ct aY mY ++ wL ct aL mL) sz) := by
  refine Met.ofW (cc := cX6_tryTurn) (maxL := 8) (ret := none) (by decide) rfl ?_
  intro p e s m args below meth c s₁ B hml hv
  obtain ⟨hargs, hsz, hP, hK, hD0, hE⟩ := hv
  have hx := B.exec
  have hb := B.bytes
  have hr := B.returns
  have hts := atoms_spec (ws := wsX6_tryTurn) B.pre
  have hown : s.vm.findClass RX6 = some m.cls := findClass_of_methodNamed B.named
  have hlocks := B.notSynchronized
  clear B s₁
  subst hsz
  have hD := hD0.self (sz := s.heap.size)
  clear hD0
  generalize hAe : va_A (wY ct aY mY ++ wL ct aL mL) s.heap.size = A at hD hE ⊢
  have hA : ∀ q : Nat, s.heap.size ≤ q → A q := fun q h => by rw [← hAe]; exact Or.inr h
  clear hAe
  have hS : va_S A s.heap s.heap [] := va_S.rf
  refine cutQ (fun Q hQ => ?_)
  refine entryW (vs := [.ref (aY 0), .ref (aL 0), .int v2]) hargs (Nat.le_of_ble_eq_true rfl) (fun ls hl => ?_)
  replace hl : lv_has ls 8 [(0, .ref (aY 0)), (1, .ref (aL 0)), (2, .int v2)] := hl
  unfold mX6_tryTurn at hM
  have N109 : ∀ (v3 : Int32) (v5 : Int32) (v6 : Int32) (mY : Mem), mX6_tryTurn_j109 v3 v5 v6 mY mL = some res → ∀ (H : Heap) (locs : List Loc), va_P (dC, dI) vwCl (wY ct aY mY ++ wL ct aL mL) H → va_D A (wY ct aY mY ++ wL ct aL mL) → va_S A s.heap H locs → ∀ ls : Array Slot, lv_has ls 8 [(0, .ref (aY 0)), (3, .int v3), (5, .int v5), (6, .int v6)] → W p l e (headSpec wsX6_tryTurn rmX6_tryTurn).room s m args below meth c H locs 0 0 Q (F0 m 109 ls []) := by
    intro v3 v5 v6 mY hM H locs hP hD hS ls hl
    unfold mX6_tryTurn_j109 at hM
    refine lv_aload_n hx hb dX6_tryTurn_109 rfl (lv_at hl 0 rfl) ?_
    refine va_get (D := (dC, dI)) (ci := 6) (v := .ref (aY 1)) (C := RX6) (T := TX6) (N := 2) hx hb hts iwX6_tryTurn_X6 hown hK hP 0 rfl rfl 0 (by decide) (hts _ (List.mem_of_getElem? (i := 3) rfl)) (fun _ h9 => h9) rfl dX6_tryTurn_110 ?_
    refine lv_iload_n hx hb dX6_tryTurn_113 rfl (lv_at hl 1 rfl) ?_
    refine lv_iload hx hb dX6_tryTurn_114 (lv_at hl 2 rfl) ?_
    obtain ⟨hi, hM⟩ := gi_some hM
    refine st_i (wf := fun z => (wY ct aY z ++ wL ct aL mL)) (m1 := upi mY 1 v3.toNatClampNeg v5) hx hb hK hP hD hS 1 rfl hi dX6_tryTurn_116 rfl (fun mY_1 emY_1 H locs hP hD hS => ?_)
    have hM := nm_at emY_1 hM
    refine lv_aload_n hx hb dX6_tryTurn_117 rfl (lv_at hl 0 rfl) ?_
    refine va_get (D := (dC, dI)) (ci := 6) (v := .ref (aY 2)) (C := RX6) (T := TX6) (N := 2) hx hb hts iwX6_tryTurn_X6 hown hK hP 0 rfl rfl 1 (by decide) (hts _ (List.mem_of_getElem? (i := 5) rfl)) (fun _ h9 => h9) rfl dX6_tryTurn_118 ?_
    refine lv_iload_n hx hb dX6_tryTurn_121 rfl (lv_at hl 1 rfl) ?_
    refine lv_iload hx hb dX6_tryTurn_122 (lv_at hl 3 rfl) ?_
    obtain ⟨hi, hM⟩ := gi_some hM
    refine st_i (wf := fun z => (wY ct aY z ++ wL ct aL mL)) (m1 := upi mY_1 2 v3.toNatClampNeg v6) hx hb hK hP hD hS 2 rfl hi dX6_tryTurn_124 rfl (fun mY_2 emY_2 H locs hP hD hS => ?_)
    have hM := nm_at emY_2 hM
    have hR := som hM
    rw [hR] at hQ
    exact ret_v hQ hx hb hr hlocks hP hK hD hS dX6_tryTurn_125
  have N80 : ∀ (v3 : Int32) (v5 : Int32) (v6 : Int32) (t0 : Int32) (mY : Mem), mX6_tryTurn_j80 v3 v5 v6 t0 mY mL = some res → ∀ (H : Heap) (locs : List Loc), va_P (dC, dI) vwCl (wY ct aY mY ++ wL ct aL mL) H → va_D A (wY ct aY mY ++ wL ct aL mL) → va_S A s.heap H locs → ∀ ls : Array Slot, lv_has ls 8 [(0, .ref (aY 0)), (3, .int v3), (5, .int v5), (6, .int v6)] → W p l e (headSpec wsX6_tryTurn rmX6_tryTurn).room s m args below meth c H locs 0 0 Q (F0 m 80 ls [.int t0]) := by
    intro v3 v5 v6 t0 mY hM H locs hP hD hS ls hl
    unfold mX6_tryTurn_j80 at hM
    refine lv_istore (lv' := [(7, .int t0), (0, .ref (aY 0)), (3, .int v3), (5, .int v5), (6, .int v6)]) hx hb dX6_tryTurn_80 hl (by decide) rfl (fun ls hl => ?_)
    refine lv_iload hx hb dX6_tryTurn_82 (lv_at hl 0 rfl) ?_
    refine lv_if_ne (tgt := 109) hx hb dX6_tryTurn_84 (by decide) (fun hc_3 => ?_) (fun hc_3 => ?_)
    · have hM := it_p hc_3 hM
      exact N109 v3 v5 v6 mY hM _ _ hP hD hS _ (lv_sub hl [1, 2, 3, 4] rfl)
    · have hM := it_nn hc_3 hM
      refine lv_iload hx hb dX6_tryTurn_87 (lv_at hl 3 rfl) ?_
      refine lv_aload_n hx hb dX6_tryTurn_89 rfl (lv_at hl 1 rfl) ?_
      refine va_get (D := (dC, dI)) (ci := 6) (v := .ref (aY 1)) (C := RX6) (T := TX6) (N := 2) hx hb hts iwX6_tryTurn_X6 hown hK hP 0 rfl rfl 0 (by decide) (hts _ (List.mem_of_getElem? (i := 3) rfl)) (fun _ h9 => h9) rfl dX6_tryTurn_90 ?_
      refine lv_iload_n hx hb dX6_tryTurn_93 rfl (lv_at hl 2 rfl) ?_
      obtain ⟨hi, hM⟩ := gi_some hM
      refine va_iald hx hb hK hP 1 0 rfl rfl hi dX6_tryTurn_94 ?_
      refine lv_icmp_ne (tgt := 125) hx hb dX6_tryTurn_95 (by decide) (fun hc_4 => ?_) (fun hc_4 => ?_)
      · have hM := it_p hc_4 hM
        have hR := som hM
        rw [hR] at hQ
        exact ret_v hQ hx hb hr hlocks hP hK hD hS dX6_tryTurn_125
      · have hM := it_nn hc_4 hM
        refine lv_iload hx hb dX6_tryTurn_98 (lv_at hl 4 rfl) ?_
        refine lv_aload_n hx hb dX6_tryTurn_100 rfl (lv_at hl 1 rfl) ?_
        refine va_get (D := (dC, dI)) (ci := 6) (v := .ref (aY 2)) (C := RX6) (T := TX6) (N := 2) hx hb hts iwX6_tryTurn_X6 hown hK hP 0 rfl rfl 1 (by decide) (hts _ (List.mem_of_getElem? (i := 5) rfl)) (fun _ h9 => h9) rfl dX6_tryTurn_101 ?_
        refine lv_iload_n hx hb dX6_tryTurn_104 rfl (lv_at hl 2 rfl) ?_
        obtain ⟨hi, hM⟩ := gi_some hM
        refine va_iald hx hb hK hP 2 0 rfl rfl hi dX6_tryTurn_105 ?_
        refine lv_icmp_ge (tgt := 125) hx hb dX6_tryTurn_106 (by decide) (fun hc_5 => ?_) (fun hc_5 => ?_)
        · have hM := it_p hc_5 hM
          have hR := som hM
          rw [hR] at hQ
          exact ret_v hQ hx hb hr hlocks hP hK hD hS dX6_tryTurn_125
        · have hM := it_n hc_5 hM
          exact N109 v3 v5 v6 mY hM _ _ hP hD hS _ (lv_sub hl [1, 2, 3, 4] rfl)
  have N75 : ∀ (v3 : Int32) (v5 : Int32) (v6 : Int32) (mY : Mem), mX6_tryTurn_j75 v3 v5 v6 mY mL = some res → ∀ (H : Heap) (locs : List Loc), va_P (dC, dI) vwCl (wY ct aY mY ++ wL ct aL mL) H → va_D A (wY ct aY mY ++ wL ct aL mL) → va_S A s.heap H locs → ∀ ls : Array Slot, lv_has ls 8 [(0, .ref (aY 0)), (3, .int v3), (5, .int v5), (6, .int v6)] → W p l e (headSpec wsX6_tryTurn rmX6_tryTurn).room s m args below meth c H locs 0 0 Q (F0 m 75 ls []) := by
    intro v3 v5 v6 mY hM H locs hP hD hS ls hl
    unfold mX6_tryTurn_j75 at hM
    refine lv_iconst (v := 1) hx hb dX6_tryTurn_75 (by decide) ?_
    refine lv_goto (tgt := 80) hx hb dX6_tryTurn_76 (by decide) ?_
    exact N80 v3 v5 v6 (1 : Int32) mY hM _ _ hP hD hS _ (lv_sub hl [0, 1, 2, 3] rfl)
  refine lv_aload_n hx hb dX6_tryTurn_0 rfl (lv_at hl 1 rfl) ?_
  refine va_get (D := (dC, dI)) (ci := 1) (v := .ref (aL 7)) (C := RX1) (T := TX1) (N := 17) hx hb hts iwX6_tryTurn_X1 hown hK hP 3 rfl rfl 14 (by decide) (hts _ (List.mem_of_getElem? (i := 1) rfl)) (fun _ h9 => h9) rfl dX6_tryTurn_1 ?_
  refine lv_iload_n hx hb dX6_tryTurn_4 rfl (lv_at hl 2 rfl) ?_
  obtain ⟨hi, hM⟩ := gi_some hM
  refine va_iald hx hb hK hP 10 0 rfl rfl hi dX6_tryTurn_5 ?_
  refine lv_topi (fun x_6 ex_6 => ?_)
  have hM := nm_at ex_6 hM
  refine lv_istore_n (lv' := [(3, .int x_6), (0, .ref (aY 0)), (1, .ref (aL 0)), (2, .int v2)]) hx hb dX6_tryTurn_6 rfl hl (by decide) rfl (fun ls hl => ?_)
  refine lv_aload_n hx hb dX6_tryTurn_7 rfl (lv_at hl 2 rfl) ?_
  refine va_get (D := (dC, dI)) (ci := 1) (v := .ref (aL 8)) (C := RX1) (T := TX1) (N := 17) hx hb hts iwX6_tryTurn_X1 hown hK hP 3 rfl rfl 15 (by decide) (hts _ (List.mem_of_getElem? (i := 2) rfl)) (fun _ h9 => h9) rfl dX6_tryTurn_8 ?_
  refine lv_iload_n hx hb dX6_tryTurn_11 rfl (lv_at hl 3 rfl) ?_
  obtain ⟨hi, hM⟩ := gi_some hM
  refine va_iald hx hb hK hP 11 0 rfl rfl hi dX6_tryTurn_12 ?_
  refine lv_topi (fun x_7 ex_7 => ?_)
  have hM := nm_at ex_7 hM
  refine lv_istore (lv' := [(4, .int x_7), (3, .int x_6), (0, .ref (aY 0)), (1, .ref (aL 0)), (2, .int v2)]) hx hb dX6_tryTurn_13 hl (by decide) rfl (fun ls hl => ?_)
  refine lv_aload_n hx hb dX6_tryTurn_15 rfl (lv_at hl 2 rfl) ?_
  refine va_get (D := (dC, dI)) (ci := 6) (v := .ref (aY 1)) (C := RX6) (T := TX6) (N := 2) hx hb hts iwX6_tryTurn_X6 hown hK hP 0 rfl rfl 0 (by decide) (hts _ (List.mem_of_getElem? (i := 3) rfl)) (fun _ h9 => h9) rfl dX6_tryTurn_16 ?_
  refine lv_iload hx hb dX6_tryTurn_19 (lv_at hl 0 rfl) ?_
  obtain ⟨hi, hM⟩ := gi_some hM
  refine va_iald hx hb hK hP 1 0 rfl rfl hi dX6_tryTurn_21 ?_
  refine lv_iconst (v := -1) hx hb dX6_tryTurn_22 (by decide) ?_
  refine lv_icmp_ne (tgt := 27) hx hb dX6_tryTurn_23 (by decide) (fun hc_8 => ?_) (fun hc_8 => ?_)
  · have hM := it_p hc_8 hM
    refine lv_aload_n hx hb dX6_tryTurn_27 rfl (lv_at hl 2 rfl) ?_
    refine va_get (D := (dC, dI)) (ci := 6) (v := .ref (aY 1)) (C := RX6) (T := TX6) (N := 2) hx hb hts iwX6_tryTurn_X6 hown hK hP 0 rfl rfl 0 (by decide) (hts _ (List.mem_of_getElem? (i := 3) rfl)) (fun _ h9 => h9) rfl dX6_tryTurn_28 ?_
    refine lv_iload hx hb dX6_tryTurn_31 (lv_at hl 0 rfl) ?_
    obtain ⟨hi, hM⟩ := gi_some hM
    refine va_iald hx hb hK hP 1 0 rfl rfl hi dX6_tryTurn_33 ?_
    refine lv_aload_n hx hb dX6_tryTurn_34 rfl (lv_at hl 3 rfl) ?_
    refine va_get (D := (dC, dI)) (ci := 1) (v := .ref (aL 9)) (C := RX1) (T := TX1) (N := 17) hx hb hts iwX6_tryTurn_X1 hown hK hP 3 rfl rfl 16 (by decide) (hts _ (List.mem_of_getElem? (i := 4) rfl)) (fun _ h9 => h9) rfl dX6_tryTurn_35 ?_
    refine lv_iload_n hx hb dX6_tryTurn_38 rfl (lv_at hl 4 rfl) ?_
    obtain ⟨hi, hM⟩ := gi_some hM
    refine va_iald hx hb hK hP 12 0 rfl rfl hi dX6_tryTurn_39 ?_
    refine lv_iadd hx hb dX6_tryTurn_40 ?_
    refine lv_topi (fun x_9 ex_9 => ?_)
    have hM := nm_at ex_9 hM
    refine lv_istore (lv' := [(5, .int x_9), (4, .int x_7), (3, .int x_6), (0, .ref (aY 0)), (1, .ref (aL 0)), (2, .int v2)]) hx hb dX6_tryTurn_41 hl (by decide) rfl (fun ls hl => ?_)
    refine lv_aload_n hx hb dX6_tryTurn_43 rfl (lv_at hl 3 rfl) ?_
    refine va_get (D := (dC, dI)) (ci := 6) (v := .ref (aY 2)) (C := RX6) (T := TX6) (N := 2) hx hb hts iwX6_tryTurn_X6 hown hK hP 0 rfl rfl 1 (by decide) (hts _ (List.mem_of_getElem? (i := 5) rfl)) (fun _ h9 => h9) rfl dX6_tryTurn_44 ?_
    refine lv_iload hx hb dX6_tryTurn_47 (lv_at hl 1 rfl) ?_
    obtain ⟨hi, hM⟩ := gi_some hM
    refine va_iald hx hb hK hP 2 0 rfl rfl hi dX6_tryTurn_49 ?_
    refine lv_iconst (v := 1) hx hb dX6_tryTurn_50 (by decide) ?_
    refine lv_iadd hx hb dX6_tryTurn_51 ?_
    refine lv_topi (fun x_10 ex_10 => ?_)
    have hM := nm_at ex_10 hM
    refine lv_istore (lv' := [(6, .int x_10), (5, .int x_9), (4, .int x_7), (3, .int x_6), (0, .ref (aY 0)), (1, .ref (aL 0)), (2, .int v2)]) hx hb dX6_tryTurn_52 hl (by decide) rfl (fun ls hl => ?_)
    refine lv_aload_n hx hb dX6_tryTurn_54 rfl (lv_at hl 4 rfl) ?_
    refine va_get (D := (dC, dI)) (ci := 6) (v := .ref (aY 1)) (C := RX6) (T := TX6) (N := 2) hx hb hts iwX6_tryTurn_X6 hown hK hP 0 rfl rfl 0 (by decide) (hts _ (List.mem_of_getElem? (i := 3) rfl)) (fun _ h9 => h9) rfl dX6_tryTurn_55 ?_
    refine lv_iload_n hx hb dX6_tryTurn_58 rfl (lv_at hl 3 rfl) ?_
    obtain ⟨hi, hM⟩ := gi_some hM
    refine va_iald hx hb hK hP 1 0 rfl rfl hi dX6_tryTurn_59 ?_
    refine lv_iconst (v := -1) hx hb dX6_tryTurn_60 (by decide) ?_
    refine lv_icmp_eq (tgt := 75) hx hb dX6_tryTurn_61 (by decide) (fun hc_11 => ?_) (fun hc_11 => ?_)
    · have hM := it_p hc_11 hM
      exact N75 x_6 x_9 x_10 mY hM _ _ hP hD hS _ (lv_sub hl [4, 3, 1, 0] rfl)
    · have hM := it_n hc_11 hM
      refine lv_iload hx hb dX6_tryTurn_64 (lv_at hl 1 rfl) ?_
      refine lv_aload_n hx hb dX6_tryTurn_66 rfl (lv_at hl 4 rfl) ?_
      refine va_get (D := (dC, dI)) (ci := 6) (v := .ref (aY 1)) (C := RX6) (T := TX6) (N := 2) hx hb hts iwX6_tryTurn_X6 hown hK hP 0 rfl rfl 0 (by decide) (hts _ (List.mem_of_getElem? (i := 3) rfl)) (fun _ h9 => h9) rfl dX6_tryTurn_67 ?_
      refine lv_iload_n hx hb dX6_tryTurn_70 rfl (lv_at hl 3 rfl) ?_
      obtain ⟨hi, hM⟩ := gi_some hM
      refine va_iald hx hb hK hP 1 0 rfl rfl hi dX6_tryTurn_71 ?_
      refine lv_icmp_ge (tgt := 79) hx hb dX6_tryTurn_72 (by decide) (fun hc_12 => ?_) (fun hc_12 => ?_)
      · have hM := it_p hc_12 hM
        refine lv_iconst (v := 0) hx hb dX6_tryTurn_79 (by decide) ?_
        exact N80 x_6 x_9 x_10 (0 : Int32) mY hM _ _ hP hD hS _ (lv_sub hl [4, 3, 1, 0] rfl)
      · have hM := it_n hc_12 hM
        exact N75 x_6 x_9 x_10 mY hM _ _ hP hD hS _ (lv_sub hl [4, 3, 1, 0] rfl)
  · have hM := it_nn hc_8 hM
    have hR := som hM
    rw [hR] at hQ
    exact ret_v hQ hx hb hr hlocks hP hK hD hS dX6_tryTurn_26
abbrev rmX6_measure : Room := { frames := 1, cells := 0, slots := 0, locals := 27 }
theorem iwX6_measure_X1 : ∀ w ∈ wsX10, w ∈ wsX6_measure := fun _ h => List.mem_cons_of_mem _ (List.mem_append_right _ (h))
theorem iwX6_measure_X6 : ∀ w ∈ wsX60, w ∈ wsX6_measure := fun _ h => List.mem_cons_of_mem _ (List.mem_append_left _ (List.mem_append_right _ (h)))
set_option maxHeartbeats 4000000 in
set_option maxRecDepth 100000 in
theorem kX6_measure (l : Launch) (dC : Nat → ClassId) (dI : Nat → Nat → Nat) (ct : Nat → ClassId) (aY : Nat → Nat) (aL : Nat → Nat) (sz : Nat) (mY : Mem) (mL : Mem) (v2 : Int32) (res : Mem) (hM : mX6_measure mY mL v2 = some res) : Met l yX6_measure wsX6_measure rmX6_measure (va_Pc [.ref (aY 0), .ref (aL 0), .int v2] (PB (dC, dI) ct E0 sz (wY ct aY mY ++ wL ct aL mL))) (Qv (dC, dI) ct (va_A (wY ct aY mY ++ wL ct aL mL) sz) (wY ct aY res ++ wL ct aL mL)) 0 0 (va_A (wY ct aY mY ++ wL ct aL mL) sz) := by
  refine Met.ofW (cc := cX6_measure) (maxL := 5) (ret := none) (by decide) rfl ?_
  intro p e s m args below meth c s₁ B hml hv
  obtain ⟨hargs, hsz, hP, hK, hD0, hE⟩ := hv
  have hx := B.exec
  have hb := B.bytes
  have hr := B.returns
  have hts := atoms_spec (ws := wsX6_measure) B.pre
  have hown : s.vm.findClass RX6 = some m.cls := findClass_of_methodNamed B.named
  have hlocks := B.notSynchronized
  clear B s₁
  subst hsz
  have hD := hD0.self (sz := s.heap.size)
  clear hD0
  generalize hAe : va_A (wY ct aY mY ++ wL ct aL mL) s.heap.size = A at hD hE ⊢
  have hA : ∀ q : Nat, s.heap.size ≤ q → A q := fun q h => by rw [← hAe]; exact Or.inr h
  clear hAe
  have hS : va_S A s.heap s.heap [] := va_S.rf
  refine cutQ (fun Q hQ => ?_)
  refine entryW (vs := [.ref (aY 0), .ref (aL 0), .int v2]) hargs (Nat.le_of_ble_eq_true rfl) (fun ls hl => ?_)
  replace hl : lv_has ls 5 [(0, .ref (aY 0)), (1, .ref (aL 0)), (2, .int v2)] := hl
  unfold mX6_measure at hM
  have N42 : ∀ (v3 : Int32) (mY : Mem), mX6_measure_L42 v3 mY mL = some res → ∀ (H : Heap) (locs : List Loc), va_P (dC, dI) vwCl (wY ct aY mY ++ wL ct aL mL) H → va_D A (wY ct aY mY ++ wL ct aL mL) → va_S A s.heap H locs → ∀ ls : Array Slot, lv_has ls 5 [(0, .ref (aY 0)), (1, .ref (aL 0)), (3, .int v3)] → W p l e (headSpec wsX6_measure rmX6_measure).room s m args below meth c H locs 0 0 Q (F0 m 42 ls []) := by
    intro v3 mY hM H locs hP hD hS ls hl
    unfold mX6_measure_L42 at hM
    obtain ⟨ex42, hit42, hM⟩ := bn_some hM
    have X42_0 : ∀ (mY : Mem), ex42 = mY → ∀ (H : Heap) (locs : List Loc), va_P (dC, dI) vwCl (wY ct aY mY ++ wL ct aL mL) H → va_D A (wY ct aY mY ++ wL ct aL mL) → va_S A s.heap H locs → ∀ ls : Array Slot, lv_has ls 5 [] → W p l e (headSpec wsX6_measure rmX6_measure).room s m args below meth c H locs 0 0 Q (F0 m 78 ls []) := by
      intro mY hex H locs hP hD hS ls hl
      rw [hex] at hM
      have hM := nm_at (y := mY) rfl hM
      have hR := som hM
      rw [hR] at hQ
      exact ret_v hQ hx hb hr hlocks hP hK hD hS dX6_measure_78
    have I42 : ∀ (n : Nat) (v3 : Int32) (mY : Mem), itr (fun q => mX6_measure_s42 mL q.1 q.2) n (v3, mY) = some ex42 → ∀ (H : Heap) (locs : List Loc), va_P (dC, dI) vwCl (wY ct aY mY ++ wL ct aL mL) H → va_D A (wY ct aY mY ++ wL ct aL mL) → va_S A s.heap H locs → ∀ ls : Array Slot, lv_has ls 5 [(0, .ref (aY 0)), (1, .ref (aL 0)), (3, .int v3)] → W p l e (headSpec wsX6_measure rmX6_measure).room s m args below meth c H locs 0 0 Q (F0 m 42 ls []) := by
      intro n
      induction n with
      | zero => intro v3 mY hit; exact (itr_zero hit).elim
      | succ n ih42 =>
        intro v3 mY hit H locs hP hD hS ls hl
        obtain ⟨o42, hM, hbk42, hex42⟩ := itr_succ hit
        replace hM : mX6_measure_s42 mL v3 mY = some o42 := hM
        have N50 : ∀ (v3 : Int32) (v4 : Int32) (mY : Mem), mX6_measure_L50 v3 v4 mY mL = some o42 → ∀ (H : Heap) (locs : List Loc), va_P (dC, dI) vwCl (wY ct aY mY ++ wL ct aL mL) H → va_D A (wY ct aY mY ++ wL ct aL mL) → va_S A s.heap H locs → ∀ ls : Array Slot, lv_has ls 5 [(0, .ref (aY 0)), (1, .ref (aL 0)), (3, .int v3), (4, .int v4)] → W p l e (headSpec wsX6_measure rmX6_measure).room s m args below meth c H locs 0 0 Q (F0 m 50 ls []) := by
          intro v3 v4 mY hM H locs hP hD hS ls hl
          unfold mX6_measure_L50 at hM
          obtain ⟨ex50, hit50, hM⟩ := bn_some hM
          have X50_0 : ∀ (mY : Mem), ex50 = mY → ∀ (H : Heap) (locs : List Loc), va_P (dC, dI) vwCl (wY ct aY mY ++ wL ct aL mL) H → va_D A (wY ct aY mY ++ wL ct aL mL) → va_S A s.heap H locs → ∀ ls : Array Slot, lv_has ls 5 [(0, .ref (aY 0)), (1, .ref (aL 0)), (3, .int v3)] → W p l e (headSpec wsX6_measure rmX6_measure).room s m args below meth c H locs 0 0 Q (F0 m 72 ls []) := by
            intro mY hex H locs hP hD hS ls hl
            rw [hex] at hM
            have hM := nm_at (y := mY) rfl hM
            obtain ⟨x_1, ex_1⟩ : ∃ y : Int32, y = (v3 + (1 : Int32)) := ⟨_, rfl⟩
            have hM := nm_at ex_1 hM
            refine lv_iinc (v := x_1) (lv' := [(3, .int x_1), (0, .ref (aY 0)), (1, .ref (aL 0))]) hx hb dX6_measure_72 hl (k := 2) rfl (by rw [ex_1]; rfl) (by decide) rfl (fun ls hl => ?_)
            refine lv_goto (tgt := 42) hx hb dX6_measure_75 (by decide) ?_
            have hR := som hM
            exact ih42 x_1 mY (hbk42 _ hR) _ _ hP hD hS _ (lv_sub hl [1, 2, 0] rfl)
          have I50 : ∀ (n : Nat) (v4 : Int32) (mY : Mem), itr (fun q => mX6_measure_s50 v3 mL q.1 q.2) n (v4, mY) = some ex50 → ∀ (H : Heap) (locs : List Loc), va_P (dC, dI) vwCl (wY ct aY mY ++ wL ct aL mL) H → va_D A (wY ct aY mY ++ wL ct aL mL) → va_S A s.heap H locs → ∀ ls : Array Slot, lv_has ls 5 [(0, .ref (aY 0)), (1, .ref (aL 0)), (3, .int v3), (4, .int v4)] → W p l e (headSpec wsX6_measure rmX6_measure).room s m args below meth c H locs 0 0 Q (F0 m 50 ls []) := by
            intro n
            induction n with
            | zero => intro v4 mY hit; exact (itr_zero hit).elim
            | succ n ih50 =>
              intro v4 mY hit H locs hP hD hS ls hl
              obtain ⟨o50, hM, hbk50, hex50⟩ := itr_succ hit
              replace hM : mX6_measure_s50 v3 mL v4 mY = some o50 := hM
              unfold mX6_measure_s50 at hM
              refine lv_iload hx hb dX6_measure_50 (lv_at hl 3 rfl) ?_
              refine lv_aload_n hx hb dX6_measure_52 rfl (lv_at hl 1 rfl) ?_
              refine va_get (D := (dC, dI)) (ci := 1) (v := .int (mL 0 13)) (C := RX1) (T := TX1) (N := 17) hx hb hts iwX6_measure_X1 hown hK hP 3 rfl rfl 13 (by decide) (hts _ (List.mem_of_getElem? (i := 3) rfl)) (fun _ h9 => h9) rfl dX6_measure_53 ?_
              refine lv_icmp_ge (tgt := 72) hx hb dX6_measure_56 (by decide) (fun hc_2 => ?_) (fun hc_2 => ?_)
              · have hM := it_p hc_2 hM
                have hR := som hM
                exact X50_0 mY (hex50 _ hR).symm _ _ hP hD hS _ (lv_sub hl [0, 1, 2] rfl)
              · have hM := it_n hc_2 hM
                refine lv_aload_n hx hb dX6_measure_59 rfl (lv_at hl 0 rfl) ?_
                refine lv_aload_n hx hb dX6_measure_60 rfl (lv_at hl 1 rfl) ?_
                refine lv_iload hx hb dX6_measure_61 (lv_at hl 3 rfl) ?_
                obtain ⟨mY_3, hr_4, hM⟩ := bn_some hM
                refine gv_v (wn := (wY ct aY mY_3 ++ wL ct aL mL)) (va_runV (As := [.ref (aL 0), .int v4]) (rest := []) ⟨hx, hb, hml, hown, hts⟩ (kX6_tryTurn l dC dI ct aY aL _ mY mL v4 _ hr_4) (cwV 2 hts gX6_measure_X6_tryTurn rfl rfl rfl hvX6_tryTurn ⟨Nat.le_of_ble_eq_true rfl, Nat.le_of_ble_eq_true rfl⟩) (preV_of E0_ok hK hP hD (is := [0, 1, 2, 3, 4, 5, 6, 7, 8, 9, 10, 11, 12]) rfl rfl rfl (ci := 6) rfl 0 rfl e_0) rfl rfl hl.1 rfl (lv_room (Nat.le_of_ble_eq_true rfl)) dX6_measure_63 ⟨Nat.le_of_ble_eq_true rfl, Nat.le_of_ble_eq_true rfl⟩) hP hD hS hA [0, 1, 2, 3, 4, 5, 6, 7, 8, 9, 10, 11, 12] [] [0, 1, 2, 3, 4, 5, 6, 7, 8, 9, 10, 11, 12] rfl rfl rfl (by decide) rfl rfl (fun H locs hP hD hS => ?_)
                obtain ⟨x_6, ex_6⟩ : ∃ y : Int32, y = (v4 + (1 : Int32)) := ⟨_, rfl⟩
                have hM := nm_at ex_6 hM
                refine lv_iinc (v := x_6) (lv' := [(4, .int x_6), (0, .ref (aY 0)), (1, .ref (aL 0)), (3, .int v3)]) hx hb dX6_measure_66 hl (k := 3) rfl (by rw [ex_6]; rfl) (by decide) rfl (fun ls hl => ?_)
                refine lv_goto (tgt := 50) hx hb dX6_measure_69 (by decide) ?_
                have hR := som hM
                exact ih50 x_6 mY_3 (hbk50 _ hR) _ _ hP hD hS _ (lv_sub hl [1, 2, 3, 0] rfl)
          exact I50 FU v4 mY hit50 _ _ hP hD hS _ hl
        unfold mX6_measure_s42 at hM
        refine lv_iload_n hx hb dX6_measure_42 rfl (lv_at hl 2 rfl) ?_
        refine lv_iconst (v := 5) hx hb dX6_measure_43 (by decide) ?_
        refine lv_icmp_ge (tgt := 78) hx hb dX6_measure_44 (by decide) (fun hc_7 => ?_) (fun hc_7 => ?_)
        · have hM := it_p hc_7 hM
          have hR := som hM
          exact X42_0 mY (hex42 _ hR).symm _ _ hP hD hS _ (lv_sub hl [] rfl)
        · have hM := it_n hc_7 hM
          refine lv_iconst (v := 0) hx hb dX6_measure_47 (by decide) ?_
          refine lv_istore (lv' := [(4, .int (0 : Int32)), (0, .ref (aY 0)), (1, .ref (aL 0)), (3, .int v3)]) hx hb dX6_measure_48 hl (by decide) rfl (fun ls hl => ?_)
          exact N50 v3 (0 : Int32) mY hM _ _ hP hD hS _ (lv_sub hl [1, 2, 3, 0] rfl)
    exact I42 FU v3 mY hit42 _ _ hP hD hS _ hl
  have N2 : ∀ (v2 : Int32) (v3 : Int32) (mY : Mem), mX6_measure_L2 v2 v3 mY mL = some res → ∀ (H : Heap) (locs : List Loc), va_P (dC, dI) vwCl (wY ct aY mY ++ wL ct aL mL) H → va_D A (wY ct aY mY ++ wL ct aL mL) → va_S A s.heap H locs → ∀ ls : Array Slot, lv_has ls 5 [(0, .ref (aY 0)), (1, .ref (aL 0)), (2, .int v2), (3, .int v3)] → W p l e (headSpec wsX6_measure rmX6_measure).room s m args below meth c H locs 0 0 Q (F0 m 2 ls []) := by
    intro v2 v3 mY hM H locs hP hD hS ls hl
    unfold mX6_measure_L2 at hM
    obtain ⟨ex2, hit2, hM⟩ := bn_some hM
    have X2_0 : ∀ (mY : Mem), ex2 = mY → ∀ (H : Heap) (locs : List Loc), va_P (dC, dI) vwCl (wY ct aY mY ++ wL ct aL mL) H → va_D A (wY ct aY mY ++ wL ct aL mL) → va_S A s.heap H locs → ∀ ls : Array Slot, lv_has ls 5 [(0, .ref (aY 0)), (1, .ref (aL 0))] → W p l e (headSpec wsX6_measure rmX6_measure).room s m args below meth c H locs 0 0 Q (F0 m 40 ls []) := by
      intro mY hex H locs hP hD hS ls hl
      rw [hex] at hM
      have hM := nm_at (y := mY) rfl hM
      refine lv_iconst (v := 0) hx hb dX6_measure_40 (by decide) ?_
      refine lv_istore_n (lv' := [(3, .int (0 : Int32)), (0, .ref (aY 0)), (1, .ref (aL 0))]) hx hb dX6_measure_41 rfl hl (by decide) rfl (fun ls hl => ?_)
      exact N42 (0 : Int32) mY hM _ _ hP hD hS _ (lv_sub hl [1, 2, 0] rfl)
    have I2 : ∀ (n : Nat) (v3 : Int32) (mY : Mem), itr (fun q => mX6_measure_s2 v2 mL q.1 q.2) n (v3, mY) = some ex2 → ∀ (H : Heap) (locs : List Loc), va_P (dC, dI) vwCl (wY ct aY mY ++ wL ct aL mL) H → va_D A (wY ct aY mY ++ wL ct aL mL) → va_S A s.heap H locs → ∀ ls : Array Slot, lv_has ls 5 [(0, .ref (aY 0)), (1, .ref (aL 0)), (2, .int v2), (3, .int v3)] → W p l e (headSpec wsX6_measure rmX6_measure).room s m args below meth c H locs 0 0 Q (F0 m 2 ls []) := by
      intro n
      induction n with
      | zero => intro v3 mY hit; exact (itr_zero hit).elim
      | succ n ih2 =>
        intro v3 mY hit H locs hP hD hS ls hl
        obtain ⟨o2, hM, hbk2, hex2⟩ := itr_succ hit
        replace hM : mX6_measure_s2 v2 mL v3 mY = some o2 := hM
        have N26 : ∀ (v3 : Int32) (t1 : Int32) (t2 : Int32) (mY : Mem), mX6_measure_j26 v2 v3 t1 t2 mY mL = some o2 → ∀ (H : Heap) (locs : List Loc), va_P (dC, dI) vwCl (wY ct aY mY ++ wL ct aL mL) H → va_D A (wY ct aY mY ++ wL ct aL mL) → va_S A s.heap H locs → ∀ ls : Array Slot, lv_has ls 5 [(0, .ref (aY 0)), (1, .ref (aL 0)), (2, .int v2), (3, .int v3)] → W p l e (headSpec wsX6_measure rmX6_measure).room s m args below meth c H locs 0 0 Q (F0 m 26 ls [.int t2, .int t1, .ref (aY 1)]) := by
          intro v3 t1 t2 mY hM H locs hP hD hS ls hl
          unfold mX6_measure_j26 at hM
          obtain ⟨hi, hM⟩ := gi_some hM
          refine st_i (wf := fun z => (wY ct aY z ++ wL ct aL mL)) (m1 := upi mY 1 t1.toNatClampNeg t2) hx hb hK hP hD hS 1 rfl hi dX6_measure_26 rfl (fun mY_8 emY_8 H locs hP hD hS => ?_)
          have hM := nm_at emY_8 hM
          refine lv_aload_n hx hb dX6_measure_27 rfl (lv_at hl 0 rfl) ?_
          refine va_get (D := (dC, dI)) (ci := 6) (v := .ref (aY 2)) (C := RX6) (T := TX6) (N := 2) hx hb hts iwX6_measure_X6 hown hK hP 0 rfl rfl 1 (by decide) (hts _ (List.mem_of_getElem? (i := 2) rfl)) (fun _ h9 => h9) rfl dX6_measure_28 ?_
          refine lv_iload_n hx hb dX6_measure_31 rfl (lv_at hl 3 rfl) ?_
          refine lv_iconst (v := 0) hx hb dX6_measure_32 (by decide) ?_
          obtain ⟨hi, hM⟩ := gi_some hM
          refine st_i (wf := fun z => (wY ct aY z ++ wL ct aL mL)) (m1 := upi mY_8 2 v3.toNatClampNeg (0 : Int32)) hx hb hK hP hD hS 2 rfl hi dX6_measure_33 rfl (fun mY_9 emY_9 H locs hP hD hS => ?_)
          have hM := nm_at emY_9 hM
          obtain ⟨x_10, ex_10⟩ : ∃ y : Int32, y = (v3 + (1 : Int32)) := ⟨_, rfl⟩
          have hM := nm_at ex_10 hM
          refine lv_iinc (v := x_10) (lv' := [(3, .int x_10), (0, .ref (aY 0)), (1, .ref (aL 0)), (2, .int v2)]) hx hb dX6_measure_34 hl (k := 3) rfl (by rw [ex_10]; rfl) (by decide) rfl (fun ls hl => ?_)
          refine lv_goto (tgt := 2) hx hb dX6_measure_37 (by decide) ?_
          have hR := som hM
          exact ih2 x_10 mY_9 (hbk2 _ hR) _ _ hP hD hS _ (lv_sub hl [1, 2, 3, 0] rfl)
        unfold mX6_measure_s2 at hM
        refine lv_iload_n hx hb dX6_measure_2 rfl (lv_at hl 3 rfl) ?_
        refine lv_iconst (v := 5) hx hb dX6_measure_3 (by decide) ?_
        refine lv_icmp_ge (tgt := 40) hx hb dX6_measure_4 (by decide) (fun hc_11 => ?_) (fun hc_11 => ?_)
        · have hM := it_p hc_11 hM
          have hR := som hM
          exact X2_0 mY (hex2 _ hR).symm _ _ hP hD hS _ (lv_sub hl [0, 1] rfl)
        · have hM := it_n hc_11 hM
          refine lv_aload_n hx hb dX6_measure_7 rfl (lv_at hl 0 rfl) ?_
          refine va_get (D := (dC, dI)) (ci := 6) (v := .ref (aY 1)) (C := RX6) (T := TX6) (N := 2) hx hb hts iwX6_measure_X6 hown hK hP 0 rfl rfl 0 (by decide) (hts _ (List.mem_of_getElem? (i := 1) rfl)) (fun _ h9 => h9) rfl dX6_measure_8 ?_
          refine lv_iload_n hx hb dX6_measure_11 rfl (lv_at hl 3 rfl) ?_
          refine lv_iload_n hx hb dX6_measure_12 rfl (lv_at hl 2 rfl) ?_
          refine lv_iload_n hx hb dX6_measure_13 rfl (lv_at hl 3 rfl) ?_
          refine lv_ishr hx hb dX6_measure_14 ?_
          refine lv_iconst (v := 1) hx hb dX6_measure_15 (by decide) ?_
          refine lv_iand hx hb dX6_measure_16 ?_
          refine lv_iconst (v := 1) hx hb dX6_measure_17 (by decide) ?_
          refine lv_icmp_ne (tgt := 25) hx hb dX6_measure_18 (by decide) (fun hc_12 => ?_) (fun hc_12 => ?_)
          · have hM := it_p hc_12 hM
            refine lv_iconst (v := -1) hx hb dX6_measure_25 (by decide) ?_
            exact N26 v3 v3 (-1 : Int32) mY hM _ _ hP hD hS _ (lv_sub hl [0, 1, 2, 3] rfl)
          · have hM := it_nn hc_12 hM
            refine lv_iconst (v := 0) hx hb dX6_measure_21 (by decide) ?_
            refine lv_goto (tgt := 26) hx hb dX6_measure_22 (by decide) ?_
            exact N26 v3 v3 (0 : Int32) mY hM _ _ hP hD hS _ (lv_sub hl [0, 1, 2, 3] rfl)
    exact I2 FU v3 mY hit2 _ _ hP hD hS _ hl
  refine lv_iconst (v := 0) hx hb dX6_measure_0 (by decide) ?_
  refine lv_istore_n (lv' := [(3, .int (0 : Int32)), (0, .ref (aY 0)), (1, .ref (aL 0)), (2, .int v2)]) hx hb dX6_measure_1 rfl hl (by decide) rfl (fun ls hl => ?_)
  exact N2 v2 (0 : Int32) mY hM _ _ hP hD hS _ (lv_sub hl [1, 2, 3, 0] rfl)
abbrev rmX6_firstTurn : Room := { frames := 0, cells := 0, slots := 0, locals := 0 }
theorem iwX6_firstTurn_X1 : ∀ w ∈ wsX10, w ∈ wsX6_firstTurn := fun _ h => List.mem_cons_of_mem _ (List.mem_append_left _ (List.mem_append_right _ (h)))
theorem iwX6_firstTurn_X6 : ∀ w ∈ wsX60, w ∈ wsX6_firstTurn := fun _ h => List.mem_cons_of_mem _ (List.mem_append_right _ (h))
set_option maxHeartbeats 4000000 in
set_option maxRecDepth 100000 in
theorem kX6_firstTurn (l : Launch) (dC : Nat → ClassId) (dI : Nat → Nat → Nat) (ct : Nat → ClassId) (aY : Nat → Nat) (aL : Nat → Nat) (sz : Nat) (mY : Mem) (mL : Mem) (v2 : Int32) (res : Int32) (hM : mX6_firstTurn mY mL v2 = some res) : Met l yX6_firstTurn wsX6_firstTurn rmX6_firstTurn (va_Pc [.ref (aY 0), .ref (aL 0), .int v2] (PB (dC, dI) ct E0 sz (wY ct aY mY ++ wL ct aL mL))) (Qi (dC, dI) ct (va_A (wY ct aY mY ++ wL ct aL mL) sz) res (wY ct aY mY ++ wL ct aL mL)) 0 0 (va_A (wY ct aY mY ++ wL ct aL mL) sz) := by
  refine Met.ofW (cc := cX6_firstTurn) (maxL := 5) (ret := (some .int)) (by decide) rfl ?_
  intro p e s m args below meth c s₁ B hml hv
  obtain ⟨hargs, hsz, hP, hK, hD0, hE⟩ := hv
  have hx := B.exec
  have hb := B.bytes
  have hr := B.returns
  have hts := atoms_spec (ws := wsX6_firstTurn) B.pre
  have hown : s.vm.findClass RX6 = some m.cls := findClass_of_methodNamed B.named
  have hlocks := B.notSynchronized
  clear B s₁
  subst hsz
  have hD := hD0.self (sz := s.heap.size)
  clear hD0
  generalize hAe : va_A (wY ct aY mY ++ wL ct aL mL) s.heap.size = A at hD hE ⊢
  have hA : ∀ q : Nat, s.heap.size ≤ q → A q := fun q h => by rw [← hAe]; exact Or.inr h
  clear hAe
  have hS : va_S A s.heap s.heap [] := va_S.rf
  refine cutQ (fun Q hQ => ?_)
  refine entryW (vs := [.ref (aY 0), .ref (aL 0), .int v2]) hargs (Nat.le_of_ble_eq_true rfl) (fun ls hl => ?_)
  replace hl : lv_has ls 5 [(0, .ref (aY 0)), (1, .ref (aL 0)), (2, .int v2)] := hl
  unfold mX6_firstTurn at hM
  have N2 : ∀ (v2 : Int32) (v3 : Int32), mX6_firstTurn_L2 v2 v3 mY mL = some res → ∀ (H : Heap) (locs : List Loc), va_P (dC, dI) vwCl (wY ct aY mY ++ wL ct aL mL) H → va_D A (wY ct aY mY ++ wL ct aL mL) → va_S A s.heap H locs → ∀ ls : Array Slot, lv_has ls 5 [(0, .ref (aY 0)), (1, .ref (aL 0)), (2, .int v2), (3, .int v3)] → W p l e (headSpec wsX6_firstTurn rmX6_firstTurn).room s m args below meth c H locs 0 0 Q (F0 m 2 ls []) := by
    intro v2 v3 hM H locs hP hD hS ls hl
    unfold mX6_firstTurn_L2 at hM
    obtain ⟨ex2, hit2, hM⟩ := bn_some hM
    have X2_0 : ∀ (v3 : Int32), ex2 = (Sum.inl v3) → ∀ (H : Heap) (locs : List Loc), va_P (dC, dI) vwCl (wY ct aY mY ++ wL ct aL mL) H → va_D A (wY ct aY mY ++ wL ct aL mL) → va_S A s.heap H locs → ∀ ls : Array Slot, lv_has ls 5 [(3, .int v3)] → W p l e (headSpec wsX6_firstTurn rmX6_firstTurn).room s m args below meth c H locs 0 0 Q (F0 m 80 ls []) := by
      intro v3 hex H locs hP hD hS ls hl
      have hM := el_l hex hM
      refine lv_iload_n hx hb dX6_firstTurn_80 rfl (lv_at hl 0 rfl) ?_
      have hR := som hM
      rw [hR] at hQ
      exact ret_i hQ hx hb hr hlocks hP hK hD hS dX6_firstTurn_81
    have X2_1 : ex2 = (Sum.inr ()) → ∀ (H : Heap) (locs : List Loc), va_P (dC, dI) vwCl (wY ct aY mY ++ wL ct aL mL) H → va_D A (wY ct aY mY ++ wL ct aL mL) → va_S A s.heap H locs → ∀ ls : Array Slot, lv_has ls 5 [] → W p l e (headSpec wsX6_firstTurn rmX6_firstTurn).room s m args below meth c H locs 0 0 Q (F0 m 88 ls []) := by
      intro hex H locs hP hD hS ls hl
      have hM := el_r hex hM
      refine lv_iconst (v := -1) hx hb dX6_firstTurn_88 (by decide) ?_
      have hR := som hM
      rw [hR] at hQ
      exact ret_i hQ hx hb hr hlocks hP hK hD hS dX6_firstTurn_89
    have I2 : ∀ (n : Nat) (v3 : Int32), itr (fun q => mX6_firstTurn_s2 v2 mY mL q) n v3 = some ex2 → ∀ (H : Heap) (locs : List Loc), va_P (dC, dI) vwCl (wY ct aY mY ++ wL ct aL mL) H → va_D A (wY ct aY mY ++ wL ct aL mL) → va_S A s.heap H locs → ∀ ls : Array Slot, lv_has ls 5 [(0, .ref (aY 0)), (1, .ref (aL 0)), (2, .int v2), (3, .int v3)] → W p l e (headSpec wsX6_firstTurn rmX6_firstTurn).room s m args below meth c H locs 0 0 Q (F0 m 2 ls []) := by
      intro n
      induction n with
      | zero => intro v3 hit; exact (itr_zero hit).elim
      | succ n ih2 =>
        intro v3 hit H locs hP hD hS ls hl
        obtain ⟨o2, hM, hbk2, hex2⟩ := itr_succ hit
        replace hM : mX6_firstTurn_s2 v2 mY mL v3 = some o2 := hM
        unfold mX6_firstTurn_s2 at hM
        refine lv_iload_n hx hb dX6_firstTurn_2 rfl (lv_at hl 3 rfl) ?_
        refine lv_aload_n hx hb dX6_firstTurn_3 rfl (lv_at hl 1 rfl) ?_
        refine va_get (D := (dC, dI)) (ci := 1) (v := .int (mL 0 13)) (C := RX1) (T := TX1) (N := 17) hx hb hts iwX6_firstTurn_X1 hown hK hP 3 rfl rfl 13 (by decide) (hts _ (List.mem_of_getElem? (i := 1) rfl)) (fun _ h9 => h9) rfl dX6_firstTurn_4 ?_
        refine lv_icmp_ge (tgt := 88) hx hb dX6_firstTurn_7 (by decide) (fun hc_1 => ?_) (fun hc_1 => ?_)
        · have hM := it_p hc_1 hM
          have hR := som hM
          exact X2_1 (hex2 _ hR).symm _ _ hP hD hS _ (lv_sub hl [] rfl)
        · have hM := it_n hc_1 hM
          refine lv_aload_n hx hb dX6_firstTurn_10 rfl (lv_at hl 1 rfl) ?_
          refine va_get (D := (dC, dI)) (ci := 1) (v := .ref (aL 8)) (C := RX1) (T := TX1) (N := 17) hx hb hts iwX6_firstTurn_X1 hown hK hP 3 rfl rfl 15 (by decide) (hts _ (List.mem_of_getElem? (i := 2) rfl)) (fun _ h9 => h9) rfl dX6_firstTurn_11 ?_
          refine lv_iload_n hx hb dX6_firstTurn_14 rfl (lv_at hl 3 rfl) ?_
          obtain ⟨hi, hM⟩ := gi_some hM
          refine va_iald hx hb hK hP 11 0 rfl rfl hi dX6_firstTurn_15 ?_
          refine lv_topi (fun x_2 ex_2 => ?_)
          have hM := nm_at ex_2 hM
          refine lv_istore (lv' := [(4, .int x_2), (0, .ref (aY 0)), (1, .ref (aL 0)), (2, .int v2), (3, .int v3)]) hx hb dX6_firstTurn_16 hl (by decide) rfl (fun ls hl => ?_)
          refine lv_aload_n hx hb dX6_firstTurn_18 rfl (lv_at hl 2 rfl) ?_
          refine va_get (D := (dC, dI)) (ci := 1) (v := .ref (aL 7)) (C := RX1) (T := TX1) (N := 17) hx hb hts iwX6_firstTurn_X1 hown hK hP 3 rfl rfl 14 (by decide) (hts _ (List.mem_of_getElem? (i := 3) rfl)) (fun _ h9 => h9) rfl dX6_firstTurn_19 ?_
          refine lv_iload_n hx hb dX6_firstTurn_22 rfl (lv_at hl 4 rfl) ?_
          obtain ⟨hi, hM⟩ := gi_some hM
          refine va_iald hx hb hK hP 10 0 rfl rfl hi dX6_firstTurn_23 ?_
          refine lv_iload_n hx hb dX6_firstTurn_24 rfl (lv_at hl 3 rfl) ?_
          refine lv_icmp_ne (tgt := 82) hx hb dX6_firstTurn_25 (by decide) (fun hc_3 => ?_) (fun hc_3 => ?_)
          · have hM := it_p hc_3 hM
            obtain ⟨x_4, ex_4⟩ : ∃ y : Int32, y = (v3 + (1 : Int32)) := ⟨_, rfl⟩
            have hM := nm_at ex_4 hM
            refine lv_iinc (v := x_4) (lv' := [(3, .int x_4), (4, .int x_2), (0, .ref (aY 0)), (1, .ref (aL 0)), (2, .int v2)]) hx hb dX6_firstTurn_82 hl (k := 4) rfl (by rw [ex_4]; rfl) (by decide) rfl (fun ls hl => ?_)
            refine lv_goto (tgt := 2) hx hb dX6_firstTurn_85 (by decide) ?_
            have hR := som hM
            exact ih2 x_4 (hbk2 _ hR) _ _ hP hD hS _ (lv_sub hl [2, 3, 4, 0] rfl)
          · have hM := it_nn hc_3 hM
            refine lv_aload_n hx hb dX6_firstTurn_28 rfl (lv_at hl 1 rfl) ?_
            refine va_get (D := (dC, dI)) (ci := 6) (v := .ref (aY 1)) (C := RX6) (T := TX6) (N := 2) hx hb hts iwX6_firstTurn_X6 hown hK hP 0 rfl rfl 0 (by decide) (hts _ (List.mem_of_getElem? (i := 4) rfl)) (fun _ h9 => h9) rfl dX6_firstTurn_29 ?_
            refine lv_iload hx hb dX6_firstTurn_32 (lv_at hl 0 rfl) ?_
            obtain ⟨hi, hM⟩ := gi_some hM
            refine va_iald hx hb hK hP 1 0 rfl rfl hi dX6_firstTurn_34 ?_
            refine lv_iconst (v := -1) hx hb dX6_firstTurn_35 (by decide) ?_
            refine lv_icmp_eq (tgt := 82) hx hb dX6_firstTurn_36 (by decide) (fun hc_5 => ?_) (fun hc_5 => ?_)
            · have hM := it_p hc_5 hM
              obtain ⟨x_6, ex_6⟩ : ∃ y : Int32, y = (v3 + (1 : Int32)) := ⟨_, rfl⟩
              have hM := nm_at ex_6 hM
              refine lv_iinc (v := x_6) (lv' := [(3, .int x_6), (4, .int x_2), (0, .ref (aY 0)), (1, .ref (aL 0)), (2, .int v2)]) hx hb dX6_firstTurn_82 hl (k := 4) rfl (by rw [ex_6]; rfl) (by decide) rfl (fun ls hl => ?_)
              refine lv_goto (tgt := 2) hx hb dX6_firstTurn_85 (by decide) ?_
              have hR := som hM
              exact ih2 x_6 (hbk2 _ hR) _ _ hP hD hS _ (lv_sub hl [2, 3, 4, 0] rfl)
            · have hM := it_n hc_5 hM
              refine lv_aload_n hx hb dX6_firstTurn_39 rfl (lv_at hl 1 rfl) ?_
              refine va_get (D := (dC, dI)) (ci := 6) (v := .ref (aY 1)) (C := RX6) (T := TX6) (N := 2) hx hb hts iwX6_firstTurn_X6 hown hK hP 0 rfl rfl 0 (by decide) (hts _ (List.mem_of_getElem? (i := 4) rfl)) (fun _ h9 => h9) rfl dX6_firstTurn_40 ?_
              refine lv_iload hx hb dX6_firstTurn_43 (lv_at hl 0 rfl) ?_
              obtain ⟨hi, hM⟩ := gi_some hM
              refine va_iald hx hb hK hP 1 0 rfl rfl hi dX6_firstTurn_45 ?_
              refine lv_aload_n hx hb dX6_firstTurn_46 rfl (lv_at hl 2 rfl) ?_
              refine va_get (D := (dC, dI)) (ci := 1) (v := .ref (aL 9)) (C := RX1) (T := TX1) (N := 17) hx hb hts iwX6_firstTurn_X1 hown hK hP 3 rfl rfl 16 (by decide) (hts _ (List.mem_of_getElem? (i := 5) rfl)) (fun _ h9 => h9) rfl dX6_firstTurn_47 ?_
              refine lv_iload_n hx hb dX6_firstTurn_50 rfl (lv_at hl 4 rfl) ?_
              obtain ⟨hi, hM⟩ := gi_some hM
              refine va_iald hx hb hK hP 12 0 rfl rfl hi dX6_firstTurn_51 ?_
              refine lv_iadd hx hb dX6_firstTurn_52 ?_
              refine lv_aload_n hx hb dX6_firstTurn_53 rfl (lv_at hl 1 rfl) ?_
              refine va_get (D := (dC, dI)) (ci := 6) (v := .ref (aY 1)) (C := RX6) (T := TX6) (N := 2) hx hb hts iwX6_firstTurn_X6 hown hK hP 0 rfl rfl 0 (by decide) (hts _ (List.mem_of_getElem? (i := 4) rfl)) (fun _ h9 => h9) rfl dX6_firstTurn_54 ?_
              refine lv_iload_n hx hb dX6_firstTurn_57 rfl (lv_at hl 3 rfl) ?_
              obtain ⟨hi, hM⟩ := gi_some hM
              refine va_iald hx hb hK hP 1 0 rfl rfl hi dX6_firstTurn_58 ?_
              refine lv_icmp_ne (tgt := 82) hx hb dX6_firstTurn_59 (by decide) (fun hc_7 => ?_) (fun hc_7 => ?_)
              · have hM := it_p hc_7 hM
                obtain ⟨x_8, ex_8⟩ : ∃ y : Int32, y = (v3 + (1 : Int32)) := ⟨_, rfl⟩
                have hM := nm_at ex_8 hM
                refine lv_iinc (v := x_8) (lv' := [(3, .int x_8), (4, .int x_2), (0, .ref (aY 0)), (1, .ref (aL 0)), (2, .int v2)]) hx hb dX6_firstTurn_82 hl (k := 4) rfl (by rw [ex_8]; rfl) (by decide) rfl (fun ls hl => ?_)
                refine lv_goto (tgt := 2) hx hb dX6_firstTurn_85 (by decide) ?_
                have hR := som hM
                exact ih2 x_8 (hbk2 _ hR) _ _ hP hD hS _ (lv_sub hl [2, 3, 4, 0] rfl)
              · have hM := it_nn hc_7 hM
                refine lv_aload_n hx hb dX6_firstTurn_62 rfl (lv_at hl 1 rfl) ?_
                refine va_get (D := (dC, dI)) (ci := 6) (v := .ref (aY 2)) (C := RX6) (T := TX6) (N := 2) hx hb hts iwX6_firstTurn_X6 hown hK hP 0 rfl rfl 1 (by decide) (hts _ (List.mem_of_getElem? (i := 6) rfl)) (fun _ h9 => h9) rfl dX6_firstTurn_63 ?_
                refine lv_iload hx hb dX6_firstTurn_66 (lv_at hl 0 rfl) ?_
                obtain ⟨hi, hM⟩ := gi_some hM
                refine va_iald hx hb hK hP 2 0 rfl rfl hi dX6_firstTurn_68 ?_
                refine lv_iconst (v := 1) hx hb dX6_firstTurn_69 (by decide) ?_
                refine lv_iadd hx hb dX6_firstTurn_70 ?_
                refine lv_aload_n hx hb dX6_firstTurn_71 rfl (lv_at hl 1 rfl) ?_
                refine va_get (D := (dC, dI)) (ci := 6) (v := .ref (aY 2)) (C := RX6) (T := TX6) (N := 2) hx hb hts iwX6_firstTurn_X6 hown hK hP 0 rfl rfl 1 (by decide) (hts _ (List.mem_of_getElem? (i := 6) rfl)) (fun _ h9 => h9) rfl dX6_firstTurn_72 ?_
                refine lv_iload_n hx hb dX6_firstTurn_75 rfl (lv_at hl 3 rfl) ?_
                obtain ⟨hi, hM⟩ := gi_some hM
                refine va_iald hx hb hK hP 2 0 rfl rfl hi dX6_firstTurn_76 ?_
                refine lv_icmp_ne (tgt := 82) hx hb dX6_firstTurn_77 (by decide) (fun hc_9 => ?_) (fun hc_9 => ?_)
                · have hM := it_p hc_9 hM
                  obtain ⟨x_10, ex_10⟩ : ∃ y : Int32, y = (v3 + (1 : Int32)) := ⟨_, rfl⟩
                  have hM := nm_at ex_10 hM
                  refine lv_iinc (v := x_10) (lv' := [(3, .int x_10), (4, .int x_2), (0, .ref (aY 0)), (1, .ref (aL 0)), (2, .int v2)]) hx hb dX6_firstTurn_82 hl (k := 4) rfl (by rw [ex_10]; rfl) (by decide) rfl (fun ls hl => ?_)
                  refine lv_goto (tgt := 2) hx hb dX6_firstTurn_85 (by decide) ?_
                  have hR := som hM
                  exact ih2 x_10 (hbk2 _ hR) _ _ hP hD hS _ (lv_sub hl [2, 3, 4, 0] rfl)
                · have hM := it_nn hc_9 hM
                  have hR := som hM
                  exact X2_0 v3 (hex2 _ hR).symm _ _ hP hD hS _ (lv_sub hl [4] rfl)
    exact I2 FU v3 hit2 _ _ hP hD hS _ hl
  refine lv_iconst (v := 0) hx hb dX6_firstTurn_0 (by decide) ?_
  refine lv_istore_n (lv' := [(3, .int (0 : Int32)), (0, .ref (aY 0)), (1, .ref (aL 0)), (2, .int v2)]) hx hb dX6_firstTurn_1 rfl hl (by decide) rfl (fun ls hl => ?_)
  exact N2 v2 (0 : Int32) hM _ _ hP hD hS _ (lv_sub hl [1, 2, 3, 0] rfl)
abbrev rmX6_turnAt : Room := { frames := 1, cells := 0, slots := 0, locals := 24 }
theorem iwX6_turnAt_X1 : ∀ w ∈ wsX10, w ∈ wsX6_turnAt := fun _ h => List.mem_cons_of_mem _ (List.mem_append_right _ (h))
theorem iwX6_turnAt_X6 : ∀ w ∈ wsX60, w ∈ wsX6_turnAt := fun _ h => List.mem_cons_of_mem _ (List.mem_append_left _ (List.mem_append_right _ (h)))
set_option maxHeartbeats 4000000 in
set_option maxRecDepth 100000 in
theorem kX6_turnAt (l : Launch) (dC : Nat → ClassId) (dI : Nat → Nat → Nat) (ct : Nat → ClassId) (aY : Nat → Nat) (aL : Nat → Nat) (sz : Nat) (mY : Mem) (mL : Mem) (v2 : Int32) (v3 : Int32) (res : Int32) (hM : mX6_turnAt mY mL v2 v3 = some res) : Met l yX6_turnAt wsX6_turnAt rmX6_turnAt (va_Pc [.ref (aY 0), .ref (aL 0), .int v2, .int v3] (PB (dC, dI) ct E0 sz (wY ct aY mY ++ wL ct aL mL))) (Qi (dC, dI) ct (va_A (wY ct aY mY ++ wL ct aL mL) sz) res (wY ct aY mY ++ wL ct aL mL)) 0 0 (va_A (wY ct aY mY ++ wL ct aL mL) sz) := by
  refine Met.ofW (cc := cX6_turnAt) (maxL := 6) (ret := (some .int)) (by decide) rfl ?_
  intro p e s m args below meth c s₁ B hml hv
  obtain ⟨hargs, hsz, hP, hK, hD0, hE⟩ := hv
  have hx := B.exec
  have hb := B.bytes
  have hr := B.returns
  have hts := atoms_spec (ws := wsX6_turnAt) B.pre
  have hown : s.vm.findClass RX6 = some m.cls := findClass_of_methodNamed B.named
  have hlocks := B.notSynchronized
  clear B s₁
  subst hsz
  have hD := hD0.self (sz := s.heap.size)
  clear hD0
  generalize hAe : va_A (wY ct aY mY ++ wL ct aL mL) s.heap.size = A at hD hE ⊢
  have hA : ∀ q : Nat, s.heap.size ≤ q → A q := fun q h => by rw [← hAe]; exact Or.inr h
  clear hAe
  have hS : va_S A s.heap s.heap [] := va_S.rf
  refine cutQ (fun Q hQ => ?_)
  refine entryW (vs := [.ref (aY 0), .ref (aL 0), .int v2, .int v3]) hargs (Nat.le_of_ble_eq_true rfl) (fun ls hl => ?_)
  replace hl : lv_has ls 6 [(0, .ref (aY 0)), (1, .ref (aL 0)), (2, .int v2), (3, .int v3)] := hl
  unfold mX6_turnAt at hM
  have N33 : ∀ (v3 : Int32) (v4 : Int32) (v5 : Int32), mX6_turnAt_L33 v3 v4 v5 mY mL = some res → ∀ (H : Heap) (locs : List Loc), va_P (dC, dI) vwCl (wY ct aY mY ++ wL ct aL mL) H → va_D A (wY ct aY mY ++ wL ct aL mL) → va_S A s.heap H locs → ∀ ls : Array Slot, lv_has ls 6 [(0, .ref (aY 0)), (1, .ref (aL 0)), (3, .int v3), (4, .int v4), (5, .int v5)] → W p l e (headSpec wsX6_turnAt rmX6_turnAt).room s m args below meth c H locs 0 0 Q (F0 m 33 ls []) := by
    intro v3 v4 v5 hM H locs hP hD hS ls hl
    unfold mX6_turnAt_L33 at hM
    obtain ⟨ex33, hit33, hM⟩ := bn_some hM
    have X33_0 : ∀ (v4 : Int32), ex33 = v4 → ∀ (H : Heap) (locs : List Loc), va_P (dC, dI) vwCl (wY ct aY mY ++ wL ct aL mL) H → va_D A (wY ct aY mY ++ wL ct aL mL) → va_S A s.heap H locs → ∀ ls : Array Slot, lv_has ls 6 [(4, .int v4)] → W p l e (headSpec wsX6_turnAt rmX6_turnAt).room s m args below meth c H locs 0 0 Q (F0 m 65 ls []) := by
      intro v4 hex H locs hP hD hS ls hl
      rw [hex] at hM
      have hM := nm_at (y := v4) rfl hM
      refine lv_iload hx hb dX6_turnAt_65 (lv_at hl 0 rfl) ?_
      have hR := som hM
      rw [hR] at hQ
      exact ret_i hQ hx hb hr hlocks hP hK hD hS dX6_turnAt_67
    have I33 : ∀ (n : Nat) (v4 : Int32) (v5 : Int32), itr (fun q => mX6_turnAt_s33 v3 mY mL q.1 q.2) n (v4, v5) = some ex33 → ∀ (H : Heap) (locs : List Loc), va_P (dC, dI) vwCl (wY ct aY mY ++ wL ct aL mL) H → va_D A (wY ct aY mY ++ wL ct aL mL) → va_S A s.heap H locs → ∀ ls : Array Slot, lv_has ls 6 [(0, .ref (aY 0)), (1, .ref (aL 0)), (3, .int v3), (4, .int v4), (5, .int v5)] → W p l e (headSpec wsX6_turnAt rmX6_turnAt).room s m args below meth c H locs 0 0 Q (F0 m 33 ls []) := by
      intro n
      induction n with
      | zero => intro v4 v5 hit; exact (itr_zero hit).elim
      | succ n ih33 =>
        intro v4 v5 hit H locs hP hD hS ls hl
        obtain ⟨o33, hM, hbk33, hex33⟩ := itr_succ hit
        replace hM : mX6_turnAt_s33 v3 mY mL v4 v5 = some o33 := hM
        unfold mX6_turnAt_s33 at hM
        refine lv_iload hx hb dX6_turnAt_33 (lv_at hl 4 rfl) ?_
        refine lv_iload_n hx hb dX6_turnAt_35 rfl (lv_at hl 2 rfl) ?_
        refine lv_icmp_ge (tgt := 65) hx hb dX6_turnAt_36 (by decide) (fun hc_1 => ?_) (fun hc_1 => ?_)
        · have hM := it_p hc_1 hM
          have hR := som hM
          exact X33_0 v4 (hex33 _ hR).symm _ _ hP hD hS _ (lv_sub hl [3] rfl)
        · have hM := it_n hc_1 hM
          refine lv_iload hx hb dX6_turnAt_39 (lv_at hl 3 rfl) ?_
          refine lv_iconst (v := -1) hx hb dX6_turnAt_41 (by decide) ?_
          refine lv_icmp_eq (tgt := 65) hx hb dX6_turnAt_42 (by decide) (fun hc_2 => ?_) (fun hc_2 => ?_)
          · have hM := it_p hc_2 hM
            have hR := som hM
            exact X33_0 v4 (hex33 _ hR).symm _ _ hP hD hS _ (lv_sub hl [3] rfl)
          · have hM := it_n hc_2 hM
            refine lv_aload_n hx hb dX6_turnAt_45 rfl (lv_at hl 0 rfl) ?_
            refine lv_aload_n hx hb dX6_turnAt_46 rfl (lv_at hl 1 rfl) ?_
            refine lv_aload_n hx hb dX6_turnAt_47 rfl (lv_at hl 1 rfl) ?_
            refine va_get (D := (dC, dI)) (ci := 1) (v := .ref (aL 8)) (C := RX1) (T := TX1) (N := 17) hx hb hts iwX6_turnAt_X1 hown hK hP 3 rfl rfl 15 (by decide) (hts _ (List.mem_of_getElem? (i := 3) rfl)) (fun _ h9 => h9) rfl dX6_turnAt_48 ?_
            refine lv_iload hx hb dX6_turnAt_51 (lv_at hl 3 rfl) ?_
            obtain ⟨hi, hM⟩ := gi_some hM
            refine va_iald hx hb hK hP 11 0 rfl rfl hi dX6_turnAt_53 ?_
            obtain ⟨x_3, hr_4, hM⟩ := bn_some hM
            refine gv_i (r0 := x_3) (wn := (wY ct aY mY ++ wL ct aL mL)) (va_runV (As := [.ref (aL 0), .int (mL 8 v4.toNatClampNeg)]) (rest := []) ⟨hx, hb, hml, hown, hts⟩ (kX6_firstTurn l dC dI ct aY aL _ mY mL (mL 8 v4.toNatClampNeg) _ hr_4) (cwV 2 hts gX6_turnAt_X6_firstTurn rfl rfl rfl hvX6_firstTurn ⟨Nat.le_of_ble_eq_true rfl, Nat.le_of_ble_eq_true rfl⟩) (preV_of E0_ok hK hP hD (is := [0, 1, 2, 3, 4, 5, 6, 7, 8, 9, 10, 11, 12]) rfl rfl rfl (ci := 6) rfl 0 rfl e_0) rfl rfl hl.1 rfl (lv_room (Nat.le_of_ble_eq_true rfl)) dX6_turnAt_54 ⟨Nat.le_of_ble_eq_true rfl, Nat.le_of_ble_eq_true rfl⟩) hP hD hS hA [0, 1, 2, 3, 4, 5, 6, 7, 8, 9, 10, 11, 12] [] [0, 1, 2, 3, 4, 5, 6, 7, 8, 9, 10, 11, 12] rfl rfl rfl (by decide) rfl rfl (fun H locs hP hD hS => ?_)
            refine lv_istore (lv' := [(4, .int x_3), (0, .ref (aY 0)), (1, .ref (aL 0)), (3, .int v3), (5, .int v5)]) hx hb dX6_turnAt_57 hl (by decide) rfl (fun ls hl => ?_)
            obtain ⟨x_6, ex_6⟩ : ∃ y : Int32, y = (v5 + (1 : Int32)) := ⟨_, rfl⟩
            have hM := nm_at ex_6 hM
            refine lv_iinc (v := x_6) (lv' := [(5, .int x_6), (4, .int x_3), (0, .ref (aY 0)), (1, .ref (aL 0)), (3, .int v3)]) hx hb dX6_turnAt_59 hl (k := 4) rfl (by rw [ex_6]; rfl) (by decide) rfl (fun ls hl => ?_)
            refine lv_goto (tgt := 33) hx hb dX6_turnAt_62 (by decide) ?_
            have hR := som hM
            exact ih33 x_3 x_6 (hbk33 _ hR) _ _ hP hD hS _ (lv_sub hl [2, 3, 4, 1, 0] rfl)
    exact I33 FU v4 v5 hit33 _ _ hP hD hS _ hl
  refine lv_aload_n hx hb dX6_turnAt_0 rfl (lv_at hl 0 rfl) ?_
  refine va_get (D := (dC, dI)) (ci := 6) (v := .ref (aY 1)) (C := RX6) (T := TX6) (N := 2) hx hb hts iwX6_turnAt_X6 hown hK hP 0 rfl rfl 0 (by decide) (hts _ (List.mem_of_getElem? (i := 1) rfl)) (fun _ h9 => h9) rfl dX6_turnAt_1 ?_
  refine lv_iload_n hx hb dX6_turnAt_4 rfl (lv_at hl 2 rfl) ?_
  obtain ⟨hi, hM⟩ := gi_some hM
  refine va_iald hx hb hK hP 1 0 rfl rfl hi dX6_turnAt_5 ?_
  refine lv_iconst (v := -1) hx hb dX6_turnAt_6 (by decide) ?_
  refine lv_icmp_eq (tgt := 20) hx hb dX6_turnAt_7 (by decide) (fun hc_7 => ?_) (fun hc_7 => ?_)
  · have hM := it_p hc_7 hM
    refine lv_iconst (v := -1) hx hb dX6_turnAt_20 (by decide) ?_
    have hR := som hM
    rw [hR] at hQ
    exact ret_i hQ hx hb hr hlocks hP hK hD hS dX6_turnAt_21
  · have hM := it_n hc_7 hM
    refine lv_iload_n hx hb dX6_turnAt_10 rfl (lv_at hl 3 rfl) ?_
    refine lv_aload_n hx hb dX6_turnAt_11 rfl (lv_at hl 0 rfl) ?_
    refine va_get (D := (dC, dI)) (ci := 6) (v := .ref (aY 2)) (C := RX6) (T := TX6) (N := 2) hx hb hts iwX6_turnAt_X6 hown hK hP 0 rfl rfl 1 (by decide) (hts _ (List.mem_of_getElem? (i := 2) rfl)) (fun _ h9 => h9) rfl dX6_turnAt_12 ?_
    refine lv_iload_n hx hb dX6_turnAt_15 rfl (lv_at hl 2 rfl) ?_
    obtain ⟨hi, hM⟩ := gi_some hM
    refine va_iald hx hb hK hP 2 0 rfl rfl hi dX6_turnAt_16 ?_
    refine lv_icmp_lt (tgt := 22) hx hb dX6_turnAt_17 (by decide) (fun hc_8 => ?_) (fun hc_8 => ?_)
    · have hM := it_p hc_8 hM
      refine lv_aload_n hx hb dX6_turnAt_22 rfl (lv_at hl 0 rfl) ?_
      refine lv_aload_n hx hb dX6_turnAt_23 rfl (lv_at hl 1 rfl) ?_
      refine lv_iload_n hx hb dX6_turnAt_24 rfl (lv_at hl 2 rfl) ?_
      obtain ⟨x_9, hr_10, hM⟩ := bn_some hM
      refine gv_i (r0 := x_9) (wn := (wY ct aY mY ++ wL ct aL mL)) (va_runV (As := [.ref (aL 0), .int v2]) (rest := []) ⟨hx, hb, hml, hown, hts⟩ (kX6_firstTurn l dC dI ct aY aL _ mY mL v2 _ hr_10) (cwV 2 hts gX6_turnAt_X6_firstTurn rfl rfl rfl hvX6_firstTurn ⟨Nat.le_of_ble_eq_true rfl, Nat.le_of_ble_eq_true rfl⟩) (preV_of E0_ok hK hP hD (is := [0, 1, 2, 3, 4, 5, 6, 7, 8, 9, 10, 11, 12]) rfl rfl rfl (ci := 6) rfl 0 rfl e_0) rfl rfl hl.1 rfl (lv_room (Nat.le_of_ble_eq_true rfl)) dX6_turnAt_25 ⟨Nat.le_of_ble_eq_true rfl, Nat.le_of_ble_eq_true rfl⟩) hP hD hS hA [0, 1, 2, 3, 4, 5, 6, 7, 8, 9, 10, 11, 12] [] [0, 1, 2, 3, 4, 5, 6, 7, 8, 9, 10, 11, 12] rfl rfl rfl (by decide) rfl rfl (fun H locs hP hD hS => ?_)
      refine lv_istore (lv' := [(4, .int x_9), (0, .ref (aY 0)), (1, .ref (aL 0)), (2, .int v2), (3, .int v3)]) hx hb dX6_turnAt_28 hl (by decide) rfl (fun ls hl => ?_)
      refine lv_iconst (v := 0) hx hb dX6_turnAt_30 (by decide) ?_
      refine lv_istore (lv' := [(5, .int (0 : Int32)), (4, .int x_9), (0, .ref (aY 0)), (1, .ref (aL 0)), (2, .int v2), (3, .int v3)]) hx hb dX6_turnAt_31 hl (by decide) rfl (fun ls hl => ?_)
      exact N33 v3 x_9 (0 : Int32) hM _ _ hP hD hS _ (lv_sub hl [2, 3, 5, 1, 0] rfl)
    · have hM := it_n hc_8 hM
      refine lv_iconst (v := -1) hx hb dX6_turnAt_20 (by decide) ?_
      have hR := som hM
      rw [hR] at hQ
      exact ret_i hQ hx hb hr hlocks hP hK hD hS dX6_turnAt_21
abbrev rmX6_hasWayWithin : Room := { frames := 0, cells := 0, slots := 0, locals := 0 }
theorem iwX6_hasWayWithin_X6 : ∀ w ∈ wsX60, w ∈ wsX6_hasWayWithin := fun _ h => List.mem_cons_of_mem _ (List.mem_append_right _ (h))
set_option maxHeartbeats 4000000 in
set_option maxRecDepth 100000 in
theorem kX6_hasWayWithin (l : Launch) (dC : Nat → ClassId) (dI : Nat → Nat → Nat) (ct : Nat → ClassId) (aY : Nat → Nat) (sz : Nat) (mY : Mem) (v1 : Int32) (v2 : Int32) (res : Int32) (hM : mX6_hasWayWithin mY v1 v2 = some res) : Met l yX6_hasWayWithin wsX6_hasWayWithin rmX6_hasWayWithin (va_Pc [.ref (aY 0), .int v1, .int v2] (PB (dC, dI) ct E0 sz (wY ct aY mY))) (Qi (dC, dI) ct (va_A (wY ct aY mY) sz) res (wY ct aY mY)) 0 0 (va_A (wY ct aY mY) sz) := by
  refine Met.ofW (cc := cX6_hasWayWithin) (maxL := 4) (ret := (some .boolean)) (by decide) rfl ?_
  intro p e s m args below meth c s₁ B hml hv
  obtain ⟨hargs, hsz, hP, hK, hD0, hE⟩ := hv
  have hx := B.exec
  have hb := B.bytes
  have hr := B.returns
  have hts := atoms_spec (ws := wsX6_hasWayWithin) B.pre
  have hown : s.vm.findClass RX6 = some m.cls := findClass_of_methodNamed B.named
  have hlocks := B.notSynchronized
  clear B s₁
  subst hsz
  have hD := hD0.self (sz := s.heap.size)
  clear hD0
  generalize hAe : va_A (wY ct aY mY) s.heap.size = A at hD hE ⊢
  have hA : ∀ q : Nat, s.heap.size ≤ q → A q := fun q h => by rw [← hAe]; exact Or.inr h
  clear hAe
  have hS : va_S A s.heap s.heap [] := va_S.rf
  refine cutQ (fun Q hQ => ?_)
  refine entryW (vs := [.ref (aY 0), .int v1, .int v2]) hargs (Nat.le_of_ble_eq_true rfl) (fun ls hl => ?_)
  replace hl : lv_has ls 4 [(0, .ref (aY 0)), (1, .int v1), (2, .int v2)] := hl
  unfold mX6_hasWayWithin at hM
  have N2 : ∀ (v1 : Int32) (v2 : Int32) (v3 : Int32), mX6_hasWayWithin_L2 v1 v2 v3 mY = some res → ∀ (H : Heap) (locs : List Loc), va_P (dC, dI) vwCl (wY ct aY mY) H → va_D A (wY ct aY mY) → va_S A s.heap H locs → ∀ ls : Array Slot, lv_has ls 4 [(0, .ref (aY 0)), (1, .int v1), (2, .int v2), (3, .int v3)] → W p l e (headSpec wsX6_hasWayWithin rmX6_hasWayWithin).room s m args below meth c H locs 0 0 Q (F0 m 2 ls []) := by
    intro v1 v2 v3 hM H locs hP hD hS ls hl
    unfold mX6_hasWayWithin_L2 at hM
    obtain ⟨ex2, hit2, hM⟩ := bn_some hM
    have X2_0 : ex2 = (Sum.inl ()) → ∀ (H : Heap) (locs : List Loc), va_P (dC, dI) vwCl (wY ct aY mY) H → va_D A (wY ct aY mY) → va_S A s.heap H locs → ∀ ls : Array Slot, lv_has ls 4 [] → W p l e (headSpec wsX6_hasWayWithin rmX6_hasWayWithin).room s m args below meth c H locs 0 0 Q (F0 m 35 ls []) := by
      intro hex H locs hP hD hS ls hl
      have hM := el_l hex hM
      refine lv_iconst (v := 1) hx hb dX6_hasWayWithin_35 (by decide) ?_
      have hR := som hM
      rw [hR] at hQ
      exact ret_z hQ hx hb hr hlocks rfl hP hK hD hS dX6_hasWayWithin_36
    have X2_1 : ex2 = (Sum.inr ()) → ∀ (H : Heap) (locs : List Loc), va_P (dC, dI) vwCl (wY ct aY mY) H → va_D A (wY ct aY mY) → va_S A s.heap H locs → ∀ ls : Array Slot, lv_has ls 4 [] → W p l e (headSpec wsX6_hasWayWithin rmX6_hasWayWithin).room s m args below meth c H locs 0 0 Q (F0 m 43 ls []) := by
      intro hex H locs hP hD hS ls hl
      have hM := el_r hex hM
      refine lv_iconst (v := 0) hx hb dX6_hasWayWithin_43 (by decide) ?_
      have hR := som hM
      rw [hR] at hQ
      exact ret_z hQ hx hb hr hlocks rfl hP hK hD hS dX6_hasWayWithin_44
    have I2 : ∀ (n : Nat) (v3 : Int32), itr (fun q => mX6_hasWayWithin_s2 v1 v2 mY q) n v3 = some ex2 → ∀ (H : Heap) (locs : List Loc), va_P (dC, dI) vwCl (wY ct aY mY) H → va_D A (wY ct aY mY) → va_S A s.heap H locs → ∀ ls : Array Slot, lv_has ls 4 [(0, .ref (aY 0)), (1, .int v1), (2, .int v2), (3, .int v3)] → W p l e (headSpec wsX6_hasWayWithin rmX6_hasWayWithin).room s m args below meth c H locs 0 0 Q (F0 m 2 ls []) := by
      intro n
      induction n with
      | zero => intro v3 hit; exact (itr_zero hit).elim
      | succ n ih2 =>
        intro v3 hit H locs hP hD hS ls hl
        obtain ⟨o2, hM, hbk2, hex2⟩ := itr_succ hit
        replace hM : mX6_hasWayWithin_s2 v1 v2 mY v3 = some o2 := hM
        unfold mX6_hasWayWithin_s2 at hM
        refine lv_iload_n hx hb dX6_hasWayWithin_2 rfl (lv_at hl 3 rfl) ?_
        refine lv_iconst (v := 5) hx hb dX6_hasWayWithin_3 (by decide) ?_
        refine lv_icmp_ge (tgt := 43) hx hb dX6_hasWayWithin_4 (by decide) (fun hc_1 => ?_) (fun hc_1 => ?_)
        · have hM := it_p hc_1 hM
          have hR := som hM
          exact X2_1 (hex2 _ hR).symm _ _ hP hD hS _ (lv_sub hl [] rfl)
        · have hM := it_n hc_1 hM
          refine lv_iload_n hx hb dX6_hasWayWithin_7 rfl (lv_at hl 1 rfl) ?_
          refine lv_iload_n hx hb dX6_hasWayWithin_8 rfl (lv_at hl 3 rfl) ?_
          refine lv_ishr hx hb dX6_hasWayWithin_9 ?_
          refine lv_iconst (v := 1) hx hb dX6_hasWayWithin_10 (by decide) ?_
          refine lv_iand hx hb dX6_hasWayWithin_11 ?_
          refine lv_if_ne (tgt := 37) hx hb dX6_hasWayWithin_12 (by decide) (fun hc_2 => ?_) (fun hc_2 => ?_)
          · have hM := it_p hc_2 hM
            obtain ⟨x_3, ex_3⟩ : ∃ y : Int32, y = (v3 + (1 : Int32)) := ⟨_, rfl⟩
            have hM := nm_at ex_3 hM
            refine lv_iinc (v := x_3) (lv' := [(3, .int x_3), (0, .ref (aY 0)), (1, .int v1), (2, .int v2)]) hx hb dX6_hasWayWithin_37 hl (k := 3) rfl (by rw [ex_3]; rfl) (by decide) rfl (fun ls hl => ?_)
            refine lv_goto (tgt := 2) hx hb dX6_hasWayWithin_40 (by decide) ?_
            have hR := som hM
            exact ih2 x_3 (hbk2 _ hR) _ _ hP hD hS _ (lv_sub hl [1, 2, 3, 0] rfl)
          · have hM := it_nn hc_2 hM
            refine lv_aload_n hx hb dX6_hasWayWithin_15 rfl (lv_at hl 0 rfl) ?_
            refine va_get (D := (dC, dI)) (ci := 6) (v := .ref (aY 1)) (C := RX6) (T := TX6) (N := 2) hx hb hts iwX6_hasWayWithin_X6 hown hK hP 0 rfl rfl 0 (by decide) (hts _ (List.mem_of_getElem? (i := 1) rfl)) (fun _ h9 => h9) rfl dX6_hasWayWithin_16 ?_
            refine lv_iload_n hx hb dX6_hasWayWithin_19 rfl (lv_at hl 3 rfl) ?_
            obtain ⟨hi, hM⟩ := gi_some hM
            refine va_iald hx hb hK hP 1 0 rfl rfl hi dX6_hasWayWithin_20 ?_
            refine lv_iconst (v := -1) hx hb dX6_hasWayWithin_21 (by decide) ?_
            refine lv_icmp_eq (tgt := 37) hx hb dX6_hasWayWithin_22 (by decide) (fun hc_4 => ?_) (fun hc_4 => ?_)
            · have hM := it_p hc_4 hM
              obtain ⟨x_5, ex_5⟩ : ∃ y : Int32, y = (v3 + (1 : Int32)) := ⟨_, rfl⟩
              have hM := nm_at ex_5 hM
              refine lv_iinc (v := x_5) (lv' := [(3, .int x_5), (0, .ref (aY 0)), (1, .int v1), (2, .int v2)]) hx hb dX6_hasWayWithin_37 hl (k := 3) rfl (by rw [ex_5]; rfl) (by decide) rfl (fun ls hl => ?_)
              refine lv_goto (tgt := 2) hx hb dX6_hasWayWithin_40 (by decide) ?_
              have hR := som hM
              exact ih2 x_5 (hbk2 _ hR) _ _ hP hD hS _ (lv_sub hl [1, 2, 3, 0] rfl)
            · have hM := it_n hc_4 hM
              refine lv_aload_n hx hb dX6_hasWayWithin_25 rfl (lv_at hl 0 rfl) ?_
              refine va_get (D := (dC, dI)) (ci := 6) (v := .ref (aY 1)) (C := RX6) (T := TX6) (N := 2) hx hb hts iwX6_hasWayWithin_X6 hown hK hP 0 rfl rfl 0 (by decide) (hts _ (List.mem_of_getElem? (i := 1) rfl)) (fun _ h9 => h9) rfl dX6_hasWayWithin_26 ?_
              refine lv_iload_n hx hb dX6_hasWayWithin_29 rfl (lv_at hl 3 rfl) ?_
              obtain ⟨hi, hM⟩ := gi_some hM
              refine va_iald hx hb hK hP 1 0 rfl rfl hi dX6_hasWayWithin_30 ?_
              refine lv_iload_n hx hb dX6_hasWayWithin_31 rfl (lv_at hl 2 rfl) ?_
              refine lv_icmp_gt (tgt := 37) hx hb dX6_hasWayWithin_32 (by decide) (fun hc_6 => ?_) (fun hc_6 => ?_)
              · have hM := it_p hc_6 hM
                obtain ⟨x_7, ex_7⟩ : ∃ y : Int32, y = (v3 + (1 : Int32)) := ⟨_, rfl⟩
                have hM := nm_at ex_7 hM
                refine lv_iinc (v := x_7) (lv' := [(3, .int x_7), (0, .ref (aY 0)), (1, .int v1), (2, .int v2)]) hx hb dX6_hasWayWithin_37 hl (k := 3) rfl (by rw [ex_7]; rfl) (by decide) rfl (fun ls hl => ?_)
                refine lv_goto (tgt := 2) hx hb dX6_hasWayWithin_40 (by decide) ?_
                have hR := som hM
                exact ih2 x_7 (hbk2 _ hR) _ _ hP hD hS _ (lv_sub hl [1, 2, 3, 0] rfl)
              · have hM := it_n hc_6 hM
                have hR := som hM
                exact X2_0 (hex2 _ hR).symm _ _ hP hD hS _ (lv_sub hl [] rfl)
    exact I2 FU v3 hit2 _ _ hP hD hS _ hl
  refine lv_iconst (v := 0) hx hb dX6_hasWayWithin_0 (by decide) ?_
  refine lv_istore_n (lv' := [(3, .int (0 : Int32)), (0, .ref (aY 0)), (1, .int v1), (2, .int v2)]) hx hb dX6_hasWayWithin_1 rfl hl (by decide) rfl (fun ls hl => ?_)
  exact N2 v1 v2 (0 : Int32) hM _ _ hP hD hS _ (lv_sub hl [1, 2, 3, 0] rfl)
abbrev rmX6_fewestWords : Room := { frames := 2, cells := 0, slots := 0, locals := 51 }
theorem iwX6_fewestWords_X1 : ∀ w ∈ wsX10, w ∈ wsX6_fewestWords := fun _ h => List.mem_cons_of_mem _ (List.mem_append_left _ (List.mem_append_right _ (h)))
set_option maxHeartbeats 4000000 in
set_option maxRecDepth 100000 in
theorem kX6_fewestWords (l : Launch) (dC : Nat → ClassId) (dI : Nat → Nat → Nat) (ct : Nat → ClassId) (aY : Nat → Nat) (aL : Nat → Nat) (sz : Nat) (mY : Mem) (mL : Mem) (v2 : Int32) (v3 : Int32) (res : (Int32 × Mem)) (hM : mX6_fewestWords mY mL v2 v3 = some res) : Met l yX6_fewestWords wsX6_fewestWords rmX6_fewestWords (va_Pc [.ref (aY 0), .ref (aL 0), .int v2, .int v3] (PB (dC, dI) ct E0 sz (wY ct aY mY ++ wL ct aL mL))) (Qi (dC, dI) ct (va_A (wY ct aY mY ++ wL ct aL mL) sz) res.1 (wY ct aY res.2 ++ wL ct aL mL)) 0 0 (va_A (wY ct aY mY ++ wL ct aL mL) sz) := by
  refine Met.ofW (cc := cX6_fewestWords) (maxL := 8) (ret := (some .int)) (by decide) rfl ?_
  intro p e s m args below meth c s₁ B hml hv
  obtain ⟨hargs, hsz, hP, hK, hD0, hE⟩ := hv
  have hx := B.exec
  have hb := B.bytes
  have hr := B.returns
  have hts := atoms_spec (ws := wsX6_fewestWords) B.pre
  have hown : s.vm.findClass RX6 = some m.cls := findClass_of_methodNamed B.named
  have hlocks := B.notSynchronized
  clear B s₁
  subst hsz
  have hD := hD0.self (sz := s.heap.size)
  clear hD0
  generalize hAe : va_A (wY ct aY mY ++ wL ct aL mL) s.heap.size = A at hD hE ⊢
  have hA : ∀ q : Nat, s.heap.size ≤ q → A q := fun q h => by rw [← hAe]; exact Or.inr h
  clear hAe
  have hS : va_S A s.heap s.heap [] := va_S.rf
  refine cutQ (fun Q hQ => ?_)
  refine entryW (vs := [.ref (aY 0), .ref (aL 0), .int v2, .int v3]) hargs (Nat.le_of_ble_eq_true rfl) (fun ls hl => ?_)
  replace hl : lv_has ls 8 [(0, .ref (aY 0)), (1, .ref (aL 0)), (2, .int v2), (3, .int v3)] := hl
  unfold mX6_fewestWords at hM
  have N16 : ∀ (v3 : Int32) (v4 : Int32) (v5 : Int32) (v6 : Int32) (mY : Mem), mX6_fewestWords_L16 v3 v4 v5 v6 mY mL = some res → ∀ (H : Heap) (locs : List Loc), va_P (dC, dI) vwCl (wY ct aY mY ++ wL ct aL mL) H → va_D A (wY ct aY mY ++ wL ct aL mL) → va_S A s.heap H locs → ∀ ls : Array Slot, lv_has ls 8 [(0, .ref (aY 0)), (1, .ref (aL 0)), (3, .int v3), (4, .int v4), (5, .int v5), (6, .int v6)] → W p l e (headSpec wsX6_fewestWords rmX6_fewestWords).room s m args below meth c H locs 0 0 Q (F0 m 16 ls []) := by
    intro v3 v4 v5 v6 mY hM H locs hP hD hS ls hl
    unfold mX6_fewestWords_L16 at hM
    obtain ⟨ex16, hit16, hM⟩ := bn_some hM
    have X16_0 : ∀ (v5 : Int32) (mY : Mem), ex16 = (v5, mY) → ∀ (H : Heap) (locs : List Loc), va_P (dC, dI) vwCl (wY ct aY mY ++ wL ct aL mL) H → va_D A (wY ct aY mY ++ wL ct aL mL) → va_S A s.heap H locs → ∀ ls : Array Slot, lv_has ls 8 [(5, .int v5)] → W p l e (headSpec wsX6_fewestWords rmX6_fewestWords).room s m args below meth c H locs 0 0 Q (F0 m 105 ls []) := by
      intro v5 mY hex H locs hP hD hS ls hl
      rw [hex] at hM
      have hM := nm_at (y := v5) rfl hM
      have hM := nm_at (y := mY) rfl hM
      refine lv_iload hx hb dX6_fewestWords_105 (lv_at hl 0 rfl) ?_
      have hR := som hM
      rw [hR] at hQ
      exact ret_i hQ hx hb hr hlocks hP hK hD hS dX6_fewestWords_107
    have I16 : ∀ (n : Nat) (v5 : Int32) (v6 : Int32) (mY : Mem), itr (fun q => mX6_fewestWords_s16 v3 v4 mL q.1 q.2.1 q.2.2) n (v5, v6, mY) = some ex16 → ∀ (H : Heap) (locs : List Loc), va_P (dC, dI) vwCl (wY ct aY mY ++ wL ct aL mL) H → va_D A (wY ct aY mY ++ wL ct aL mL) → va_S A s.heap H locs → ∀ ls : Array Slot, lv_has ls 8 [(0, .ref (aY 0)), (1, .ref (aL 0)), (3, .int v3), (4, .int v4), (5, .int v5), (6, .int v6)] → W p l e (headSpec wsX6_fewestWords rmX6_fewestWords).room s m args below meth c H locs 0 0 Q (F0 m 16 ls []) := by
      intro n
      induction n with
      | zero => intro v5 v6 mY hit; exact (itr_zero hit).elim
      | succ n ih16 =>
        intro v5 v6 mY hit H locs hP hD hS ls hl
        obtain ⟨o16, hM, hbk16, hex16⟩ := itr_succ hit
        replace hM : mX6_fewestWords_s16 v3 v4 mL v5 v6 mY = some o16 := hM
        have N47 : ∀ (v5 : Int32) (v6 : Int32) (t0 : Int32) (mY : Mem), mX6_fewestWords_j47 v3 v4 v5 v6 t0 mY mL = some o16 → ∀ (H : Heap) (locs : List Loc), va_P (dC, dI) vwCl (wY ct aY mY ++ wL ct aL mL) H → va_D A (wY ct aY mY ++ wL ct aL mL) → va_S A s.heap H locs → ∀ ls : Array Slot, lv_has ls 8 [(0, .ref (aY 0)), (1, .ref (aL 0)), (3, .int v3), (4, .int v4), (5, .int v5), (6, .int v6)] → W p l e (headSpec wsX6_fewestWords rmX6_fewestWords).room s m args below meth c H locs 0 0 Q (F0 m 47 ls [.int t0]) := by
          intro v5 v6 t0 mY hM H locs hP hD hS ls hl
          unfold mX6_fewestWords_j47 at hM
          refine lv_istore (lv' := [(7, .int t0), (0, .ref (aY 0)), (1, .ref (aL 0)), (3, .int v3), (4, .int v4), (5, .int v5), (6, .int v6)]) hx hb dX6_fewestWords_47 hl (by decide) rfl (fun ls hl => ?_)
          refine lv_iload hx hb dX6_fewestWords_49 (lv_at hl 0 rfl) ?_
          refine lv_if_eq (tgt := 99) hx hb dX6_fewestWords_51 (by decide) (fun hc_1 => ?_) (fun hc_1 => ?_)
          · have hM := it_p hc_1 hM
            obtain ⟨x_2, ex_2⟩ : ∃ y : Int32, y = (v6 + (1 : Int32)) := ⟨_, rfl⟩
            have hM := nm_at ex_2 hM
            refine lv_iinc (v := x_2) (lv' := [(6, .int x_2), (7, .int t0), (0, .ref (aY 0)), (1, .ref (aL 0)), (3, .int v3), (4, .int v4), (5, .int v5)]) hx hb dX6_fewestWords_99 hl (k := 6) rfl (by rw [ex_2]; rfl) (by decide) rfl (fun ls hl => ?_)
            refine lv_goto (tgt := 16) hx hb dX6_fewestWords_102 (by decide) ?_
            have hR := som hM
            exact ih16 v5 x_2 mY (hbk16 _ hR) _ _ hP hD hS _ (lv_sub hl [2, 3, 4, 5, 6, 0] rfl)
          · have hM := it_n hc_1 hM
            refine lv_iload hx hb dX6_fewestWords_54 (lv_at hl 6 rfl) ?_
            refine lv_iload hx hb dX6_fewestWords_56 (lv_at hl 4 rfl) ?_
            refine lv_iconst (v := -1) hx hb dX6_fewestWords_58 (by decide) ?_
            refine lv_ixor hx hb dX6_fewestWords_59 ?_
            refine lv_iand hx hb dX6_fewestWords_60 ?_
            refine lv_if_ne (tgt := 99) hx hb dX6_fewestWords_61 (by decide) (fun hc_3 => ?_) (fun hc_3 => ?_)
            · have hM := it_p hc_3 hM
              obtain ⟨x_4, ex_4⟩ : ∃ y : Int32, y = (v6 + (1 : Int32)) := ⟨_, rfl⟩
              have hM := nm_at ex_4 hM
              refine lv_iinc (v := x_4) (lv' := [(6, .int x_4), (7, .int t0), (0, .ref (aY 0)), (1, .ref (aL 0)), (3, .int v3), (4, .int v4), (5, .int v5)]) hx hb dX6_fewestWords_99 hl (k := 6) rfl (by rw [ex_4]; rfl) (by decide) rfl (fun ls hl => ?_)
              refine lv_goto (tgt := 16) hx hb dX6_fewestWords_102 (by decide) ?_
              have hR := som hM
              exact ih16 v5 x_4 mY (hbk16 _ hR) _ _ hP hD hS _ (lv_sub hl [2, 3, 4, 5, 6, 0] rfl)
            · have hM := it_nn hc_3 hM
              refine lv_aload_n hx hb dX6_fewestWords_64 rfl (lv_at hl 1 rfl) ?_
              refine lv_aload_n hx hb dX6_fewestWords_65 rfl (lv_at hl 2 rfl) ?_
              refine lv_aload_n hx hb dX6_fewestWords_66 rfl (lv_at hl 2 rfl) ?_
              refine va_get (D := (dC, dI)) (ci := 1) (v := .int (mL 0 12)) (C := RX1) (T := TX1) (N := 17) hx hb hts iwX6_fewestWords_X1 hown hK hP 3 rfl rfl 12 (by decide) (hts _ (List.mem_of_getElem? (i := 1) rfl)) (fun _ h9 => h9) rfl dX6_fewestWords_67 ?_
              refine lv_iload hx hb dX6_fewestWords_70 (lv_at hl 6 rfl) ?_
              refine lv_iconst (v := -1) hx hb dX6_fewestWords_72 (by decide) ?_
              refine lv_ixor hx hb dX6_fewestWords_73 ?_
              refine lv_iand hx hb dX6_fewestWords_74 ?_
              obtain ⟨mY_5, hr_6, hM⟩ := bn_some hM
              refine gv_v (wn := (wY ct aY mY_5 ++ wL ct aL mL)) (va_runV (As := [.ref (aL 0), .int ((mL 0 12) &&& (v6 ^^^ (-1 : Int32)))]) (rest := []) ⟨hx, hb, hml, hown, hts⟩ (kX6_measure l dC dI ct aY aL _ mY mL ((mL 0 12) &&& (v6 ^^^ (-1 : Int32))) _ hr_6) (cwV 2 hts gX6_fewestWords_X6_measure rfl rfl rfl hvX6_measure ⟨Nat.le_of_ble_eq_true rfl, Nat.le_of_ble_eq_true rfl⟩) (preV_of E0_ok hK hP hD (is := [0, 1, 2, 3, 4, 5, 6, 7, 8, 9, 10, 11, 12]) rfl rfl rfl (ci := 6) rfl 0 rfl e_0) rfl rfl hl.1 rfl (lv_room (Nat.le_of_ble_eq_true rfl)) dX6_fewestWords_75 ⟨Nat.le_of_ble_eq_true rfl, Nat.le_of_ble_eq_true rfl⟩) hP hD hS hA [0, 1, 2, 3, 4, 5, 6, 7, 8, 9, 10, 11, 12] [] [0, 1, 2, 3, 4, 5, 6, 7, 8, 9, 10, 11, 12] rfl rfl rfl (by decide) rfl rfl (fun H locs hP hD hS => ?_)
              refine lv_aload_n hx hb dX6_fewestWords_78 rfl (lv_at hl 1 rfl) ?_
              refine lv_aload_n hx hb dX6_fewestWords_79 rfl (lv_at hl 2 rfl) ?_
              refine va_get (D := (dC, dI)) (ci := 1) (v := .int (mL 0 12)) (C := RX1) (T := TX1) (N := 17) hx hb hts iwX6_fewestWords_X1 hown hK hP 3 rfl rfl 12 (by decide) (hts _ (List.mem_of_getElem? (i := 1) rfl)) (fun _ h9 => h9) rfl dX6_fewestWords_80 ?_
              refine lv_iload hx hb dX6_fewestWords_83 (lv_at hl 6 rfl) ?_
              refine lv_iconst (v := -1) hx hb dX6_fewestWords_85 (by decide) ?_
              refine lv_ixor hx hb dX6_fewestWords_86 ?_
              refine lv_iand hx hb dX6_fewestWords_87 ?_
              refine lv_iload_n hx hb dX6_fewestWords_88 rfl (lv_at hl 3 rfl) ?_
              obtain ⟨x_8, hr_9, hM⟩ := bn_some hM
              refine gv_i (r0 := x_8) (wn := (wY ct aY mY_5 ++ wL ct aL mL)) (va_runV (As := [.int ((mL 0 12) &&& (v6 ^^^ (-1 : Int32))), .int v3]) (rest := []) ⟨hx, hb, hml, hown, hts⟩ (kX6_hasWayWithin l dC dI ct aY _ mY_5 ((mL 0 12) &&& (v6 ^^^ (-1 : Int32))) v3 _ hr_9) (cwV 2 hts gX6_fewestWords_X6_hasWayWithin rfl rfl rfl hvX6_hasWayWithin ⟨Nat.le_of_ble_eq_true rfl, Nat.le_of_ble_eq_true rfl⟩) (preV_of E0_ok hK hP hD (is := [0, 1, 2]) rfl rfl rfl (ci := 6) rfl 0 rfl e_0) rfl rfl hl.1 rfl (lv_room (Nat.le_of_ble_eq_true rfl)) dX6_fewestWords_89 ⟨Nat.le_of_ble_eq_true rfl, Nat.le_of_ble_eq_true rfl⟩) hP hD hS hA [0, 1, 2] [3, 4, 5, 6, 7, 8, 9, 10, 11, 12] [10, 11, 12, 0, 1, 2, 3, 4, 5, 6, 7, 8, 9] rfl rfl rfl (by decide) rfl rfl (fun H locs hP hD hS => ?_)
              refine lv_if_ne (tgt := 99) hx hb dX6_fewestWords_92 (by decide) (fun hc_11 => ?_) (fun hc_11 => ?_)
              · have hM := it_p hc_11 hM
                obtain ⟨x_12, ex_12⟩ : ∃ y : Int32, y = (v6 + (1 : Int32)) := ⟨_, rfl⟩
                have hM := nm_at ex_12 hM
                refine lv_iinc (v := x_12) (lv' := [(6, .int x_12), (7, .int t0), (0, .ref (aY 0)), (1, .ref (aL 0)), (3, .int v3), (4, .int v4), (5, .int v5)]) hx hb dX6_fewestWords_99 hl (k := 6) rfl (by rw [ex_12]; rfl) (by decide) rfl (fun ls hl => ?_)
                refine lv_goto (tgt := 16) hx hb dX6_fewestWords_102 (by decide) ?_
                have hR := som hM
                exact ih16 v5 x_12 mY_5 (hbk16 _ hR) _ _ hP hD hS _ (lv_sub hl [2, 3, 4, 5, 6, 0] rfl)
              · have hM := it_nn hc_11 hM
                refine lv_iload hx hb dX6_fewestWords_95 (lv_at hl 6 rfl) ?_
                refine lv_istore (lv' := [(5, .int v6), (7, .int t0), (0, .ref (aY 0)), (1, .ref (aL 0)), (3, .int v3), (4, .int v4), (6, .int v6)]) hx hb dX6_fewestWords_97 hl (by decide) rfl (fun ls hl => ?_)
                obtain ⟨x_13, ex_13⟩ : ∃ y : Int32, y = (v6 + (1 : Int32)) := ⟨_, rfl⟩
                have hM := nm_at ex_13 hM
                refine lv_iinc (v := x_13) (lv' := [(6, .int x_13), (5, .int v6), (7, .int t0), (0, .ref (aY 0)), (1, .ref (aL 0)), (3, .int v3), (4, .int v4)]) hx hb dX6_fewestWords_99 hl (k := 6) rfl (by rw [ex_13]; rfl) (by decide) rfl (fun ls hl => ?_)
                refine lv_goto (tgt := 16) hx hb dX6_fewestWords_102 (by decide) ?_
                have hR := som hM
                exact ih16 v6 x_13 mY_5 (hbk16 _ hR) _ _ hP hD hS _ (lv_sub hl [3, 4, 5, 6, 1, 0] rfl)
        have N42 : ∀ (v5 : Int32) (v6 : Int32) (mY : Mem), mX6_fewestWords_j42 v3 v4 v5 v6 mY mL = some o16 → ∀ (H : Heap) (locs : List Loc), va_P (dC, dI) vwCl (wY ct aY mY ++ wL ct aL mL) H → va_D A (wY ct aY mY ++ wL ct aL mL) → va_S A s.heap H locs → ∀ ls : Array Slot, lv_has ls 8 [(0, .ref (aY 0)), (1, .ref (aL 0)), (3, .int v3), (4, .int v4), (5, .int v5), (6, .int v6)] → W p l e (headSpec wsX6_fewestWords rmX6_fewestWords).room s m args below meth c H locs 0 0 Q (F0 m 42 ls []) := by
          intro v5 v6 mY hM H locs hP hD hS ls hl
          unfold mX6_fewestWords_j42 at hM
          refine lv_iconst (v := 1) hx hb dX6_fewestWords_42 (by decide) ?_
          refine lv_goto (tgt := 47) hx hb dX6_fewestWords_43 (by decide) ?_
          exact N47 v5 v6 (1 : Int32) mY hM _ _ hP hD hS _ (lv_sub hl [0, 1, 2, 3, 4, 5] rfl)
        unfold mX6_fewestWords_s16 at hM
        refine lv_iload hx hb dX6_fewestWords_16 (lv_at hl 5 rfl) ?_
        refine lv_bipush (v := 32) hx hb dX6_fewestWords_18 (by decide) ?_
        refine lv_icmp_ge (tgt := 105) hx hb dX6_fewestWords_20 (by decide) (fun hc_14 => ?_) (fun hc_14 => ?_)
        · have hM := it_p hc_14 hM
          have hR := som hM
          exact X16_0 v5 mY (hex16 _ hR).symm _ _ hP hD hS _ (lv_sub hl [4] rfl)
        · have hM := it_n hc_14 hM
          refine lv_iload hx hb dX6_fewestWords_23 (lv_at hl 4 rfl) ?_
          refine lv_iconst (v := -1) hx hb dX6_fewestWords_25 (by decide) ?_
          refine lv_icmp_eq (tgt := 42) hx hb dX6_fewestWords_26 (by decide) (fun hc_15 => ?_) (fun hc_15 => ?_)
          · have hM := it_p hc_15 hM
            exact N42 v5 v6 mY hM _ _ hP hD hS _ (lv_sub hl [0, 1, 2, 3, 4, 5] rfl)
          · have hM := it_n hc_15 hM
            refine lv_iload hx hb dX6_fewestWords_29 (lv_at hl 5 rfl) ?_
            obtain ⟨x_16, hr_17, hM⟩ := bn_some hM
            refine gv_i (r0 := x_16) (wn := (wY ct aY mY ++ wL ct aL mL)) (va_runS (As := [.int v6]) (rest := []) ⟨hx, hb, hml, hown, hts⟩ (kJ6_bitCount_0f7a4 l dC dI ct _ v6 _ hr_17) (va_cwS 1 hts gX6_fewestWords_J6_bitCount_0f7a4 rfl rfl rfl hvJ6_bitCount_0f7a4.2 ⟨Nat.le_of_ble_eq_true rfl, Nat.le_of_ble_eq_true rfl⟩) (preS_of E0_ok hK hP hD (is := []) rfl rfl e_0) rfl rfl hl.1 rfl (lv_room (Nat.le_of_ble_eq_true rfl)) dX6_fewestWords_31 ⟨Nat.le_of_ble_eq_true rfl, Nat.le_of_ble_eq_true rfl⟩) hP hD hS hA [] [0, 1, 2, 3, 4, 5, 6, 7, 8, 9, 10, 11, 12] [0, 1, 2, 3, 4, 5, 6, 7, 8, 9, 10, 11, 12] rfl rfl rfl (by decide) rfl rfl (fun H locs hP hD hS => ?_)
            refine lv_iload hx hb dX6_fewestWords_34 (lv_at hl 4 rfl) ?_
            obtain ⟨x_19, hr_20, hM⟩ := bn_some hM
            refine gv_i (r0 := x_19) (wn := (wY ct aY mY ++ wL ct aL mL)) (va_runS (As := [.int v5]) (rest := [.int x_16]) ⟨hx, hb, hml, hown, hts⟩ (kJ6_bitCount_0f7a4 l dC dI ct _ v5 _ hr_20) (va_cwS 1 hts gX6_fewestWords_J6_bitCount_0f7a4 rfl rfl rfl hvJ6_bitCount_0f7a4.2 ⟨Nat.le_of_ble_eq_true rfl, Nat.le_of_ble_eq_true rfl⟩) (preS_of E0_ok hK hP hD (is := []) rfl rfl e_0) rfl rfl hl.1 rfl (lv_room (Nat.le_of_ble_eq_true rfl)) dX6_fewestWords_36 ⟨Nat.le_of_ble_eq_true rfl, Nat.le_of_ble_eq_true rfl⟩) hP hD hS hA [] [0, 1, 2, 3, 4, 5, 6, 7, 8, 9, 10, 11, 12] [0, 1, 2, 3, 4, 5, 6, 7, 8, 9, 10, 11, 12] rfl rfl rfl (by decide) rfl rfl (fun H locs hP hD hS => ?_)
            refine lv_icmp_ge (tgt := 46) hx hb dX6_fewestWords_39 (by decide) (fun hc_22 => ?_) (fun hc_22 => ?_)
            · have hM := it_p hc_22 hM
              refine lv_iconst (v := 0) hx hb dX6_fewestWords_46 (by decide) ?_
              exact N47 v5 v6 (0 : Int32) mY hM _ _ hP hD hS _ (lv_sub hl [0, 1, 2, 3, 4, 5] rfl)
            · have hM := it_n hc_22 hM
              exact N42 v5 v6 mY hM _ _ hP hD hS _ (lv_sub hl [0, 1, 2, 3, 4, 5] rfl)
    exact I16 FU v5 v6 mY hit16 _ _ hP hD hS _ hl
  refine lv_aload_n hx hb dX6_fewestWords_0 rfl (lv_at hl 1 rfl) ?_
  refine va_get (D := (dC, dI)) (ci := 1) (v := .int (mL 0 12)) (C := RX1) (T := TX1) (N := 17) hx hb hts iwX6_fewestWords_X1 hown hK hP 3 rfl rfl 12 (by decide) (hts _ (List.mem_of_getElem? (i := 1) rfl)) (fun _ h9 => h9) rfl dX6_fewestWords_1 ?_
  refine lv_iload_n hx hb dX6_fewestWords_4 rfl (lv_at hl 2 rfl) ?_
  refine lv_iconst (v := -1) hx hb dX6_fewestWords_5 (by decide) ?_
  refine lv_ixor hx hb dX6_fewestWords_6 ?_
  refine lv_iand hx hb dX6_fewestWords_7 ?_
  refine lv_topi (fun x_23 ex_23 => ?_)
  have hM := nm_at ex_23 hM
  refine lv_istore (lv' := [(4, .int x_23), (0, .ref (aY 0)), (1, .ref (aL 0)), (2, .int v2), (3, .int v3)]) hx hb dX6_fewestWords_8 hl (by decide) rfl (fun ls hl => ?_)
  refine lv_iconst (v := -1) hx hb dX6_fewestWords_10 (by decide) ?_
  refine lv_istore (lv' := [(5, .int (-1 : Int32)), (4, .int x_23), (0, .ref (aY 0)), (1, .ref (aL 0)), (2, .int v2), (3, .int v3)]) hx hb dX6_fewestWords_11 hl (by decide) rfl (fun ls hl => ?_)
  refine lv_iconst (v := 0) hx hb dX6_fewestWords_13 (by decide) ?_
  refine lv_istore (lv' := [(6, .int (0 : Int32)), (5, .int (-1 : Int32)), (4, .int x_23), (0, .ref (aY 0)), (1, .ref (aL 0)), (2, .int v2), (3, .int v3)]) hx hb dX6_fewestWords_14 hl (by decide) rfl (fun ls hl => ?_)
  exact N16 v3 x_23 (-1 : Int32) (0 : Int32) mY hM _ _ hP hD hS _ (lv_sub hl [3, 4, 6, 2, 1, 0] rfl)
