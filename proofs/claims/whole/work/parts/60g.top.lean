abbrev rmX7_purse : Room := { frames := 2, cells := 0, slots := 0, locals := 50 }
theorem iwX7_purse_X1 : ∀ w ∈ wsX10, w ∈ wsX7_purse := fun _ h => List.mem_cons_of_mem _ (List.mem_append_right _ (h))
theorem iwX7_purse_X7 : ∀ w ∈ wsX70, w ∈ wsX7_purse := fun _ h => List.mem_cons_of_mem _ (List.mem_append_left _ (List.mem_append_right _ (h)))
set_option maxHeartbeats 4000000 in
set_option maxRecDepth 100000 in
theorem kX7_purse (l : Launch) (dC : Nat → ClassId) (dI : Nat → Nat → Nat) (ct : Nat → ClassId) (aX : Nat → Nat) (aL : Nat → Nat) (xX_text : Nat) (xX_reader : Nat) (xX_sowing : Nat) (xX_market : Nat) (xX_book : Nat) (xX_ways : Nat) (xX_draft : Nat) (xX_im0 : Nat) (xX_im1 : Nat) (xX_im2 : Nat) (sz : Nat) (mX : Mem) (mL : Mem) (v1 : Int32) (v2 : Int32) (res : Int32) (hM : mX7_purse mX mL v1 v2 = some res) : Met l yX7_purse wsX7_purse rmX7_purse (va_Pc [.ref (aX 0), .int v1, .int v2] (PB (dC, dI) ct E0 sz (wX ct aX xX_text xX_reader xX_sowing xX_market xX_book xX_ways (aL 0) xX_draft xX_im0 xX_im1 xX_im2 mX ++ wL ct aL mL))) (Qi (dC, dI) ct (va_A (wX ct aX xX_text xX_reader xX_sowing xX_market xX_book xX_ways (aL 0) xX_draft xX_im0 xX_im1 xX_im2 mX ++ wL ct aL mL) sz) res (wX ct aX xX_text xX_reader xX_sowing xX_market xX_book xX_ways (aL 0) xX_draft xX_im0 xX_im1 xX_im2 mX ++ wL ct aL mL)) 0 0 (va_A (wX ct aX xX_text xX_reader xX_sowing xX_market xX_book xX_ways (aL 0) xX_draft xX_im0 xX_im1 xX_im2 mX ++ wL ct aL mL) sz) := by
  refine Met.ofW (cc := cX7_purse) (maxL := 6) (ret := (some .int)) (by decide) rfl ?_
  intro p e s m args below meth c s₁ B hml hv
  obtain ⟨hargs, hsz, hP, hK, hD0, hE⟩ := hv
  have hx := B.exec
  have hb := B.bytes
  have hr := B.returns
  have hts := atoms_spec (ws := wsX7_purse) B.pre
  have hown : s.vm.findClass RX7 = some m.cls := findClass_of_methodNamed B.named
  have hlocks := B.notSynchronized
  clear B s₁
  subst hsz
  have hD := hD0.self (sz := s.heap.size)
  clear hD0
  generalize hAe : va_A (wX ct aX xX_text xX_reader xX_sowing xX_market xX_book xX_ways (aL 0) xX_draft xX_im0 xX_im1 xX_im2 mX ++ wL ct aL mL) s.heap.size = A at hD hE ⊢
  have hA : ∀ q : Nat, s.heap.size ≤ q → A q := fun q h => by rw [← hAe]; exact Or.inr h
  clear hAe
  have hS : va_S A s.heap s.heap [] := va_S.rf
  refine cutQ (fun Q hQ => ?_)
  refine entryW (vs := [.ref (aX 0), .int v1, .int v2]) hargs (Nat.le_of_ble_eq_true rfl) (fun ls hl => ?_)
  replace hl : lv_has ls 6 [(0, .ref (aX 0)), (1, .int v1), (2, .int v2)] := hl
  unfold mX7_purse at hM
  have N33 : ∀ (v1 : Int32) (v2 : Int32) (v3 : Int32) (v4 : Int32), mX7_purse_L33 v1 v2 v3 v4 mX mL = some res → ∀ (H : Heap) (locs : List Loc), va_P (dC, dI) vwCl (wX ct aX xX_text xX_reader xX_sowing xX_market xX_book xX_ways (aL 0) xX_draft xX_im0 xX_im1 xX_im2 mX ++ wL ct aL mL) H → va_D A (wX ct aX xX_text xX_reader xX_sowing xX_market xX_book xX_ways (aL 0) xX_draft xX_im0 xX_im1 xX_im2 mX ++ wL ct aL mL) → va_S A s.heap H locs → ∀ ls : Array Slot, lv_has ls 6 [(0, .ref (aX 0)), (1, .int v1), (2, .int v2), (3, .int v3), (4, .int v4)] → W p l e (headSpec wsX7_purse rmX7_purse).room s m args below meth c H locs 0 0 Q (F0 m 33 ls []) := by
    intro v1 v2 v3 v4 hM H locs hP hD hS ls hl
    unfold mX7_purse_L33 at hM
    obtain ⟨ex33, hit33, hM⟩ := bn_some hM
    have X33_0 : ∀ (v3 : Int32), ex33 = v3 → ∀ (H : Heap) (locs : List Loc), va_P (dC, dI) vwCl (wX ct aX xX_text xX_reader xX_sowing xX_market xX_book xX_ways (aL 0) xX_draft xX_im0 xX_im1 xX_im2 mX ++ wL ct aL mL) H → va_D A (wX ct aX xX_text xX_reader xX_sowing xX_market xX_book xX_ways (aL 0) xX_draft xX_im0 xX_im1 xX_im2 mX ++ wL ct aL mL) → va_S A s.heap H locs → ∀ ls : Array Slot, lv_has ls 6 [(3, .int v3)] → W p l e (headSpec wsX7_purse rmX7_purse).room s m args below meth c H locs 0 0 Q (F0 m 101 ls []) := by
      intro v3 hex H locs hP hD hS ls hl
      rw [hex] at hM
      have hM := nm_at (y := v3) rfl hM
      refine lv_iload_n hx hb dX7_purse_101 rfl (lv_at hl 0 rfl) ?_
      have hR := som hM
      rw [hR] at hQ
      exact ret_i hQ hx hb hr hlocks hP hK hD hS dX7_purse_102
    have I33 : ∀ (n : Nat) (v3 : Int32) (v4 : Int32), itr (fun q => mX7_purse_s33 v1 v2 mX mL q.1 q.2) n (v3, v4) = some ex33 → ∀ (H : Heap) (locs : List Loc), va_P (dC, dI) vwCl (wX ct aX xX_text xX_reader xX_sowing xX_market xX_book xX_ways (aL 0) xX_draft xX_im0 xX_im1 xX_im2 mX ++ wL ct aL mL) H → va_D A (wX ct aX xX_text xX_reader xX_sowing xX_market xX_book xX_ways (aL 0) xX_draft xX_im0 xX_im1 xX_im2 mX ++ wL ct aL mL) → va_S A s.heap H locs → ∀ ls : Array Slot, lv_has ls 6 [(0, .ref (aX 0)), (1, .int v1), (2, .int v2), (3, .int v3), (4, .int v4)] → W p l e (headSpec wsX7_purse rmX7_purse).room s m args below meth c H locs 0 0 Q (F0 m 33 ls []) := by
      intro n
      induction n with
      | zero => intro v3 v4 hit; exact (itr_zero hit).elim
      | succ n ih33 =>
        intro v3 v4 hit H locs hP hD hS ls hl
        obtain ⟨o33, hM, hbk33, hex33⟩ := itr_succ hit
        replace hM : mX7_purse_s33 v1 v2 mX mL v3 v4 = some o33 := hM
        have N93 : ∀ (v4 : Int32) (t0 : Int32) (t1 : Int32), mX7_purse_j93 v1 v2 v4 t0 t1 mX mL = some o33 → ∀ (H : Heap) (locs : List Loc), va_P (dC, dI) vwCl (wX ct aX xX_text xX_reader xX_sowing xX_market xX_book xX_ways (aL 0) xX_draft xX_im0 xX_im1 xX_im2 mX ++ wL ct aL mL) H → va_D A (wX ct aX xX_text xX_reader xX_sowing xX_market xX_book xX_ways (aL 0) xX_draft xX_im0 xX_im1 xX_im2 mX ++ wL ct aL mL) → va_S A s.heap H locs → ∀ ls : Array Slot, lv_has ls 6 [(0, .ref (aX 0)), (1, .int v1), (2, .int v2), (4, .int v4)] → W p l e (headSpec wsX7_purse rmX7_purse).room s m args below meth c H locs 0 0 Q (F0 m 93 ls [.int t1, .int t0]) := by
          intro v4 t0 t1 hM H locs hP hD hS ls hl
          unfold mX7_purse_j93 at hM
          refine lv_iadd hx hb dX7_purse_93 ?_
          refine lv_topi (fun x_1 ex_1 => ?_)
          have hM := nm_at ex_1 hM
          refine lv_istore_n (lv' := [(3, .int x_1), (0, .ref (aX 0)), (1, .int v1), (2, .int v2), (4, .int v4)]) hx hb dX7_purse_94 rfl hl (by decide) rfl (fun ls hl => ?_)
          obtain ⟨x_2, ex_2⟩ : ∃ y : Int32, y = (v4 + (1 : Int32)) := ⟨_, rfl⟩
          have hM := nm_at ex_2 hM
          refine lv_iinc (v := x_2) (lv' := [(4, .int x_2), (3, .int x_1), (0, .ref (aX 0)), (1, .int v1), (2, .int v2)]) hx hb dX7_purse_95 hl (k := 4) rfl (by rw [ex_2]; rfl) (by decide) rfl (fun ls hl => ?_)
          refine lv_goto (tgt := 33) hx hb dX7_purse_98 (by decide) ?_
          have hR := som hM
          exact ih33 x_1 x_2 (hbk33 _ hR) _ _ hP hD hS _ (lv_sub hl [2, 3, 4, 1, 0] rfl)
        unfold mX7_purse_s33 at hM
        refine lv_iload hx hb dX7_purse_33 (lv_at hl 4 rfl) ?_
        refine lv_aload_n hx hb dX7_purse_35 rfl (lv_at hl 0 rfl) ?_
        refine va_get (D := (dC, dI)) (ci := 7) (v := .ref (aL 0)) (C := RX7) (T := TX7) (N := 11) hx hb hts iwX7_purse_X7 hown hK hP 0 rfl rfl 8 (by decide) (hts _ (List.mem_of_getElem? (i := 2) rfl)) (fun _ h9 => h9) rfl dX7_purse_36 ?_
        refine va_get (D := (dC, dI)) (ci := 1) (v := .int (mL 0 5)) (C := RX1) (T := TX1) (N := 17) hx hb hts iwX7_purse_X1 hown hK hP 3 rfl rfl 5 (by decide) (hts _ (List.mem_of_getElem? (i := 3) rfl)) (fun _ h9 => h9) rfl dX7_purse_39 ?_
        refine lv_icmp_ge (tgt := 101) hx hb dX7_purse_42 (by decide) (fun hc_3 => ?_) (fun hc_3 => ?_)
        · have hM := it_p hc_3 hM
          have hR := som hM
          exact X33_0 v3 (hex33 _ hR).symm _ _ hP hD hS _ (lv_sub hl [3] rfl)
        · have hM := it_n hc_3 hM
          refine lv_aload_n hx hb dX7_purse_45 rfl (lv_at hl 0 rfl) ?_
          refine va_get (D := (dC, dI)) (ci := 7) (v := .ref (aL 0)) (C := RX7) (T := TX7) (N := 11) hx hb hts iwX7_purse_X7 hown hK hP 0 rfl rfl 8 (by decide) (hts _ (List.mem_of_getElem? (i := 2) rfl)) (fun _ h9 => h9) rfl dX7_purse_46 ?_
          refine va_get (D := (dC, dI)) (ci := 1) (v := .ref (aL 2)) (C := RX1) (T := TX1) (N := 17) hx hb hts iwX7_purse_X1 hown hK hP 3 rfl rfl 7 (by decide) (hts _ (List.mem_of_getElem? (i := 4) rfl)) (fun _ h9 => h9) rfl dX7_purse_49 ?_
          refine lv_iload hx hb dX7_purse_52 (lv_at hl 4 rfl) ?_
          obtain ⟨hi, hM⟩ := gi_some hM
          refine va_iald hx hb hK hP 5 0 rfl rfl hi dX7_purse_54 ?_
          refine lv_iload_n hx hb dX7_purse_55 rfl (lv_at hl 1 rfl) ?_
          refine lv_icmp_ge (tgt := 95) hx hb dX7_purse_56 (by decide) (fun hc_4 => ?_) (fun hc_4 => ?_)
          · have hM := it_p hc_4 hM
            obtain ⟨x_5, ex_5⟩ : ∃ y : Int32, y = (v4 + (1 : Int32)) := ⟨_, rfl⟩
            have hM := nm_at ex_5 hM
            refine lv_iinc (v := x_5) (lv' := [(4, .int x_5), (0, .ref (aX 0)), (1, .int v1), (2, .int v2), (3, .int v3)]) hx hb dX7_purse_95 hl (k := 4) rfl (by rw [ex_5]; rfl) (by decide) rfl (fun ls hl => ?_)
            refine lv_goto (tgt := 33) hx hb dX7_purse_98 (by decide) ?_
            have hR := som hM
            exact ih33 v3 x_5 (hbk33 _ hR) _ _ hP hD hS _ (lv_sub hl [1, 2, 3, 4, 0] rfl)
          · have hM := it_n hc_4 hM
            refine lv_aload_n hx hb dX7_purse_59 rfl (lv_at hl 0 rfl) ?_
            refine va_get (D := (dC, dI)) (ci := 7) (v := .ref (aL 0)) (C := RX7) (T := TX7) (N := 11) hx hb hts iwX7_purse_X7 hown hK hP 0 rfl rfl 8 (by decide) (hts _ (List.mem_of_getElem? (i := 2) rfl)) (fun _ h9 => h9) rfl dX7_purse_60 ?_
            refine lv_iload hx hb dX7_purse_63 (lv_at hl 4 rfl) ?_
            obtain ⟨x_6, hr_7, hM⟩ := bn_some hM
            refine gv_i (r0 := x_6) (wn := (wX ct aX xX_text xX_reader xX_sowing xX_market xX_book xX_ways (aL 0) xX_draft xX_im0 xX_im1 xX_im2 mX ++ wL ct aL mL)) (va_runV (As := [.int v4]) (rest := []) ⟨hx, hb, hml, hown, hts⟩ (kX1_needOf l dC dI ct aL _ mL v4 _ hr_7) (cwV 1 hts gX7_purse_X1_needOf rfl rfl rfl hvX1_needOf ⟨Nat.le_of_ble_eq_true rfl, Nat.le_of_ble_eq_true rfl⟩) (preV_of E0_ok hK hP hD (is := [3, 4, 5, 6, 7, 8, 9, 10, 11, 12]) rfl rfl rfl (ci := 1) rfl 3 rfl e_0) rfl rfl hl.1 rfl (lv_room (Nat.le_of_ble_eq_true rfl)) dX7_purse_65 ⟨Nat.le_of_ble_eq_true rfl, Nat.le_of_ble_eq_true rfl⟩) hP hD hS hA [3, 4, 5, 6, 7, 8, 9, 10, 11, 12] [0, 1, 2] [0, 1, 2, 3, 4, 5, 6, 7, 8, 9, 10, 11, 12] rfl rfl rfl (by decide) rfl rfl (fun H locs hP hD hS => ?_)
            refine lv_istore (lv' := [(5, .int x_6), (0, .ref (aX 0)), (1, .int v1), (2, .int v2), (3, .int v3), (4, .int v4)]) hx hb dX7_purse_68 hl (by decide) rfl (fun ls hl => ?_)
            refine lv_iload_n hx hb dX7_purse_70 rfl (lv_at hl 4 rfl) ?_
            refine lv_iload_n hx hb dX7_purse_71 rfl (lv_at hl 3 rfl) ?_
            refine lv_if_ne (tgt := 80) hx hb dX7_purse_72 (by decide) (fun hc_9 => ?_) (fun hc_9 => ?_)
            · have hM := it_p hc_9 hM
              refine lv_iload hx hb dX7_purse_80 (lv_at hl 0 rfl) ?_
              refine lv_aload_n hx hb dX7_purse_82 rfl (lv_at hl 1 rfl) ?_
              refine lv_iload hx hb dX7_purse_83 (lv_at hl 5 rfl) ?_
              obtain ⟨x_10, hr_11, hM⟩ := bn_some hM
              refine gv_i (r0 := x_10) (wn := (wX ct aX xX_text xX_reader xX_sowing xX_market xX_book xX_ways (aL 0) xX_draft xX_im0 xX_im1 xX_im2 mX ++ wL ct aL mL)) (va_runV (As := [.int v4]) (rest := [.int x_6, .int v3]) ⟨hx, hb, hml, hown, hts⟩ (kX7_lastNightBack l dC dI ct aX aL xX_text xX_reader xX_sowing xX_market xX_book xX_ways xX_draft xX_im0 xX_im1 xX_im2 _ mX mL v4 _ hr_11) (cwV 1 hts gX7_purse_X7_lastNightBack rfl rfl rfl hvX7_lastNightBack ⟨Nat.le_of_ble_eq_true rfl, Nat.le_of_ble_eq_true rfl⟩) (preV_of E0_ok hK hP hD (is := [0, 1, 2, 3, 4, 5, 6, 7, 8, 9, 10, 11, 12]) rfl rfl rfl (ci := 7) rfl 0 rfl e_0) rfl rfl hl.1 rfl (lv_room (Nat.le_of_ble_eq_true rfl)) dX7_purse_85 ⟨Nat.le_of_ble_eq_true rfl, Nat.le_of_ble_eq_true rfl⟩) hP hD hS hA [0, 1, 2, 3, 4, 5, 6, 7, 8, 9, 10, 11, 12] [] [0, 1, 2, 3, 4, 5, 6, 7, 8, 9, 10, 11, 12] rfl rfl rfl (by decide) rfl rfl (fun H locs hP hD hS => ?_)
              refine lv_imul hx hb dX7_purse_88 ?_
              refine lv_sipush (v := 1000) hx hb dX7_purse_89 (by decide) ?_
              refine lv_idiv hx hb dX7_purse_92 (by decide) ?_
              exact N93 v4 v3 ((x_6 * x_10) / (1000 : Int32)) hM _ _ hP hD hS _ (lv_sub hl [1, 2, 3, 5] rfl)
            · have hM := it_nn hc_9 hM
              refine lv_iload hx hb dX7_purse_75 (lv_at hl 0 rfl) ?_
              refine lv_goto (tgt := 93) hx hb dX7_purse_77 (by decide) ?_
              exact N93 v4 v3 x_6 hM _ _ hP hD hS _ (lv_sub hl [1, 2, 3, 5] rfl)
    exact I33 FU v3 v4 hit33 _ _ hP hD hS _ hl
  refine lv_aload_n hx hb dX7_purse_0 rfl (lv_at hl 0 rfl) ?_
  refine va_get (D := (dC, dI)) (ci := 7) (v := .int (mX 0 10)) (C := RX7) (T := TX7) (N := 11) hx hb hts iwX7_purse_X7 hown hK hP 0 rfl rfl 10 (by decide) (hts _ (List.mem_of_getElem? (i := 1) rfl)) (fun _ h9 => h9) rfl dX7_purse_1 ?_
  refine lv_if_eq (tgt := 26) hx hb dX7_purse_4 (by decide) (fun hc_13 => ?_) (fun hc_13 => ?_)
  · have hM := it_p hc_13 hM
    refine lv_iconst (v := -1) hx hb dX7_purse_26 (by decide) ?_
    have hR := som hM
    rw [hR] at hQ
    exact ret_i hQ hx hb hr hlocks hP hK hD hS dX7_purse_27
  · have hM := it_n hc_13 hM
    refine lv_iload_n hx hb dX7_purse_7 rfl (lv_at hl 1 rfl) ?_
    refine lv_iconst (v := 0) hx hb dX7_purse_8 (by decide) ?_
    refine lv_bipush (v := 100) hx hb dX7_purse_9 (by decide) ?_
    obtain ⟨x_14, hr_15, hM⟩ := bn_some hM
    refine gv_i (r0 := x_14) (wn := (wX ct aX xX_text xX_reader xX_sowing xX_market xX_book xX_ways (aL 0) xX_draft xX_im0 xX_im1 xX_im2 mX ++ wL ct aL mL)) (va_runS (As := [.int v1, .int (0 : Int32), .int (100 : Int32)]) (rest := []) ⟨hx, hb, hml, hown, hts⟩ (kX7_isIn l dC dI ct _ v1 (0 : Int32) (100 : Int32) _ hr_15) (va_cwS 3 hts gX7_purse_X7_isIn rfl rfl rfl hvX7_isIn.2 ⟨Nat.le_of_ble_eq_true rfl, Nat.le_of_ble_eq_true rfl⟩) (preS_of E0_ok hK hP hD (is := []) rfl rfl e_0) rfl rfl hl.1 rfl (lv_room (Nat.le_of_ble_eq_true rfl)) dX7_purse_11 ⟨Nat.le_of_ble_eq_true rfl, Nat.le_of_ble_eq_true rfl⟩) hP hD hS hA [] [0, 1, 2, 3, 4, 5, 6, 7, 8, 9, 10, 11, 12] [0, 1, 2, 3, 4, 5, 6, 7, 8, 9, 10, 11, 12] rfl rfl rfl (by decide) rfl rfl (fun H locs hP hD hS => ?_)
    refine lv_if_eq (tgt := 26) hx hb dX7_purse_14 (by decide) (fun hc_17 => ?_) (fun hc_17 => ?_)
    · have hM := it_p hc_17 hM
      refine lv_iconst (v := -1) hx hb dX7_purse_26 (by decide) ?_
      have hR := som hM
      rw [hR] at hQ
      exact ret_i hQ hx hb hr hlocks hP hK hD hS dX7_purse_27
    · have hM := it_n hc_17 hM
      refine lv_iload_n hx hb dX7_purse_17 rfl (lv_at hl 2 rfl) ?_
      refine lv_iconst (v := 0) hx hb dX7_purse_18 (by decide) ?_
      refine lv_iconst (v := 1) hx hb dX7_purse_19 (by decide) ?_
      obtain ⟨x_18, hr_19, hM⟩ := bn_some hM
      refine gv_i (r0 := x_18) (wn := (wX ct aX xX_text xX_reader xX_sowing xX_market xX_book xX_ways (aL 0) xX_draft xX_im0 xX_im1 xX_im2 mX ++ wL ct aL mL)) (va_runS (As := [.int v2, .int (0 : Int32), .int (1 : Int32)]) (rest := []) ⟨hx, hb, hml, hown, hts⟩ (kX7_isIn l dC dI ct _ v2 (0 : Int32) (1 : Int32) _ hr_19) (va_cwS 3 hts gX7_purse_X7_isIn rfl rfl rfl hvX7_isIn.2 ⟨Nat.le_of_ble_eq_true rfl, Nat.le_of_ble_eq_true rfl⟩) (preS_of E0_ok hK hP hD (is := []) rfl rfl e_0) rfl rfl hl.1 rfl (lv_room (Nat.le_of_ble_eq_true rfl)) dX7_purse_20 ⟨Nat.le_of_ble_eq_true rfl, Nat.le_of_ble_eq_true rfl⟩) hP hD hS hA [] [0, 1, 2, 3, 4, 5, 6, 7, 8, 9, 10, 11, 12] [0, 1, 2, 3, 4, 5, 6, 7, 8, 9, 10, 11, 12] rfl rfl rfl (by decide) rfl rfl (fun H locs hP hD hS => ?_)
      refine lv_if_ne (tgt := 28) hx hb dX7_purse_23 (by decide) (fun hc_21 => ?_) (fun hc_21 => ?_)
      · have hM := it_p hc_21 hM
        refine lv_iconst (v := 0) hx hb dX7_purse_28 (by decide) ?_
        refine lv_istore_n (lv' := [(3, .int (0 : Int32)), (0, .ref (aX 0)), (1, .int v1), (2, .int v2)]) hx hb dX7_purse_29 rfl hl (by decide) rfl (fun ls hl => ?_)
        refine lv_iconst (v := 0) hx hb dX7_purse_30 (by decide) ?_
        refine lv_istore (lv' := [(4, .int (0 : Int32)), (3, .int (0 : Int32)), (0, .ref (aX 0)), (1, .int v1), (2, .int v2)]) hx hb dX7_purse_31 hl (by decide) rfl (fun ls hl => ?_)
        exact N33 v1 v2 (0 : Int32) (0 : Int32) hM _ _ hP hD hS _ (lv_sub hl [2, 3, 4, 1, 0] rfl)
      · have hM := it_nn hc_21 hM
        refine lv_iconst (v := -1) hx hb dX7_purse_26 (by decide) ?_
        have hR := som hM
        rw [hR] at hQ
        exact ret_i hQ hx hb hr hlocks hP hK hD hS dX7_purse_27
abbrev rmX7_cloudy : Room := { frames := 1, cells := 0, slots := 0, locals := 24 }
theorem iwX7_cloudy_X1 : ∀ w ∈ wsX10, w ∈ wsX7_cloudy := fun _ h => List.mem_cons_of_mem _ (List.mem_append_right _ (h))
theorem iwX7_cloudy_X7 : ∀ w ∈ wsX70, w ∈ wsX7_cloudy := fun _ h => List.mem_cons_of_mem _ (List.mem_append_left _ (List.mem_append_right _ (h)))
set_option maxHeartbeats 4000000 in
set_option maxRecDepth 100000 in
theorem kX7_cloudy (l : Launch) (dC : Nat → ClassId) (dI : Nat → Nat → Nat) (ct : Nat → ClassId) (aX : Nat → Nat) (aL : Nat → Nat) (xX_text : Nat) (xX_reader : Nat) (xX_sowing : Nat) (xX_market : Nat) (xX_book : Nat) (xX_ways : Nat) (xX_draft : Nat) (xX_im0 : Nat) (xX_im1 : Nat) (xX_im2 : Nat) (sz : Nat) (mX : Mem) (mL : Mem) (v1 : Int32) (v2 : Int32) (res : Int32) (hM : mX7_cloudy mX mL v1 v2 = some res) : Met l yX7_cloudy wsX7_cloudy rmX7_cloudy (va_Pc [.ref (aX 0), .int v1, .int v2] (PB (dC, dI) ct E0 sz (wX ct aX xX_text xX_reader xX_sowing xX_market xX_book xX_ways (aL 0) xX_draft xX_im0 xX_im1 xX_im2 mX ++ wL ct aL mL))) (Qi (dC, dI) ct (va_A (wX ct aX xX_text xX_reader xX_sowing xX_market xX_book xX_ways (aL 0) xX_draft xX_im0 xX_im1 xX_im2 mX ++ wL ct aL mL) sz) res (wX ct aX xX_text xX_reader xX_sowing xX_market xX_book xX_ways (aL 0) xX_draft xX_im0 xX_im1 xX_im2 mX ++ wL ct aL mL)) 0 0 (va_A (wX ct aX xX_text xX_reader xX_sowing xX_market xX_book xX_ways (aL 0) xX_draft xX_im0 xX_im1 xX_im2 mX ++ wL ct aL mL) sz) := by
  refine Met.ofW (cc := cX7_cloudy) (maxL := 6) (ret := (some .int)) (by decide) rfl ?_
  intro p e s m args below meth c s₁ B hml hv
  obtain ⟨hargs, hsz, hP, hK, hD0, hE⟩ := hv
  have hx := B.exec
  have hb := B.bytes
  have hr := B.returns
  have hts := atoms_spec (ws := wsX7_cloudy) B.pre
  have hown : s.vm.findClass RX7 = some m.cls := findClass_of_methodNamed B.named
  have hlocks := B.notSynchronized
  clear B s₁
  subst hsz
  have hD := hD0.self (sz := s.heap.size)
  clear hD0
  generalize hAe : va_A (wX ct aX xX_text xX_reader xX_sowing xX_market xX_book xX_ways (aL 0) xX_draft xX_im0 xX_im1 xX_im2 mX ++ wL ct aL mL) s.heap.size = A at hD hE ⊢
  have hA : ∀ q : Nat, s.heap.size ≤ q → A q := fun q h => by rw [← hAe]; exact Or.inr h
  clear hAe
  have hS : va_S A s.heap s.heap [] := va_S.rf
  refine cutQ (fun Q hQ => ?_)
  refine entryW (vs := [.ref (aX 0), .int v1, .int v2]) hargs (Nat.le_of_ble_eq_true rfl) (fun ls hl => ?_)
  replace hl : lv_has ls 6 [(0, .ref (aX 0)), (1, .int v1), (2, .int v2)] := hl
  unfold mX7_cloudy at hM
  have N33 : ∀ (v1 : Int32) (v3 : Int64) (v5 : Int32), mX7_cloudy_L33 v1 v3 v5 mX mL = some res → ∀ (H : Heap) (locs : List Loc), va_P (dC, dI) vwCl (wX ct aX xX_text xX_reader xX_sowing xX_market xX_book xX_ways (aL 0) xX_draft xX_im0 xX_im1 xX_im2 mX ++ wL ct aL mL) H → va_D A (wX ct aX xX_text xX_reader xX_sowing xX_market xX_book xX_ways (aL 0) xX_draft xX_im0 xX_im1 xX_im2 mX ++ wL ct aL mL) → va_S A s.heap H locs → ∀ ls : Array Slot, lv_has ls 6 [(0, .ref (aX 0)), (1, .int v1), (3, .long v3), (5, .int v5)] → W p l e (headSpec wsX7_cloudy rmX7_cloudy).room s m args below meth c H locs 0 0 Q (F0 m 33 ls []) := by
    intro v1 v3 v5 hM H locs hP hD hS ls hl
    unfold mX7_cloudy_L33 at hM
    obtain ⟨ex33, hit33, hM⟩ := bn_some hM
    have X33_0 : ∀ (v3 : Int64), ex33 = v3 → ∀ (H : Heap) (locs : List Loc), va_P (dC, dI) vwCl (wX ct aX xX_text xX_reader xX_sowing xX_market xX_book xX_ways (aL 0) xX_draft xX_im0 xX_im1 xX_im2 mX ++ wL ct aL mL) H → va_D A (wX ct aX xX_text xX_reader xX_sowing xX_market xX_book xX_ways (aL 0) xX_draft xX_im0 xX_im1 xX_im2 mX ++ wL ct aL mL) → va_S A s.heap H locs → ∀ ls : Array Slot, lv_has ls 6 [(1, .int v1), (3, .long v3)] → W p l e (headSpec wsX7_cloudy rmX7_cloudy).room s m args below meth c H locs 0 0 Q (F0 m 85 ls []) := by
      intro v3 hex H locs hP hD hS ls hl
      rw [hex] at hM
      have hM := nm_at (y := v3) rfl hM
      refine lv_lload_n hx hb dX7_cloudy_85 rfl (lv_at hl 1 rfl) ?_
      refine lv_ldc2 (v := 1000) hx hb hown (hts _ (List.mem_of_getElem? (i := 4) rfl)) dX7_cloudy_86 ?_
      refine lv_lmul hx hb dX7_cloudy_89 ?_
      refine lv_iconst (v := 4) hx hb dX7_cloudy_90 (by decide) ?_
      refine lv_iload_n hx hb dX7_cloudy_91 rfl (lv_at hl 0 rfl) ?_
      refine lv_imul hx hb dX7_cloudy_92 ?_
      refine lv_lshr hx hb dX7_cloudy_93 rfl ?_
      refine lv_l2i hx hb dX7_cloudy_94 rfl ?_
      refine lv_topi (fun x_1 ex_1 => ?_)
      have hM := nm_at ex_1 hM
      have hR := som hM
      rw [hR] at hQ
      exact ret_i hQ hx hb hr hlocks hP hK hD hS dX7_cloudy_95
    have I33 : ∀ (n : Nat) (v3 : Int64) (v5 : Int32), itr (fun q => mX7_cloudy_s33 v1 mX mL q.1 q.2) n (v3, v5) = some ex33 → ∀ (H : Heap) (locs : List Loc), va_P (dC, dI) vwCl (wX ct aX xX_text xX_reader xX_sowing xX_market xX_book xX_ways (aL 0) xX_draft xX_im0 xX_im1 xX_im2 mX ++ wL ct aL mL) H → va_D A (wX ct aX xX_text xX_reader xX_sowing xX_market xX_book xX_ways (aL 0) xX_draft xX_im0 xX_im1 xX_im2 mX ++ wL ct aL mL) → va_S A s.heap H locs → ∀ ls : Array Slot, lv_has ls 6 [(0, .ref (aX 0)), (1, .int v1), (3, .long v3), (5, .int v5)] → W p l e (headSpec wsX7_cloudy rmX7_cloudy).room s m args below meth c H locs 0 0 Q (F0 m 33 ls []) := by
      intro n
      induction n with
      | zero => intro v3 v5 hit; exact (itr_zero hit).elim
      | succ n ih33 =>
        intro v3 v5 hit H locs hP hD hS ls hl
        obtain ⟨o33, hM, hbk33, hex33⟩ := itr_succ hit
        replace hM : mX7_cloudy_s33 v1 mX mL v3 v5 = some o33 := hM
        unfold mX7_cloudy_s33 at hM
        refine lv_iload hx hb dX7_cloudy_33 (lv_at hl 3 rfl) ?_
        refine lv_iload_n hx hb dX7_cloudy_35 rfl (lv_at hl 1 rfl) ?_
        refine lv_icmp_gt (tgt := 85) hx hb dX7_cloudy_36 (by decide) (fun hc_2 => ?_) (fun hc_2 => ?_)
        · have hM := it_p hc_2 hM
          have hR := som hM
          exact X33_0 v3 (hex33 _ hR).symm _ _ hP hD hS _ (lv_sub hl [1, 2] rfl)
        · have hM := it_n hc_2 hM
          refine lv_lload_n hx hb dX7_cloudy_39 rfl (lv_at hl 2 rfl) ?_
          refine lv_iload_n hx hb dX7_cloudy_40 rfl (lv_at hl 1 rfl) ?_
          refine lv_iload hx hb dX7_cloudy_41 (lv_at hl 3 rfl) ?_
          obtain ⟨x_3, hr_4, hM⟩ := bn_some hM
          refine gv_l (r0 := x_3) (wn := (wX ct aX xX_text xX_reader xX_sowing xX_market xX_book xX_ways (aL 0) xX_draft xX_im0 xX_im1 xX_im2 mX ++ wL ct aL mL)) (va_runS (As := [.int v1, .int v5]) (rest := [.long v3]) ⟨hx, hb, hml, hown, hts⟩ (kX7_choices l dC dI ct _ v1 v5 _ hr_4) (va_cwS 2 hts gX7_cloudy_X7_choices rfl rfl rfl hvX7_choices.2 ⟨Nat.le_of_ble_eq_true rfl, Nat.le_of_ble_eq_true rfl⟩) (preS_of E0_ok hK hP hD (is := []) rfl rfl e_0) rfl rfl hl.1 rfl (lv_room (Nat.le_of_ble_eq_true rfl)) dX7_cloudy_43 ⟨Nat.le_of_ble_eq_true rfl, Nat.le_of_ble_eq_true rfl⟩) hP hD hS hA [] [0, 1, 2, 3, 4, 5, 6, 7, 8, 9, 10, 11, 12] [0, 1, 2, 3, 4, 5, 6, 7, 8, 9, 10, 11, 12] rfl rfl rfl (by decide) rfl rfl (fun H locs hP hD hS => ?_)
          refine lv_aload_n hx hb dX7_cloudy_46 rfl (lv_at hl 0 rfl) ?_
          refine va_get (D := (dC, dI)) (ci := 7) (v := .ref (aL 0)) (C := RX7) (T := TX7) (N := 11) hx hb hts iwX7_cloudy_X7 hown hK hP 0 rfl rfl 8 (by decide) (hts _ (List.mem_of_getElem? (i := 2) rfl)) (fun _ h9 => h9) rfl dX7_cloudy_47 ?_
          refine va_get (D := (dC, dI)) (ci := 1) (v := .int (mL 0 1)) (C := RX1) (T := TX1) (N := 17) hx hb hts iwX7_cloudy_X1 hown hK hP 3 rfl rfl 1 (by decide) (hts _ (List.mem_of_getElem? (i := 3) rfl)) (fun _ h9 => h9) rfl dX7_cloudy_50 ?_
          refine lv_iload hx hb dX7_cloudy_53 (lv_at hl 3 rfl) ?_
          obtain ⟨x_6, hr_7, hM⟩ := bn_some hM
          refine gv_l (r0 := x_6) (wn := (wX ct aX xX_text xX_reader xX_sowing xX_market xX_book xX_ways (aL 0) xX_draft xX_im0 xX_im1 xX_im2 mX ++ wL ct aL mL)) (va_runS (As := [.int (mL 0 1), .int v5]) (rest := [.long x_3, .long v3]) ⟨hx, hb, hml, hown, hts⟩ (kX7_power l dC dI ct _ (mL 0 1) v5 _ hr_7) (va_cwS 2 hts gX7_cloudy_X7_power rfl rfl rfl hvX7_power.2 ⟨Nat.le_of_ble_eq_true rfl, Nat.le_of_ble_eq_true rfl⟩) (preS_of E0_ok hK hP hD (is := []) rfl rfl e_0) rfl rfl hl.1 rfl (lv_room (Nat.le_of_ble_eq_true rfl)) dX7_cloudy_55 ⟨Nat.le_of_ble_eq_true rfl, Nat.le_of_ble_eq_true rfl⟩) hP hD hS hA [] [0, 1, 2, 3, 4, 5, 6, 7, 8, 9, 10, 11, 12] [0, 1, 2, 3, 4, 5, 6, 7, 8, 9, 10, 11, 12] rfl rfl rfl (by decide) rfl rfl (fun H locs hP hD hS => ?_)
          refine lv_lmul hx hb dX7_cloudy_58 ?_
          refine lv_bipush (v := 16) hx hb dX7_cloudy_59 (by decide) ?_
          refine lv_aload_n hx hb dX7_cloudy_61 rfl (lv_at hl 0 rfl) ?_
          refine va_get (D := (dC, dI)) (ci := 7) (v := .ref (aL 0)) (C := RX7) (T := TX7) (N := 11) hx hb hts iwX7_cloudy_X7 hown hK hP 0 rfl rfl 8 (by decide) (hts _ (List.mem_of_getElem? (i := 2) rfl)) (fun _ h9 => h9) rfl dX7_cloudy_62 ?_
          refine va_get (D := (dC, dI)) (ci := 1) (v := .int (mL 0 1)) (C := RX1) (T := TX1) (N := 17) hx hb hts iwX7_cloudy_X1 hown hK hP 3 rfl rfl 1 (by decide) (hts _ (List.mem_of_getElem? (i := 3) rfl)) (fun _ h9 => h9) rfl dX7_cloudy_65 ?_
          refine lv_isub hx hb dX7_cloudy_68 ?_
          refine lv_iload_n hx hb dX7_cloudy_69 rfl (lv_at hl 1 rfl) ?_
          refine lv_iload hx hb dX7_cloudy_70 (lv_at hl 3 rfl) ?_
          refine lv_isub hx hb dX7_cloudy_72 ?_
          obtain ⟨x_9, hr_10, hM⟩ := bn_some hM
          refine gv_l (r0 := x_9) (wn := (wX ct aX xX_text xX_reader xX_sowing xX_market xX_book xX_ways (aL 0) xX_draft xX_im0 xX_im1 xX_im2 mX ++ wL ct aL mL)) (va_runS (As := [.int ((16 : Int32) - (mL 0 1)), .int (v1 - v5)]) (rest := [.long (x_3 * x_6), .long v3]) ⟨hx, hb, hml, hown, hts⟩ (kX7_power l dC dI ct _ ((16 : Int32) - (mL 0 1)) (v1 - v5) _ hr_10) (va_cwS 2 hts gX7_cloudy_X7_power rfl rfl rfl hvX7_power.2 ⟨Nat.le_of_ble_eq_true rfl, Nat.le_of_ble_eq_true rfl⟩) (preS_of E0_ok hK hP hD (is := []) rfl rfl e_0) rfl rfl hl.1 rfl (lv_room (Nat.le_of_ble_eq_true rfl)) dX7_cloudy_73 ⟨Nat.le_of_ble_eq_true rfl, Nat.le_of_ble_eq_true rfl⟩) hP hD hS hA [] [0, 1, 2, 3, 4, 5, 6, 7, 8, 9, 10, 11, 12] [0, 1, 2, 3, 4, 5, 6, 7, 8, 9, 10, 11, 12] rfl rfl rfl (by decide) rfl rfl (fun H locs hP hD hS => ?_)
          refine lv_lmul hx hb dX7_cloudy_76 ?_
          refine lv_ladd hx hb dX7_cloudy_77 ?_
          refine lv_topl (fun x_12 ex_12 => ?_)
          have hM := nm_at ex_12 hM
          refine lv_lstore_n (lv' := [(3, .long x_12), (0, .ref (aX 0)), (1, .int v1), (5, .int v5)]) hx hb dX7_cloudy_78 rfl hl (by decide) rfl (fun ls hl => ?_)
          obtain ⟨x_13, ex_13⟩ : ∃ y : Int32, y = (v5 + (1 : Int32)) := ⟨_, rfl⟩
          have hM := nm_at ex_13 hM
          refine lv_iinc (v := x_13) (lv' := [(5, .int x_13), (3, .long x_12), (0, .ref (aX 0)), (1, .int v1)]) hx hb dX7_cloudy_79 hl (k := 3) rfl (by rw [ex_13]; rfl) (by decide) rfl (fun ls hl => ?_)
          refine lv_goto (tgt := 33) hx hb dX7_cloudy_82 (by decide) ?_
          have hR := som hM
          exact ih33 x_12 x_13 (hbk33 _ hR) _ _ hP hD hS _ (lv_sub hl [2, 3, 1, 0] rfl)
    exact I33 FU v3 v5 hit33 _ _ hP hD hS _ hl
  refine lv_aload_n hx hb dX7_cloudy_0 rfl (lv_at hl 0 rfl) ?_
  refine va_get (D := (dC, dI)) (ci := 7) (v := .int (mX 0 10)) (C := RX7) (T := TX7) (N := 11) hx hb hts iwX7_cloudy_X7 hown hK hP 0 rfl rfl 10 (by decide) (hts _ (List.mem_of_getElem? (i := 1) rfl)) (fun _ h9 => h9) rfl dX7_cloudy_1 ?_
  refine lv_if_eq (tgt := 26) hx hb dX7_cloudy_4 (by decide) (fun hc_14 => ?_) (fun hc_14 => ?_)
  · have hM := it_p hc_14 hM
    refine lv_iconst (v := -1) hx hb dX7_cloudy_26 (by decide) ?_
    have hR := som hM
    rw [hR] at hQ
    exact ret_i hQ hx hb hr hlocks hP hK hD hS dX7_cloudy_27
  · have hM := it_n hc_14 hM
    refine lv_iload_n hx hb dX7_cloudy_7 rfl (lv_at hl 1 rfl) ?_
    refine lv_iconst (v := 1) hx hb dX7_cloudy_8 (by decide) ?_
    refine lv_bipush (v := 12) hx hb dX7_cloudy_9 (by decide) ?_
    obtain ⟨x_15, hr_16, hM⟩ := bn_some hM
    refine gv_i (r0 := x_15) (wn := (wX ct aX xX_text xX_reader xX_sowing xX_market xX_book xX_ways (aL 0) xX_draft xX_im0 xX_im1 xX_im2 mX ++ wL ct aL mL)) (va_runS (As := [.int v1, .int (1 : Int32), .int (12 : Int32)]) (rest := []) ⟨hx, hb, hml, hown, hts⟩ (kX7_isIn l dC dI ct _ v1 (1 : Int32) (12 : Int32) _ hr_16) (va_cwS 3 hts gX7_cloudy_X7_isIn rfl rfl rfl hvX7_isIn.2 ⟨Nat.le_of_ble_eq_true rfl, Nat.le_of_ble_eq_true rfl⟩) (preS_of E0_ok hK hP hD (is := []) rfl rfl e_0) rfl rfl hl.1 rfl (lv_room (Nat.le_of_ble_eq_true rfl)) dX7_cloudy_11 ⟨Nat.le_of_ble_eq_true rfl, Nat.le_of_ble_eq_true rfl⟩) hP hD hS hA [] [0, 1, 2, 3, 4, 5, 6, 7, 8, 9, 10, 11, 12] [0, 1, 2, 3, 4, 5, 6, 7, 8, 9, 10, 11, 12] rfl rfl rfl (by decide) rfl rfl (fun H locs hP hD hS => ?_)
    refine lv_if_eq (tgt := 26) hx hb dX7_cloudy_14 (by decide) (fun hc_18 => ?_) (fun hc_18 => ?_)
    · have hM := it_p hc_18 hM
      refine lv_iconst (v := -1) hx hb dX7_cloudy_26 (by decide) ?_
      have hR := som hM
      rw [hR] at hQ
      exact ret_i hQ hx hb hr hlocks hP hK hD hS dX7_cloudy_27
    · have hM := it_n hc_18 hM
      refine lv_iload_n hx hb dX7_cloudy_17 rfl (lv_at hl 2 rfl) ?_
      refine lv_iconst (v := 0) hx hb dX7_cloudy_18 (by decide) ?_
      refine lv_iload_n hx hb dX7_cloudy_19 rfl (lv_at hl 1 rfl) ?_
      obtain ⟨x_19, hr_20, hM⟩ := bn_some hM
      refine gv_i (r0 := x_19) (wn := (wX ct aX xX_text xX_reader xX_sowing xX_market xX_book xX_ways (aL 0) xX_draft xX_im0 xX_im1 xX_im2 mX ++ wL ct aL mL)) (va_runS (As := [.int v2, .int (0 : Int32), .int v1]) (rest := []) ⟨hx, hb, hml, hown, hts⟩ (kX7_isIn l dC dI ct _ v2 (0 : Int32) v1 _ hr_20) (va_cwS 3 hts gX7_cloudy_X7_isIn rfl rfl rfl hvX7_isIn.2 ⟨Nat.le_of_ble_eq_true rfl, Nat.le_of_ble_eq_true rfl⟩) (preS_of E0_ok hK hP hD (is := []) rfl rfl e_0) rfl rfl hl.1 rfl (lv_room (Nat.le_of_ble_eq_true rfl)) dX7_cloudy_20 ⟨Nat.le_of_ble_eq_true rfl, Nat.le_of_ble_eq_true rfl⟩) hP hD hS hA [] [0, 1, 2, 3, 4, 5, 6, 7, 8, 9, 10, 11, 12] [0, 1, 2, 3, 4, 5, 6, 7, 8, 9, 10, 11, 12] rfl rfl rfl (by decide) rfl rfl (fun H locs hP hD hS => ?_)
      refine lv_if_ne (tgt := 28) hx hb dX7_cloudy_23 (by decide) (fun hc_22 => ?_) (fun hc_22 => ?_)
      · have hM := it_p hc_22 hM
        refine lv_lconst (v := 0) hx hb dX7_cloudy_28 (by decide) ?_
        refine lv_lstore_n (lv' := [(3, .long (0 : Int64)), (0, .ref (aX 0)), (1, .int v1), (2, .int v2)]) hx hb dX7_cloudy_29 rfl hl (by decide) rfl (fun ls hl => ?_)
        refine lv_iload_n hx hb dX7_cloudy_30 rfl (lv_at hl 3 rfl) ?_
        refine lv_istore (lv' := [(5, .int v2), (3, .long (0 : Int64)), (0, .ref (aX 0)), (1, .int v1), (2, .int v2)]) hx hb dX7_cloudy_31 hl (by decide) rfl (fun ls hl => ?_)
        exact N33 v1 (0 : Int64) v2 hM _ _ hP hD hS _ (lv_sub hl [2, 3, 1, 0] rfl)
      · have hM := it_nn hc_22 hM
        refine lv_iconst (v := -1) hx hb dX7_cloudy_26 (by decide) ?_
        have hR := som hM
        rw [hR] at hQ
        exact ret_i hQ hx hb hr hlocks hP hK hD hS dX7_cloudy_27
abbrev rmX7_loan : Room := { frames := 1, cells := 0, slots := 0, locals := 22 }
theorem iwX7_loan_X7 : ∀ w ∈ wsX70, w ∈ wsX7_loan := fun _ h => List.mem_cons_of_mem _ (List.mem_append_left _ (List.mem_append_right _ (h)))
set_option maxHeartbeats 4000000 in
set_option maxRecDepth 100000 in
theorem kX7_loan (l : Launch) (dC : Nat → ClassId) (dI : Nat → Nat → Nat) (ct : Nat → ClassId) (aX : Nat → Nat) (aM : Nat → Nat) (xX_text : Nat) (xX_reader : Nat) (xX_sowing : Nat) (xX_book : Nat) (xX_ways : Nat) (xX_land : Nat) (xX_draft : Nat) (xX_im0 : Nat) (xX_im1 : Nat) (xX_im2 : Nat) (sz : Nat) (mX : Mem) (mM : Mem) (v1 : Int32) (v2 : Int32) (res : Int32) (hM : mX7_loan mX mM v1 v2 = some res) : Met l yX7_loan wsX7_loan rmX7_loan (va_Pc [.ref (aX 0), .int v1, .int v2] (PB (dC, dI) ct E0 sz (wX ct aX xX_text xX_reader xX_sowing (aM 0) xX_book xX_ways xX_land xX_draft xX_im0 xX_im1 xX_im2 mX ++ wM ct aM mM))) (Qi (dC, dI) ct (va_A (wX ct aX xX_text xX_reader xX_sowing (aM 0) xX_book xX_ways xX_land xX_draft xX_im0 xX_im1 xX_im2 mX ++ wM ct aM mM) sz) res (wX ct aX xX_text xX_reader xX_sowing (aM 0) xX_book xX_ways xX_land xX_draft xX_im0 xX_im1 xX_im2 mX ++ wM ct aM mM)) 0 0 (va_A (wX ct aX xX_text xX_reader xX_sowing (aM 0) xX_book xX_ways xX_land xX_draft xX_im0 xX_im1 xX_im2 mX ++ wM ct aM mM) sz) := by
  refine Met.ofW (cc := cX7_loan) (maxL := 3) (ret := (some .int)) (by decide) rfl ?_
  intro p e s m args below meth c s₁ B hml hv
  obtain ⟨hargs, hsz, hP, hK, hD0, hE⟩ := hv
  have hx := B.exec
  have hb := B.bytes
  have hr := B.returns
  have hts := atoms_spec (ws := wsX7_loan) B.pre
  have hown : s.vm.findClass RX7 = some m.cls := findClass_of_methodNamed B.named
  have hlocks := B.notSynchronized
  clear B s₁
  subst hsz
  have hD := hD0.self (sz := s.heap.size)
  clear hD0
  generalize hAe : va_A (wX ct aX xX_text xX_reader xX_sowing (aM 0) xX_book xX_ways xX_land xX_draft xX_im0 xX_im1 xX_im2 mX ++ wM ct aM mM) s.heap.size = A at hD hE ⊢
  have hA : ∀ q : Nat, s.heap.size ≤ q → A q := fun q h => by rw [← hAe]; exact Or.inr h
  clear hAe
  have hS : va_S A s.heap s.heap [] := va_S.rf
  refine cutQ (fun Q hQ => ?_)
  refine entryW (vs := [.ref (aX 0), .int v1, .int v2]) hargs (Nat.le_of_ble_eq_true rfl) (fun ls hl => ?_)
  replace hl : lv_has ls 3 [(0, .ref (aX 0)), (1, .int v1), (2, .int v2)] := hl
  unfold mX7_loan at hM
  refine lv_aload_n hx hb dX7_loan_0 rfl (lv_at hl 0 rfl) ?_
  refine va_get (D := (dC, dI)) (ci := 7) (v := .ref (aM 0)) (C := RX7) (T := TX7) (N := 11) hx hb hts iwX7_loan_X7 hown hK hP 0 rfl rfl 3 (by decide) (hts _ (List.mem_of_getElem? (i := 1) rfl)) (fun _ h9 => h9) rfl dX7_loan_1 ?_
  refine lv_iload_n hx hb dX7_loan_4 rfl (lv_at hl 1 rfl) ?_
  obtain ⟨x_1, hr_2, hM⟩ := bn_some hM
  refine gv_i (r0 := x_1) (wn := (wX ct aX xX_text xX_reader xX_sowing (aM 0) xX_book xX_ways xX_land xX_draft xX_im0 xX_im1 xX_im2 mX ++ wM ct aM mM)) (va_runV (As := [.int v1]) (rest := []) ⟨hx, hb, hml, hown, hts⟩ (kX2_isOwed l dC dI ct aM _ mM v1 _ hr_2) (cwV 1 hts gX7_loan_X2_isOwed rfl rfl rfl hvX2_isOwed ⟨Nat.le_of_ble_eq_true rfl, Nat.le_of_ble_eq_true rfl⟩) (preV_of E0_ok hK hP hD (is := [3, 4, 5, 6, 7, 8, 9, 10, 11]) rfl rfl rfl (ci := 2) rfl 3 rfl e_0) rfl rfl hl.1 rfl (lv_room (Nat.le_of_ble_eq_true rfl)) dX7_loan_5 ⟨Nat.le_of_ble_eq_true rfl, Nat.le_of_ble_eq_true rfl⟩) hP hD hS hA [3, 4, 5, 6, 7, 8, 9, 10, 11] [0, 1, 2] [0, 1, 2, 3, 4, 5, 6, 7, 8, 9, 10, 11] rfl rfl rfl (by decide) rfl rfl (fun H locs hP hD hS => ?_)
  refine lv_if_eq (tgt := 23) hx hb dX7_loan_8 (by decide) (fun hc_4 => ?_) (fun hc_4 => ?_)
  · have hM := it_p hc_4 hM
    refine lv_iconst (v := -1) hx hb dX7_loan_23 (by decide) ?_
    have hR := som hM
    rw [hR] at hQ
    exact ret_i hQ hx hb hr hlocks hP hK hD hS dX7_loan_24
  · have hM := it_n hc_4 hM
    refine lv_aload_n hx hb dX7_loan_11 rfl (lv_at hl 0 rfl) ?_
    refine va_get (D := (dC, dI)) (ci := 7) (v := .ref (aM 0)) (C := RX7) (T := TX7) (N := 11) hx hb hts iwX7_loan_X7 hown hK hP 0 rfl rfl 3 (by decide) (hts _ (List.mem_of_getElem? (i := 1) rfl)) (fun _ h9 => h9) rfl dX7_loan_12 ?_
    refine lv_iload_n hx hb dX7_loan_15 rfl (lv_at hl 1 rfl) ?_
    refine lv_iload_n hx hb dX7_loan_16 rfl (lv_at hl 2 rfl) ?_
    obtain ⟨x_5, hr_6, hM⟩ := bn_some hM
    refine gv_i (r0 := x_5) (wn := (wX ct aX xX_text xX_reader xX_sowing (aM 0) xX_book xX_ways xX_land xX_draft xX_im0 xX_im1 xX_im2 mX ++ wM ct aM mM)) (va_runV (As := [.int v1, .int v2]) (rest := []) ⟨hx, hb, hml, hown, hts⟩ (kX2_numberOf l dC dI ct aM _ mM v1 v2 _ hr_6) (cwV 2 hts gX7_loan_X2_numberOf rfl rfl rfl hvX2_numberOf ⟨Nat.le_of_ble_eq_true rfl, Nat.le_of_ble_eq_true rfl⟩) (preV_of E0_ok hK hP hD (is := [3, 4, 5, 6, 7, 8, 9, 10, 11]) rfl rfl rfl (ci := 2) rfl 3 rfl e_0) rfl rfl hl.1 rfl (lv_room (Nat.le_of_ble_eq_true rfl)) dX7_loan_17 ⟨Nat.le_of_ble_eq_true rfl, Nat.le_of_ble_eq_true rfl⟩) hP hD hS hA [3, 4, 5, 6, 7, 8, 9, 10, 11] [0, 1, 2] [0, 1, 2, 3, 4, 5, 6, 7, 8, 9, 10, 11] rfl rfl rfl (by decide) rfl rfl (fun H locs hP hD hS => ?_)
    refine lv_goto (tgt := 24) hx hb dX7_loan_20 (by decide) ?_
    have hR := som hM
    rw [hR] at hQ
    exact ret_i hQ hx hb hr hlocks hP hK hD hS dX7_loan_24
abbrev rmX7_lend : Room := { frames := 3, cells := 0, slots := 0, locals := 66 }
theorem iwX7_lend_X7 : ∀ w ∈ wsX70, w ∈ wsX7_lend := fun _ h => List.mem_cons_of_mem _ (List.mem_append_left _ (List.mem_append_left _ (List.mem_append_right _ (h))))
set_option maxHeartbeats 4000000 in
set_option maxRecDepth 100000 in
theorem kX7_lend (l : Launch) (dC : Nat → ClassId) (dI : Nat → Nat → Nat) (ct : Nat → ClassId) (aX : Nat → Nat) (aM : Nat → Nat) (aL : Nat → Nat) (xX_text : Nat) (xX_reader : Nat) (xX_sowing : Nat) (xX_book : Nat) (xX_ways : Nat) (xX_draft : Nat) (xX_im0 : Nat) (xX_im1 : Nat) (xX_im2 : Nat) (sz : Nat) (mX : Mem) (mM : Mem) (mL : Mem) (v1 : Int32) (v2 : Int32) (v3 : Int32) (v4 : Int32) (res : (Int32 × Mem)) (hM : mX7_lend mX mM mL v1 v2 v3 v4 = some res) : Met l yX7_lend wsX7_lend rmX7_lend (va_Pc [.ref (aX 0), .int v1, .int v2, .int v3, .int v4] (PB (dC, dI) ct E0 sz (wX ct aX xX_text xX_reader xX_sowing (aM 0) xX_book xX_ways (aL 0) xX_draft xX_im0 xX_im1 xX_im2 mX ++ wM ct aM mM ++ wL ct aL mL))) (Qi (dC, dI) ct (va_A (wX ct aX xX_text xX_reader xX_sowing (aM 0) xX_book xX_ways (aL 0) xX_draft xX_im0 xX_im1 xX_im2 mX ++ wM ct aM mM ++ wL ct aL mL) sz) res.1 (wX ct aX xX_text xX_reader xX_sowing (aM 0) xX_book xX_ways (aL 0) xX_draft xX_im0 xX_im1 xX_im2 mX ++ wM ct aM res.2 ++ wL ct aL mL)) 0 0 (va_A (wX ct aX xX_text xX_reader xX_sowing (aM 0) xX_book xX_ways (aL 0) xX_draft xX_im0 xX_im1 xX_im2 mX ++ wM ct aM mM ++ wL ct aL mL) sz) := by
  refine Met.ofW (cc := cX7_lend) (maxL := 5) (ret := (some .int)) (by decide) rfl ?_
  intro p e s m args below meth c s₁ B hml hv
  obtain ⟨hargs, hsz, hP, hK, hD0, hE⟩ := hv
  have hx := B.exec
  have hb := B.bytes
  have hr := B.returns
  have hts := atoms_spec (ws := wsX7_lend) B.pre
  have hown : s.vm.findClass RX7 = some m.cls := findClass_of_methodNamed B.named
  have hlocks := B.notSynchronized
  clear B s₁
  subst hsz
  have hD := hD0.self (sz := s.heap.size)
  clear hD0
  generalize hAe : va_A (wX ct aX xX_text xX_reader xX_sowing (aM 0) xX_book xX_ways (aL 0) xX_draft xX_im0 xX_im1 xX_im2 mX ++ wM ct aM mM ++ wL ct aL mL) s.heap.size = A at hD hE ⊢
  have hA : ∀ q : Nat, s.heap.size ≤ q → A q := fun q h => by rw [← hAe]; exact Or.inr h
  clear hAe
  have hS : va_S A s.heap s.heap [] := va_S.rf
  refine cutQ (fun Q hQ => ?_)
  refine entryW (vs := [.ref (aX 0), .int v1, .int v2, .int v3, .int v4]) hargs (Nat.le_of_ble_eq_true rfl) (fun ls hl => ?_)
  replace hl : lv_has ls 5 [(0, .ref (aX 0)), (1, .int v1), (2, .int v2), (3, .int v3), (4, .int v4)] := hl
  unfold mX7_lend at hM
  refine lv_aload_n hx hb dX7_lend_0 rfl (lv_at hl 0 rfl) ?_
  refine lv_iload_n hx hb dX7_lend_1 rfl (lv_at hl 1 rfl) ?_
  refine lv_iload_n hx hb dX7_lend_2 rfl (lv_at hl 2 rfl) ?_
  refine lv_iload_n hx hb dX7_lend_3 rfl (lv_at hl 3 rfl) ?_
  refine lv_iload hx hb dX7_lend_4 (lv_at hl 4 rfl) ?_
  obtain ⟨x_1, hr_2, hM⟩ := bn_some hM
  have hPs := pm_P (ws' := (wX ct aX xX_text xX_reader xX_sowing (aM 0) xX_book xX_ways (aL 0) xX_draft xX_im0 xX_im1 xX_im2 mX ++ wL ct aL mL) ++ (wM ct aM mM)) [wX ct aX xX_text xX_reader xX_sowing (aM 0) xX_book xX_ways (aL 0) xX_draft xX_im0 xX_im1 xX_im2 mX, wM ct aM mM, wL ct aL mL] [0, 2, 1] (show List.Perm [0, 2, 1] (List.range 3) from by decide) (by simp only [List.flatten_cons, List.flatten_nil, List.append_nil, List.nil_append, List.append_assoc]) (by show List.flatten [wX ct aX xX_text xX_reader xX_sowing (aM 0) xX_book xX_ways (aL 0) xX_draft xX_im0 xX_im1 xX_im2 mX, wL ct aL mL, wM ct aM mM] = _; simp only [List.flatten_cons, List.flatten_nil, List.append_nil, List.nil_append, List.append_assoc]) hP
  have hDs := pm_D (ws' := (wX ct aX xX_text xX_reader xX_sowing (aM 0) xX_book xX_ways (aL 0) xX_draft xX_im0 xX_im1 xX_im2 mX ++ wL ct aL mL) ++ (wM ct aM mM)) [wX ct aX xX_text xX_reader xX_sowing (aM 0) xX_book xX_ways (aL 0) xX_draft xX_im0 xX_im1 xX_im2 mX, wM ct aM mM, wL ct aL mL] [0, 2, 1] (show List.Perm [0, 2, 1] (List.range 3) from by decide) (by simp only [List.flatten_cons, List.flatten_nil, List.append_nil, List.nil_append, List.append_assoc]) (by show List.flatten [wX ct aX xX_text xX_reader xX_sowing (aM 0) xX_book xX_ways (aL 0) xX_draft xX_im0 xX_im1 xX_im2 mX, wL ct aL mL, wM ct aM mM] = _; simp only [List.flatten_cons, List.flatten_nil, List.append_nil, List.nil_append, List.append_assoc]) hD
  refine sp_i (r0 := x_1) (wr := (wM ct aM mM)) (va_runV (As := [.int v1, .int v2, .int v3, .int v4]) (rest := []) ⟨hx, hb, hml, hown, hts⟩ (kX7_canBeLoan l dC dI ct aX aL xX_text xX_reader xX_sowing (aM 0) xX_book xX_ways xX_draft xX_im0 xX_im1 xX_im2 _ mX mL v1 v2 v3 v4 _ hr_2) (cwV 4 hts gX7_lend_X7_canBeLoan rfl rfl rfl hvX7_canBeLoan ⟨Nat.le_of_ble_eq_true rfl, Nat.le_of_ble_eq_true rfl⟩) (sp_preV E0_ok hK hPs hDs rfl (ci := 7) rfl 0 rfl e_0) rfl rfl hl.1 rfl (lv_room (Nat.le_of_ble_eq_true rfl)) dX7_lend_6 ⟨Nat.le_of_ble_eq_true rfl, Nat.le_of_ble_eq_true rfl⟩) hPs hDs hS hA (fun H locs hPs hDs hS => ?_)
  replace hPs : va_P (dC, dI) vwCl ((wX ct aX xX_text xX_reader xX_sowing (aM 0) xX_book xX_ways (aL 0) xX_draft xX_im0 xX_im1 xX_im2 mX ++ wL ct aL mL) ++ (wM ct aM mM)) H := hPs
  replace hDs : va_D A ((wX ct aX xX_text xX_reader xX_sowing (aM 0) xX_book xX_ways (aL 0) xX_draft xX_im0 xX_im1 xX_im2 mX ++ wL ct aL mL) ++ (wM ct aM mM)) := hDs
  have hP := pm_P (ws' := (wX ct aX xX_text xX_reader xX_sowing (aM 0) xX_book xX_ways (aL 0) xX_draft xX_im0 xX_im1 xX_im2 mX ++ wM ct aM mM ++ wL ct aL mL)) [wX ct aX xX_text xX_reader xX_sowing (aM 0) xX_book xX_ways (aL 0) xX_draft xX_im0 xX_im1 xX_im2 mX, wL ct aL mL, wM ct aM mM] [0, 2, 1] (show List.Perm [0, 2, 1] (List.range 3) from by decide) (by simp only [List.flatten_cons, List.flatten_nil, List.append_nil, List.nil_append, List.append_assoc]) (by show List.flatten [wX ct aX xX_text xX_reader xX_sowing (aM 0) xX_book xX_ways (aL 0) xX_draft xX_im0 xX_im1 xX_im2 mX, wM ct aM mM, wL ct aL mL] = _; simp only [List.flatten_cons, List.flatten_nil, List.append_nil, List.nil_append, List.append_assoc]) hPs
  have hD := pm_D (ws' := (wX ct aX xX_text xX_reader xX_sowing (aM 0) xX_book xX_ways (aL 0) xX_draft xX_im0 xX_im1 xX_im2 mX ++ wM ct aM mM ++ wL ct aL mL)) [wX ct aX xX_text xX_reader xX_sowing (aM 0) xX_book xX_ways (aL 0) xX_draft xX_im0 xX_im1 xX_im2 mX, wL ct aL mL, wM ct aM mM] [0, 2, 1] (show List.Perm [0, 2, 1] (List.range 3) from by decide) (by simp only [List.flatten_cons, List.flatten_nil, List.append_nil, List.nil_append, List.append_assoc]) (by show List.flatten [wX ct aX xX_text xX_reader xX_sowing (aM 0) xX_book xX_ways (aL 0) xX_draft xX_im0 xX_im1 xX_im2 mX, wM ct aM mM, wL ct aL mL] = _; simp only [List.flatten_cons, List.flatten_nil, List.append_nil, List.nil_append, List.append_assoc]) hDs
  clear hPs hDs
  refine lv_if_ne (tgt := 14) hx hb dX7_lend_9 (by decide) (fun hc_4 => ?_) (fun hc_4 => ?_)
  · have hM := it_p hc_4 hM
    refine lv_aload_n hx hb dX7_lend_14 rfl (lv_at hl 0 rfl) ?_
    refine va_get (D := (dC, dI)) (ci := 7) (v := .ref (aM 0)) (C := RX7) (T := TX7) (N := 11) hx hb hts iwX7_lend_X7 hown hK hP 0 rfl rfl 3 (by decide) (hts _ (List.mem_of_getElem? (i := 1) rfl)) (fun _ h9 => h9) rfl dX7_lend_15 ?_
    refine lv_aload_n hx hb dX7_lend_18 rfl (lv_at hl 0 rfl) ?_
    refine va_get (D := (dC, dI)) (ci := 7) (v := .ref (aL 0)) (C := RX7) (T := TX7) (N := 11) hx hb hts iwX7_lend_X7 hown hK hP 0 rfl rfl 8 (by decide) (hts _ (List.mem_of_getElem? (i := 2) rfl)) (fun _ h9 => h9) rfl dX7_lend_19 ?_
    refine lv_iload_n hx hb dX7_lend_22 rfl (lv_at hl 1 rfl) ?_
    refine lv_iload_n hx hb dX7_lend_23 rfl (lv_at hl 2 rfl) ?_
    refine lv_iload_n hx hb dX7_lend_24 rfl (lv_at hl 3 rfl) ?_
    refine lv_iload hx hb dX7_lend_25 (lv_at hl 4 rfl) ?_
    obtain ⟨q_8, hr_7, hM⟩ := bn_some hM
    obtain ⟨x_5, mM_6⟩ := q_8
    have hM := nm_at (y := x_5) rfl hM
    have hM := nm_at (y := mM_6) rfl hM
    have hPs := pm_P (ws' := (wM ct aM mM ++ wL ct aL mL) ++ (wX ct aX xX_text xX_reader xX_sowing (aM 0) xX_book xX_ways (aL 0) xX_draft xX_im0 xX_im1 xX_im2 mX)) [wX ct aX xX_text xX_reader xX_sowing (aM 0) xX_book xX_ways (aL 0) xX_draft xX_im0 xX_im1 xX_im2 mX, wM ct aM mM, wL ct aL mL] [1, 2, 0] (show List.Perm [1, 2, 0] (List.range 3) from by decide) (by simp only [List.flatten_cons, List.flatten_nil, List.append_nil, List.nil_append, List.append_assoc]) (by show List.flatten [wM ct aM mM, wL ct aL mL, wX ct aX xX_text xX_reader xX_sowing (aM 0) xX_book xX_ways (aL 0) xX_draft xX_im0 xX_im1 xX_im2 mX] = _; simp only [List.flatten_cons, List.flatten_nil, List.append_nil, List.nil_append, List.append_assoc]) hP
    have hDs := pm_D (ws' := (wM ct aM mM ++ wL ct aL mL) ++ (wX ct aX xX_text xX_reader xX_sowing (aM 0) xX_book xX_ways (aL 0) xX_draft xX_im0 xX_im1 xX_im2 mX)) [wX ct aX xX_text xX_reader xX_sowing (aM 0) xX_book xX_ways (aL 0) xX_draft xX_im0 xX_im1 xX_im2 mX, wM ct aM mM, wL ct aL mL] [1, 2, 0] (show List.Perm [1, 2, 0] (List.range 3) from by decide) (by simp only [List.flatten_cons, List.flatten_nil, List.append_nil, List.nil_append, List.append_assoc]) (by show List.flatten [wM ct aM mM, wL ct aL mL, wX ct aX xX_text xX_reader xX_sowing (aM 0) xX_book xX_ways (aL 0) xX_draft xX_im0 xX_im1 xX_im2 mX] = _; simp only [List.flatten_cons, List.flatten_nil, List.append_nil, List.nil_append, List.append_assoc]) hD
    refine sp_i (r0 := x_5) (wr := (wX ct aX xX_text xX_reader xX_sowing (aM 0) xX_book xX_ways (aL 0) xX_draft xX_im0 xX_im1 xX_im2 mX)) (va_runV (As := [.ref (aL 0), .int v1, .int v2, .int v3, .int v4]) (rest := []) ⟨hx, hb, hml, hown, hts⟩ (kX2_makeLoan l dC dI ct aM aL _ mM mL v1 v2 v3 v4 _ hr_7) (cwV 5 hts gX7_lend_X2_makeLoan rfl rfl rfl hvX2_makeLoan ⟨Nat.le_of_ble_eq_true rfl, Nat.le_of_ble_eq_true rfl⟩) (sp_preV E0_ok hK hPs hDs rfl (ci := 2) rfl 0 rfl e_0) rfl rfl hl.1 rfl (lv_room (Nat.le_of_ble_eq_true rfl)) dX7_lend_27 ⟨Nat.le_of_ble_eq_true rfl, Nat.le_of_ble_eq_true rfl⟩) hPs hDs hS hA (fun H locs hPs hDs hS => ?_)
    replace hPs : va_P (dC, dI) vwCl ((wM ct aM mM_6 ++ wL ct aL mL) ++ (wX ct aX xX_text xX_reader xX_sowing (aM 0) xX_book xX_ways (aL 0) xX_draft xX_im0 xX_im1 xX_im2 mX)) H := hPs
    replace hDs : va_D A ((wM ct aM mM_6 ++ wL ct aL mL) ++ (wX ct aX xX_text xX_reader xX_sowing (aM 0) xX_book xX_ways (aL 0) xX_draft xX_im0 xX_im1 xX_im2 mX)) := hDs
    have hP := pm_P (ws' := (wX ct aX xX_text xX_reader xX_sowing (aM 0) xX_book xX_ways (aL 0) xX_draft xX_im0 xX_im1 xX_im2 mX ++ wM ct aM mM_6 ++ wL ct aL mL)) [wM ct aM mM_6, wL ct aL mL, wX ct aX xX_text xX_reader xX_sowing (aM 0) xX_book xX_ways (aL 0) xX_draft xX_im0 xX_im1 xX_im2 mX] [2, 0, 1] (show List.Perm [2, 0, 1] (List.range 3) from by decide) (by simp only [List.flatten_cons, List.flatten_nil, List.append_nil, List.nil_append, List.append_assoc]) (by show List.flatten [wX ct aX xX_text xX_reader xX_sowing (aM 0) xX_book xX_ways (aL 0) xX_draft xX_im0 xX_im1 xX_im2 mX, wM ct aM mM_6, wL ct aL mL] = _; simp only [List.flatten_cons, List.flatten_nil, List.append_nil, List.nil_append, List.append_assoc]) hPs
    have hD := pm_D (ws' := (wX ct aX xX_text xX_reader xX_sowing (aM 0) xX_book xX_ways (aL 0) xX_draft xX_im0 xX_im1 xX_im2 mX ++ wM ct aM mM_6 ++ wL ct aL mL)) [wM ct aM mM_6, wL ct aL mL, wX ct aX xX_text xX_reader xX_sowing (aM 0) xX_book xX_ways (aL 0) xX_draft xX_im0 xX_im1 xX_im2 mX] [2, 0, 1] (show List.Perm [2, 0, 1] (List.range 3) from by decide) (by simp only [List.flatten_cons, List.flatten_nil, List.append_nil, List.nil_append, List.append_assoc]) (by show List.flatten [wX ct aX xX_text xX_reader xX_sowing (aM 0) xX_book xX_ways (aL 0) xX_draft xX_im0 xX_im1 xX_im2 mX, wM ct aM mM_6, wL ct aL mL] = _; simp only [List.flatten_cons, List.flatten_nil, List.append_nil, List.nil_append, List.append_assoc]) hDs
    clear hPs hDs
    have hR := som hM
    rw [hR] at hQ
    exact ret_i hQ hx hb hr hlocks hP hK hD hS dX7_lend_30
  · have hM := it_nn hc_4 hM
    refine lv_iconst (v := -1) hx hb dX7_lend_12 (by decide) ?_
    have hR := som hM
    rw [hR] at hQ
    exact ret_i hQ hx hb hr hlocks hP hK hD hS dX7_lend_13
abbrev rmX7_go : Room := { frames := 3, cells := 0, slots := 0, locals := 68 }
theorem iwX7_go_X2 : ∀ w ∈ wsX20, w ∈ wsX7_go := fun _ h => List.mem_cons_of_mem _ (List.mem_append_left _ (List.mem_append_right _ (h)))
theorem iwX7_go_X7 : ∀ w ∈ wsX70, w ∈ wsX7_go := fun _ h => List.mem_cons_of_mem _ (List.mem_append_left _ (List.mem_append_left _ (List.mem_append_right _ (h))))
set_option maxHeartbeats 4000000 in
set_option maxRecDepth 100000 in
theorem kX7_go (l : Launch) (dC : Nat → ClassId) (dI : Nat → Nat → Nat) (ct : Nat → ClassId) (aX : Nat → Nat) (aM : Nat → Nat) (aL : Nat → Nat) (xX_text : Nat) (xX_reader : Nat) (xX_sowing : Nat) (xX_book : Nat) (xX_ways : Nat) (xX_draft : Nat) (xX_im0 : Nat) (xX_im1 : Nat) (xX_im2 : Nat) (sz : Nat) (mX : Mem) (mM : Mem) (mL : Mem) (v1 : Int32) (res : (Int32 × Mem)) (hM : mX7_go mX mM mL v1 = some res) : Met l yX7_go wsX7_go rmX7_go (va_Pc [.ref (aX 0), .int v1] (PB (dC, dI) ct E0 sz (wX ct aX xX_text xX_reader xX_sowing (aM 0) xX_book xX_ways (aL 0) xX_draft xX_im0 xX_im1 xX_im2 mX ++ wM ct aM mM ++ wL ct aL mL))) (Qi (dC, dI) ct (va_A (wX ct aX xX_text xX_reader xX_sowing (aM 0) xX_book xX_ways (aL 0) xX_draft xX_im0 xX_im1 xX_im2 mX ++ wM ct aM mM ++ wL ct aL mL) sz) res.1 (wX ct aX xX_text xX_reader xX_sowing (aM 0) xX_book xX_ways (aL 0) xX_draft xX_im0 xX_im1 xX_im2 mX ++ wM ct aM res.2 ++ wL ct aL mL)) 0 0 (va_A (wX ct aX xX_text xX_reader xX_sowing (aM 0) xX_book xX_ways (aL 0) xX_draft xX_im0 xX_im1 xX_im2 mX ++ wM ct aM mM ++ wL ct aL mL) sz) := by
  refine Met.ofW (cc := cX7_go) (maxL := 3) (ret := (some .int)) (by decide) rfl ?_
  intro p e s m args below meth c s₁ B hml hv
  obtain ⟨hargs, hsz, hP, hK, hD0, hE⟩ := hv
  have hx := B.exec
  have hb := B.bytes
  have hr := B.returns
  have hts := atoms_spec (ws := wsX7_go) B.pre
  have hown : s.vm.findClass RX7 = some m.cls := findClass_of_methodNamed B.named
  have hlocks := B.notSynchronized
  clear B s₁
  subst hsz
  have hD := hD0.self (sz := s.heap.size)
  clear hD0
  generalize hAe : va_A (wX ct aX xX_text xX_reader xX_sowing (aM 0) xX_book xX_ways (aL 0) xX_draft xX_im0 xX_im1 xX_im2 mX ++ wM ct aM mM ++ wL ct aL mL) s.heap.size = A at hD hE ⊢
  have hA : ∀ q : Nat, s.heap.size ≤ q → A q := fun q h => by rw [← hAe]; exact Or.inr h
  clear hAe
  have hS : va_S A s.heap s.heap [] := va_S.rf
  refine cutQ (fun Q hQ => ?_)
  refine entryW (vs := [.ref (aX 0), .int v1]) hargs (Nat.le_of_ble_eq_true rfl) (fun ls hl => ?_)
  replace hl : lv_has ls 3 [(0, .ref (aX 0)), (1, .int v1)] := hl
  unfold mX7_go at hM
  have N22 : ∀ (v1 : Int32) (v2 : Int32) (mM : Mem), mX7_go_L22 v1 v2 mX mM mL = some res → ∀ (H : Heap) (locs : List Loc), va_P (dC, dI) vwCl (wX ct aX xX_text xX_reader xX_sowing (aM 0) xX_book xX_ways (aL 0) xX_draft xX_im0 xX_im1 xX_im2 mX ++ wM ct aM mM ++ wL ct aL mL) H → va_D A (wX ct aX xX_text xX_reader xX_sowing (aM 0) xX_book xX_ways (aL 0) xX_draft xX_im0 xX_im1 xX_im2 mX ++ wM ct aM mM ++ wL ct aL mL) → va_S A s.heap H locs → ∀ ls : Array Slot, lv_has ls 3 [(0, .ref (aX 0)), (1, .int v1), (2, .int v2)] → W p l e (headSpec wsX7_go rmX7_go).room s m args below meth c H locs 0 0 Q (F0 m 22 ls []) := by
    intro v1 v2 mM hM H locs hP hD hS ls hl
    unfold mX7_go_L22 at hM
    obtain ⟨ex22, hit22, hM⟩ := bn_some hM
    have X22_0 : ∀ (mM : Mem), ex22 = mM → ∀ (H : Heap) (locs : List Loc), va_P (dC, dI) vwCl (wX ct aX xX_text xX_reader xX_sowing (aM 0) xX_book xX_ways (aL 0) xX_draft xX_im0 xX_im1 xX_im2 mX ++ wM ct aM mM ++ wL ct aL mL) H → va_D A (wX ct aX xX_text xX_reader xX_sowing (aM 0) xX_book xX_ways (aL 0) xX_draft xX_im0 xX_im1 xX_im2 mX ++ wM ct aM mM ++ wL ct aL mL) → va_S A s.heap H locs → ∀ ls : Array Slot, lv_has ls 3 [(0, .ref (aX 0))] → W p l e (headSpec wsX7_go rmX7_go).room s m args below meth c H locs 0 0 Q (F0 m 72 ls []) := by
      intro mM hex H locs hP hD hS ls hl
      rw [hex] at hM
      have hM := nm_at (y := mM) rfl hM
      refine lv_aload_n hx hb dX7_go_72 rfl (lv_at hl 0 rfl) ?_
      refine va_get (D := (dC, dI)) (ci := 7) (v := .ref (aM 0)) (C := RX7) (T := TX7) (N := 11) hx hb hts iwX7_go_X7 hown hK hP 0 rfl rfl 3 (by decide) (hts _ (List.mem_of_getElem? (i := 2) rfl)) (fun _ h9 => h9) rfl dX7_go_73 ?_
      refine va_get (D := (dC, dI)) (ci := 2) (v := .int (mM 0 0)) (C := RX2) (T := TX2) (N := 10) hx hb hts iwX7_go_X2 hown hK hP 3 rfl rfl 0 (by decide) (hts _ (List.mem_of_getElem? (i := 4) rfl)) (fun _ h9 => h9) rfl dX7_go_76 ?_
      refine lv_topi (fun x_1 ex_1 => ?_)
      have hM := nm_at ex_1 hM
      have hR := som hM
      rw [hR] at hQ
      exact ret_i hQ hx hb hr hlocks hP hK hD hS dX7_go_79
    have I22 : ∀ (n : Nat) (v2 : Int32) (mM : Mem), itr (fun q => mX7_go_s22 v1 mX mL q.1 q.2) n (v2, mM) = some ex22 → ∀ (H : Heap) (locs : List Loc), va_P (dC, dI) vwCl (wX ct aX xX_text xX_reader xX_sowing (aM 0) xX_book xX_ways (aL 0) xX_draft xX_im0 xX_im1 xX_im2 mX ++ wM ct aM mM ++ wL ct aL mL) H → va_D A (wX ct aX xX_text xX_reader xX_sowing (aM 0) xX_book xX_ways (aL 0) xX_draft xX_im0 xX_im1 xX_im2 mX ++ wM ct aM mM ++ wL ct aL mL) → va_S A s.heap H locs → ∀ ls : Array Slot, lv_has ls 3 [(0, .ref (aX 0)), (1, .int v1), (2, .int v2)] → W p l e (headSpec wsX7_go rmX7_go).room s m args below meth c H locs 0 0 Q (F0 m 22 ls []) := by
      intro n
      induction n with
      | zero => intro v2 mM hit; exact (itr_zero hit).elim
      | succ n ih22 =>
        intro v2 mM hit H locs hP hD hS ls hl
        obtain ⟨o22, hM, hbk22, hex22⟩ := itr_succ hit
        replace hM : mX7_go_s22 v1 mX mL v2 mM = some o22 := hM
        unfold mX7_go_s22 at hM
        refine lv_iload_n hx hb dX7_go_22 rfl (lv_at hl 2 rfl) ?_
        refine lv_iload_n hx hb dX7_go_23 rfl (lv_at hl 1 rfl) ?_
        refine lv_icmp_ge (tgt := 72) hx hb dX7_go_24 (by decide) (fun hc_2 => ?_) (fun hc_2 => ?_)
        · have hM := it_p hc_2 hM
          have hR := som hM
          exact X22_0 mM (hex22 _ hR).symm _ _ hP hD hS _ (lv_sub hl [0] rfl)
        · have hM := it_n hc_2 hM
          refine lv_aload_n hx hb dX7_go_27 rfl (lv_at hl 0 rfl) ?_
          refine va_get (D := (dC, dI)) (ci := 7) (v := .ref (aM 0)) (C := RX7) (T := TX7) (N := 11) hx hb hts iwX7_go_X7 hown hK hP 0 rfl rfl 3 (by decide) (hts _ (List.mem_of_getElem? (i := 2) rfl)) (fun _ h9 => h9) rfl dX7_go_28 ?_
          refine lv_aload_n hx hb dX7_go_31 rfl (lv_at hl 0 rfl) ?_
          refine va_get (D := (dC, dI)) (ci := 7) (v := .ref (aL 0)) (C := RX7) (T := TX7) (N := 11) hx hb hts iwX7_go_X7 hown hK hP 0 rfl rfl 8 (by decide) (hts _ (List.mem_of_getElem? (i := 3) rfl)) (fun _ h9 => h9) rfl dX7_go_32 ?_
          obtain ⟨mM_3, hr_4, hM⟩ := bn_some hM
          have hPs := pm_P (ws' := (wM ct aM mM ++ wL ct aL mL) ++ (wX ct aX xX_text xX_reader xX_sowing (aM 0) xX_book xX_ways (aL 0) xX_draft xX_im0 xX_im1 xX_im2 mX)) [wX ct aX xX_text xX_reader xX_sowing (aM 0) xX_book xX_ways (aL 0) xX_draft xX_im0 xX_im1 xX_im2 mX, wM ct aM mM, wL ct aL mL] [1, 2, 0] (show List.Perm [1, 2, 0] (List.range 3) from by decide) (by simp only [List.flatten_cons, List.flatten_nil, List.append_nil, List.nil_append, List.append_assoc]) (by show List.flatten [wM ct aM mM, wL ct aL mL, wX ct aX xX_text xX_reader xX_sowing (aM 0) xX_book xX_ways (aL 0) xX_draft xX_im0 xX_im1 xX_im2 mX] = _; simp only [List.flatten_cons, List.flatten_nil, List.append_nil, List.nil_append, List.append_assoc]) hP
          have hDs := pm_D (ws' := (wM ct aM mM ++ wL ct aL mL) ++ (wX ct aX xX_text xX_reader xX_sowing (aM 0) xX_book xX_ways (aL 0) xX_draft xX_im0 xX_im1 xX_im2 mX)) [wX ct aX xX_text xX_reader xX_sowing (aM 0) xX_book xX_ways (aL 0) xX_draft xX_im0 xX_im1 xX_im2 mX, wM ct aM mM, wL ct aL mL] [1, 2, 0] (show List.Perm [1, 2, 0] (List.range 3) from by decide) (by simp only [List.flatten_cons, List.flatten_nil, List.append_nil, List.nil_append, List.append_assoc]) (by show List.flatten [wM ct aM mM, wL ct aL mL, wX ct aX xX_text xX_reader xX_sowing (aM 0) xX_book xX_ways (aL 0) xX_draft xX_im0 xX_im1 xX_im2 mX] = _; simp only [List.flatten_cons, List.flatten_nil, List.append_nil, List.nil_append, List.append_assoc]) hD
          refine sp_v (wr := (wX ct aX xX_text xX_reader xX_sowing (aM 0) xX_book xX_ways (aL 0) xX_draft xX_im0 xX_im1 xX_im2 mX)) (va_runV (As := [.ref (aL 0)]) (rest := []) ⟨hx, hb, hml, hown, hts⟩ (kX2_passNight l dC dI ct aM aL _ mM mL _ hr_4) (cwV 1 hts gX7_go_X2_passNight rfl rfl rfl hvX2_passNight ⟨Nat.le_of_ble_eq_true rfl, Nat.le_of_ble_eq_true rfl⟩) (sp_preV E0_ok hK hPs hDs rfl (ci := 2) rfl 0 rfl e_0) rfl rfl hl.1 rfl (lv_room (Nat.le_of_ble_eq_true rfl)) dX7_go_35 ⟨Nat.le_of_ble_eq_true rfl, Nat.le_of_ble_eq_true rfl⟩) hPs hDs hS hA (fun H locs hPs hDs hS => ?_)
          replace hPs : va_P (dC, dI) vwCl ((wM ct aM mM_3 ++ wL ct aL mL) ++ (wX ct aX xX_text xX_reader xX_sowing (aM 0) xX_book xX_ways (aL 0) xX_draft xX_im0 xX_im1 xX_im2 mX)) H := hPs
          replace hDs : va_D A ((wM ct aM mM_3 ++ wL ct aL mL) ++ (wX ct aX xX_text xX_reader xX_sowing (aM 0) xX_book xX_ways (aL 0) xX_draft xX_im0 xX_im1 xX_im2 mX)) := hDs
          have hP := pm_P (ws' := (wX ct aX xX_text xX_reader xX_sowing (aM 0) xX_book xX_ways (aL 0) xX_draft xX_im0 xX_im1 xX_im2 mX ++ wM ct aM mM_3 ++ wL ct aL mL)) [wM ct aM mM_3, wL ct aL mL, wX ct aX xX_text xX_reader xX_sowing (aM 0) xX_book xX_ways (aL 0) xX_draft xX_im0 xX_im1 xX_im2 mX] [2, 0, 1] (show List.Perm [2, 0, 1] (List.range 3) from by decide) (by simp only [List.flatten_cons, List.flatten_nil, List.append_nil, List.nil_append, List.append_assoc]) (by show List.flatten [wX ct aX xX_text xX_reader xX_sowing (aM 0) xX_book xX_ways (aL 0) xX_draft xX_im0 xX_im1 xX_im2 mX, wM ct aM mM_3, wL ct aL mL] = _; simp only [List.flatten_cons, List.flatten_nil, List.append_nil, List.nil_append, List.append_assoc]) hPs
          have hD := pm_D (ws' := (wX ct aX xX_text xX_reader xX_sowing (aM 0) xX_book xX_ways (aL 0) xX_draft xX_im0 xX_im1 xX_im2 mX ++ wM ct aM mM_3 ++ wL ct aL mL)) [wM ct aM mM_3, wL ct aL mL, wX ct aX xX_text xX_reader xX_sowing (aM 0) xX_book xX_ways (aL 0) xX_draft xX_im0 xX_im1 xX_im2 mX] [2, 0, 1] (show List.Perm [2, 0, 1] (List.range 3) from by decide) (by simp only [List.flatten_cons, List.flatten_nil, List.append_nil, List.nil_append, List.append_assoc]) (by show List.flatten [wX ct aX xX_text xX_reader xX_sowing (aM 0) xX_book xX_ways (aL 0) xX_draft xX_im0 xX_im1 xX_im2 mX, wM ct aM mM_3, wL ct aL mL] = _; simp only [List.flatten_cons, List.flatten_nil, List.append_nil, List.nil_append, List.append_assoc]) hDs
          clear hPs hDs
          refine lv_aload_n hx hb dX7_go_38 rfl (lv_at hl 0 rfl) ?_
          refine va_get (D := (dC, dI)) (ci := 7) (v := .ref (aL 0)) (C := RX7) (T := TX7) (N := 11) hx hb hts iwX7_go_X7 hown hK hP 0 rfl rfl 8 (by decide) (hts _ (List.mem_of_getElem? (i := 3) rfl)) (fun _ h9 => h9) rfl dX7_go_39 ?_
          refine lv_aload_n hx hb dX7_go_42 rfl (lv_at hl 0 rfl) ?_
          refine va_get (D := (dC, dI)) (ci := 7) (v := .ref (aM 0)) (C := RX7) (T := TX7) (N := 11) hx hb hts iwX7_go_X7 hown hK hP 0 rfl rfl 3 (by decide) (hts _ (List.mem_of_getElem? (i := 2) rfl)) (fun _ h9 => h9) rfl dX7_go_43 ?_
          refine va_get (D := (dC, dI)) (ci := 2) (v := .int (mM_3 0 0)) (C := RX2) (T := TX2) (N := 10) hx hb hts iwX7_go_X2 hown hK hP 3 rfl rfl 0 (by decide) (hts _ (List.mem_of_getElem? (i := 4) rfl)) (fun _ h9 => h9) rfl dX7_go_46 ?_
          obtain ⟨x_6, hr_7, hM⟩ := bn_some hM
          have hPs := pm_P (ws' := (wL ct aL mL) ++ (wX ct aX xX_text xX_reader xX_sowing (aM 0) xX_book xX_ways (aL 0) xX_draft xX_im0 xX_im1 xX_im2 mX ++ wM ct aM mM_3)) [wX ct aX xX_text xX_reader xX_sowing (aM 0) xX_book xX_ways (aL 0) xX_draft xX_im0 xX_im1 xX_im2 mX, wM ct aM mM_3, wL ct aL mL] [2, 0, 1] (show List.Perm [2, 0, 1] (List.range 3) from by decide) (by simp only [List.flatten_cons, List.flatten_nil, List.append_nil, List.nil_append, List.append_assoc]) (by show List.flatten [wL ct aL mL, wX ct aX xX_text xX_reader xX_sowing (aM 0) xX_book xX_ways (aL 0) xX_draft xX_im0 xX_im1 xX_im2 mX, wM ct aM mM_3] = _; simp only [List.flatten_cons, List.flatten_nil, List.append_nil, List.nil_append, List.append_assoc]) hP
          have hDs := pm_D (ws' := (wL ct aL mL) ++ (wX ct aX xX_text xX_reader xX_sowing (aM 0) xX_book xX_ways (aL 0) xX_draft xX_im0 xX_im1 xX_im2 mX ++ wM ct aM mM_3)) [wX ct aX xX_text xX_reader xX_sowing (aM 0) xX_book xX_ways (aL 0) xX_draft xX_im0 xX_im1 xX_im2 mX, wM ct aM mM_3, wL ct aL mL] [2, 0, 1] (show List.Perm [2, 0, 1] (List.range 3) from by decide) (by simp only [List.flatten_cons, List.flatten_nil, List.append_nil, List.nil_append, List.append_assoc]) (by show List.flatten [wL ct aL mL, wX ct aX xX_text xX_reader xX_sowing (aM 0) xX_book xX_ways (aL 0) xX_draft xX_im0 xX_im1 xX_im2 mX, wM ct aM mM_3] = _; simp only [List.flatten_cons, List.flatten_nil, List.append_nil, List.nil_append, List.append_assoc]) hD
          refine sp_i (r0 := x_6) (wr := (wX ct aX xX_text xX_reader xX_sowing (aM 0) xX_book xX_ways (aL 0) xX_draft xX_im0 xX_im1 xX_im2 mX ++ wM ct aM mM_3)) (va_runV (As := [.int (mM_3 0 0)]) (rest := []) ⟨hx, hb, hml, hown, hts⟩ (kX1_isStruckAt l dC dI ct aL _ mL (mM_3 0 0) _ hr_7) (cwV 1 hts gX7_go_X1_isStruckAt rfl rfl rfl hvX1_isStruckAt ⟨Nat.le_of_ble_eq_true rfl, Nat.le_of_ble_eq_true rfl⟩) (sp_preV E0_ok hK hPs hDs rfl (ci := 1) rfl 0 rfl e_0) rfl rfl hl.1 rfl (lv_room (Nat.le_of_ble_eq_true rfl)) dX7_go_49 ⟨Nat.le_of_ble_eq_true rfl, Nat.le_of_ble_eq_true rfl⟩) hPs hDs hS hA (fun H locs hPs hDs hS => ?_)
          replace hPs : va_P (dC, dI) vwCl ((wL ct aL mL) ++ (wX ct aX xX_text xX_reader xX_sowing (aM 0) xX_book xX_ways (aL 0) xX_draft xX_im0 xX_im1 xX_im2 mX ++ wM ct aM mM_3)) H := hPs
          replace hDs : va_D A ((wL ct aL mL) ++ (wX ct aX xX_text xX_reader xX_sowing (aM 0) xX_book xX_ways (aL 0) xX_draft xX_im0 xX_im1 xX_im2 mX ++ wM ct aM mM_3)) := hDs
          have hP := pm_P (ws' := (wX ct aX xX_text xX_reader xX_sowing (aM 0) xX_book xX_ways (aL 0) xX_draft xX_im0 xX_im1 xX_im2 mX ++ wM ct aM mM_3 ++ wL ct aL mL)) [wL ct aL mL, wX ct aX xX_text xX_reader xX_sowing (aM 0) xX_book xX_ways (aL 0) xX_draft xX_im0 xX_im1 xX_im2 mX, wM ct aM mM_3] [1, 2, 0] (show List.Perm [1, 2, 0] (List.range 3) from by decide) (by simp only [List.flatten_cons, List.flatten_nil, List.append_nil, List.nil_append, List.append_assoc]) (by show List.flatten [wX ct aX xX_text xX_reader xX_sowing (aM 0) xX_book xX_ways (aL 0) xX_draft xX_im0 xX_im1 xX_im2 mX, wM ct aM mM_3, wL ct aL mL] = _; simp only [List.flatten_cons, List.flatten_nil, List.append_nil, List.nil_append, List.append_assoc]) hPs
          have hD := pm_D (ws' := (wX ct aX xX_text xX_reader xX_sowing (aM 0) xX_book xX_ways (aL 0) xX_draft xX_im0 xX_im1 xX_im2 mX ++ wM ct aM mM_3 ++ wL ct aL mL)) [wL ct aL mL, wX ct aX xX_text xX_reader xX_sowing (aM 0) xX_book xX_ways (aL 0) xX_draft xX_im0 xX_im1 xX_im2 mX, wM ct aM mM_3] [1, 2, 0] (show List.Perm [1, 2, 0] (List.range 3) from by decide) (by simp only [List.flatten_cons, List.flatten_nil, List.append_nil, List.nil_append, List.append_assoc]) (by show List.flatten [wX ct aX xX_text xX_reader xX_sowing (aM 0) xX_book xX_ways (aL 0) xX_draft xX_im0 xX_im1 xX_im2 mX, wM ct aM mM_3, wL ct aL mL] = _; simp only [List.flatten_cons, List.flatten_nil, List.append_nil, List.nil_append, List.append_assoc]) hDs
          clear hPs hDs
          refine lv_if_eq (tgt := 66) hx hb dX7_go_52 (by decide) (fun hc_9 => ?_) (fun hc_9 => ?_)
          · have hM := it_p hc_9 hM
            obtain ⟨x_10, ex_10⟩ : ∃ y : Int32, y = (v2 + (1 : Int32)) := ⟨_, rfl⟩
            have hM := nm_at ex_10 hM
            refine lv_iinc (v := x_10) (lv' := [(2, .int x_10), (0, .ref (aX 0)), (1, .int v1)]) hx hb dX7_go_66 hl (k := 2) rfl (by rw [ex_10]; rfl) (by decide) rfl (fun ls hl => ?_)
            refine lv_goto (tgt := 22) hx hb dX7_go_69 (by decide) ?_
            have hR := som hM
            exact ih22 x_10 mM_3 (hbk22 _ hR) _ _ hP hD hS _ (lv_sub hl [1, 2, 0] rfl)
          · have hM := it_n hc_9 hM
            refine lv_aload_n hx hb dX7_go_55 rfl (lv_at hl 0 rfl) ?_
            refine va_get (D := (dC, dI)) (ci := 7) (v := .ref (aM 0)) (C := RX7) (T := TX7) (N := 11) hx hb hts iwX7_go_X7 hown hK hP 0 rfl rfl 3 (by decide) (hts _ (List.mem_of_getElem? (i := 2) rfl)) (fun _ h9 => h9) rfl dX7_go_56 ?_
            refine lv_aload_n hx hb dX7_go_59 rfl (lv_at hl 0 rfl) ?_
            refine va_get (D := (dC, dI)) (ci := 7) (v := .ref (aL 0)) (C := RX7) (T := TX7) (N := 11) hx hb hts iwX7_go_X7 hown hK hP 0 rfl rfl 8 (by decide) (hts _ (List.mem_of_getElem? (i := 3) rfl)) (fun _ h9 => h9) rfl dX7_go_60 ?_
            obtain ⟨mM_11, hr_12, hM⟩ := bn_some hM
            have hPs := pm_P (ws' := (wM ct aM mM_3 ++ wL ct aL mL) ++ (wX ct aX xX_text xX_reader xX_sowing (aM 0) xX_book xX_ways (aL 0) xX_draft xX_im0 xX_im1 xX_im2 mX)) [wX ct aX xX_text xX_reader xX_sowing (aM 0) xX_book xX_ways (aL 0) xX_draft xX_im0 xX_im1 xX_im2 mX, wM ct aM mM_3, wL ct aL mL] [1, 2, 0] (show List.Perm [1, 2, 0] (List.range 3) from by decide) (by simp only [List.flatten_cons, List.flatten_nil, List.append_nil, List.nil_append, List.append_assoc]) (by show List.flatten [wM ct aM mM_3, wL ct aL mL, wX ct aX xX_text xX_reader xX_sowing (aM 0) xX_book xX_ways (aL 0) xX_draft xX_im0 xX_im1 xX_im2 mX] = _; simp only [List.flatten_cons, List.flatten_nil, List.append_nil, List.nil_append, List.append_assoc]) hP
            have hDs := pm_D (ws' := (wM ct aM mM_3 ++ wL ct aL mL) ++ (wX ct aX xX_text xX_reader xX_sowing (aM 0) xX_book xX_ways (aL 0) xX_draft xX_im0 xX_im1 xX_im2 mX)) [wX ct aX xX_text xX_reader xX_sowing (aM 0) xX_book xX_ways (aL 0) xX_draft xX_im0 xX_im1 xX_im2 mX, wM ct aM mM_3, wL ct aL mL] [1, 2, 0] (show List.Perm [1, 2, 0] (List.range 3) from by decide) (by simp only [List.flatten_cons, List.flatten_nil, List.append_nil, List.nil_append, List.append_assoc]) (by show List.flatten [wM ct aM mM_3, wL ct aL mL, wX ct aX xX_text xX_reader xX_sowing (aM 0) xX_book xX_ways (aL 0) xX_draft xX_im0 xX_im1 xX_im2 mX] = _; simp only [List.flatten_cons, List.flatten_nil, List.append_nil, List.nil_append, List.append_assoc]) hD
            refine sp_v (wr := (wX ct aX xX_text xX_reader xX_sowing (aM 0) xX_book xX_ways (aL 0) xX_draft xX_im0 xX_im1 xX_im2 mX)) (va_runV (As := [.ref (aL 0)]) (rest := []) ⟨hx, hb, hml, hown, hts⟩ (kX2_strikeByLots l dC dI ct aM aL _ mM_3 mL _ hr_12) (cwV 1 hts gX7_go_X2_strikeByLots rfl rfl rfl hvX2_strikeByLots ⟨Nat.le_of_ble_eq_true rfl, Nat.le_of_ble_eq_true rfl⟩) (sp_preV E0_ok hK hPs hDs rfl (ci := 2) rfl 0 rfl e_0) rfl rfl hl.1 rfl (lv_room (Nat.le_of_ble_eq_true rfl)) dX7_go_63 ⟨Nat.le_of_ble_eq_true rfl, Nat.le_of_ble_eq_true rfl⟩) hPs hDs hS hA (fun H locs hPs hDs hS => ?_)
            replace hPs : va_P (dC, dI) vwCl ((wM ct aM mM_11 ++ wL ct aL mL) ++ (wX ct aX xX_text xX_reader xX_sowing (aM 0) xX_book xX_ways (aL 0) xX_draft xX_im0 xX_im1 xX_im2 mX)) H := hPs
            replace hDs : va_D A ((wM ct aM mM_11 ++ wL ct aL mL) ++ (wX ct aX xX_text xX_reader xX_sowing (aM 0) xX_book xX_ways (aL 0) xX_draft xX_im0 xX_im1 xX_im2 mX)) := hDs
            have hP := pm_P (ws' := (wX ct aX xX_text xX_reader xX_sowing (aM 0) xX_book xX_ways (aL 0) xX_draft xX_im0 xX_im1 xX_im2 mX ++ wM ct aM mM_11 ++ wL ct aL mL)) [wM ct aM mM_11, wL ct aL mL, wX ct aX xX_text xX_reader xX_sowing (aM 0) xX_book xX_ways (aL 0) xX_draft xX_im0 xX_im1 xX_im2 mX] [2, 0, 1] (show List.Perm [2, 0, 1] (List.range 3) from by decide) (by simp only [List.flatten_cons, List.flatten_nil, List.append_nil, List.nil_append, List.append_assoc]) (by show List.flatten [wX ct aX xX_text xX_reader xX_sowing (aM 0) xX_book xX_ways (aL 0) xX_draft xX_im0 xX_im1 xX_im2 mX, wM ct aM mM_11, wL ct aL mL] = _; simp only [List.flatten_cons, List.flatten_nil, List.append_nil, List.nil_append, List.append_assoc]) hPs
            have hD := pm_D (ws' := (wX ct aX xX_text xX_reader xX_sowing (aM 0) xX_book xX_ways (aL 0) xX_draft xX_im0 xX_im1 xX_im2 mX ++ wM ct aM mM_11 ++ wL ct aL mL)) [wM ct aM mM_11, wL ct aL mL, wX ct aX xX_text xX_reader xX_sowing (aM 0) xX_book xX_ways (aL 0) xX_draft xX_im0 xX_im1 xX_im2 mX] [2, 0, 1] (show List.Perm [2, 0, 1] (List.range 3) from by decide) (by simp only [List.flatten_cons, List.flatten_nil, List.append_nil, List.nil_append, List.append_assoc]) (by show List.flatten [wX ct aX xX_text xX_reader xX_sowing (aM 0) xX_book xX_ways (aL 0) xX_draft xX_im0 xX_im1 xX_im2 mX, wM ct aM mM_11, wL ct aL mL] = _; simp only [List.flatten_cons, List.flatten_nil, List.append_nil, List.nil_append, List.append_assoc]) hDs
            clear hPs hDs
            obtain ⟨x_14, ex_14⟩ : ∃ y : Int32, y = (v2 + (1 : Int32)) := ⟨_, rfl⟩
            have hM := nm_at ex_14 hM
            refine lv_iinc (v := x_14) (lv' := [(2, .int x_14), (0, .ref (aX 0)), (1, .int v1)]) hx hb dX7_go_66 hl (k := 2) rfl (by rw [ex_14]; rfl) (by decide) rfl (fun ls hl => ?_)
            refine lv_goto (tgt := 22) hx hb dX7_go_69 (by decide) ?_
            have hR := som hM
            exact ih22 x_14 mM_11 (hbk22 _ hR) _ _ hP hD hS _ (lv_sub hl [1, 2, 0] rfl)
    exact I22 FU v2 mM hit22 _ _ hP hD hS _ hl
  refine lv_aload_n hx hb dX7_go_0 rfl (lv_at hl 0 rfl) ?_
  refine va_get (D := (dC, dI)) (ci := 7) (v := .int (mX 0 10)) (C := RX7) (T := TX7) (N := 11) hx hb hts iwX7_go_X7 hown hK hP 0 rfl rfl 10 (by decide) (hts _ (List.mem_of_getElem? (i := 1) rfl)) (fun _ h9 => h9) rfl dX7_go_1 ?_
  refine lv_if_eq (tgt := 18) hx hb dX7_go_4 (by decide) (fun hc_15 => ?_) (fun hc_15 => ?_)
  · have hM := it_p hc_15 hM
    refine lv_iconst (v := -1) hx hb dX7_go_18 (by decide) ?_
    have hR := som hM
    rw [hR] at hQ
    exact ret_i hQ hx hb hr hlocks hP hK hD hS dX7_go_19
  · have hM := it_n hc_15 hM
    refine lv_iload_n hx hb dX7_go_7 rfl (lv_at hl 1 rfl) ?_
    refine lv_iconst (v := 1) hx hb dX7_go_8 (by decide) ?_
    refine lv_sipush (v := 200) hx hb dX7_go_9 (by decide) ?_
    obtain ⟨x_16, hr_17, hM⟩ := bn_some hM
    have hPs := pm_P (ws' := ([] : va_W) ++ (wX ct aX xX_text xX_reader xX_sowing (aM 0) xX_book xX_ways (aL 0) xX_draft xX_im0 xX_im1 xX_im2 mX ++ wM ct aM mM ++ wL ct aL mL)) [wX ct aX xX_text xX_reader xX_sowing (aM 0) xX_book xX_ways (aL 0) xX_draft xX_im0 xX_im1 xX_im2 mX, wM ct aM mM, wL ct aL mL] [0, 1, 2] (show List.Perm [0, 1, 2] (List.range 3) from by decide) (by simp only [List.flatten_cons, List.flatten_nil, List.append_nil, List.nil_append, List.append_assoc]) (by show List.flatten [wX ct aX xX_text xX_reader xX_sowing (aM 0) xX_book xX_ways (aL 0) xX_draft xX_im0 xX_im1 xX_im2 mX, wM ct aM mM, wL ct aL mL] = _; simp only [List.flatten_cons, List.flatten_nil, List.append_nil, List.nil_append, List.append_assoc]) hP
    have hDs := pm_D (ws' := ([] : va_W) ++ (wX ct aX xX_text xX_reader xX_sowing (aM 0) xX_book xX_ways (aL 0) xX_draft xX_im0 xX_im1 xX_im2 mX ++ wM ct aM mM ++ wL ct aL mL)) [wX ct aX xX_text xX_reader xX_sowing (aM 0) xX_book xX_ways (aL 0) xX_draft xX_im0 xX_im1 xX_im2 mX, wM ct aM mM, wL ct aL mL] [0, 1, 2] (show List.Perm [0, 1, 2] (List.range 3) from by decide) (by simp only [List.flatten_cons, List.flatten_nil, List.append_nil, List.nil_append, List.append_assoc]) (by show List.flatten [wX ct aX xX_text xX_reader xX_sowing (aM 0) xX_book xX_ways (aL 0) xX_draft xX_im0 xX_im1 xX_im2 mX, wM ct aM mM, wL ct aL mL] = _; simp only [List.flatten_cons, List.flatten_nil, List.append_nil, List.nil_append, List.append_assoc]) hD
    refine sp_i (r0 := x_16) (wr := (wX ct aX xX_text xX_reader xX_sowing (aM 0) xX_book xX_ways (aL 0) xX_draft xX_im0 xX_im1 xX_im2 mX ++ wM ct aM mM ++ wL ct aL mL)) (va_runS (As := [.int v1, .int (1 : Int32), .int (200 : Int32)]) (rest := []) ⟨hx, hb, hml, hown, hts⟩ (kX7_isIn l dC dI ct _ v1 (1 : Int32) (200 : Int32) _ hr_17) (va_cwS 3 hts gX7_go_X7_isIn rfl rfl rfl hvX7_isIn.2 ⟨Nat.le_of_ble_eq_true rfl, Nat.le_of_ble_eq_true rfl⟩) (sp_preS E0_ok hK hPs hDs e_0) rfl rfl hl.1 rfl (lv_room (Nat.le_of_ble_eq_true rfl)) dX7_go_12 ⟨Nat.le_of_ble_eq_true rfl, Nat.le_of_ble_eq_true rfl⟩) hPs hDs hS hA (fun H locs hPs hDs hS => ?_)
    replace hPs : va_P (dC, dI) vwCl (([] : va_W) ++ (wX ct aX xX_text xX_reader xX_sowing (aM 0) xX_book xX_ways (aL 0) xX_draft xX_im0 xX_im1 xX_im2 mX ++ wM ct aM mM ++ wL ct aL mL)) H := hPs
    replace hDs : va_D A (([] : va_W) ++ (wX ct aX xX_text xX_reader xX_sowing (aM 0) xX_book xX_ways (aL 0) xX_draft xX_im0 xX_im1 xX_im2 mX ++ wM ct aM mM ++ wL ct aL mL)) := hDs
    have hP := pm_P (ws' := (wX ct aX xX_text xX_reader xX_sowing (aM 0) xX_book xX_ways (aL 0) xX_draft xX_im0 xX_im1 xX_im2 mX ++ wM ct aM mM ++ wL ct aL mL)) [wX ct aX xX_text xX_reader xX_sowing (aM 0) xX_book xX_ways (aL 0) xX_draft xX_im0 xX_im1 xX_im2 mX, wM ct aM mM, wL ct aL mL] [0, 1, 2] (show List.Perm [0, 1, 2] (List.range 3) from by decide) (by simp only [List.flatten_cons, List.flatten_nil, List.append_nil, List.nil_append, List.append_assoc]) (by show List.flatten [wX ct aX xX_text xX_reader xX_sowing (aM 0) xX_book xX_ways (aL 0) xX_draft xX_im0 xX_im1 xX_im2 mX, wM ct aM mM, wL ct aL mL] = _; simp only [List.flatten_cons, List.flatten_nil, List.append_nil, List.nil_append, List.append_assoc]) hPs
    have hD := pm_D (ws' := (wX ct aX xX_text xX_reader xX_sowing (aM 0) xX_book xX_ways (aL 0) xX_draft xX_im0 xX_im1 xX_im2 mX ++ wM ct aM mM ++ wL ct aL mL)) [wX ct aX xX_text xX_reader xX_sowing (aM 0) xX_book xX_ways (aL 0) xX_draft xX_im0 xX_im1 xX_im2 mX, wM ct aM mM, wL ct aL mL] [0, 1, 2] (show List.Perm [0, 1, 2] (List.range 3) from by decide) (by simp only [List.flatten_cons, List.flatten_nil, List.append_nil, List.nil_append, List.append_assoc]) (by show List.flatten [wX ct aX xX_text xX_reader xX_sowing (aM 0) xX_book xX_ways (aL 0) xX_draft xX_im0 xX_im1 xX_im2 mX, wM ct aM mM, wL ct aL mL] = _; simp only [List.flatten_cons, List.flatten_nil, List.append_nil, List.nil_append, List.append_assoc]) hDs
    clear hPs hDs
    refine lv_if_ne (tgt := 20) hx hb dX7_go_15 (by decide) (fun hc_19 => ?_) (fun hc_19 => ?_)
    · have hM := it_p hc_19 hM
      refine lv_iconst (v := 0) hx hb dX7_go_20 (by decide) ?_
      refine lv_istore_n (lv' := [(2, .int (0 : Int32)), (0, .ref (aX 0)), (1, .int v1)]) hx hb dX7_go_21 rfl hl (by decide) rfl (fun ls hl => ?_)
      exact N22 v1 (0 : Int32) mM hM _ _ hP hD hS _ (lv_sub hl [1, 2, 0] rfl)
    · have hM := it_nn hc_19 hM
      refine lv_iconst (v := -1) hx hb dX7_go_18 (by decide) ?_
      have hR := som hM
      rw [hR] at hQ
      exact ret_i hQ hx hb hr hlocks hP hK hD hS dX7_go_19
abbrev rmX7_market : Room := { frames := 2, cells := 0, slots := 0, locals := 42 }
theorem iwX7_market_X2 : ∀ w ∈ wsX20, w ∈ wsX7_market := fun _ h => List.mem_cons_of_mem _ (List.mem_append_left _ (List.mem_append_right _ (h)))
theorem iwX7_market_X7 : ∀ w ∈ wsX70, w ∈ wsX7_market := fun _ h => List.mem_cons_of_mem _ (List.mem_append_left _ (List.mem_append_left _ (List.mem_append_right _ (h))))
set_option maxHeartbeats 4000000 in
set_option maxRecDepth 100000 in
theorem kX7_market (l : Launch) (dC : Nat → ClassId) (dI : Nat → Nat → Nat) (ct : Nat → ClassId) (aX : Nat → Nat) (aM : Nat → Nat) (aL : Nat → Nat) (xX_text : Nat) (xX_reader : Nat) (xX_sowing : Nat) (xX_book : Nat) (xX_ways : Nat) (xX_draft : Nat) (xX_im0 : Nat) (xX_im1 : Nat) (xX_im2 : Nat) (sz : Nat) (mX : Mem) (mM : Mem) (mL : Mem) (v1 : Int32) (res : Int32) (hM : mX7_market mX mM mL v1 = some res) : Met l yX7_market wsX7_market rmX7_market (va_Pc [.ref (aX 0), .int v1] (PB (dC, dI) ct E0 sz (wX ct aX xX_text xX_reader xX_sowing (aM 0) xX_book xX_ways (aL 0) xX_draft xX_im0 xX_im1 xX_im2 mX ++ wM ct aM mM ++ wL ct aL mL))) (Qi (dC, dI) ct (va_A (wX ct aX xX_text xX_reader xX_sowing (aM 0) xX_book xX_ways (aL 0) xX_draft xX_im0 xX_im1 xX_im2 mX ++ wM ct aM mM ++ wL ct aL mL) sz) res (wX ct aX xX_text xX_reader xX_sowing (aM 0) xX_book xX_ways (aL 0) xX_draft xX_im0 xX_im1 xX_im2 mX ++ wM ct aM mM ++ wL ct aL mL)) 0 0 (va_A (wX ct aX xX_text xX_reader xX_sowing (aM 0) xX_book xX_ways (aL 0) xX_draft xX_im0 xX_im1 xX_im2 mX ++ wM ct aM mM ++ wL ct aL mL) sz) := by
  refine Met.ofW (cc := cX7_market) (maxL := 2) (ret := (some .int)) (by decide) rfl ?_
  intro p e s m args below meth c s₁ B hml hv
  obtain ⟨hargs, hsz, hP, hK, hD0, hE⟩ := hv
  have hx := B.exec
  have hb := B.bytes
  have hr := B.returns
  have hts := atoms_spec (ws := wsX7_market) B.pre
  have hown : s.vm.findClass RX7 = some m.cls := findClass_of_methodNamed B.named
  have hlocks := B.notSynchronized
  clear B s₁
  subst hsz
  have hD := hD0.self (sz := s.heap.size)
  clear hD0
  generalize hAe : va_A (wX ct aX xX_text xX_reader xX_sowing (aM 0) xX_book xX_ways (aL 0) xX_draft xX_im0 xX_im1 xX_im2 mX ++ wM ct aM mM ++ wL ct aL mL) s.heap.size = A at hD hE ⊢
  have hA : ∀ q : Nat, s.heap.size ≤ q → A q := fun q h => by rw [← hAe]; exact Or.inr h
  clear hAe
  have hS : va_S A s.heap s.heap [] := va_S.rf
  refine cutQ (fun Q hQ => ?_)
  refine entryW (vs := [.ref (aX 0), .int v1]) hargs (Nat.le_of_ble_eq_true rfl) (fun ls hl => ?_)
  replace hl : lv_has ls 2 [(0, .ref (aX 0)), (1, .int v1)] := hl
  unfold mX7_market at hM
  refine lv_aload_n hx hb dX7_market_0 rfl (lv_at hl 0 rfl) ?_
  refine va_get (D := (dC, dI)) (ci := 7) (v := .int (mX 0 10)) (C := RX7) (T := TX7) (N := 11) hx hb hts iwX7_market_X7 hown hK hP 0 rfl rfl 10 (by decide) (hts _ (List.mem_of_getElem? (i := 1) rfl)) (fun _ h9 => h9) rfl dX7_market_1 ?_
  refine lv_if_ne (tgt := 9) hx hb dX7_market_4 (by decide) (fun hc_1 => ?_) (fun hc_1 => ?_)
  · have hM := it_p hc_1 hM
    refine lv_iload_n hx hb dX7_market_9 rfl (lv_at hl 1 rfl) ?_
    refine lv_bipush (v := 20) hx hb dX7_market_10 (by decide) ?_
    refine lv_icmp_lt (tgt := 43) hx hb dX7_market_12 (by decide) (fun hc_2 => ?_) (fun hc_2 => ?_)
    · have hM := it_p hc_2 hM
      refine lv_iload_n hx hb dX7_market_43 rfl (lv_at hl 1 rfl) ?_
      refine lv_bipush (v := 10) hx hb dX7_market_44 (by decide) ?_
      refine lv_icmp_lt (tgt := 77) hx hb dX7_market_46 (by decide) (fun hc_3 => ?_) (fun hc_3 => ?_)
      · have hM := it_p hc_3 hM
        refine lv_iload_n hx hb dX7_market_77 rfl (lv_at hl 1 rfl) ?_
        by_cases hc_4 : v1 = 0
        · have hM := it_p hc_4 hM
          refine lv_tableIn (off := 30) (tgt := 108) hx hb dX7_market_78 (by rw [hc_4]; decide) (by rw [hc_4]; decide) (by rw [hc_4]; decide) (by decide) ?_
          refine lv_aload_n hx hb dX7_market_108 rfl (lv_at hl 0 rfl) ?_
          refine va_get (D := (dC, dI)) (ci := 7) (v := .ref (aM 0)) (C := RX7) (T := TX7) (N := 11) hx hb hts iwX7_market_X7 hown hK hP 0 rfl rfl 3 (by decide) (hts _ (List.mem_of_getElem? (i := 2) rfl)) (fun _ h9 => h9) rfl dX7_market_109 ?_
          refine va_get (D := (dC, dI)) (ci := 2) (v := .int (mM 0 0)) (C := RX2) (T := TX2) (N := 10) hx hb hts iwX7_market_X2 hown hK hP 3 rfl rfl 0 (by decide) (hts _ (List.mem_of_getElem? (i := 5) rfl)) (fun _ h9 => h9) rfl dX7_market_112 ?_
          refine lv_topi (fun x_5 ex_5 => ?_)
          have hM := nm_at ex_5 hM
          have hR := som hM
          rw [hR] at hQ
          exact ret_i hQ hx hb hr hlocks hP hK hD hS dX7_market_115
        · have hM := it_n hc_4 hM
          by_cases hc_6 : v1 = 1
          · have hM := it_p hc_6 hM
            refine lv_tableIn (off := 38) (tgt := 116) hx hb dX7_market_78 (by rw [hc_6]; decide) (by rw [hc_6]; decide) (by rw [hc_6]; decide) (by decide) ?_
            refine lv_aload_n hx hb dX7_market_116 rfl (lv_at hl 0 rfl) ?_
            refine va_get (D := (dC, dI)) (ci := 7) (v := .ref (aM 0)) (C := RX7) (T := TX7) (N := 11) hx hb hts iwX7_market_X7 hown hK hP 0 rfl rfl 3 (by decide) (hts _ (List.mem_of_getElem? (i := 2) rfl)) (fun _ h9 => h9) rfl dX7_market_117 ?_
            obtain ⟨x_7, hr_8, hM⟩ := bn_some hM
            have hPs := pm_P (ws' := (wM ct aM mM) ++ (wX ct aX xX_text xX_reader xX_sowing (aM 0) xX_book xX_ways (aL 0) xX_draft xX_im0 xX_im1 xX_im2 mX ++ wL ct aL mL)) [wX ct aX xX_text xX_reader xX_sowing (aM 0) xX_book xX_ways (aL 0) xX_draft xX_im0 xX_im1 xX_im2 mX, wM ct aM mM, wL ct aL mL] [1, 0, 2] (show List.Perm [1, 0, 2] (List.range 3) from by decide) (by simp only [List.flatten_cons, List.flatten_nil, List.append_nil, List.nil_append, List.append_assoc]) (by show List.flatten [wM ct aM mM, wX ct aX xX_text xX_reader xX_sowing (aM 0) xX_book xX_ways (aL 0) xX_draft xX_im0 xX_im1 xX_im2 mX, wL ct aL mL] = _; simp only [List.flatten_cons, List.flatten_nil, List.append_nil, List.nil_append, List.append_assoc]) hP
            have hDs := pm_D (ws' := (wM ct aM mM) ++ (wX ct aX xX_text xX_reader xX_sowing (aM 0) xX_book xX_ways (aL 0) xX_draft xX_im0 xX_im1 xX_im2 mX ++ wL ct aL mL)) [wX ct aX xX_text xX_reader xX_sowing (aM 0) xX_book xX_ways (aL 0) xX_draft xX_im0 xX_im1 xX_im2 mX, wM ct aM mM, wL ct aL mL] [1, 0, 2] (show List.Perm [1, 0, 2] (List.range 3) from by decide) (by simp only [List.flatten_cons, List.flatten_nil, List.append_nil, List.nil_append, List.append_assoc]) (by show List.flatten [wM ct aM mM, wX ct aX xX_text xX_reader xX_sowing (aM 0) xX_book xX_ways (aL 0) xX_draft xX_im0 xX_im1 xX_im2 mX, wL ct aL mL] = _; simp only [List.flatten_cons, List.flatten_nil, List.append_nil, List.nil_append, List.append_assoc]) hD
            refine sp_i (r0 := x_7) (wr := (wX ct aX xX_text xX_reader xX_sowing (aM 0) xX_book xX_ways (aL 0) xX_draft xX_im0 xX_im1 xX_im2 mX ++ wL ct aL mL)) (va_runV (As := []) (rest := []) ⟨hx, hb, hml, hown, hts⟩ (kX2_loansOwed l dC dI ct aM _ mM _ hr_8) (cwV 0 hts gX7_market_X2_loansOwed rfl rfl rfl hvX2_loansOwed ⟨Nat.le_of_ble_eq_true rfl, Nat.le_of_ble_eq_true rfl⟩) (sp_preV E0_ok hK hPs hDs rfl (ci := 2) rfl 0 rfl e_0) rfl rfl hl.1 rfl (lv_room (Nat.le_of_ble_eq_true rfl)) dX7_market_120 ⟨Nat.le_of_ble_eq_true rfl, Nat.le_of_ble_eq_true rfl⟩) hPs hDs hS hA (fun H locs hPs hDs hS => ?_)
            replace hPs : va_P (dC, dI) vwCl ((wM ct aM mM) ++ (wX ct aX xX_text xX_reader xX_sowing (aM 0) xX_book xX_ways (aL 0) xX_draft xX_im0 xX_im1 xX_im2 mX ++ wL ct aL mL)) H := hPs
            replace hDs : va_D A ((wM ct aM mM) ++ (wX ct aX xX_text xX_reader xX_sowing (aM 0) xX_book xX_ways (aL 0) xX_draft xX_im0 xX_im1 xX_im2 mX ++ wL ct aL mL)) := hDs
            have hP := pm_P (ws' := (wX ct aX xX_text xX_reader xX_sowing (aM 0) xX_book xX_ways (aL 0) xX_draft xX_im0 xX_im1 xX_im2 mX ++ wM ct aM mM ++ wL ct aL mL)) [wM ct aM mM, wX ct aX xX_text xX_reader xX_sowing (aM 0) xX_book xX_ways (aL 0) xX_draft xX_im0 xX_im1 xX_im2 mX, wL ct aL mL] [1, 0, 2] (show List.Perm [1, 0, 2] (List.range 3) from by decide) (by simp only [List.flatten_cons, List.flatten_nil, List.append_nil, List.nil_append, List.append_assoc]) (by show List.flatten [wX ct aX xX_text xX_reader xX_sowing (aM 0) xX_book xX_ways (aL 0) xX_draft xX_im0 xX_im1 xX_im2 mX, wM ct aM mM, wL ct aL mL] = _; simp only [List.flatten_cons, List.flatten_nil, List.append_nil, List.nil_append, List.append_assoc]) hPs
            have hD := pm_D (ws' := (wX ct aX xX_text xX_reader xX_sowing (aM 0) xX_book xX_ways (aL 0) xX_draft xX_im0 xX_im1 xX_im2 mX ++ wM ct aM mM ++ wL ct aL mL)) [wM ct aM mM, wX ct aX xX_text xX_reader xX_sowing (aM 0) xX_book xX_ways (aL 0) xX_draft xX_im0 xX_im1 xX_im2 mX, wL ct aL mL] [1, 0, 2] (show List.Perm [1, 0, 2] (List.range 3) from by decide) (by simp only [List.flatten_cons, List.flatten_nil, List.append_nil, List.nil_append, List.append_assoc]) (by show List.flatten [wX ct aX xX_text xX_reader xX_sowing (aM 0) xX_book xX_ways (aL 0) xX_draft xX_im0 xX_im1 xX_im2 mX, wM ct aM mM, wL ct aL mL] = _; simp only [List.flatten_cons, List.flatten_nil, List.append_nil, List.nil_append, List.append_assoc]) hDs
            clear hPs hDs
            have hR := som hM
            rw [hR] at hQ
            exact ret_i hQ hx hb hr hlocks hP hK hD hS dX7_market_123
          · have hM := it_n hc_6 hM
            by_cases hc_10 : v1 = 2
            · have hM := it_p hc_10 hM
              refine lv_tableIn (off := 46) (tgt := 124) hx hb dX7_market_78 (by rw [hc_10]; decide) (by rw [hc_10]; decide) (by rw [hc_10]; decide) (by decide) ?_
              refine lv_aload_n hx hb dX7_market_124 rfl (lv_at hl 0 rfl) ?_
              refine va_get (D := (dC, dI)) (ci := 7) (v := .ref (aM 0)) (C := RX7) (T := TX7) (N := 11) hx hb hts iwX7_market_X7 hown hK hP 0 rfl rfl 3 (by decide) (hts _ (List.mem_of_getElem? (i := 2) rfl)) (fun _ h9 => h9) rfl dX7_market_125 ?_
              obtain ⟨x_11, hr_12, hM⟩ := bn_some hM
              have hPs := pm_P (ws' := (wM ct aM mM) ++ (wX ct aX xX_text xX_reader xX_sowing (aM 0) xX_book xX_ways (aL 0) xX_draft xX_im0 xX_im1 xX_im2 mX ++ wL ct aL mL)) [wX ct aX xX_text xX_reader xX_sowing (aM 0) xX_book xX_ways (aL 0) xX_draft xX_im0 xX_im1 xX_im2 mX, wM ct aM mM, wL ct aL mL] [1, 0, 2] (show List.Perm [1, 0, 2] (List.range 3) from by decide) (by simp only [List.flatten_cons, List.flatten_nil, List.append_nil, List.nil_append, List.append_assoc]) (by show List.flatten [wM ct aM mM, wX ct aX xX_text xX_reader xX_sowing (aM 0) xX_book xX_ways (aL 0) xX_draft xX_im0 xX_im1 xX_im2 mX, wL ct aL mL] = _; simp only [List.flatten_cons, List.flatten_nil, List.append_nil, List.nil_append, List.append_assoc]) hP
              have hDs := pm_D (ws' := (wM ct aM mM) ++ (wX ct aX xX_text xX_reader xX_sowing (aM 0) xX_book xX_ways (aL 0) xX_draft xX_im0 xX_im1 xX_im2 mX ++ wL ct aL mL)) [wX ct aX xX_text xX_reader xX_sowing (aM 0) xX_book xX_ways (aL 0) xX_draft xX_im0 xX_im1 xX_im2 mX, wM ct aM mM, wL ct aL mL] [1, 0, 2] (show List.Perm [1, 0, 2] (List.range 3) from by decide) (by simp only [List.flatten_cons, List.flatten_nil, List.append_nil, List.nil_append, List.append_assoc]) (by show List.flatten [wM ct aM mM, wX ct aX xX_text xX_reader xX_sowing (aM 0) xX_book xX_ways (aL 0) xX_draft xX_im0 xX_im1 xX_im2 mX, wL ct aL mL] = _; simp only [List.flatten_cons, List.flatten_nil, List.append_nil, List.nil_append, List.append_assoc]) hD
              refine sp_i (r0 := x_11) (wr := (wX ct aX xX_text xX_reader xX_sowing (aM 0) xX_book xX_ways (aL 0) xX_draft xX_im0 xX_im1 xX_im2 mX ++ wL ct aL mL)) (va_runV (As := []) (rest := []) ⟨hx, hb, hml, hown, hts⟩ (kX2_allOwed l dC dI ct aM _ mM _ hr_12) (cwV 0 hts gX7_market_X2_allOwed rfl rfl rfl hvX2_allOwed ⟨Nat.le_of_ble_eq_true rfl, Nat.le_of_ble_eq_true rfl⟩) (sp_preV E0_ok hK hPs hDs rfl (ci := 2) rfl 0 rfl e_0) rfl rfl hl.1 rfl (lv_room (Nat.le_of_ble_eq_true rfl)) dX7_market_128 ⟨Nat.le_of_ble_eq_true rfl, Nat.le_of_ble_eq_true rfl⟩) hPs hDs hS hA (fun H locs hPs hDs hS => ?_)
              replace hPs : va_P (dC, dI) vwCl ((wM ct aM mM) ++ (wX ct aX xX_text xX_reader xX_sowing (aM 0) xX_book xX_ways (aL 0) xX_draft xX_im0 xX_im1 xX_im2 mX ++ wL ct aL mL)) H := hPs
              replace hDs : va_D A ((wM ct aM mM) ++ (wX ct aX xX_text xX_reader xX_sowing (aM 0) xX_book xX_ways (aL 0) xX_draft xX_im0 xX_im1 xX_im2 mX ++ wL ct aL mL)) := hDs
              have hP := pm_P (ws' := (wX ct aX xX_text xX_reader xX_sowing (aM 0) xX_book xX_ways (aL 0) xX_draft xX_im0 xX_im1 xX_im2 mX ++ wM ct aM mM ++ wL ct aL mL)) [wM ct aM mM, wX ct aX xX_text xX_reader xX_sowing (aM 0) xX_book xX_ways (aL 0) xX_draft xX_im0 xX_im1 xX_im2 mX, wL ct aL mL] [1, 0, 2] (show List.Perm [1, 0, 2] (List.range 3) from by decide) (by simp only [List.flatten_cons, List.flatten_nil, List.append_nil, List.nil_append, List.append_assoc]) (by show List.flatten [wX ct aX xX_text xX_reader xX_sowing (aM 0) xX_book xX_ways (aL 0) xX_draft xX_im0 xX_im1 xX_im2 mX, wM ct aM mM, wL ct aL mL] = _; simp only [List.flatten_cons, List.flatten_nil, List.append_nil, List.nil_append, List.append_assoc]) hPs
              have hD := pm_D (ws' := (wX ct aX xX_text xX_reader xX_sowing (aM 0) xX_book xX_ways (aL 0) xX_draft xX_im0 xX_im1 xX_im2 mX ++ wM ct aM mM ++ wL ct aL mL)) [wM ct aM mM, wX ct aX xX_text xX_reader xX_sowing (aM 0) xX_book xX_ways (aL 0) xX_draft xX_im0 xX_im1 xX_im2 mX, wL ct aL mL] [1, 0, 2] (show List.Perm [1, 0, 2] (List.range 3) from by decide) (by simp only [List.flatten_cons, List.flatten_nil, List.append_nil, List.nil_append, List.append_assoc]) (by show List.flatten [wX ct aX xX_text xX_reader xX_sowing (aM 0) xX_book xX_ways (aL 0) xX_draft xX_im0 xX_im1 xX_im2 mX, wM ct aM mM, wL ct aL mL] = _; simp only [List.flatten_cons, List.flatten_nil, List.append_nil, List.nil_append, List.append_assoc]) hDs
              clear hPs hDs
              have hR := som hM
              rw [hR] at hQ
              exact ret_i hQ hx hb hr hlocks hP hK hD hS dX7_market_131
            · have hM := it_n hc_10 hM
              by_cases hc_14 : v1 = 3
              · have hM := it_p hc_14 hM
                refine lv_tableIn (off := 54) (tgt := 132) hx hb dX7_market_78 (by rw [hc_14]; decide) (by rw [hc_14]; decide) (by rw [hc_14]; decide) (by decide) ?_
                refine lv_aload_n hx hb dX7_market_132 rfl (lv_at hl 0 rfl) ?_
                refine va_get (D := (dC, dI)) (ci := 7) (v := .ref (aM 0)) (C := RX7) (T := TX7) (N := 11) hx hb hts iwX7_market_X7 hown hK hP 0 rfl rfl 3 (by decide) (hts _ (List.mem_of_getElem? (i := 2) rfl)) (fun _ h9 => h9) rfl dX7_market_133 ?_
                obtain ⟨x_15, hr_16, hM⟩ := bn_some hM
                have hPs := pm_P (ws' := (wM ct aM mM) ++ (wX ct aX xX_text xX_reader xX_sowing (aM 0) xX_book xX_ways (aL 0) xX_draft xX_im0 xX_im1 xX_im2 mX ++ wL ct aL mL)) [wX ct aX xX_text xX_reader xX_sowing (aM 0) xX_book xX_ways (aL 0) xX_draft xX_im0 xX_im1 xX_im2 mX, wM ct aM mM, wL ct aL mL] [1, 0, 2] (show List.Perm [1, 0, 2] (List.range 3) from by decide) (by simp only [List.flatten_cons, List.flatten_nil, List.append_nil, List.nil_append, List.append_assoc]) (by show List.flatten [wM ct aM mM, wX ct aX xX_text xX_reader xX_sowing (aM 0) xX_book xX_ways (aL 0) xX_draft xX_im0 xX_im1 xX_im2 mX, wL ct aL mL] = _; simp only [List.flatten_cons, List.flatten_nil, List.append_nil, List.nil_append, List.append_assoc]) hP
                have hDs := pm_D (ws' := (wM ct aM mM) ++ (wX ct aX xX_text xX_reader xX_sowing (aM 0) xX_book xX_ways (aL 0) xX_draft xX_im0 xX_im1 xX_im2 mX ++ wL ct aL mL)) [wX ct aX xX_text xX_reader xX_sowing (aM 0) xX_book xX_ways (aL 0) xX_draft xX_im0 xX_im1 xX_im2 mX, wM ct aM mM, wL ct aL mL] [1, 0, 2] (show List.Perm [1, 0, 2] (List.range 3) from by decide) (by simp only [List.flatten_cons, List.flatten_nil, List.append_nil, List.nil_append, List.append_assoc]) (by show List.flatten [wM ct aM mM, wX ct aX xX_text xX_reader xX_sowing (aM 0) xX_book xX_ways (aL 0) xX_draft xX_im0 xX_im1 xX_im2 mX, wL ct aL mL] = _; simp only [List.flatten_cons, List.flatten_nil, List.append_nil, List.nil_append, List.append_assoc]) hD
                refine sp_i (r0 := x_15) (wr := (wX ct aX xX_text xX_reader xX_sowing (aM 0) xX_book xX_ways (aL 0) xX_draft xX_im0 xX_im1 xX_im2 mX ++ wL ct aL mL)) (va_runV (As := []) (rest := []) ⟨hx, hb, hml, hown, hts⟩ (kX2_allLost l dC dI ct aM _ mM _ hr_16) (cwV 0 hts gX7_market_X2_allLost rfl rfl rfl hvX2_allLost ⟨Nat.le_of_ble_eq_true rfl, Nat.le_of_ble_eq_true rfl⟩) (sp_preV E0_ok hK hPs hDs rfl (ci := 2) rfl 0 rfl e_0) rfl rfl hl.1 rfl (lv_room (Nat.le_of_ble_eq_true rfl)) dX7_market_136 ⟨Nat.le_of_ble_eq_true rfl, Nat.le_of_ble_eq_true rfl⟩) hPs hDs hS hA (fun H locs hPs hDs hS => ?_)
                replace hPs : va_P (dC, dI) vwCl ((wM ct aM mM) ++ (wX ct aX xX_text xX_reader xX_sowing (aM 0) xX_book xX_ways (aL 0) xX_draft xX_im0 xX_im1 xX_im2 mX ++ wL ct aL mL)) H := hPs
                replace hDs : va_D A ((wM ct aM mM) ++ (wX ct aX xX_text xX_reader xX_sowing (aM 0) xX_book xX_ways (aL 0) xX_draft xX_im0 xX_im1 xX_im2 mX ++ wL ct aL mL)) := hDs
                have hP := pm_P (ws' := (wX ct aX xX_text xX_reader xX_sowing (aM 0) xX_book xX_ways (aL 0) xX_draft xX_im0 xX_im1 xX_im2 mX ++ wM ct aM mM ++ wL ct aL mL)) [wM ct aM mM, wX ct aX xX_text xX_reader xX_sowing (aM 0) xX_book xX_ways (aL 0) xX_draft xX_im0 xX_im1 xX_im2 mX, wL ct aL mL] [1, 0, 2] (show List.Perm [1, 0, 2] (List.range 3) from by decide) (by simp only [List.flatten_cons, List.flatten_nil, List.append_nil, List.nil_append, List.append_assoc]) (by show List.flatten [wX ct aX xX_text xX_reader xX_sowing (aM 0) xX_book xX_ways (aL 0) xX_draft xX_im0 xX_im1 xX_im2 mX, wM ct aM mM, wL ct aL mL] = _; simp only [List.flatten_cons, List.flatten_nil, List.append_nil, List.nil_append, List.append_assoc]) hPs
                have hD := pm_D (ws' := (wX ct aX xX_text xX_reader xX_sowing (aM 0) xX_book xX_ways (aL 0) xX_draft xX_im0 xX_im1 xX_im2 mX ++ wM ct aM mM ++ wL ct aL mL)) [wM ct aM mM, wX ct aX xX_text xX_reader xX_sowing (aM 0) xX_book xX_ways (aL 0) xX_draft xX_im0 xX_im1 xX_im2 mX, wL ct aL mL] [1, 0, 2] (show List.Perm [1, 0, 2] (List.range 3) from by decide) (by simp only [List.flatten_cons, List.flatten_nil, List.append_nil, List.nil_append, List.append_assoc]) (by show List.flatten [wX ct aX xX_text xX_reader xX_sowing (aM 0) xX_book xX_ways (aL 0) xX_draft xX_im0 xX_im1 xX_im2 mX, wM ct aM mM, wL ct aL mL] = _; simp only [List.flatten_cons, List.flatten_nil, List.append_nil, List.nil_append, List.append_assoc]) hDs
                clear hPs hDs
                have hR := som hM
                rw [hR] at hQ
                exact ret_i hQ hx hb hr hlocks hP hK hD hS dX7_market_139
              · have hM := it_n hc_14 hM
                have nhc_4 := ne_toInt hc_4
                have nhc_6 := ne_toInt hc_6
                have nhc_10 := ne_toInt hc_10
                have nhc_14 := ne_toInt hc_14
                refine lv_tableOut (tgt := 140) hx hb dX7_market_78 (by rw [show ((0 : Int32)).toInt = 0 from by decide] at nhc_4; rw [show ((1 : Int32)).toInt = 1 from by decide] at nhc_6; rw [show ((2 : Int32)).toInt = 2 from by decide] at nhc_10; rw [show ((3 : Int32)).toInt = 3 from by decide] at nhc_14; omega) (by decide) ?_
                refine lv_iconst (v := -1) hx hb dX7_market_140 (by decide) ?_
                have hR := som hM
                rw [hR] at hQ
                exact ret_i hQ hx hb hr hlocks hP hK hD hS dX7_market_141
      · have hM := it_n hc_3 hM
        refine lv_aload_n hx hb dX7_market_49 rfl (lv_at hl 0 rfl) ?_
        refine lv_iload_n hx hb dX7_market_50 rfl (lv_at hl 1 rfl) ?_
        refine lv_bipush (v := 10) hx hb dX7_market_51 (by decide) ?_
        refine lv_isub hx hb dX7_market_53 ?_
        obtain ⟨x_18, hr_19, hM⟩ := bn_some hM
        have hPs := pm_P (ws' := (wX ct aX xX_text xX_reader xX_sowing (aM 0) xX_book xX_ways (aL 0) xX_draft xX_im0 xX_im1 xX_im2 mX ++ wL ct aL mL) ++ (wM ct aM mM)) [wX ct aX xX_text xX_reader xX_sowing (aM 0) xX_book xX_ways (aL 0) xX_draft xX_im0 xX_im1 xX_im2 mX, wM ct aM mM, wL ct aL mL] [0, 2, 1] (show List.Perm [0, 2, 1] (List.range 3) from by decide) (by simp only [List.flatten_cons, List.flatten_nil, List.append_nil, List.nil_append, List.append_assoc]) (by show List.flatten [wX ct aX xX_text xX_reader xX_sowing (aM 0) xX_book xX_ways (aL 0) xX_draft xX_im0 xX_im1 xX_im2 mX, wL ct aL mL, wM ct aM mM] = _; simp only [List.flatten_cons, List.flatten_nil, List.append_nil, List.nil_append, List.append_assoc]) hP
        have hDs := pm_D (ws' := (wX ct aX xX_text xX_reader xX_sowing (aM 0) xX_book xX_ways (aL 0) xX_draft xX_im0 xX_im1 xX_im2 mX ++ wL ct aL mL) ++ (wM ct aM mM)) [wX ct aX xX_text xX_reader xX_sowing (aM 0) xX_book xX_ways (aL 0) xX_draft xX_im0 xX_im1 xX_im2 mX, wM ct aM mM, wL ct aL mL] [0, 2, 1] (show List.Perm [0, 2, 1] (List.range 3) from by decide) (by simp only [List.flatten_cons, List.flatten_nil, List.append_nil, List.nil_append, List.append_assoc]) (by show List.flatten [wX ct aX xX_text xX_reader xX_sowing (aM 0) xX_book xX_ways (aL 0) xX_draft xX_im0 xX_im1 xX_im2 mX, wL ct aL mL, wM ct aM mM] = _; simp only [List.flatten_cons, List.flatten_nil, List.append_nil, List.nil_append, List.append_assoc]) hD
        refine sp_i (r0 := x_18) (wr := (wM ct aM mM)) (va_runV (As := [.int (v1 - (10 : Int32))]) (rest := []) ⟨hx, hb, hml, hown, hts⟩ (kX7_isSort l dC dI ct aX aL xX_text xX_reader xX_sowing (aM 0) xX_book xX_ways xX_draft xX_im0 xX_im1 xX_im2 _ mX mL (v1 - (10 : Int32)) _ hr_19) (cwV 1 hts gX7_market_X7_isSort rfl rfl rfl hvX7_isSort ⟨Nat.le_of_ble_eq_true rfl, Nat.le_of_ble_eq_true rfl⟩) (sp_preV E0_ok hK hPs hDs rfl (ci := 7) rfl 0 rfl e_0) rfl rfl hl.1 rfl (lv_room (Nat.le_of_ble_eq_true rfl)) dX7_market_54 ⟨Nat.le_of_ble_eq_true rfl, Nat.le_of_ble_eq_true rfl⟩) hPs hDs hS hA (fun H locs hPs hDs hS => ?_)
        replace hPs : va_P (dC, dI) vwCl ((wX ct aX xX_text xX_reader xX_sowing (aM 0) xX_book xX_ways (aL 0) xX_draft xX_im0 xX_im1 xX_im2 mX ++ wL ct aL mL) ++ (wM ct aM mM)) H := hPs
        replace hDs : va_D A ((wX ct aX xX_text xX_reader xX_sowing (aM 0) xX_book xX_ways (aL 0) xX_draft xX_im0 xX_im1 xX_im2 mX ++ wL ct aL mL) ++ (wM ct aM mM)) := hDs
        have hP := pm_P (ws' := (wX ct aX xX_text xX_reader xX_sowing (aM 0) xX_book xX_ways (aL 0) xX_draft xX_im0 xX_im1 xX_im2 mX ++ wM ct aM mM ++ wL ct aL mL)) [wX ct aX xX_text xX_reader xX_sowing (aM 0) xX_book xX_ways (aL 0) xX_draft xX_im0 xX_im1 xX_im2 mX, wL ct aL mL, wM ct aM mM] [0, 2, 1] (show List.Perm [0, 2, 1] (List.range 3) from by decide) (by simp only [List.flatten_cons, List.flatten_nil, List.append_nil, List.nil_append, List.append_assoc]) (by show List.flatten [wX ct aX xX_text xX_reader xX_sowing (aM 0) xX_book xX_ways (aL 0) xX_draft xX_im0 xX_im1 xX_im2 mX, wM ct aM mM, wL ct aL mL] = _; simp only [List.flatten_cons, List.flatten_nil, List.append_nil, List.nil_append, List.append_assoc]) hPs
        have hD := pm_D (ws' := (wX ct aX xX_text xX_reader xX_sowing (aM 0) xX_book xX_ways (aL 0) xX_draft xX_im0 xX_im1 xX_im2 mX ++ wM ct aM mM ++ wL ct aL mL)) [wX ct aX xX_text xX_reader xX_sowing (aM 0) xX_book xX_ways (aL 0) xX_draft xX_im0 xX_im1 xX_im2 mX, wL ct aL mL, wM ct aM mM] [0, 2, 1] (show List.Perm [0, 2, 1] (List.range 3) from by decide) (by simp only [List.flatten_cons, List.flatten_nil, List.append_nil, List.nil_append, List.append_assoc]) (by show List.flatten [wX ct aX xX_text xX_reader xX_sowing (aM 0) xX_book xX_ways (aL 0) xX_draft xX_im0 xX_im1 xX_im2 mX, wM ct aM mM, wL ct aL mL] = _; simp only [List.flatten_cons, List.flatten_nil, List.append_nil, List.nil_append, List.append_assoc]) hDs
        clear hPs hDs
        refine lv_if_eq (tgt := 75) hx hb dX7_market_57 (by decide) (fun hc_21 => ?_) (fun hc_21 => ?_)
        · have hM := it_p hc_21 hM
          refine lv_iconst (v := -1) hx hb dX7_market_75 (by decide) ?_
          have hR := som hM
          rw [hR] at hQ
          exact ret_i hQ hx hb hr hlocks hP hK hD hS dX7_market_76
        · have hM := it_n hc_21 hM
          refine lv_aload_n hx hb dX7_market_60 rfl (lv_at hl 0 rfl) ?_
          refine va_get (D := (dC, dI)) (ci := 7) (v := .ref (aM 0)) (C := RX7) (T := TX7) (N := 11) hx hb hts iwX7_market_X7 hown hK hP 0 rfl rfl 3 (by decide) (hts _ (List.mem_of_getElem? (i := 2) rfl)) (fun _ h9 => h9) rfl dX7_market_61 ?_
          refine va_get (D := (dC, dI)) (ci := 2) (v := .ref (aM 1)) (C := RX2) (T := TX2) (N := 10) hx hb hts iwX7_market_X2 hown hK hP 3 rfl rfl 2 (by decide) (hts _ (List.mem_of_getElem? (i := 4) rfl)) (fun _ h9 => h9) rfl dX7_market_64 ?_
          refine lv_iload_n hx hb dX7_market_67 rfl (lv_at hl 1 rfl) ?_
          refine lv_bipush (v := 10) hx hb dX7_market_68 (by decide) ?_
          refine lv_isub hx hb dX7_market_70 ?_
          obtain ⟨hi, hM⟩ := gi_some hM
          refine va_iald hx hb hK hP 4 0 rfl rfl hi dX7_market_71 ?_
          refine lv_goto (tgt := 76) hx hb dX7_market_72 (by decide) ?_
          refine lv_topi (fun x_22 ex_22 => ?_)
          have hM := nm_at ex_22 hM
          have hR := som hM
          rw [hR] at hQ
          exact ret_i hQ hx hb hr hlocks hP hK hD hS dX7_market_76
    · have hM := it_n hc_2 hM
      refine lv_aload_n hx hb dX7_market_15 rfl (lv_at hl 0 rfl) ?_
      refine lv_iload_n hx hb dX7_market_16 rfl (lv_at hl 1 rfl) ?_
      refine lv_bipush (v := 20) hx hb dX7_market_17 (by decide) ?_
      refine lv_isub hx hb dX7_market_19 ?_
      obtain ⟨x_23, hr_24, hM⟩ := bn_some hM
      have hPs := pm_P (ws' := (wX ct aX xX_text xX_reader xX_sowing (aM 0) xX_book xX_ways (aL 0) xX_draft xX_im0 xX_im1 xX_im2 mX ++ wL ct aL mL) ++ (wM ct aM mM)) [wX ct aX xX_text xX_reader xX_sowing (aM 0) xX_book xX_ways (aL 0) xX_draft xX_im0 xX_im1 xX_im2 mX, wM ct aM mM, wL ct aL mL] [0, 2, 1] (show List.Perm [0, 2, 1] (List.range 3) from by decide) (by simp only [List.flatten_cons, List.flatten_nil, List.append_nil, List.nil_append, List.append_assoc]) (by show List.flatten [wX ct aX xX_text xX_reader xX_sowing (aM 0) xX_book xX_ways (aL 0) xX_draft xX_im0 xX_im1 xX_im2 mX, wL ct aL mL, wM ct aM mM] = _; simp only [List.flatten_cons, List.flatten_nil, List.append_nil, List.nil_append, List.append_assoc]) hP
      have hDs := pm_D (ws' := (wX ct aX xX_text xX_reader xX_sowing (aM 0) xX_book xX_ways (aL 0) xX_draft xX_im0 xX_im1 xX_im2 mX ++ wL ct aL mL) ++ (wM ct aM mM)) [wX ct aX xX_text xX_reader xX_sowing (aM 0) xX_book xX_ways (aL 0) xX_draft xX_im0 xX_im1 xX_im2 mX, wM ct aM mM, wL ct aL mL] [0, 2, 1] (show List.Perm [0, 2, 1] (List.range 3) from by decide) (by simp only [List.flatten_cons, List.flatten_nil, List.append_nil, List.nil_append, List.append_assoc]) (by show List.flatten [wX ct aX xX_text xX_reader xX_sowing (aM 0) xX_book xX_ways (aL 0) xX_draft xX_im0 xX_im1 xX_im2 mX, wL ct aL mL, wM ct aM mM] = _; simp only [List.flatten_cons, List.flatten_nil, List.append_nil, List.nil_append, List.append_assoc]) hD
      refine sp_i (r0 := x_23) (wr := (wM ct aM mM)) (va_runV (As := [.int (v1 - (20 : Int32))]) (rest := []) ⟨hx, hb, hml, hown, hts⟩ (kX7_isSort l dC dI ct aX aL xX_text xX_reader xX_sowing (aM 0) xX_book xX_ways xX_draft xX_im0 xX_im1 xX_im2 _ mX mL (v1 - (20 : Int32)) _ hr_24) (cwV 1 hts gX7_market_X7_isSort rfl rfl rfl hvX7_isSort ⟨Nat.le_of_ble_eq_true rfl, Nat.le_of_ble_eq_true rfl⟩) (sp_preV E0_ok hK hPs hDs rfl (ci := 7) rfl 0 rfl e_0) rfl rfl hl.1 rfl (lv_room (Nat.le_of_ble_eq_true rfl)) dX7_market_20 ⟨Nat.le_of_ble_eq_true rfl, Nat.le_of_ble_eq_true rfl⟩) hPs hDs hS hA (fun H locs hPs hDs hS => ?_)
      replace hPs : va_P (dC, dI) vwCl ((wX ct aX xX_text xX_reader xX_sowing (aM 0) xX_book xX_ways (aL 0) xX_draft xX_im0 xX_im1 xX_im2 mX ++ wL ct aL mL) ++ (wM ct aM mM)) H := hPs
      replace hDs : va_D A ((wX ct aX xX_text xX_reader xX_sowing (aM 0) xX_book xX_ways (aL 0) xX_draft xX_im0 xX_im1 xX_im2 mX ++ wL ct aL mL) ++ (wM ct aM mM)) := hDs
      have hP := pm_P (ws' := (wX ct aX xX_text xX_reader xX_sowing (aM 0) xX_book xX_ways (aL 0) xX_draft xX_im0 xX_im1 xX_im2 mX ++ wM ct aM mM ++ wL ct aL mL)) [wX ct aX xX_text xX_reader xX_sowing (aM 0) xX_book xX_ways (aL 0) xX_draft xX_im0 xX_im1 xX_im2 mX, wL ct aL mL, wM ct aM mM] [0, 2, 1] (show List.Perm [0, 2, 1] (List.range 3) from by decide) (by simp only [List.flatten_cons, List.flatten_nil, List.append_nil, List.nil_append, List.append_assoc]) (by show List.flatten [wX ct aX xX_text xX_reader xX_sowing (aM 0) xX_book xX_ways (aL 0) xX_draft xX_im0 xX_im1 xX_im2 mX, wM ct aM mM, wL ct aL mL] = _; simp only [List.flatten_cons, List.flatten_nil, List.append_nil, List.nil_append, List.append_assoc]) hPs
      have hD := pm_D (ws' := (wX ct aX xX_text xX_reader xX_sowing (aM 0) xX_book xX_ways (aL 0) xX_draft xX_im0 xX_im1 xX_im2 mX ++ wM ct aM mM ++ wL ct aL mL)) [wX ct aX xX_text xX_reader xX_sowing (aM 0) xX_book xX_ways (aL 0) xX_draft xX_im0 xX_im1 xX_im2 mX, wL ct aL mL, wM ct aM mM] [0, 2, 1] (show List.Perm [0, 2, 1] (List.range 3) from by decide) (by simp only [List.flatten_cons, List.flatten_nil, List.append_nil, List.nil_append, List.append_assoc]) (by show List.flatten [wX ct aX xX_text xX_reader xX_sowing (aM 0) xX_book xX_ways (aL 0) xX_draft xX_im0 xX_im1 xX_im2 mX, wM ct aM mM, wL ct aL mL] = _; simp only [List.flatten_cons, List.flatten_nil, List.append_nil, List.nil_append, List.append_assoc]) hDs
      clear hPs hDs
      refine lv_if_eq (tgt := 41) hx hb dX7_market_23 (by decide) (fun hc_26 => ?_) (fun hc_26 => ?_)
      · have hM := it_p hc_26 hM
        refine lv_iconst (v := -1) hx hb dX7_market_41 (by decide) ?_
        have hR := som hM
        rw [hR] at hQ
        exact ret_i hQ hx hb hr hlocks hP hK hD hS dX7_market_42
      · have hM := it_n hc_26 hM
        refine lv_aload_n hx hb dX7_market_26 rfl (lv_at hl 0 rfl) ?_
        refine va_get (D := (dC, dI)) (ci := 7) (v := .ref (aM 0)) (C := RX7) (T := TX7) (N := 11) hx hb hts iwX7_market_X7 hown hK hP 0 rfl rfl 3 (by decide) (hts _ (List.mem_of_getElem? (i := 2) rfl)) (fun _ h9 => h9) rfl dX7_market_27 ?_
        refine va_get (D := (dC, dI)) (ci := 2) (v := .ref (aM 2)) (C := RX2) (T := TX2) (N := 10) hx hb hts iwX7_market_X2 hown hK hP 3 rfl rfl 3 (by decide) (hts _ (List.mem_of_getElem? (i := 3) rfl)) (fun _ h9 => h9) rfl dX7_market_30 ?_
        refine lv_iload_n hx hb dX7_market_33 rfl (lv_at hl 1 rfl) ?_
        refine lv_bipush (v := 20) hx hb dX7_market_34 (by decide) ?_
        refine lv_isub hx hb dX7_market_36 ?_
        obtain ⟨hi, hM⟩ := gi_some hM
        refine va_iald hx hb hK hP 5 0 rfl rfl hi dX7_market_37 ?_
        refine lv_goto (tgt := 42) hx hb dX7_market_38 (by decide) ?_
        refine lv_topi (fun x_27 ex_27 => ?_)
        have hM := nm_at ex_27 hM
        have hR := som hM
        rw [hR] at hQ
        exact ret_i hQ hx hb hr hlocks hP hK hD hS dX7_market_42
  · have hM := it_nn hc_1 hM
    refine lv_iconst (v := -1) hx hb dX7_market_7 (by decide) ?_
    have hR := som hM
    rw [hR] at hQ
    exact ret_i hQ hx hb hr hlocks hP hK hD hS dX7_market_8
abbrev rmX7_entry : Room := { frames := 3, cells := 0, slots := 0, locals := 66 }
theorem iwX7_entry_X0 : ∀ w ∈ wsX00, w ∈ wsX7_entry := fun _ h => List.mem_cons_of_mem _ (List.mem_append_left _ (List.mem_append_right _ (h)))
theorem iwX7_entry_X7 : ∀ w ∈ wsX70, w ∈ wsX7_entry := fun _ h => List.mem_cons_of_mem _ (List.mem_append_left _ (List.mem_append_left _ (List.mem_append_right _ (h))))
set_option maxHeartbeats 4000000 in
set_option maxRecDepth 100000 in
theorem kX7_entry (l : Launch) (dC : Nat → ClassId) (dI : Nat → Nat → Nat) (ct : Nat → ClassId) (aX : Nat → Nat) (aB : Nat → Nat) (aL : Nat → Nat) (xX_text : Nat) (xX_reader : Nat) (xX_sowing : Nat) (xX_market : Nat) (xX_ways : Nat) (xX_draft : Nat) (xX_im0 : Nat) (xX_im1 : Nat) (xX_im2 : Nat) (xB_judged : Nat) (sz : Nat) (mX : Mem) (mB : Mem) (mL : Mem) (v1 : Int32) (v2 : Int32) (v3 : Int32) (res : (Int32 × Mem)) (hM : mX7_entry mX mB mL v1 v2 v3 = some res) : Met l yX7_entry wsX7_entry rmX7_entry (va_Pc [.ref (aX 0), .int v1, .int v2, .int v3] (PB (dC, dI) ct E0 sz (wX ct aX xX_text xX_reader xX_sowing xX_market (aB 0) xX_ways (aL 0) xX_draft xX_im0 xX_im1 xX_im2 mX ++ wB ct aB xB_judged mB ++ wL ct aL mL))) (Qi (dC, dI) ct (va_A (wX ct aX xX_text xX_reader xX_sowing xX_market (aB 0) xX_ways (aL 0) xX_draft xX_im0 xX_im1 xX_im2 mX ++ wB ct aB xB_judged mB ++ wL ct aL mL) sz) res.1 (wX ct aX xX_text xX_reader xX_sowing xX_market (aB 0) xX_ways (aL 0) xX_draft xX_im0 xX_im1 xX_im2 mX ++ wB ct aB xB_judged res.2 ++ wL ct aL mL)) 0 0 (va_A (wX ct aX xX_text xX_reader xX_sowing xX_market (aB 0) xX_ways (aL 0) xX_draft xX_im0 xX_im1 xX_im2 mX ++ wB ct aB xB_judged mB ++ wL ct aL mL) sz) := by
  refine Met.ofW (cc := cX7_entry) (maxL := 4) (ret := (some .int)) (by decide) rfl ?_
  intro p e s m args below meth c s₁ B hml hv
  obtain ⟨hargs, hsz, hP, hK, hD0, hE⟩ := hv
  have hx := B.exec
  have hb := B.bytes
  have hr := B.returns
  have hts := atoms_spec (ws := wsX7_entry) B.pre
  have hown : s.vm.findClass RX7 = some m.cls := findClass_of_methodNamed B.named
  have hlocks := B.notSynchronized
  clear B s₁
  subst hsz
  have hD := hD0.self (sz := s.heap.size)
  clear hD0
  generalize hAe : va_A (wX ct aX xX_text xX_reader xX_sowing xX_market (aB 0) xX_ways (aL 0) xX_draft xX_im0 xX_im1 xX_im2 mX ++ wB ct aB xB_judged mB ++ wL ct aL mL) s.heap.size = A at hD hE ⊢
  have hA : ∀ q : Nat, s.heap.size ≤ q → A q := fun q h => by rw [← hAe]; exact Or.inr h
  clear hAe
  have hS : va_S A s.heap s.heap [] := va_S.rf
  refine cutQ (fun Q hQ => ?_)
  refine entryW (vs := [.ref (aX 0), .int v1, .int v2, .int v3]) hargs (Nat.le_of_ble_eq_true rfl) (fun ls hl => ?_)
  replace hl : lv_has ls 4 [(0, .ref (aX 0)), (1, .int v1), (2, .int v2), (3, .int v3)] := hl
  unfold mX7_entry at hM
  have N62 : ∀ (v1 : Int32) (v2 : Int32) (v3 : Int32) (mB : Mem), mX7_entry_j62 v1 v2 v3 mX mB mL = some res → ∀ (H : Heap) (locs : List Loc), va_P (dC, dI) vwCl (wX ct aX xX_text xX_reader xX_sowing xX_market (aB 0) xX_ways (aL 0) xX_draft xX_im0 xX_im1 xX_im2 mX ++ wB ct aB xB_judged mB ++ wL ct aL mL) H → va_D A (wX ct aX xX_text xX_reader xX_sowing xX_market (aB 0) xX_ways (aL 0) xX_draft xX_im0 xX_im1 xX_im2 mX ++ wB ct aB xB_judged mB ++ wL ct aL mL) → va_S A s.heap H locs → ∀ ls : Array Slot, lv_has ls 4 [(0, .ref (aX 0)), (1, .int v1), (2, .int v2), (3, .int v3)] → W p l e (headSpec wsX7_entry rmX7_entry).room s m args below meth c H locs 0 0 Q (F0 m 62 ls []) := by
    intro v1 v2 v3 mB hM H locs hP hD hS ls hl
    unfold mX7_entry_j62 at hM
    refine lv_aload_n hx hb dX7_entry_62 rfl (lv_at hl 0 rfl) ?_
    refine lv_iload_n hx hb dX7_entry_63 rfl (lv_at hl 2 rfl) ?_
    refine lv_bipush (v := 100) hx hb dX7_entry_64 (by decide) ?_
    refine lv_irem hx hb dX7_entry_66 (by decide) ?_
    refine lv_iload_n hx hb dX7_entry_67 rfl (lv_at hl 2 rfl) ?_
    refine lv_bipush (v := 100) hx hb dX7_entry_68 (by decide) ?_
    refine lv_idiv hx hb dX7_entry_70 (by decide) ?_
    refine lv_iload_n hx hb dX7_entry_71 rfl (lv_at hl 3 rfl) ?_
    refine lv_sipush (v := 1000) hx hb dX7_entry_72 (by decide) ?_
    refine lv_idiv hx hb dX7_entry_75 (by decide) ?_
    refine lv_iload_n hx hb dX7_entry_76 rfl (lv_at hl 3 rfl) ?_
    refine lv_sipush (v := 1000) hx hb dX7_entry_77 (by decide) ?_
    refine lv_irem hx hb dX7_entry_80 (by decide) ?_
    obtain ⟨x_1, hr_2, hM⟩ := bn_some hM
    refine gv_i (r0 := x_1) (wn := (wX ct aX xX_text xX_reader xX_sowing xX_market (aB 0) xX_ways (aL 0) xX_draft xX_im0 xX_im1 xX_im2 mX ++ wB ct aB xB_judged mB ++ wL ct aL mL)) (va_runV (As := [.int (v2 - v2 / (100 : Int32) * (100 : Int32)), .int (v2 / (100 : Int32)), .int (v3 / (1000 : Int32)), .int (v3 - v3 / (1000 : Int32) * (1000 : Int32))]) (rest := []) ⟨hx, hb, hml, hown, hts⟩ (kX7_canBeLoan l dC dI ct aX aL xX_text xX_reader xX_sowing xX_market (aB 0) xX_ways xX_draft xX_im0 xX_im1 xX_im2 _ mX mL (v2 - v2 / (100 : Int32) * (100 : Int32)) (v2 / (100 : Int32)) (v3 / (1000 : Int32)) (v3 - v3 / (1000 : Int32) * (1000 : Int32)) _ hr_2) (cwV 4 hts gX7_entry_X7_canBeLoan rfl rfl rfl hvX7_canBeLoan ⟨Nat.le_of_ble_eq_true rfl, Nat.le_of_ble_eq_true rfl⟩) (preV_of E0_ok hK hP hD (is := [0, 1, 2, 9, 10, 11, 12, 13, 14, 15, 16, 17, 18]) rfl rfl rfl (ci := 7) rfl 0 rfl e_0) rfl rfl hl.1 rfl (lv_room (Nat.le_of_ble_eq_true rfl)) dX7_entry_81 ⟨Nat.le_of_ble_eq_true rfl, Nat.le_of_ble_eq_true rfl⟩) hP hD hS hA [0, 1, 2, 9, 10, 11, 12, 13, 14, 15, 16, 17, 18] [3, 4, 5, 6, 7, 8] [6, 7, 8, 0, 1, 2, 3, 4, 5, 9, 10, 11, 12, 13, 14, 15, 16, 17, 18] rfl rfl rfl (by decide) rfl rfl (fun H locs hP hD hS => ?_)
    refine lv_if_ne (tgt := 89) hx hb dX7_entry_84 (by decide) (fun hc_4 => ?_) (fun hc_4 => ?_)
    · have hM := it_p hc_4 hM
      refine lv_aload_n hx hb dX7_entry_89 rfl (lv_at hl 0 rfl) ?_
      refine va_get (D := (dC, dI)) (ci := 7) (v := .ref (aB 0)) (C := RX7) (T := TX7) (N := 11) hx hb hts iwX7_entry_X7 hown hK hP 0 rfl rfl 4 (by decide) (hts _ (List.mem_of_getElem? (i := 1) rfl)) (fun _ h9 => h9) rfl dX7_entry_90 ?_
      refine lv_iload_n hx hb dX7_entry_93 rfl (lv_at hl 1 rfl) ?_
      refine lv_iload_n hx hb dX7_entry_94 rfl (lv_at hl 2 rfl) ?_
      refine lv_iload_n hx hb dX7_entry_95 rfl (lv_at hl 3 rfl) ?_
      obtain ⟨mB_5, hr_6, hM⟩ := bn_some hM
      refine gv_v (wn := (wX ct aX xX_text xX_reader xX_sowing xX_market (aB 0) xX_ways (aL 0) xX_draft xX_im0 xX_im1 xX_im2 mX ++ wB ct aB xB_judged mB_5 ++ wL ct aL mL)) (va_runV (As := [.int v1, .int v2, .int v3]) (rest := []) ⟨hx, hb, hml, hown, hts⟩ (kX0_append l dC dI ct aB xB_judged _ mB v1 v2 v3 _ hr_6) (cwV 3 hts gX7_entry_X0_append rfl rfl rfl hvX0_append ⟨Nat.le_of_ble_eq_true rfl, Nat.le_of_ble_eq_true rfl⟩) (preV_of E0_ok hK hP hD (is := [3, 4, 5, 6, 7, 8]) rfl rfl rfl (ci := 0) rfl 3 rfl e_0) rfl rfl hl.1 rfl (lv_room (Nat.le_of_ble_eq_true rfl)) dX7_entry_96 ⟨Nat.le_of_ble_eq_true rfl, Nat.le_of_ble_eq_true rfl⟩) hP hD hS hA [3, 4, 5, 6, 7, 8] [0, 1, 2, 9, 10, 11, 12, 13, 14, 15, 16, 17, 18] [0, 1, 2, 13, 14, 15, 16, 17, 18, 3, 4, 5, 6, 7, 8, 9, 10, 11, 12] rfl rfl rfl (by decide) rfl rfl (fun H locs hP hD hS => ?_)
      refine lv_aload_n hx hb dX7_entry_99 rfl (lv_at hl 0 rfl) ?_
      refine va_get (D := (dC, dI)) (ci := 7) (v := .ref (aB 0)) (C := RX7) (T := TX7) (N := 11) hx hb hts iwX7_entry_X7 hown hK hP 0 rfl rfl 4 (by decide) (hts _ (List.mem_of_getElem? (i := 1) rfl)) (fun _ h9 => h9) rfl dX7_entry_100 ?_
      refine va_get (D := (dC, dI)) (ci := 0) (v := .int (mB_5 0 0)) (C := RX0) (T := TX0) (N := 7) hx hb hts iwX7_entry_X0 hown hK hP 3 rfl rfl 0 (by decide) (hts _ (List.mem_of_getElem? (i := 2) rfl)) (fun _ h9 => h9) rfl dX7_entry_103 ?_
      refine lv_topi (fun x_8 ex_8 => ?_)
      have hM := nm_at ex_8 hM
      have hR := som hM
      rw [hR] at hQ
      exact ret_i hQ hx hb hr hlocks hP hK hD hS dX7_entry_106
    · have hM := it_nn hc_4 hM
      refine lv_iconst (v := -1) hx hb dX7_entry_87 (by decide) ?_
      have hR := som hM
      rw [hR] at hQ
      exact ret_i hQ hx hb hr hlocks hP hK hD hS dX7_entry_88
  refine lv_iload_n hx hb dX7_entry_0 rfl (lv_at hl 1 rfl) ?_
  obtain ⟨x_9, hr_10, hM⟩ := bn_some hM
  refine gv_i (r0 := x_9) (wn := (wX ct aX xX_text xX_reader xX_sowing xX_market (aB 0) xX_ways (aL 0) xX_draft xX_im0 xX_im1 xX_im2 mX ++ wB ct aB xB_judged mB ++ wL ct aL mL)) (va_runS (As := [.int v1]) (rest := []) ⟨hx, hb, hml, hown, hts⟩ (kX7_isNight l dC dI ct _ v1 _ hr_10) (va_cwS 1 hts gX7_entry_X7_isNight rfl rfl rfl hvX7_isNight.2 ⟨Nat.le_of_ble_eq_true rfl, Nat.le_of_ble_eq_true rfl⟩) (preS_of E0_ok hK hP hD (is := []) rfl rfl e_0) rfl rfl hl.1 rfl (lv_room (Nat.le_of_ble_eq_true rfl)) dX7_entry_1 ⟨Nat.le_of_ble_eq_true rfl, Nat.le_of_ble_eq_true rfl⟩) hP hD hS hA [] [0, 1, 2, 3, 4, 5, 6, 7, 8, 9, 10, 11, 12, 13, 14, 15, 16, 17, 18] [0, 1, 2, 3, 4, 5, 6, 7, 8, 9, 10, 11, 12, 13, 14, 15, 16, 17, 18] rfl rfl rfl (by decide) rfl rfl (fun H locs hP hD hS => ?_)
  refine lv_if_eq (tgt := 27) hx hb dX7_entry_4 (by decide) (fun hc_12 => ?_) (fun hc_12 => ?_)
  · have hM := it_p hc_12 hM
    refine lv_iconst (v := -1) hx hb dX7_entry_27 (by decide) ?_
    have hR := som hM
    rw [hR] at hQ
    exact ret_i hQ hx hb hr hlocks hP hK hD hS dX7_entry_28
  · have hM := it_n hc_12 hM
    refine lv_iload_n hx hb dX7_entry_7 rfl (lv_at hl 2 rfl) ?_
    refine lv_if_lt (tgt := 27) hx hb dX7_entry_8 (by decide) (fun hc_13 => ?_) (fun hc_13 => ?_)
    · have hM := it_p hc_13 hM
      refine lv_iconst (v := -1) hx hb dX7_entry_27 (by decide) ?_
      have hR := som hM
      rw [hR] at hQ
      exact ret_i hQ hx hb hr hlocks hP hK hD hS dX7_entry_28
    · have hM := it_n hc_13 hM
      refine lv_iload_n hx hb dX7_entry_11 rfl (lv_at hl 3 rfl) ?_
      refine lv_if_lt (tgt := 27) hx hb dX7_entry_12 (by decide) (fun hc_14 => ?_) (fun hc_14 => ?_)
      · have hM := it_p hc_14 hM
        refine lv_iconst (v := -1) hx hb dX7_entry_27 (by decide) ?_
        have hR := som hM
        rw [hR] at hQ
        exact ret_i hQ hx hb hr hlocks hP hK hD hS dX7_entry_28
      · have hM := it_n hc_14 hM
        refine lv_aload_n hx hb dX7_entry_15 rfl (lv_at hl 0 rfl) ?_
        refine va_get (D := (dC, dI)) (ci := 7) (v := .ref (aB 0)) (C := RX7) (T := TX7) (N := 11) hx hb hts iwX7_entry_X7 hown hK hP 0 rfl rfl 4 (by decide) (hts _ (List.mem_of_getElem? (i := 1) rfl)) (fun _ h9 => h9) rfl dX7_entry_16 ?_
        refine va_get (D := (dC, dI)) (ci := 0) (v := .int (mB 0 0)) (C := RX0) (T := TX0) (N := 7) hx hb hts iwX7_entry_X0 hown hK hP 3 rfl rfl 0 (by decide) (hts _ (List.mem_of_getElem? (i := 2) rfl)) (fun _ h9 => h9) rfl dX7_entry_19 ?_
        refine lv_bipush (v := 20) hx hb dX7_entry_22 (by decide) ?_
        refine lv_icmp_lt (tgt := 29) hx hb dX7_entry_24 (by decide) (fun hc_15 => ?_) (fun hc_15 => ?_)
        · have hM := it_p hc_15 hM
          refine lv_aload_n hx hb dX7_entry_29 rfl (lv_at hl 0 rfl) ?_
          refine va_get (D := (dC, dI)) (ci := 7) (v := .ref (aB 0)) (C := RX7) (T := TX7) (N := 11) hx hb hts iwX7_entry_X7 hown hK hP 0 rfl rfl 4 (by decide) (hts _ (List.mem_of_getElem? (i := 1) rfl)) (fun _ h9 => h9) rfl dX7_entry_30 ?_
          refine va_get (D := (dC, dI)) (ci := 0) (v := .int (mB 0 0)) (C := RX0) (T := TX0) (N := 7) hx hb hts iwX7_entry_X0 hown hK hP 3 rfl rfl 0 (by decide) (hts _ (List.mem_of_getElem? (i := 2) rfl)) (fun _ h9 => h9) rfl dX7_entry_33 ?_
          refine lv_if_le (tgt := 62) hx hb dX7_entry_36 (by decide) (fun hc_16 => ?_) (fun hc_16 => ?_)
          · have hM := it_p hc_16 hM
            exact N62 v1 v2 v3 mB hM _ _ hP hD hS _ (lv_sub hl [0, 1, 2, 3] rfl)
          · have hM := it_n hc_16 hM
            refine lv_iload_n hx hb dX7_entry_39 rfl (lv_at hl 1 rfl) ?_
            refine lv_aload_n hx hb dX7_entry_40 rfl (lv_at hl 0 rfl) ?_
            refine va_get (D := (dC, dI)) (ci := 7) (v := .ref (aB 0)) (C := RX7) (T := TX7) (N := 11) hx hb hts iwX7_entry_X7 hown hK hP 0 rfl rfl 4 (by decide) (hts _ (List.mem_of_getElem? (i := 1) rfl)) (fun _ h9 => h9) rfl dX7_entry_41 ?_
            refine va_get (D := (dC, dI)) (ci := 0) (v := .ref (aB 1)) (C := RX0) (T := TX0) (N := 7) hx hb hts iwX7_entry_X0 hown hK hP 3 rfl rfl 1 (by decide) (hts _ (List.mem_of_getElem? (i := 3) rfl)) (fun _ h9 => h9) rfl dX7_entry_44 ?_
            refine lv_aload_n hx hb dX7_entry_47 rfl (lv_at hl 0 rfl) ?_
            refine va_get (D := (dC, dI)) (ci := 7) (v := .ref (aB 0)) (C := RX7) (T := TX7) (N := 11) hx hb hts iwX7_entry_X7 hown hK hP 0 rfl rfl 4 (by decide) (hts _ (List.mem_of_getElem? (i := 1) rfl)) (fun _ h9 => h9) rfl dX7_entry_48 ?_
            refine va_get (D := (dC, dI)) (ci := 0) (v := .int (mB 0 0)) (C := RX0) (T := TX0) (N := 7) hx hb hts iwX7_entry_X0 hown hK hP 3 rfl rfl 0 (by decide) (hts _ (List.mem_of_getElem? (i := 2) rfl)) (fun _ h9 => h9) rfl dX7_entry_51 ?_
            refine lv_iconst (v := 1) hx hb dX7_entry_54 (by decide) ?_
            refine lv_isub hx hb dX7_entry_55 ?_
            obtain ⟨hi, hM⟩ := gi_some hM
            refine va_iald hx hb hK hP 4 0 rfl rfl hi dX7_entry_56 ?_
            refine lv_icmp_ge (tgt := 62) hx hb dX7_entry_57 (by decide) (fun hc_17 => ?_) (fun hc_17 => ?_)
            · have hM := it_p hc_17 hM
              exact N62 v1 v2 v3 mB hM _ _ hP hD hS _ (lv_sub hl [0, 1, 2, 3] rfl)
            · have hM := it_n hc_17 hM
              refine lv_iconst (v := -1) hx hb dX7_entry_60 (by decide) ?_
              have hR := som hM
              rw [hR] at hQ
              exact ret_i hQ hx hb hr hlocks hP hK hD hS dX7_entry_61
        · have hM := it_n hc_15 hM
          refine lv_iconst (v := -1) hx hb dX7_entry_27 (by decide) ?_
          have hR := som hM
          rw [hR] at hQ
          exact ret_i hQ hx hb hr hlocks hP hK hD hS dX7_entry_28
abbrev rmX7_clear : Room := { frames := 0, cells := 0, slots := 0, locals := 0 }
theorem iwX7_clear_X0 : ∀ w ∈ wsX00, w ∈ wsX7_clear := fun _ h => List.mem_cons_of_mem _ (List.mem_append_right _ (h))
theorem iwX7_clear_X7 : ∀ w ∈ wsX70, w ∈ wsX7_clear := fun _ h => List.mem_cons_of_mem _ (List.mem_append_left _ (List.mem_append_right _ (h)))
set_option maxHeartbeats 4000000 in
set_option maxRecDepth 100000 in
theorem kX7_clear (l : Launch) (dC : Nat → ClassId) (dI : Nat → Nat → Nat) (ct : Nat → ClassId) (aX : Nat → Nat) (aB : Nat → Nat) (xX_text : Nat) (xX_reader : Nat) (xX_sowing : Nat) (xX_market : Nat) (xX_ways : Nat) (xX_land : Nat) (xX_draft : Nat) (xX_im0 : Nat) (xX_im1 : Nat) (xX_im2 : Nat) (xB_judged : Nat) (sz : Nat) (mX : Mem) (mB : Mem) (res : (Int32 × Mem)) (hM : mX7_clear mX mB = some res) : Met l yX7_clear wsX7_clear rmX7_clear (va_Pc [.ref (aX 0)] (PB (dC, dI) ct E0 sz (wX ct aX xX_text xX_reader xX_sowing xX_market (aB 0) xX_ways xX_land xX_draft xX_im0 xX_im1 xX_im2 mX ++ wB ct aB xB_judged mB))) (Qi (dC, dI) ct (va_A (wX ct aX xX_text xX_reader xX_sowing xX_market (aB 0) xX_ways xX_land xX_draft xX_im0 xX_im1 xX_im2 mX ++ wB ct aB xB_judged mB) sz) res.1 (wX ct aX xX_text xX_reader xX_sowing xX_market (aB 0) xX_ways xX_land xX_draft xX_im0 xX_im1 xX_im2 mX ++ wB ct aB xB_judged res.2)) 0 0 (va_A (wX ct aX xX_text xX_reader xX_sowing xX_market (aB 0) xX_ways xX_land xX_draft xX_im0 xX_im1 xX_im2 mX ++ wB ct aB xB_judged mB) sz) := by
  refine Met.ofW (cc := cX7_clear) (maxL := 2) (ret := (some .int)) (by decide) rfl ?_
  intro p e s m args below meth c s₁ B hml hv
  obtain ⟨hargs, hsz, hP, hK, hD0, hE⟩ := hv
  have hx := B.exec
  have hb := B.bytes
  have hr := B.returns
  have hts := atoms_spec (ws := wsX7_clear) B.pre
  have hown : s.vm.findClass RX7 = some m.cls := findClass_of_methodNamed B.named
  have hlocks := B.notSynchronized
  clear B s₁
  subst hsz
  have hD := hD0.self (sz := s.heap.size)
  clear hD0
  generalize hAe : va_A (wX ct aX xX_text xX_reader xX_sowing xX_market (aB 0) xX_ways xX_land xX_draft xX_im0 xX_im1 xX_im2 mX ++ wB ct aB xB_judged mB) s.heap.size = A at hD hE ⊢
  have hA : ∀ q : Nat, s.heap.size ≤ q → A q := fun q h => by rw [← hAe]; exact Or.inr h
  clear hAe
  have hS : va_S A s.heap s.heap [] := va_S.rf
  refine cutQ (fun Q hQ => ?_)
  refine entryW (vs := [.ref (aX 0)]) hargs (Nat.le_of_ble_eq_true rfl) (fun ls hl => ?_)
  replace hl : lv_has ls 2 [(0, .ref (aX 0))] := hl
  unfold mX7_clear at hM
  refine lv_aload_n hx hb dX7_clear_0 rfl (lv_at hl 0 rfl) ?_
  refine va_get (D := (dC, dI)) (ci := 7) (v := .ref (aB 0)) (C := RX7) (T := TX7) (N := 11) hx hb hts iwX7_clear_X7 hown hK hP 0 rfl rfl 4 (by decide) (hts _ (List.mem_of_getElem? (i := 1) rfl)) (fun _ h9 => h9) rfl dX7_clear_1 ?_
  refine va_get (D := (dC, dI)) (ci := 0) (v := .int (mB 0 0)) (C := RX0) (T := TX0) (N := 7) hx hb hts iwX7_clear_X0 hown hK hP 3 rfl rfl 0 (by decide) (hts _ (List.mem_of_getElem? (i := 2) rfl)) (fun _ h9 => h9) rfl dX7_clear_4 ?_
  refine lv_topi (fun x_1 ex_1 => ?_)
  have hM := nm_at ex_1 hM
  refine lv_istore_n (lv' := [(1, .int x_1), (0, .ref (aX 0))]) hx hb dX7_clear_7 rfl hl (by decide) rfl (fun ls hl => ?_)
  refine lv_aload_n hx hb dX7_clear_8 rfl (lv_at hl 1 rfl) ?_
  refine va_get (D := (dC, dI)) (ci := 7) (v := .ref (aB 0)) (C := RX7) (T := TX7) (N := 11) hx hb hts iwX7_clear_X7 hown hK hP 0 rfl rfl 4 (by decide) (hts _ (List.mem_of_getElem? (i := 1) rfl)) (fun _ h9 => h9) rfl dX7_clear_9 ?_
  refine lv_iconst (v := 0) hx hb dX7_clear_12 (by decide) ?_
  refine pf_i (wf := fun z => (wX ct aX xX_text xX_reader xX_sowing xX_market (aB 0) xX_ways xX_land xX_draft xX_im0 xX_im1 xX_im2 mX ++ wB ct aB xB_judged z)) (m1 := upf mB 0 (0 : Int32)) hx hb hts iwX7_clear_X0 tyX0 tyX0_ok nmX0 hown hK hP hD hS 3 rfl rfl 0 (by decide) (hts _ (List.mem_of_getElem? (i := 2) rfl)) (fun _ h9 => h9) rfl rfl rfl (Nat.le_of_ble_eq_true rfl) dX7_clear_13 rfl (fun mB_2 emB_2 H locs hP hD hS => ?_)
  have hM := nm_at emB_2 hM
  refine lv_iload_n hx hb dX7_clear_16 rfl (lv_at hl 0 rfl) ?_
  have hR := som hM
  rw [hR] at hQ
  exact ret_i hQ hx hb hr hlocks hP hK hD hS dX7_clear_17
abbrev rmX7_judge : Room := { frames := 5, cells := 0, slots := 0, locals := 113 }
theorem iwX7_judge_X0 : ∀ w ∈ wsX00, w ∈ wsX7_judge := fun _ h => List.mem_cons_of_mem _ (List.mem_append_left _ (List.mem_append_left _ (List.mem_append_right _ (h))))
theorem iwX7_judge_X7 : ∀ w ∈ wsX70, w ∈ wsX7_judge := fun _ h => List.mem_cons_of_mem _ (List.mem_append_left _ (List.mem_append_left _ (List.mem_append_left _ (List.mem_append_right _ (h)))))
set_option maxHeartbeats 4000000 in
set_option maxRecDepth 100000 in
theorem kX7_judge (l : Launch) (dC : Nat → ClassId) (dI : Nat → Nat → Nat) (ct : Nat → ClassId) (aX : Nat → Nat) (aB : Nat → Nat) (aJ : Nat → Nat) (aL : Nat → Nat) (xX_text : Nat) (xX_reader : Nat) (xX_sowing : Nat) (xX_market : Nat) (xX_ways : Nat) (xX_draft : Nat) (xX_im0 : Nat) (xX_im1 : Nat) (xX_im2 : Nat) (sz : Nat) (mX : Mem) (mB : Mem) (mJ : Mem) (mL : Mem) (v1 : Int32) (res : (Int32 × Mem × Mem)) (hM : mX7_judge mX mB mJ mL v1 = some res) : Met l yX7_judge wsX7_judge rmX7_judge (va_Pc [.ref (aX 0), .int v1] (PB (dC, dI) ct E0 sz (wX ct aX xX_text xX_reader xX_sowing xX_market (aB 0) xX_ways (aL 0) xX_draft xX_im0 xX_im1 xX_im2 mX ++ wB ct aB (aJ 0) mB ++ wM ct aJ mJ ++ wL ct aL mL))) (Qi (dC, dI) ct (va_A (wX ct aX xX_text xX_reader xX_sowing xX_market (aB 0) xX_ways (aL 0) xX_draft xX_im0 xX_im1 xX_im2 mX ++ wB ct aB (aJ 0) mB ++ wM ct aJ mJ ++ wL ct aL mL) sz) res.1 (wX ct aX xX_text xX_reader xX_sowing xX_market (aB 0) xX_ways (aL 0) xX_draft xX_im0 xX_im1 xX_im2 mX ++ wB ct aB (aJ 0) res.2.1 ++ wM ct aJ res.2.2 ++ wL ct aL mL)) 0 0 (va_A (wX ct aX xX_text xX_reader xX_sowing xX_market (aB 0) xX_ways (aL 0) xX_draft xX_im0 xX_im1 xX_im2 mX ++ wB ct aB (aJ 0) mB ++ wM ct aJ mJ ++ wL ct aL mL) sz) := by
  refine Met.ofW (cc := cX7_judge) (maxL := 3) (ret := (some .int)) (by decide) rfl ?_
  intro p e s m args below meth c s₁ B hml hv
  obtain ⟨hargs, hsz, hP, hK, hD0, hE⟩ := hv
  have hx := B.exec
  have hb := B.bytes
  have hr := B.returns
  have hts := atoms_spec (ws := wsX7_judge) B.pre
  have hown : s.vm.findClass RX7 = some m.cls := findClass_of_methodNamed B.named
  have hlocks := B.notSynchronized
  clear B s₁
  subst hsz
  have hD := hD0.self (sz := s.heap.size)
  clear hD0
  generalize hAe : va_A (wX ct aX xX_text xX_reader xX_sowing xX_market (aB 0) xX_ways (aL 0) xX_draft xX_im0 xX_im1 xX_im2 mX ++ wB ct aB (aJ 0) mB ++ wM ct aJ mJ ++ wL ct aL mL) s.heap.size = A at hD hE ⊢
  have hA : ∀ q : Nat, s.heap.size ≤ q → A q := fun q h => by rw [← hAe]; exact Or.inr h
  clear hAe
  have hS : va_S A s.heap s.heap [] := va_S.rf
  refine cutQ (fun Q hQ => ?_)
  refine entryW (vs := [.ref (aX 0), .int v1]) hargs (Nat.le_of_ble_eq_true rfl) (fun ls hl => ?_)
  replace hl : lv_has ls 3 [(0, .ref (aX 0)), (1, .int v1)] := hl
  unfold mX7_judge at hM
  refine lv_aload_n hx hb dX7_judge_0 rfl (lv_at hl 0 rfl) ?_
  refine va_get (D := (dC, dI)) (ci := 7) (v := .int (mX 0 10)) (C := RX7) (T := TX7) (N := 11) hx hb hts iwX7_judge_X7 hown hK hP 0 rfl rfl 10 (by decide) (hts _ (List.mem_of_getElem? (i := 1) rfl)) (fun _ h9 => h9) rfl dX7_judge_1 ?_
  refine lv_if_eq (tgt := 23) hx hb dX7_judge_4 (by decide) (fun hc_1 => ?_) (fun hc_1 => ?_)
  · have hM := it_p hc_1 hM
    refine lv_iconst (v := -1) hx hb dX7_judge_23 (by decide) ?_
    have hR := som hM
    rw [hR] at hQ
    exact ret_i hQ hx hb hr hlocks hP hK hD hS dX7_judge_24
  · have hM := it_n hc_1 hM
    refine lv_iload_n hx hb dX7_judge_7 rfl (lv_at hl 1 rfl) ?_
    refine lv_iconst (v := -1) hx hb dX7_judge_8 (by decide) ?_
    refine lv_icmp_lt (tgt := 23) hx hb dX7_judge_9 (by decide) (fun hc_2 => ?_) (fun hc_2 => ?_)
    · have hM := it_p hc_2 hM
      refine lv_iconst (v := -1) hx hb dX7_judge_23 (by decide) ?_
      have hR := som hM
      rw [hR] at hQ
      exact ret_i hQ hx hb hr hlocks hP hK hD hS dX7_judge_24
    · have hM := it_n hc_2 hM
      refine lv_iload_n hx hb dX7_judge_12 rfl (lv_at hl 1 rfl) ?_
      refine lv_aload_n hx hb dX7_judge_13 rfl (lv_at hl 0 rfl) ?_
      refine va_get (D := (dC, dI)) (ci := 7) (v := .ref (aB 0)) (C := RX7) (T := TX7) (N := 11) hx hb hts iwX7_judge_X7 hown hK hP 0 rfl rfl 4 (by decide) (hts _ (List.mem_of_getElem? (i := 2) rfl)) (fun _ h9 => h9) rfl dX7_judge_14 ?_
      refine va_get (D := (dC, dI)) (ci := 0) (v := .int (mB 0 0)) (C := RX0) (T := TX0) (N := 7) hx hb hts iwX7_judge_X0 hown hK hP 3 rfl rfl 0 (by decide) (hts _ (List.mem_of_getElem? (i := 3) rfl)) (fun _ h9 => h9) rfl dX7_judge_17 ?_
      refine lv_icmp_lt (tgt := 25) hx hb dX7_judge_20 (by decide) (fun hc_3 => ?_) (fun hc_3 => ?_)
      · have hM := it_p hc_3 hM
        refine lv_aload_n hx hb dX7_judge_25 rfl (lv_at hl 0 rfl) ?_
        refine va_get (D := (dC, dI)) (ci := 7) (v := .ref (aB 0)) (C := RX7) (T := TX7) (N := 11) hx hb hts iwX7_judge_X7 hown hK hP 0 rfl rfl 4 (by decide) (hts _ (List.mem_of_getElem? (i := 2) rfl)) (fun _ h9 => h9) rfl dX7_judge_26 ?_
        refine lv_aload_n hx hb dX7_judge_29 rfl (lv_at hl 0 rfl) ?_
        refine va_get (D := (dC, dI)) (ci := 7) (v := .ref (aL 0)) (C := RX7) (T := TX7) (N := 11) hx hb hts iwX7_judge_X7 hown hK hP 0 rfl rfl 8 (by decide) (hts _ (List.mem_of_getElem? (i := 4) rfl)) (fun _ h9 => h9) rfl dX7_judge_30 ?_
        obtain ⟨q_8, hr_7, hM⟩ := bn_some hM
        obtain ⟨x_4, mB_5, mJ_6⟩ := q_8
        have hM := nm_at (y := x_4) rfl hM
        have hM := nm_at (y := mB_5) rfl hM
        have hM := nm_at (y := mJ_6) rfl hM
        have hPs := pm_P (ws' := (wB ct aB (aJ 0) mB ++ wM ct aJ mJ ++ wL ct aL mL) ++ (wX ct aX xX_text xX_reader xX_sowing xX_market (aB 0) xX_ways (aL 0) xX_draft xX_im0 xX_im1 xX_im2 mX)) [wX ct aX xX_text xX_reader xX_sowing xX_market (aB 0) xX_ways (aL 0) xX_draft xX_im0 xX_im1 xX_im2 mX, wB ct aB (aJ 0) mB, wM ct aJ mJ, wL ct aL mL] [1, 2, 3, 0] (show List.Perm [1, 2, 3, 0] (List.range 4) from by decide) (by simp only [List.flatten_cons, List.flatten_nil, List.append_nil, List.nil_append, List.append_assoc]) (by show List.flatten [wB ct aB (aJ 0) mB, wM ct aJ mJ, wL ct aL mL, wX ct aX xX_text xX_reader xX_sowing xX_market (aB 0) xX_ways (aL 0) xX_draft xX_im0 xX_im1 xX_im2 mX] = _; simp only [List.flatten_cons, List.flatten_nil, List.append_nil, List.nil_append, List.append_assoc]) hP
        have hDs := pm_D (ws' := (wB ct aB (aJ 0) mB ++ wM ct aJ mJ ++ wL ct aL mL) ++ (wX ct aX xX_text xX_reader xX_sowing xX_market (aB 0) xX_ways (aL 0) xX_draft xX_im0 xX_im1 xX_im2 mX)) [wX ct aX xX_text xX_reader xX_sowing xX_market (aB 0) xX_ways (aL 0) xX_draft xX_im0 xX_im1 xX_im2 mX, wB ct aB (aJ 0) mB, wM ct aJ mJ, wL ct aL mL] [1, 2, 3, 0] (show List.Perm [1, 2, 3, 0] (List.range 4) from by decide) (by simp only [List.flatten_cons, List.flatten_nil, List.append_nil, List.nil_append, List.append_assoc]) (by show List.flatten [wB ct aB (aJ 0) mB, wM ct aJ mJ, wL ct aL mL, wX ct aX xX_text xX_reader xX_sowing xX_market (aB 0) xX_ways (aL 0) xX_draft xX_im0 xX_im1 xX_im2 mX] = _; simp only [List.flatten_cons, List.flatten_nil, List.append_nil, List.nil_append, List.append_assoc]) hD
        refine sp_i (r0 := x_4) (wr := (wX ct aX xX_text xX_reader xX_sowing xX_market (aB 0) xX_ways (aL 0) xX_draft xX_im0 xX_im1 xX_im2 mX)) (va_runV (As := [.ref (aL 0)]) (rest := []) ⟨hx, hb, hml, hown, hts⟩ (kX0_judgeAll l dC dI ct aB aJ aL _ mB mJ mL _ hr_7) (cwV 1 hts gX7_judge_X0_judgeAll rfl rfl rfl hvX0_judgeAll ⟨Nat.le_of_ble_eq_true rfl, Nat.le_of_ble_eq_true rfl⟩) (sp_preV E0_ok hK hPs hDs rfl (ci := 0) rfl 0 rfl e_0) rfl rfl hl.1 rfl (lv_room (Nat.le_of_ble_eq_true rfl)) dX7_judge_33 ⟨Nat.le_of_ble_eq_true rfl, Nat.le_of_ble_eq_true rfl⟩) hPs hDs hS hA (fun H locs hPs hDs hS => ?_)
        replace hPs : va_P (dC, dI) vwCl ((wB ct aB (aJ 0) mB_5 ++ wM ct aJ mJ_6 ++ wL ct aL mL) ++ (wX ct aX xX_text xX_reader xX_sowing xX_market (aB 0) xX_ways (aL 0) xX_draft xX_im0 xX_im1 xX_im2 mX)) H := hPs
        replace hDs : va_D A ((wB ct aB (aJ 0) mB_5 ++ wM ct aJ mJ_6 ++ wL ct aL mL) ++ (wX ct aX xX_text xX_reader xX_sowing xX_market (aB 0) xX_ways (aL 0) xX_draft xX_im0 xX_im1 xX_im2 mX)) := hDs
        have hP := pm_P (ws' := (wX ct aX xX_text xX_reader xX_sowing xX_market (aB 0) xX_ways (aL 0) xX_draft xX_im0 xX_im1 xX_im2 mX ++ wB ct aB (aJ 0) mB_5 ++ wM ct aJ mJ_6 ++ wL ct aL mL)) [wB ct aB (aJ 0) mB_5, wM ct aJ mJ_6, wL ct aL mL, wX ct aX xX_text xX_reader xX_sowing xX_market (aB 0) xX_ways (aL 0) xX_draft xX_im0 xX_im1 xX_im2 mX] [3, 0, 1, 2] (show List.Perm [3, 0, 1, 2] (List.range 4) from by decide) (by simp only [List.flatten_cons, List.flatten_nil, List.append_nil, List.nil_append, List.append_assoc]) (by show List.flatten [wX ct aX xX_text xX_reader xX_sowing xX_market (aB 0) xX_ways (aL 0) xX_draft xX_im0 xX_im1 xX_im2 mX, wB ct aB (aJ 0) mB_5, wM ct aJ mJ_6, wL ct aL mL] = _; simp only [List.flatten_cons, List.flatten_nil, List.append_nil, List.nil_append, List.append_assoc]) hPs
        have hD := pm_D (ws' := (wX ct aX xX_text xX_reader xX_sowing xX_market (aB 0) xX_ways (aL 0) xX_draft xX_im0 xX_im1 xX_im2 mX ++ wB ct aB (aJ 0) mB_5 ++ wM ct aJ mJ_6 ++ wL ct aL mL)) [wB ct aB (aJ 0) mB_5, wM ct aJ mJ_6, wL ct aL mL, wX ct aX xX_text xX_reader xX_sowing xX_market (aB 0) xX_ways (aL 0) xX_draft xX_im0 xX_im1 xX_im2 mX] [3, 0, 1, 2] (show List.Perm [3, 0, 1, 2] (List.range 4) from by decide) (by simp only [List.flatten_cons, List.flatten_nil, List.append_nil, List.nil_append, List.append_assoc]) (by show List.flatten [wX ct aX xX_text xX_reader xX_sowing xX_market (aB 0) xX_ways (aL 0) xX_draft xX_im0 xX_im1 xX_im2 mX, wB ct aB (aJ 0) mB_5, wM ct aJ mJ_6, wL ct aL mL] = _; simp only [List.flatten_cons, List.flatten_nil, List.append_nil, List.nil_append, List.append_assoc]) hDs
        clear hPs hDs
        refine lv_istore_n (lv' := [(2, .int x_4), (0, .ref (aX 0)), (1, .int v1)]) hx hb dX7_judge_36 rfl hl (by decide) rfl (fun ls hl => ?_)
        refine lv_iload_n hx hb dX7_judge_37 rfl (lv_at hl 2 rfl) ?_
        refine lv_iconst (v := -1) hx hb dX7_judge_38 (by decide) ?_
        refine lv_icmp_ne (tgt := 46) hx hb dX7_judge_39 (by decide) (fun hc_9 => ?_) (fun hc_9 => ?_)
        · have hM := it_p hc_9 hM
          refine lv_aload_n hx hb dX7_judge_46 rfl (lv_at hl 1 rfl) ?_
          refine va_get (D := (dC, dI)) (ci := 7) (v := .ref (aB 0)) (C := RX7) (T := TX7) (N := 11) hx hb hts iwX7_judge_X7 hown hK hP 0 rfl rfl 4 (by decide) (hts _ (List.mem_of_getElem? (i := 2) rfl)) (fun _ h9 => h9) rfl dX7_judge_47 ?_
          refine va_get (D := (dC, dI)) (ci := 0) (v := .ref (aB 2)) (C := RX0) (T := TX0) (N := 7) hx hb hts iwX7_judge_X0 hown hK hP 3 rfl rfl 2 (by decide) (hts _ (List.mem_of_getElem? (i := 5) rfl)) (fun _ h9 => h9) rfl dX7_judge_50 ?_
          refine lv_iload_n hx hb dX7_judge_53 rfl (lv_at hl 2 rfl) ?_
          obtain ⟨hi, hM⟩ := gi_some hM
          refine va_iald hx hb hK hP 5 0 rfl rfl hi dX7_judge_54 ?_
          refine lv_topi (fun x_10 ex_10 => ?_)
          have hM := nm_at ex_10 hM
          have hR := som hM
          rw [hR] at hQ
          exact ret_i hQ hx hb hr hlocks hP hK hD hS dX7_judge_55
        · have hM := it_nn hc_9 hM
          refine lv_iload_n hx hb dX7_judge_42 rfl (lv_at hl 0 rfl) ?_
          refine lv_goto (tgt := 55) hx hb dX7_judge_43 (by decide) ?_
          have hR := som hM
          rw [hR] at hQ
          exact ret_i hQ hx hb hr hlocks hP hK hD hS dX7_judge_55
      · have hM := it_n hc_3 hM
        refine lv_iconst (v := -1) hx hb dX7_judge_23 (by decide) ?_
        have hR := som hM
        rw [hR] at hQ
        exact ret_i hQ hx hb hr hlocks hP hK hD hS dX7_judge_24
abbrev rmX7_holds : Room := { frames := 1, cells := 0, slots := 0, locals := 22 }
set_option maxHeartbeats 4000000 in
set_option maxRecDepth 100000 in
theorem kX7_holds (l : Launch) (dC : Nat → ClassId) (dI : Nat → Nat → Nat) (ct : Nat → ClassId) (aX : Nat → Nat) (xX_text : Nat) (xX_reader : Nat) (xX_sowing : Nat) (xX_market : Nat) (xX_book : Nat) (xX_ways : Nat) (xX_land : Nat) (xX_draft : Nat) (xX_im0 : Nat) (xX_im1 : Nat) (xX_im2 : Nat) (sz : Nat) (mX : Mem) (v1 : Int32) (v2 : Int32) (v3 : Int32) (res : Int32) (hM : mX7_holds mX v1 v2 v3 = some res) : Met l yX7_holds wsX7_holds rmX7_holds (va_Pc [.ref (aX 0), .int v1, .int v2, .int v3] (PB (dC, dI) ct E0 sz (wX ct aX xX_text xX_reader xX_sowing xX_market xX_book xX_ways xX_land xX_draft xX_im0 xX_im1 xX_im2 mX))) (Qi (dC, dI) ct (va_A (wX ct aX xX_text xX_reader xX_sowing xX_market xX_book xX_ways xX_land xX_draft xX_im0 xX_im1 xX_im2 mX) sz) res (wX ct aX xX_text xX_reader xX_sowing xX_market xX_book xX_ways xX_land xX_draft xX_im0 xX_im1 xX_im2 mX)) 0 0 (va_A (wX ct aX xX_text xX_reader xX_sowing xX_market xX_book xX_ways xX_land xX_draft xX_im0 xX_im1 xX_im2 mX) sz) := by
  refine Met.ofW (cc := cX7_holds) (maxL := 4) (ret := (some .int)) (by decide) rfl ?_
  intro p e s m args below meth c s₁ B hml hv
  obtain ⟨hargs, hsz, hP, hK, hD0, hE⟩ := hv
  have hx := B.exec
  have hb := B.bytes
  have hr := B.returns
  have hts := atoms_spec (ws := wsX7_holds) B.pre
  have hown : s.vm.findClass RX7 = some m.cls := findClass_of_methodNamed B.named
  have hlocks := B.notSynchronized
  clear B s₁
  subst hsz
  have hD := hD0.self (sz := s.heap.size)
  clear hD0
  generalize hAe : va_A (wX ct aX xX_text xX_reader xX_sowing xX_market xX_book xX_ways xX_land xX_draft xX_im0 xX_im1 xX_im2 mX) s.heap.size = A at hD hE ⊢
  have hA : ∀ q : Nat, s.heap.size ≤ q → A q := fun q h => by rw [← hAe]; exact Or.inr h
  clear hAe
  have hS : va_S A s.heap s.heap [] := va_S.rf
  refine cutQ (fun Q hQ => ?_)
  refine entryW (vs := [.ref (aX 0), .int v1, .int v2, .int v3]) hargs (Nat.le_of_ble_eq_true rfl) (fun ls hl => ?_)
  replace hl : lv_has ls 4 [(0, .ref (aX 0)), (1, .int v1), (2, .int v2), (3, .int v3)] := hl
  unfold mX7_holds at hM
  refine lv_iload_n hx hb dX7_holds_0 rfl (lv_at hl 1 rfl) ?_
  refine lv_iconst (v := 1) hx hb dX7_holds_1 (by decide) ?_
  refine lv_sipush (v := 9999) hx hb dX7_holds_2 (by decide) ?_
  obtain ⟨x_1, hr_2, hM⟩ := bn_some hM
  refine gv_i (r0 := x_1) (wn := (wX ct aX xX_text xX_reader xX_sowing xX_market xX_book xX_ways xX_land xX_draft xX_im0 xX_im1 xX_im2 mX)) (va_runS (As := [.int v1, .int (1 : Int32), .int (9999 : Int32)]) (rest := []) ⟨hx, hb, hml, hown, hts⟩ (kX7_isIn l dC dI ct _ v1 (1 : Int32) (9999 : Int32) _ hr_2) (va_cwS 3 hts gX7_holds_X7_isIn rfl rfl rfl hvX7_isIn.2 ⟨Nat.le_of_ble_eq_true rfl, Nat.le_of_ble_eq_true rfl⟩) (preS_of E0_ok hK hP hD (is := []) rfl rfl e_0) rfl rfl hl.1 rfl (lv_room (Nat.le_of_ble_eq_true rfl)) dX7_holds_5 ⟨Nat.le_of_ble_eq_true rfl, Nat.le_of_ble_eq_true rfl⟩) hP hD hS hA [] [0, 1, 2] [0, 1, 2] rfl rfl rfl (by decide) rfl rfl (fun H locs hP hD hS => ?_)
  refine lv_if_eq (tgt := 32) hx hb dX7_holds_8 (by decide) (fun hc_4 => ?_) (fun hc_4 => ?_)
  · have hM := it_p hc_4 hM
    refine lv_iconst (v := -1) hx hb dX7_holds_32 (by decide) ?_
    have hR := som hM
    rw [hR] at hQ
    exact ret_i hQ hx hb hr hlocks hP hK hD hS dX7_holds_33
  · have hM := it_n hc_4 hM
    refine lv_iload_n hx hb dX7_holds_11 rfl (lv_at hl 2 rfl) ?_
    refine lv_iconst (v := 0) hx hb dX7_holds_12 (by decide) ?_
    refine lv_sipush (v := 999) hx hb dX7_holds_13 (by decide) ?_
    obtain ⟨x_5, hr_6, hM⟩ := bn_some hM
    refine gv_i (r0 := x_5) (wn := (wX ct aX xX_text xX_reader xX_sowing xX_market xX_book xX_ways xX_land xX_draft xX_im0 xX_im1 xX_im2 mX)) (va_runS (As := [.int v2, .int (0 : Int32), .int (999 : Int32)]) (rest := []) ⟨hx, hb, hml, hown, hts⟩ (kX7_isIn l dC dI ct _ v2 (0 : Int32) (999 : Int32) _ hr_6) (va_cwS 3 hts gX7_holds_X7_isIn rfl rfl rfl hvX7_isIn.2 ⟨Nat.le_of_ble_eq_true rfl, Nat.le_of_ble_eq_true rfl⟩) (preS_of E0_ok hK hP hD (is := []) rfl rfl e_0) rfl rfl hl.1 rfl (lv_room (Nat.le_of_ble_eq_true rfl)) dX7_holds_16 ⟨Nat.le_of_ble_eq_true rfl, Nat.le_of_ble_eq_true rfl⟩) hP hD hS hA [] [0, 1, 2] [0, 1, 2] rfl rfl rfl (by decide) rfl rfl (fun H locs hP hD hS => ?_)
    refine lv_if_eq (tgt := 32) hx hb dX7_holds_19 (by decide) (fun hc_8 => ?_) (fun hc_8 => ?_)
    · have hM := it_p hc_8 hM
      refine lv_iconst (v := -1) hx hb dX7_holds_32 (by decide) ?_
      have hR := som hM
      rw [hR] at hQ
      exact ret_i hQ hx hb hr hlocks hP hK hD hS dX7_holds_33
    · have hM := it_n hc_8 hM
      refine lv_iload_n hx hb dX7_holds_22 rfl (lv_at hl 3 rfl) ?_
      refine lv_iconst (v := 0) hx hb dX7_holds_23 (by decide) ?_
      refine lv_bipush (v := 15) hx hb dX7_holds_24 (by decide) ?_
      obtain ⟨x_9, hr_10, hM⟩ := bn_some hM
      refine gv_i (r0 := x_9) (wn := (wX ct aX xX_text xX_reader xX_sowing xX_market xX_book xX_ways xX_land xX_draft xX_im0 xX_im1 xX_im2 mX)) (va_runS (As := [.int v3, .int (0 : Int32), .int (15 : Int32)]) (rest := []) ⟨hx, hb, hml, hown, hts⟩ (kX7_isIn l dC dI ct _ v3 (0 : Int32) (15 : Int32) _ hr_10) (va_cwS 3 hts gX7_holds_X7_isIn rfl rfl rfl hvX7_isIn.2 ⟨Nat.le_of_ble_eq_true rfl, Nat.le_of_ble_eq_true rfl⟩) (preS_of E0_ok hK hP hD (is := []) rfl rfl e_0) rfl rfl hl.1 rfl (lv_room (Nat.le_of_ble_eq_true rfl)) dX7_holds_26 ⟨Nat.le_of_ble_eq_true rfl, Nat.le_of_ble_eq_true rfl⟩) hP hD hS hA [] [0, 1, 2] [0, 1, 2] rfl rfl rfl (by decide) rfl rfl (fun H locs hP hD hS => ?_)
      refine lv_if_ne (tgt := 34) hx hb dX7_holds_29 (by decide) (fun hc_12 => ?_) (fun hc_12 => ?_)
      · have hM := it_p hc_12 hM
        refine lv_iload_n hx hb dX7_holds_34 rfl (lv_at hl 2 rfl) ?_
        refine lv_iload_n hx hb dX7_holds_35 rfl (lv_at hl 3 rfl) ?_
        refine lv_imul hx hb dX7_holds_36 ?_
        refine lv_iload_n hx hb dX7_holds_37 rfl (lv_at hl 1 rfl) ?_
        refine lv_bipush (v := 16) hx hb dX7_holds_38 (by decide) ?_
        refine lv_iload_n hx hb dX7_holds_40 rfl (lv_at hl 3 rfl) ?_
        refine lv_isub hx hb dX7_holds_41 ?_
        refine lv_imul hx hb dX7_holds_42 ?_
        refine lv_icmp_lt (tgt := 50) hx hb dX7_holds_43 (by decide) (fun hc_13 => ?_) (fun hc_13 => ?_)
        · have hM := it_p hc_13 hM
          refine lv_iconst (v := 0) hx hb dX7_holds_50 (by decide) ?_
          have hR := som hM
          rw [hR] at hQ
          exact ret_i hQ hx hb hr hlocks hP hK hD hS dX7_holds_51
        · have hM := it_n hc_13 hM
          refine lv_iconst (v := 1) hx hb dX7_holds_46 (by decide) ?_
          refine lv_goto (tgt := 51) hx hb dX7_holds_47 (by decide) ?_
          have hR := som hM
          rw [hR] at hQ
          exact ret_i hQ hx hb hr hlocks hP hK hD hS dX7_holds_51
      · have hM := it_nn hc_12 hM
        refine lv_iconst (v := -1) hx hb dX7_holds_32 (by decide) ?_
        have hR := som hM
        rw [hR] at hQ
        exact ret_i hQ hx hb hr hlocks hP hK hD hS dX7_holds_33
abbrev rmX7_greatest : Room := { frames := 1, cells := 0, slots := 0, locals := 22 }
set_option maxHeartbeats 4000000 in
set_option maxRecDepth 100000 in
theorem kX7_greatest (l : Launch) (dC : Nat → ClassId) (dI : Nat → Nat → Nat) (ct : Nat → ClassId) (aX : Nat → Nat) (xX_text : Nat) (xX_reader : Nat) (xX_sowing : Nat) (xX_market : Nat) (xX_book : Nat) (xX_ways : Nat) (xX_land : Nat) (xX_draft : Nat) (xX_im0 : Nat) (xX_im1 : Nat) (xX_im2 : Nat) (sz : Nat) (mX : Mem) (v1 : Int32) (v2 : Int32) (res : Int32) (hM : mX7_greatest mX v1 v2 = some res) : Met l yX7_greatest wsX7_greatest rmX7_greatest (va_Pc [.ref (aX 0), .int v1, .int v2] (PB (dC, dI) ct E0 sz (wX ct aX xX_text xX_reader xX_sowing xX_market xX_book xX_ways xX_land xX_draft xX_im0 xX_im1 xX_im2 mX))) (Qi (dC, dI) ct (va_A (wX ct aX xX_text xX_reader xX_sowing xX_market xX_book xX_ways xX_land xX_draft xX_im0 xX_im1 xX_im2 mX) sz) res (wX ct aX xX_text xX_reader xX_sowing xX_market xX_book xX_ways xX_land xX_draft xX_im0 xX_im1 xX_im2 mX)) 0 0 (va_A (wX ct aX xX_text xX_reader xX_sowing xX_market xX_book xX_ways xX_land xX_draft xX_im0 xX_im1 xX_im2 mX) sz) := by
  refine Met.ofW (cc := cX7_greatest) (maxL := 3) (ret := (some .int)) (by decide) rfl ?_
  intro p e s m args below meth c s₁ B hml hv
  obtain ⟨hargs, hsz, hP, hK, hD0, hE⟩ := hv
  have hx := B.exec
  have hb := B.bytes
  have hr := B.returns
  have hts := atoms_spec (ws := wsX7_greatest) B.pre
  have hown : s.vm.findClass RX7 = some m.cls := findClass_of_methodNamed B.named
  have hlocks := B.notSynchronized
  clear B s₁
  subst hsz
  have hD := hD0.self (sz := s.heap.size)
  clear hD0
  generalize hAe : va_A (wX ct aX xX_text xX_reader xX_sowing xX_market xX_book xX_ways xX_land xX_draft xX_im0 xX_im1 xX_im2 mX) s.heap.size = A at hD hE ⊢
  have hA : ∀ q : Nat, s.heap.size ≤ q → A q := fun q h => by rw [← hAe]; exact Or.inr h
  clear hAe
  have hS : va_S A s.heap s.heap [] := va_S.rf
  refine cutQ (fun Q hQ => ?_)
  refine entryW (vs := [.ref (aX 0), .int v1, .int v2]) hargs (Nat.le_of_ble_eq_true rfl) (fun ls hl => ?_)
  replace hl : lv_has ls 3 [(0, .ref (aX 0)), (1, .int v1), (2, .int v2)] := hl
  unfold mX7_greatest at hM
  refine lv_iload_n hx hb dX7_greatest_0 rfl (lv_at hl 1 rfl) ?_
  refine lv_iconst (v := 0) hx hb dX7_greatest_1 (by decide) ?_
  refine lv_sipush (v := 999) hx hb dX7_greatest_2 (by decide) ?_
  obtain ⟨x_1, hr_2, hM⟩ := bn_some hM
  refine gv_i (r0 := x_1) (wn := (wX ct aX xX_text xX_reader xX_sowing xX_market xX_book xX_ways xX_land xX_draft xX_im0 xX_im1 xX_im2 mX)) (va_runS (As := [.int v1, .int (0 : Int32), .int (999 : Int32)]) (rest := []) ⟨hx, hb, hml, hown, hts⟩ (kX7_isIn l dC dI ct _ v1 (0 : Int32) (999 : Int32) _ hr_2) (va_cwS 3 hts gX7_greatest_X7_isIn rfl rfl rfl hvX7_isIn.2 ⟨Nat.le_of_ble_eq_true rfl, Nat.le_of_ble_eq_true rfl⟩) (preS_of E0_ok hK hP hD (is := []) rfl rfl e_0) rfl rfl hl.1 rfl (lv_room (Nat.le_of_ble_eq_true rfl)) dX7_greatest_5 ⟨Nat.le_of_ble_eq_true rfl, Nat.le_of_ble_eq_true rfl⟩) hP hD hS hA [] [0, 1, 2] [0, 1, 2] rfl rfl rfl (by decide) rfl rfl (fun H locs hP hD hS => ?_)
  refine lv_if_eq (tgt := 21) hx hb dX7_greatest_8 (by decide) (fun hc_4 => ?_) (fun hc_4 => ?_)
  · have hM := it_p hc_4 hM
    refine lv_iconst (v := -1) hx hb dX7_greatest_21 (by decide) ?_
    have hR := som hM
    rw [hR] at hQ
    exact ret_i hQ hx hb hr hlocks hP hK hD hS dX7_greatest_22
  · have hM := it_n hc_4 hM
    refine lv_iload_n hx hb dX7_greatest_11 rfl (lv_at hl 2 rfl) ?_
    refine lv_iconst (v := 0) hx hb dX7_greatest_12 (by decide) ?_
    refine lv_bipush (v := 15) hx hb dX7_greatest_13 (by decide) ?_
    obtain ⟨x_5, hr_6, hM⟩ := bn_some hM
    refine gv_i (r0 := x_5) (wn := (wX ct aX xX_text xX_reader xX_sowing xX_market xX_book xX_ways xX_land xX_draft xX_im0 xX_im1 xX_im2 mX)) (va_runS (As := [.int v2, .int (0 : Int32), .int (15 : Int32)]) (rest := []) ⟨hx, hb, hml, hown, hts⟩ (kX7_isIn l dC dI ct _ v2 (0 : Int32) (15 : Int32) _ hr_6) (va_cwS 3 hts gX7_greatest_X7_isIn rfl rfl rfl hvX7_isIn.2 ⟨Nat.le_of_ble_eq_true rfl, Nat.le_of_ble_eq_true rfl⟩) (preS_of E0_ok hK hP hD (is := []) rfl rfl e_0) rfl rfl hl.1 rfl (lv_room (Nat.le_of_ble_eq_true rfl)) dX7_greatest_15 ⟨Nat.le_of_ble_eq_true rfl, Nat.le_of_ble_eq_true rfl⟩) hP hD hS hA [] [0, 1, 2] [0, 1, 2] rfl rfl rfl (by decide) rfl rfl (fun H locs hP hD hS => ?_)
    refine lv_if_ne (tgt := 23) hx hb dX7_greatest_18 (by decide) (fun hc_8 => ?_) (fun hc_8 => ?_)
    · have hM := it_p hc_8 hM
      refine lv_iload_n hx hb dX7_greatest_23 rfl (lv_at hl 1 rfl) ?_
      refine lv_iload_n hx hb dX7_greatest_24 rfl (lv_at hl 2 rfl) ?_
      refine lv_imul hx hb dX7_greatest_25 ?_
      refine lv_bipush (v := 16) hx hb dX7_greatest_26 (by decide) ?_
      refine lv_iload_n hx hb dX7_greatest_28 rfl (lv_at hl 2 rfl) ?_
      refine lv_isub hx hb dX7_greatest_29 ?_
      obtain ⟨hz, hM⟩ := gz_some hM
      refine lv_idiv hx hb dX7_greatest_30 hz ?_
      refine lv_topi (fun x_9 ex_9 => ?_)
      have hM := nm_at ex_9 hM
      have hR := som hM
      rw [hR] at hQ
      exact ret_i hQ hx hb hr hlocks hP hK hD hS dX7_greatest_31
    · have hM := it_nn hc_8 hM
      refine lv_iconst (v := -1) hx hb dX7_greatest_21 (by decide) ?_
      have hR := som hM
      rw [hR] at hQ
      exact ret_i hQ hx hb hr hlocks hP hK hD hS dX7_greatest_22
abbrev rmX7_names : Room := { frames := 1, cells := 0, slots := 0, locals := 22 }
set_option maxHeartbeats 4000000 in
set_option maxRecDepth 100000 in
theorem kX7_names (l : Launch) (dC : Nat → ClassId) (dI : Nat → Nat → Nat) (ct : Nat → ClassId) (aX : Nat → Nat) (xX_text : Nat) (xX_reader : Nat) (xX_sowing : Nat) (xX_market : Nat) (xX_book : Nat) (xX_ways : Nat) (xX_land : Nat) (xX_draft : Nat) (xX_im0 : Nat) (xX_im1 : Nat) (xX_im2 : Nat) (sz : Nat) (mX : Mem) (v1 : Int32) (v2 : Int32) (res : Int32) (hM : mX7_names mX v1 v2 = some res) : Met l yX7_names wsX7_names rmX7_names (va_Pc [.ref (aX 0), .int v1, .int v2] (PB (dC, dI) ct E0 sz (wX ct aX xX_text xX_reader xX_sowing xX_market xX_book xX_ways xX_land xX_draft xX_im0 xX_im1 xX_im2 mX))) (Qi (dC, dI) ct (va_A (wX ct aX xX_text xX_reader xX_sowing xX_market xX_book xX_ways xX_land xX_draft xX_im0 xX_im1 xX_im2 mX) sz) res (wX ct aX xX_text xX_reader xX_sowing xX_market xX_book xX_ways xX_land xX_draft xX_im0 xX_im1 xX_im2 mX)) 0 0 (va_A (wX ct aX xX_text xX_reader xX_sowing xX_market xX_book xX_ways xX_land xX_draft xX_im0 xX_im1 xX_im2 mX) sz) := by
  refine Met.ofW (cc := cX7_names) (maxL := 9) (ret := (some .int)) (by decide) rfl ?_
  intro p e s m args below meth c s₁ B hml hv
  obtain ⟨hargs, hsz, hP, hK, hD0, hE⟩ := hv
  have hx := B.exec
  have hb := B.bytes
  have hr := B.returns
  have hts := atoms_spec (ws := wsX7_names) B.pre
  have hown : s.vm.findClass RX7 = some m.cls := findClass_of_methodNamed B.named
  have hlocks := B.notSynchronized
  clear B s₁
  subst hsz
  have hD := hD0.self (sz := s.heap.size)
  clear hD0
  generalize hAe : va_A (wX ct aX xX_text xX_reader xX_sowing xX_market xX_book xX_ways xX_land xX_draft xX_im0 xX_im1 xX_im2 mX) s.heap.size = A at hD hE ⊢
  have hA : ∀ q : Nat, s.heap.size ≤ q → A q := fun q h => by rw [← hAe]; exact Or.inr h
  clear hAe
  have hS : va_S A s.heap s.heap [] := va_S.rf
  refine cutQ (fun Q hQ => ?_)
  refine entryW (vs := [.ref (aX 0), .int v1, .int v2]) hargs (Nat.le_of_ble_eq_true rfl) (fun ls hl => ?_)
  replace hl : lv_has ls 9 [(0, .ref (aX 0)), (1, .int v1), (2, .int v2)] := hl
  unfold mX7_names at hM
  have N38 : ∀ (v2 : Int32) (v3 : Int32) (v4 : Int64) (v6 : Int64) (v8 : Int32), mX7_names_L38 v2 v3 v4 v6 v8 mX = some res → ∀ (H : Heap) (locs : List Loc), va_P (dC, dI) vwCl (wX ct aX xX_text xX_reader xX_sowing xX_market xX_book xX_ways xX_land xX_draft xX_im0 xX_im1 xX_im2 mX) H → va_D A (wX ct aX xX_text xX_reader xX_sowing xX_market xX_book xX_ways xX_land xX_draft xX_im0 xX_im1 xX_im2 mX) → va_S A s.heap H locs → ∀ ls : Array Slot, lv_has ls 9 [(2, .int v2), (3, .int v3), (4, .long v4), (6, .long v6), (8, .int v8)] → W p l e (headSpec wsX7_names rmX7_names).room s m args below meth c H locs 0 0 Q (F0 m 38 ls []) := by
    intro v2 v3 v4 v6 v8 hM H locs hP hD hS ls hl
    unfold mX7_names_L38 at hM
    obtain ⟨ex38, hit38, hM⟩ := bn_some hM
    have X38_0 : ∀ (v8 : Int32), ex38 = (Sum.inl v8) → ∀ (H : Heap) (locs : List Loc), va_P (dC, dI) vwCl (wX ct aX xX_text xX_reader xX_sowing xX_market xX_book xX_ways xX_land xX_draft xX_im0 xX_im1 xX_im2 mX) H → va_D A (wX ct aX xX_text xX_reader xX_sowing xX_market xX_book xX_ways xX_land xX_draft xX_im0 xX_im1 xX_im2 mX) → va_S A s.heap H locs → ∀ ls : Array Slot, lv_has ls 9 [(8, .int v8)] → W p l e (headSpec wsX7_names rmX7_names).room s m args below meth c H locs 0 0 Q (F0 m 81 ls []) := by
      intro v8 hex H locs hP hD hS ls hl
      have hM := el_l hex hM
      refine lv_iload hx hb dX7_names_81 (lv_at hl 0 rfl) ?_
      have hR := som hM
      rw [hR] at hQ
      exact ret_i hQ hx hb hr hlocks hP hK hD hS dX7_names_83
    have X38_1 : ex38 = (Sum.inr ()) → ∀ (H : Heap) (locs : List Loc), va_P (dC, dI) vwCl (wX ct aX xX_text xX_reader xX_sowing xX_market xX_book xX_ways xX_land xX_draft xX_im0 xX_im1 xX_im2 mX) H → va_D A (wX ct aX xX_text xX_reader xX_sowing xX_market xX_book xX_ways xX_land xX_draft xX_im0 xX_im1 xX_im2 mX) → va_S A s.heap H locs → ∀ ls : Array Slot, lv_has ls 9 [] → W p l e (headSpec wsX7_names rmX7_names).room s m args below meth c H locs 0 0 Q (F0 m 90 ls []) := by
      intro hex H locs hP hD hS ls hl
      have hM := el_r hex hM
      refine lv_iconst (v := -1) hx hb dX7_names_90 (by decide) ?_
      have hR := som hM
      rw [hR] at hQ
      exact ret_i hQ hx hb hr hlocks hP hK hD hS dX7_names_91
    have I38 : ∀ (n : Nat) (v4 : Int64) (v6 : Int64) (v8 : Int32), itr (fun q => mX7_names_s38 v2 v3 mX q.1 q.2.1 q.2.2) n (v4, v6, v8) = some ex38 → ∀ (H : Heap) (locs : List Loc), va_P (dC, dI) vwCl (wX ct aX xX_text xX_reader xX_sowing xX_market xX_book xX_ways xX_land xX_draft xX_im0 xX_im1 xX_im2 mX) H → va_D A (wX ct aX xX_text xX_reader xX_sowing xX_market xX_book xX_ways xX_land xX_draft xX_im0 xX_im1 xX_im2 mX) → va_S A s.heap H locs → ∀ ls : Array Slot, lv_has ls 9 [(2, .int v2), (3, .int v3), (4, .long v4), (6, .long v6), (8, .int v8)] → W p l e (headSpec wsX7_names rmX7_names).room s m args below meth c H locs 0 0 Q (F0 m 38 ls []) := by
      intro n
      induction n with
      | zero => intro v4 v6 v8 hit; exact (itr_zero hit).elim
      | succ n ih38 =>
        intro v4 v6 v8 hit H locs hP hD hS ls hl
        obtain ⟨o38, hM, hbk38, hex38⟩ := itr_succ hit
        replace hM : mX7_names_s38 v2 v3 mX v4 v6 v8 = some o38 := hM
        unfold mX7_names_s38 at hM
        refine lv_iload hx hb dX7_names_38 (lv_at hl 4 rfl) ?_
        refine lv_iload_n hx hb dX7_names_40 rfl (lv_at hl 1 rfl) ?_
        refine lv_icmp_gt (tgt := 90) hx hb dX7_names_41 (by decide) (fun hc_1 => ?_) (fun hc_1 => ?_)
        · have hM := it_p hc_1 hM
          have hR := som hM
          exact X38_1 (hex38 _ hR).symm _ _ hP hD hS _ (lv_sub hl [] rfl)
        · have hM := it_n hc_1 hM
          refine lv_lload hx hb dX7_names_44 (lv_at hl 2 rfl) ?_
          refine lv_ldc2 (v := 16) hx hb hown (hts _ (List.mem_of_getElem? (i := 5) rfl)) dX7_names_46 ?_
          refine lv_lmul hx hb dX7_names_49 ?_
          refine lv_topl (fun x_2 ex_2 => ?_)
          have hM := nm_at ex_2 hM
          refine lv_lstore (lv' := [(4, .long x_2), (2, .int v2), (3, .int v3), (6, .long v6), (8, .int v8)]) hx hb dX7_names_50 hl (by decide) rfl (fun ls hl => ?_)
          refine lv_lload hx hb dX7_names_52 (lv_at hl 3 rfl) ?_
          refine lv_bipush (v := 16) hx hb dX7_names_54 (by decide) ?_
          refine lv_iload_n hx hb dX7_names_56 rfl (lv_at hl 1 rfl) ?_
          refine lv_isub hx hb dX7_names_57 ?_
          refine lv_i2l hx hb dX7_names_58 rfl ?_
          refine lv_lmul hx hb dX7_names_59 ?_
          refine lv_topl (fun x_3 ex_3 => ?_)
          have hM := nm_at ex_3 hM
          refine lv_lstore (lv' := [(6, .long x_3), (4, .long x_2), (2, .int v2), (3, .int v3), (8, .int v8)]) hx hb dX7_names_60 hl (by decide) rfl (fun ls hl => ?_)
          refine lv_lload hx hb dX7_names_62 (lv_at hl 1 rfl) ?_
          refine lv_lload hx hb dX7_names_64 (lv_at hl 0 rfl) ?_
          refine lv_lsub hx hb dX7_names_66 ?_
          refine lv_ldc2 (v := 16) hx hb hown (hts _ (List.mem_of_getElem? (i := 5) rfl)) dX7_names_67 ?_
          refine lv_lmul hx hb dX7_names_70 ?_
          refine lv_lload hx hb dX7_names_71 (lv_at hl 1 rfl) ?_
          refine lv_ldc2 (v := 12) hx hb hown (hts _ (List.mem_of_getElem? (i := 6) rfl)) dX7_names_73 ?_
          refine lv_lmul hx hb dX7_names_76 ?_
          refine W.lcmp hx hb dX7_names_77 ?_
          refine lv_if_lt (tgt := 84) hx hb dX7_names_78 (by decide) (fun hc_4 => ?_) (fun hc_4 => ?_)
          · have hM := it_p hc_4 hM
            obtain ⟨x_5, ex_5⟩ : ∃ y : Int32, y = (v8 + (1 : Int32)) := ⟨_, rfl⟩
            have hM := nm_at ex_5 hM
            refine lv_iinc (v := x_5) (lv' := [(8, .int x_5), (6, .long x_3), (4, .long x_2), (2, .int v2), (3, .int v3)]) hx hb dX7_names_84 hl (k := 4) rfl (by rw [ex_5]; rfl) (by decide) rfl (fun ls hl => ?_)
            refine lv_goto (tgt := 38) hx hb dX7_names_87 (by decide) ?_
            have hR := som hM
            exact ih38 x_2 x_3 x_5 (hbk38 _ hR) _ _ hP hD hS _ (lv_sub hl [3, 4, 2, 1, 0] rfl)
          · have hM := it_n hc_4 hM
            have hR := som hM
            exact X38_0 v8 (hex38 _ hR).symm _ _ hP hD hS _ (lv_sub hl [4] rfl)
    exact I38 FU v4 v6 v8 hit38 _ _ hP hD hS _ hl
  refine lv_iload_n hx hb dX7_names_0 rfl (lv_at hl 1 rfl) ?_
  refine lv_iconst (v := 1) hx hb dX7_names_1 (by decide) ?_
  refine lv_bipush (v := 60) hx hb dX7_names_2 (by decide) ?_
  obtain ⟨x_6, hr_7, hM⟩ := bn_some hM
  refine gv_i (r0 := x_6) (wn := (wX ct aX xX_text xX_reader xX_sowing xX_market xX_book xX_ways xX_land xX_draft xX_im0 xX_im1 xX_im2 mX)) (va_runS (As := [.int v1, .int (1 : Int32), .int (60 : Int32)]) (rest := []) ⟨hx, hb, hml, hown, hts⟩ (kX7_isIn l dC dI ct _ v1 (1 : Int32) (60 : Int32) _ hr_7) (va_cwS 3 hts gX7_names_X7_isIn rfl rfl rfl hvX7_isIn.2 ⟨Nat.le_of_ble_eq_true rfl, Nat.le_of_ble_eq_true rfl⟩) (preS_of E0_ok hK hP hD (is := []) rfl rfl e_0) rfl rfl hl.1 rfl (lv_room (Nat.le_of_ble_eq_true rfl)) dX7_names_4 ⟨Nat.le_of_ble_eq_true rfl, Nat.le_of_ble_eq_true rfl⟩) hP hD hS hA [] [0, 1, 2] [0, 1, 2] rfl rfl rfl (by decide) rfl rfl (fun H locs hP hD hS => ?_)
  refine lv_if_eq (tgt := 20) hx hb dX7_names_7 (by decide) (fun hc_9 => ?_) (fun hc_9 => ?_)
  · have hM := it_p hc_9 hM
    refine lv_iconst (v := -1) hx hb dX7_names_20 (by decide) ?_
    have hR := som hM
    rw [hR] at hQ
    exact ret_i hQ hx hb hr hlocks hP hK hD hS dX7_names_21
  · have hM := it_n hc_9 hM
    refine lv_iload_n hx hb dX7_names_10 rfl (lv_at hl 2 rfl) ?_
    refine lv_iconst (v := 0) hx hb dX7_names_11 (by decide) ?_
    refine lv_bipush (v := 16) hx hb dX7_names_12 (by decide) ?_
    obtain ⟨x_10, hr_11, hM⟩ := bn_some hM
    refine gv_i (r0 := x_10) (wn := (wX ct aX xX_text xX_reader xX_sowing xX_market xX_book xX_ways xX_land xX_draft xX_im0 xX_im1 xX_im2 mX)) (va_runS (As := [.int v2, .int (0 : Int32), .int (16 : Int32)]) (rest := []) ⟨hx, hb, hml, hown, hts⟩ (kX7_isIn l dC dI ct _ v2 (0 : Int32) (16 : Int32) _ hr_11) (va_cwS 3 hts gX7_names_X7_isIn rfl rfl rfl hvX7_isIn.2 ⟨Nat.le_of_ble_eq_true rfl, Nat.le_of_ble_eq_true rfl⟩) (preS_of E0_ok hK hP hD (is := []) rfl rfl e_0) rfl rfl hl.1 rfl (lv_room (Nat.le_of_ble_eq_true rfl)) dX7_names_14 ⟨Nat.le_of_ble_eq_true rfl, Nat.le_of_ble_eq_true rfl⟩) hP hD hS hA [] [0, 1, 2] [0, 1, 2] rfl rfl rfl (by decide) rfl rfl (fun H locs hP hD hS => ?_)
    refine lv_if_ne (tgt := 22) hx hb dX7_names_17 (by decide) (fun hc_13 => ?_) (fun hc_13 => ?_)
    · have hM := it_p hc_13 hM
      refine lv_iload_n hx hb dX7_names_22 rfl (lv_at hl 1 rfl) ?_
      refine lv_bipush (v := 12) hx hb dX7_names_23 (by decide) ?_
      refine va_mmin hx hb (hml.trans hl.1.symm) hown (hts _ (List.mem_of_getElem? (i := 1) rfl)) (hts _ (List.mem_of_getElem? (i := 2) rfl)) (hts _ (List.mem_of_getElem? (i := 3) rfl)) (hts _ (List.mem_of_getElem? (i := 4) rfl)) (Nat.le_of_ble_eq_true rfl) (Nat.le_of_ble_eq_true rfl) (Nat.le_of_ble_eq_true rfl) (Nat.le_of_ble_eq_true rfl) dX7_names_25 ?_
      refine lv_topi (fun x_14 ex_14 => ?_)
      have hM := nm_at ex_14 hM
      refine lv_istore_n (lv' := [(3, .int x_14), (0, .ref (aX 0)), (1, .int v1), (2, .int v2)]) hx hb dX7_names_28 rfl hl (by decide) rfl (fun ls hl => ?_)
      refine lv_lconst (v := 1) hx hb dX7_names_29 (by decide) ?_
      refine lv_lstore (lv' := [(4, .long (1 : Int64)), (3, .int x_14), (0, .ref (aX 0)), (1, .int v1), (2, .int v2)]) hx hb dX7_names_30 hl (by decide) rfl (fun ls hl => ?_)
      refine lv_lconst (v := 1) hx hb dX7_names_32 (by decide) ?_
      refine lv_lstore (lv' := [(6, .long (1 : Int64)), (4, .long (1 : Int64)), (3, .int x_14), (0, .ref (aX 0)), (1, .int v1), (2, .int v2)]) hx hb dX7_names_33 hl (by decide) rfl (fun ls hl => ?_)
      refine lv_iconst (v := 1) hx hb dX7_names_35 (by decide) ?_
      refine lv_istore (lv' := [(8, .int (1 : Int32)), (6, .long (1 : Int64)), (4, .long (1 : Int64)), (3, .int x_14), (0, .ref (aX 0)), (1, .int v1), (2, .int v2)]) hx hb dX7_names_36 hl (by decide) rfl (fun ls hl => ?_)
      exact N38 v2 x_14 (1 : Int64) (1 : Int64) (1 : Int32) hM _ _ hP hD hS _ (lv_sub hl [6, 3, 2, 1, 0] rfl)
    · have hM := it_nn hc_13 hM
      refine lv_iconst (v := -1) hx hb dX7_names_20 (by decide) ?_
      have hR := som hM
      rw [hR] at hQ
      exact ret_i hQ hx hb hr hlocks hP hK hD hS dX7_names_21
abbrev rmX7_part : Room := { frames := 1, cells := 0, slots := 0, locals := 22 }
set_option maxHeartbeats 4000000 in
set_option maxRecDepth 100000 in
theorem kX7_part (l : Launch) (dC : Nat → ClassId) (dI : Nat → Nat → Nat) (ct : Nat → ClassId) (aX : Nat → Nat) (xX_text : Nat) (xX_reader : Nat) (xX_sowing : Nat) (xX_market : Nat) (xX_book : Nat) (xX_ways : Nat) (xX_land : Nat) (xX_draft : Nat) (xX_im0 : Nat) (xX_im1 : Nat) (xX_im2 : Nat) (sz : Nat) (mX : Mem) (v1 : Int32) (v2 : Int32) (v3 : Int32) (res : Int32) (hM : mX7_part mX v1 v2 v3 = some res) : Met l yX7_part wsX7_part rmX7_part (va_Pc [.ref (aX 0), .int v1, .int v2, .int v3] (PB (dC, dI) ct E0 sz (wX ct aX xX_text xX_reader xX_sowing xX_market xX_book xX_ways xX_land xX_draft xX_im0 xX_im1 xX_im2 mX))) (Qi (dC, dI) ct (va_A (wX ct aX xX_text xX_reader xX_sowing xX_market xX_book xX_ways xX_land xX_draft xX_im0 xX_im1 xX_im2 mX) sz) res (wX ct aX xX_text xX_reader xX_sowing xX_market xX_book xX_ways xX_land xX_draft xX_im0 xX_im1 xX_im2 mX)) 0 0 (va_A (wX ct aX xX_text xX_reader xX_sowing xX_market xX_book xX_ways xX_land xX_draft xX_im0 xX_im1 xX_im2 mX) sz) := by
  refine Met.ofW (cc := cX7_part) (maxL := 4) (ret := (some .int)) (by decide) rfl ?_
  intro p e s m args below meth c s₁ B hml hv
  obtain ⟨hargs, hsz, hP, hK, hD0, hE⟩ := hv
  have hx := B.exec
  have hb := B.bytes
  have hr := B.returns
  have hts := atoms_spec (ws := wsX7_part) B.pre
  have hown : s.vm.findClass RX7 = some m.cls := findClass_of_methodNamed B.named
  have hlocks := B.notSynchronized
  clear B s₁
  subst hsz
  have hD := hD0.self (sz := s.heap.size)
  clear hD0
  generalize hAe : va_A (wX ct aX xX_text xX_reader xX_sowing xX_market xX_book xX_ways xX_land xX_draft xX_im0 xX_im1 xX_im2 mX) s.heap.size = A at hD hE ⊢
  have hA : ∀ q : Nat, s.heap.size ≤ q → A q := fun q h => by rw [← hAe]; exact Or.inr h
  clear hAe
  have hS : va_S A s.heap s.heap [] := va_S.rf
  refine cutQ (fun Q hQ => ?_)
  refine entryW (vs := [.ref (aX 0), .int v1, .int v2, .int v3]) hargs (Nat.le_of_ble_eq_true rfl) (fun ls hl => ?_)
  replace hl : lv_has ls 4 [(0, .ref (aX 0)), (1, .int v1), (2, .int v2), (3, .int v3)] := hl
  unfold mX7_part at hM
  refine lv_iload_n hx hb dX7_part_0 rfl (lv_at hl 1 rfl) ?_
  refine lv_iconst (v := 0) hx hb dX7_part_1 (by decide) ?_
  refine lv_ldcw (v := 99999) hx hb hown (hts _ (List.mem_of_getElem? (i := 1) rfl)) dX7_part_2 ?_
  obtain ⟨x_1, hr_2, hM⟩ := bn_some hM
  refine gv_i (r0 := x_1) (wn := (wX ct aX xX_text xX_reader xX_sowing xX_market xX_book xX_ways xX_land xX_draft xX_im0 xX_im1 xX_im2 mX)) (va_runS (As := [.int v1, .int (0 : Int32), .int (99999 : Int32)]) (rest := []) ⟨hx, hb, hml, hown, hts⟩ (kX7_isIn l dC dI ct _ v1 (0 : Int32) (99999 : Int32) _ hr_2) (va_cwS 3 hts gX7_part_X7_isIn rfl rfl rfl hvX7_isIn.2 ⟨Nat.le_of_ble_eq_true rfl, Nat.le_of_ble_eq_true rfl⟩) (preS_of E0_ok hK hP hD (is := []) rfl rfl e_0) rfl rfl hl.1 rfl (lv_room (Nat.le_of_ble_eq_true rfl)) dX7_part_5 ⟨Nat.le_of_ble_eq_true rfl, Nat.le_of_ble_eq_true rfl⟩) hP hD hS hA [] [0, 1, 2] [0, 1, 2] rfl rfl rfl (by decide) rfl rfl (fun H locs hP hD hS => ?_)
  refine lv_if_eq (tgt := 32) hx hb dX7_part_8 (by decide) (fun hc_4 => ?_) (fun hc_4 => ?_)
  · have hM := it_p hc_4 hM
    refine lv_iconst (v := -1) hx hb dX7_part_32 (by decide) ?_
    have hR := som hM
    rw [hR] at hQ
    exact ret_i hQ hx hb hr hlocks hP hK hD hS dX7_part_33
  · have hM := it_n hc_4 hM
    refine lv_iload_n hx hb dX7_part_11 rfl (lv_at hl 2 rfl) ?_
    refine lv_iconst (v := 1) hx hb dX7_part_12 (by decide) ?_
    refine lv_bipush (v := 20) hx hb dX7_part_13 (by decide) ?_
    obtain ⟨x_5, hr_6, hM⟩ := bn_some hM
    refine gv_i (r0 := x_5) (wn := (wX ct aX xX_text xX_reader xX_sowing xX_market xX_book xX_ways xX_land xX_draft xX_im0 xX_im1 xX_im2 mX)) (va_runS (As := [.int v2, .int (1 : Int32), .int (20 : Int32)]) (rest := []) ⟨hx, hb, hml, hown, hts⟩ (kX7_isIn l dC dI ct _ v2 (1 : Int32) (20 : Int32) _ hr_6) (va_cwS 3 hts gX7_part_X7_isIn rfl rfl rfl hvX7_isIn.2 ⟨Nat.le_of_ble_eq_true rfl, Nat.le_of_ble_eq_true rfl⟩) (preS_of E0_ok hK hP hD (is := []) rfl rfl e_0) rfl rfl hl.1 rfl (lv_room (Nat.le_of_ble_eq_true rfl)) dX7_part_15 ⟨Nat.le_of_ble_eq_true rfl, Nat.le_of_ble_eq_true rfl⟩) hP hD hS hA [] [0, 1, 2] [0, 1, 2] rfl rfl rfl (by decide) rfl rfl (fun H locs hP hD hS => ?_)
    refine lv_if_eq (tgt := 32) hx hb dX7_part_18 (by decide) (fun hc_8 => ?_) (fun hc_8 => ?_)
    · have hM := it_p hc_8 hM
      refine lv_iconst (v := -1) hx hb dX7_part_32 (by decide) ?_
      have hR := som hM
      rw [hR] at hQ
      exact ret_i hQ hx hb hr hlocks hP hK hD hS dX7_part_33
    · have hM := it_n hc_8 hM
      refine lv_iload_n hx hb dX7_part_21 rfl (lv_at hl 3 rfl) ?_
      refine lv_iconst (v := 0) hx hb dX7_part_22 (by decide) ?_
      refine lv_iload_n hx hb dX7_part_23 rfl (lv_at hl 2 rfl) ?_
      refine lv_iconst (v := 1) hx hb dX7_part_24 (by decide) ?_
      refine lv_isub hx hb dX7_part_25 ?_
      obtain ⟨x_9, hr_10, hM⟩ := bn_some hM
      refine gv_i (r0 := x_9) (wn := (wX ct aX xX_text xX_reader xX_sowing xX_market xX_book xX_ways xX_land xX_draft xX_im0 xX_im1 xX_im2 mX)) (va_runS (As := [.int v3, .int (0 : Int32), .int (v2 - (1 : Int32))]) (rest := []) ⟨hx, hb, hml, hown, hts⟩ (kX7_isIn l dC dI ct _ v3 (0 : Int32) (v2 - (1 : Int32)) _ hr_10) (va_cwS 3 hts gX7_part_X7_isIn rfl rfl rfl hvX7_isIn.2 ⟨Nat.le_of_ble_eq_true rfl, Nat.le_of_ble_eq_true rfl⟩) (preS_of E0_ok hK hP hD (is := []) rfl rfl e_0) rfl rfl hl.1 rfl (lv_room (Nat.le_of_ble_eq_true rfl)) dX7_part_26 ⟨Nat.le_of_ble_eq_true rfl, Nat.le_of_ble_eq_true rfl⟩) hP hD hS hA [] [0, 1, 2] [0, 1, 2] rfl rfl rfl (by decide) rfl rfl (fun H locs hP hD hS => ?_)
      refine lv_if_ne (tgt := 34) hx hb dX7_part_29 (by decide) (fun hc_12 => ?_) (fun hc_12 => ?_)
      · have hM := it_p hc_12 hM
        refine lv_iload_n hx hb dX7_part_34 rfl (lv_at hl 1 rfl) ?_
        refine lv_iload_n hx hb dX7_part_35 rfl (lv_at hl 2 rfl) ?_
        refine lv_iload_n hx hb dX7_part_36 rfl (lv_at hl 3 rfl) ?_
        obtain ⟨x_13, hr_14, hM⟩ := bn_some hM
        refine gv_i (r0 := x_13) (wn := (wX ct aX xX_text xX_reader xX_sowing xX_market xX_book xX_ways xX_land xX_draft xX_im0 xX_im1 xX_im2 mX)) (va_runS (As := [.int v1, .int v2, .int v3]) (rest := []) ⟨hx, hb, hml, hown, hts⟩ (kX7_asked l dC dI ct _ v1 v2 v3 _ hr_14) (va_cwS 3 hts gX7_part_X7_asked rfl rfl rfl hvX7_asked.2 ⟨Nat.le_of_ble_eq_true rfl, Nat.le_of_ble_eq_true rfl⟩) (preS_of E0_ok hK hP hD (is := []) rfl rfl e_0) rfl rfl hl.1 rfl (lv_room (Nat.le_of_ble_eq_true rfl)) dX7_part_37 ⟨Nat.le_of_ble_eq_true rfl, Nat.le_of_ble_eq_true rfl⟩) hP hD hS hA [] [0, 1, 2] [0, 1, 2] rfl rfl rfl (by decide) rfl rfl (fun H locs hP hD hS => ?_)
        have hR := som hM
        rw [hR] at hQ
        exact ret_i hQ hx hb hr hlocks hP hK hD hS dX7_part_40
      · have hM := it_nn hc_12 hM
        refine lv_iconst (v := -1) hx hb dX7_part_32 (by decide) ?_
        have hR := som hM
        rw [hR] at hQ
        exact ret_i hQ hx hb hr hlocks hP hK hD hS dX7_part_33
abbrev rmX7_shrunk : Room := { frames := 1, cells := 0, slots := 0, locals := 22 }
set_option maxHeartbeats 4000000 in
set_option maxRecDepth 100000 in
theorem kX7_shrunk (l : Launch) (dC : Nat → ClassId) (dI : Nat → Nat → Nat) (ct : Nat → ClassId) (aX : Nat → Nat) (xX_text : Nat) (xX_reader : Nat) (xX_sowing : Nat) (xX_market : Nat) (xX_book : Nat) (xX_ways : Nat) (xX_land : Nat) (xX_draft : Nat) (xX_im0 : Nat) (xX_im1 : Nat) (xX_im2 : Nat) (sz : Nat) (mX : Mem) (v1 : Int32) (v2 : Int32) (v3 : Int32) (v4 : Int32) (res : Int32) (hM : mX7_shrunk mX v1 v2 v3 v4 = some res) : Met l yX7_shrunk wsX7_shrunk rmX7_shrunk (va_Pc [.ref (aX 0), .int v1, .int v2, .int v3, .int v4] (PB (dC, dI) ct E0 sz (wX ct aX xX_text xX_reader xX_sowing xX_market xX_book xX_ways xX_land xX_draft xX_im0 xX_im1 xX_im2 mX))) (Qi (dC, dI) ct (va_A (wX ct aX xX_text xX_reader xX_sowing xX_market xX_book xX_ways xX_land xX_draft xX_im0 xX_im1 xX_im2 mX) sz) res (wX ct aX xX_text xX_reader xX_sowing xX_market xX_book xX_ways xX_land xX_draft xX_im0 xX_im1 xX_im2 mX)) 0 0 (va_A (wX ct aX xX_text xX_reader xX_sowing xX_market xX_book xX_ways xX_land xX_draft xX_im0 xX_im1 xX_im2 mX) sz) := by
  refine Met.ofW (cc := cX7_shrunk) (maxL := 9) (ret := (some .int)) (by decide) rfl ?_
  intro p e s m args below meth c s₁ B hml hv
  obtain ⟨hargs, hsz, hP, hK, hD0, hE⟩ := hv
  have hx := B.exec
  have hb := B.bytes
  have hr := B.returns
  have hts := atoms_spec (ws := wsX7_shrunk) B.pre
  have hown : s.vm.findClass RX7 = some m.cls := findClass_of_methodNamed B.named
  have hlocks := B.notSynchronized
  clear B s₁
  subst hsz
  have hD := hD0.self (sz := s.heap.size)
  clear hD0
  generalize hAe : va_A (wX ct aX xX_text xX_reader xX_sowing xX_market xX_book xX_ways xX_land xX_draft xX_im0 xX_im1 xX_im2 mX) s.heap.size = A at hD hE ⊢
  have hA : ∀ q : Nat, s.heap.size ≤ q → A q := fun q h => by rw [← hAe]; exact Or.inr h
  clear hAe
  have hS : va_S A s.heap s.heap [] := va_S.rf
  refine cutQ (fun Q hQ => ?_)
  refine entryW (vs := [.ref (aX 0), .int v1, .int v2, .int v3, .int v4]) hargs (Nat.le_of_ble_eq_true rfl) (fun ls hl => ?_)
  replace hl : lv_has ls 9 [(0, .ref (aX 0)), (1, .int v1), (2, .int v2), (3, .int v3), (4, .int v4)] := hl
  unfold mX7_shrunk at hM
  have N76 : ∀ (v3 : Int32) (v4 : Int32) (v5 : Int32) (v6 : Int32) (v7 : Int32) (v8 : Int32), mX7_shrunk_L76 v3 v4 v5 v6 v7 v8 mX = some res → ∀ (H : Heap) (locs : List Loc), va_P (dC, dI) vwCl (wX ct aX xX_text xX_reader xX_sowing xX_market xX_book xX_ways xX_land xX_draft xX_im0 xX_im1 xX_im2 mX) H → va_D A (wX ct aX xX_text xX_reader xX_sowing xX_market xX_book xX_ways xX_land xX_draft xX_im0 xX_im1 xX_im2 mX) → va_S A s.heap H locs → ∀ ls : Array Slot, lv_has ls 9 [(3, .int v3), (4, .int v4), (5, .int v5), (6, .int v6), (7, .int v7), (8, .int v8)] → W p l e (headSpec wsX7_shrunk rmX7_shrunk).room s m args below meth c H locs 0 0 Q (F0 m 76 ls []) := by
    intro v3 v4 v5 v6 v7 v8 hM H locs hP hD hS ls hl
    unfold mX7_shrunk_L76 at hM
    obtain ⟨ex76, hit76, hM⟩ := bn_some hM
    have X76_0 : ∀ (v7 : Int32), ex76 = v7 → ∀ (H : Heap) (locs : List Loc), va_P (dC, dI) vwCl (wX ct aX xX_text xX_reader xX_sowing xX_market xX_book xX_ways xX_land xX_draft xX_im0 xX_im1 xX_im2 mX) H → va_D A (wX ct aX xX_text xX_reader xX_sowing xX_market xX_book xX_ways xX_land xX_draft xX_im0 xX_im1 xX_im2 mX) → va_S A s.heap H locs → ∀ ls : Array Slot, lv_has ls 9 [(7, .int v7)] → W p l e (headSpec wsX7_shrunk rmX7_shrunk).room s m args below meth c H locs 0 0 Q (F0 m 124 ls []) := by
      intro v7 hex H locs hP hD hS ls hl
      rw [hex] at hM
      have hM := nm_at (y := v7) rfl hM
      refine lv_iload hx hb dX7_shrunk_124 (lv_at hl 0 rfl) ?_
      have hR := som hM
      rw [hR] at hQ
      exact ret_i hQ hx hb hr hlocks hP hK hD hS dX7_shrunk_126
    have I76 : ∀ (n : Nat) (v6 : Int32) (v7 : Int32) (v8 : Int32), itr (fun q => mX7_shrunk_s76 v3 v4 v5 mX q.1 q.2.1 q.2.2) n (v6, v7, v8) = some ex76 → ∀ (H : Heap) (locs : List Loc), va_P (dC, dI) vwCl (wX ct aX xX_text xX_reader xX_sowing xX_market xX_book xX_ways xX_land xX_draft xX_im0 xX_im1 xX_im2 mX) H → va_D A (wX ct aX xX_text xX_reader xX_sowing xX_market xX_book xX_ways xX_land xX_draft xX_im0 xX_im1 xX_im2 mX) → va_S A s.heap H locs → ∀ ls : Array Slot, lv_has ls 9 [(3, .int v3), (4, .int v4), (5, .int v5), (6, .int v6), (7, .int v7), (8, .int v8)] → W p l e (headSpec wsX7_shrunk rmX7_shrunk).room s m args below meth c H locs 0 0 Q (F0 m 76 ls []) := by
      intro n
      induction n with
      | zero => intro v6 v7 v8 hit; exact (itr_zero hit).elim
      | succ n ih76 =>
        intro v6 v7 v8 hit H locs hP hD hS ls hl
        obtain ⟨o76, hM, hbk76, hex76⟩ := itr_succ hit
        replace hM : mX7_shrunk_s76 v3 v4 v5 mX v6 v7 v8 = some o76 := hM
        unfold mX7_shrunk_s76 at hM
        refine lv_iload hx hb dX7_shrunk_76 (lv_at hl 5 rfl) ?_
        refine lv_iload hx hb dX7_shrunk_78 (lv_at hl 1 rfl) ?_
        refine lv_icmp_ge (tgt := 124) hx hb dX7_shrunk_80 (by decide) (fun hc_1 => ?_) (fun hc_1 => ?_)
        · have hM := it_p hc_1 hM
          have hR := som hM
          exact X76_0 v7 (hex76 _ hR).symm _ _ hP hD hS _ (lv_sub hl [4] rfl)
        · have hM := it_n hc_1 hM
          refine lv_iload hx hb dX7_shrunk_83 (lv_at hl 4 rfl) ?_
          refine lv_iload hx hb dX7_shrunk_85 (lv_at hl 4 rfl) ?_
          refine lv_iload hx hb dX7_shrunk_87 (lv_at hl 2 rfl) ?_
          refine lv_iload hx hb dX7_shrunk_89 (lv_at hl 3 rfl) ?_
          obtain ⟨x_2, hr_3, hM⟩ := bn_some hM
          refine gv_i (r0 := x_2) (wn := (wX ct aX xX_text xX_reader xX_sowing xX_market xX_book xX_ways xX_land xX_draft xX_im0 xX_im1 xX_im2 mX)) (va_runS (As := [.int v7, .int v5, .int v6]) (rest := [.int v7]) ⟨hx, hb, hml, hown, hts⟩ (kX7_asked l dC dI ct _ v7 v5 v6 _ hr_3) (va_cwS 3 hts gX7_shrunk_X7_asked rfl rfl rfl hvX7_asked.2 ⟨Nat.le_of_ble_eq_true rfl, Nat.le_of_ble_eq_true rfl⟩) (preS_of E0_ok hK hP hD (is := []) rfl rfl e_0) rfl rfl hl.1 rfl (lv_room (Nat.le_of_ble_eq_true rfl)) dX7_shrunk_91 ⟨Nat.le_of_ble_eq_true rfl, Nat.le_of_ble_eq_true rfl⟩) hP hD hS hA [] [0, 1, 2] [0, 1, 2] rfl rfl rfl (by decide) rfl rfl (fun H locs hP hD hS => ?_)
          refine lv_iload_n hx hb dX7_shrunk_94 rfl (lv_at hl 0 rfl) ?_
          refine lv_imul hx hb dX7_shrunk_95 ?_
          refine lv_bipush (v := 16) hx hb dX7_shrunk_96 (by decide) ?_
          refine lv_idiv hx hb dX7_shrunk_98 (by decide) ?_
          refine lv_isub hx hb dX7_shrunk_99 ?_
          refine lv_topi (fun x_5 ex_5 => ?_)
          have hM := nm_at ex_5 hM
          refine lv_istore (lv' := [(7, .int x_5), (3, .int v3), (4, .int v4), (5, .int v5), (6, .int v6), (8, .int v8)]) hx hb dX7_shrunk_100 hl (by decide) rfl (fun ls hl => ?_)
          obtain ⟨x_6, ex_6⟩ : ∃ y : Int32, y = (v6 + (1 : Int32)) := ⟨_, rfl⟩
          have hM := nm_at ex_6 hM
          refine lv_iinc (v := x_6) (lv' := [(6, .int x_6), (7, .int x_5), (3, .int v3), (4, .int v4), (5, .int v5), (8, .int v8)]) hx hb dX7_shrunk_102 hl (k := 4) rfl (by rw [ex_6]; rfl) (by decide) rfl (fun ls hl => ?_)
          refine lv_iload hx hb dX7_shrunk_105 (lv_at hl 0 rfl) ?_
          refine lv_iload hx hb dX7_shrunk_107 (lv_at hl 4 rfl) ?_
          refine lv_icmp_ne (tgt := 118) hx hb dX7_shrunk_109 (by decide) (fun hc_7 => ?_) (fun hc_7 => ?_)
          · have hM := it_p hc_7 hM
            obtain ⟨x_8, ex_8⟩ : ∃ y : Int32, y = (v8 + (1 : Int32)) := ⟨_, rfl⟩
            have hM := nm_at ex_8 hM
            refine lv_iinc (v := x_8) (lv' := [(8, .int x_8), (6, .int x_6), (7, .int x_5), (3, .int v3), (4, .int v4), (5, .int v5)]) hx hb dX7_shrunk_118 hl (k := 5) rfl (by rw [ex_8]; rfl) (by decide) rfl (fun ls hl => ?_)
            refine lv_goto (tgt := 76) hx hb dX7_shrunk_121 (by decide) ?_
            have hR := som hM
            exact ih76 x_6 x_5 x_8 (hbk76 _ hR) _ _ hP hD hS _ (lv_sub hl [3, 4, 5, 1, 2, 0] rfl)
          · have hM := it_nn hc_7 hM
            refine lv_iconst (v := 0) hx hb dX7_shrunk_112 (by decide) ?_
            refine lv_istore (lv' := [(7, .int (0 : Int32)), (6, .int x_6), (3, .int v3), (4, .int v4), (5, .int v5), (8, .int v8)]) hx hb dX7_shrunk_113 hl (by decide) rfl (fun ls hl => ?_)
            refine lv_iconst (v := 0) hx hb dX7_shrunk_115 (by decide) ?_
            refine lv_istore (lv' := [(6, .int (0 : Int32)), (7, .int (0 : Int32)), (3, .int v3), (4, .int v4), (5, .int v5), (8, .int v8)]) hx hb dX7_shrunk_116 hl (by decide) rfl (fun ls hl => ?_)
            obtain ⟨x_9, ex_9⟩ : ∃ y : Int32, y = (v8 + (1 : Int32)) := ⟨_, rfl⟩
            have hM := nm_at ex_9 hM
            refine lv_iinc (v := x_9) (lv' := [(8, .int x_9), (6, .int (0 : Int32)), (7, .int (0 : Int32)), (3, .int v3), (4, .int v4), (5, .int v5)]) hx hb dX7_shrunk_118 hl (k := 5) rfl (by rw [ex_9]; rfl) (by decide) rfl (fun ls hl => ?_)
            refine lv_goto (tgt := 76) hx hb dX7_shrunk_121 (by decide) ?_
            have hR := som hM
            exact ih76 (0 : Int32) (0 : Int32) x_9 (hbk76 _ hR) _ _ hP hD hS _ (lv_sub hl [3, 4, 5, 1, 2, 0] rfl)
    exact I76 FU v6 v7 v8 hit76 _ _ hP hD hS _ hl
  refine lv_iload_n hx hb dX7_shrunk_0 rfl (lv_at hl 1 rfl) ?_
  refine lv_iconst (v := 0) hx hb dX7_shrunk_1 (by decide) ?_
  refine lv_ldcw (v := 99999) hx hb hown (hts _ (List.mem_of_getElem? (i := 1) rfl)) dX7_shrunk_2 ?_
  obtain ⟨x_10, hr_11, hM⟩ := bn_some hM
  refine gv_i (r0 := x_10) (wn := (wX ct aX xX_text xX_reader xX_sowing xX_market xX_book xX_ways xX_land xX_draft xX_im0 xX_im1 xX_im2 mX)) (va_runS (As := [.int v1, .int (0 : Int32), .int (99999 : Int32)]) (rest := []) ⟨hx, hb, hml, hown, hts⟩ (kX7_isIn l dC dI ct _ v1 (0 : Int32) (99999 : Int32) _ hr_11) (va_cwS 3 hts gX7_shrunk_X7_isIn rfl rfl rfl hvX7_isIn.2 ⟨Nat.le_of_ble_eq_true rfl, Nat.le_of_ble_eq_true rfl⟩) (preS_of E0_ok hK hP hD (is := []) rfl rfl e_0) rfl rfl hl.1 rfl (lv_room (Nat.le_of_ble_eq_true rfl)) dX7_shrunk_5 ⟨Nat.le_of_ble_eq_true rfl, Nat.le_of_ble_eq_true rfl⟩) hP hD hS hA [] [0, 1, 2] [0, 1, 2] rfl rfl rfl (by decide) rfl rfl (fun H locs hP hD hS => ?_)
  refine lv_if_eq (tgt := 36) hx hb dX7_shrunk_8 (by decide) (fun hc_13 => ?_) (fun hc_13 => ?_)
  · have hM := it_p hc_13 hM
    refine lv_iconst (v := -1) hx hb dX7_shrunk_36 (by decide) ?_
    have hR := som hM
    rw [hR] at hQ
    exact ret_i hQ hx hb hr hlocks hP hK hD hS dX7_shrunk_37
  · have hM := it_n hc_13 hM
    refine lv_iload_n hx hb dX7_shrunk_11 rfl (lv_at hl 2 rfl) ?_
    refine lv_if_lt (tgt := 36) hx hb dX7_shrunk_12 (by decide) (fun hc_14 => ?_) (fun hc_14 => ?_)
    · have hM := it_p hc_14 hM
      refine lv_iconst (v := -1) hx hb dX7_shrunk_36 (by decide) ?_
      have hR := som hM
      rw [hR] at hQ
      exact ret_i hQ hx hb hr hlocks hP hK hD hS dX7_shrunk_37
    · have hM := it_n hc_14 hM
      refine lv_iload_n hx hb dX7_shrunk_15 rfl (lv_at hl 3 rfl) ?_
      refine lv_iconst (v := 0) hx hb dX7_shrunk_16 (by decide) ?_
      refine lv_bipush (v := 16) hx hb dX7_shrunk_17 (by decide) ?_
      obtain ⟨x_15, hr_16, hM⟩ := bn_some hM
      refine gv_i (r0 := x_15) (wn := (wX ct aX xX_text xX_reader xX_sowing xX_market xX_book xX_ways xX_land xX_draft xX_im0 xX_im1 xX_im2 mX)) (va_runS (As := [.int v3, .int (0 : Int32), .int (16 : Int32)]) (rest := []) ⟨hx, hb, hml, hown, hts⟩ (kX7_isIn l dC dI ct _ v3 (0 : Int32) (16 : Int32) _ hr_16) (va_cwS 3 hts gX7_shrunk_X7_isIn rfl rfl rfl hvX7_isIn.2 ⟨Nat.le_of_ble_eq_true rfl, Nat.le_of_ble_eq_true rfl⟩) (preS_of E0_ok hK hP hD (is := []) rfl rfl e_0) rfl rfl hl.1 rfl (lv_room (Nat.le_of_ble_eq_true rfl)) dX7_shrunk_19 ⟨Nat.le_of_ble_eq_true rfl, Nat.le_of_ble_eq_true rfl⟩) hP hD hS hA [] [0, 1, 2] [0, 1, 2] rfl rfl rfl (by decide) rfl rfl (fun H locs hP hD hS => ?_)
      refine lv_if_eq (tgt := 36) hx hb dX7_shrunk_22 (by decide) (fun hc_18 => ?_) (fun hc_18 => ?_)
      · have hM := it_p hc_18 hM
        refine lv_iconst (v := -1) hx hb dX7_shrunk_36 (by decide) ?_
        have hR := som hM
        rw [hR] at hQ
        exact ret_i hQ hx hb hr hlocks hP hK hD hS dX7_shrunk_37
      · have hM := it_n hc_18 hM
        refine lv_iload hx hb dX7_shrunk_25 (lv_at hl 4 rfl) ?_
        refine lv_iconst (v := 1) hx hb dX7_shrunk_27 (by decide) ?_
        refine lv_bipush (v := 40) hx hb dX7_shrunk_28 (by decide) ?_
        obtain ⟨x_19, hr_20, hM⟩ := bn_some hM
        refine gv_i (r0 := x_19) (wn := (wX ct aX xX_text xX_reader xX_sowing xX_market xX_book xX_ways xX_land xX_draft xX_im0 xX_im1 xX_im2 mX)) (va_runS (As := [.int v4, .int (1 : Int32), .int (40 : Int32)]) (rest := []) ⟨hx, hb, hml, hown, hts⟩ (kX7_isIn l dC dI ct _ v4 (1 : Int32) (40 : Int32) _ hr_20) (va_cwS 3 hts gX7_shrunk_X7_isIn rfl rfl rfl hvX7_isIn.2 ⟨Nat.le_of_ble_eq_true rfl, Nat.le_of_ble_eq_true rfl⟩) (preS_of E0_ok hK hP hD (is := []) rfl rfl e_0) rfl rfl hl.1 rfl (lv_room (Nat.le_of_ble_eq_true rfl)) dX7_shrunk_30 ⟨Nat.le_of_ble_eq_true rfl, Nat.le_of_ble_eq_true rfl⟩) hP hD hS hA [] [0, 1, 2] [0, 1, 2] rfl rfl rfl (by decide) rfl rfl (fun H locs hP hD hS => ?_)
        refine lv_if_ne (tgt := 38) hx hb dX7_shrunk_33 (by decide) (fun hc_22 => ?_) (fun hc_22 => ?_)
        · have hM := it_p hc_22 hM
          refine lv_iload_n hx hb dX7_shrunk_38 rfl (lv_at hl 2 rfl) ?_
          refine lv_bipush (v := 100) hx hb dX7_shrunk_39 (by decide) ?_
          refine lv_idiv hx hb dX7_shrunk_41 (by decide) ?_
          refine lv_topi (fun x_23 ex_23 => ?_)
          have hM := nm_at ex_23 hM
          refine lv_istore (lv' := [(5, .int x_23), (0, .ref (aX 0)), (1, .int v1), (2, .int v2), (3, .int v3), (4, .int v4)]) hx hb dX7_shrunk_42 hl (by decide) rfl (fun ls hl => ?_)
          refine lv_iload_n hx hb dX7_shrunk_44 rfl (lv_at hl 3 rfl) ?_
          refine lv_bipush (v := 100) hx hb dX7_shrunk_45 (by decide) ?_
          refine lv_irem hx hb dX7_shrunk_47 (by decide) ?_
          refine lv_topi (fun x_24 ex_24 => ?_)
          have hM := nm_at ex_24 hM
          refine lv_istore (lv' := [(6, .int x_24), (5, .int x_23), (0, .ref (aX 0)), (1, .int v1), (2, .int v2), (3, .int v3), (4, .int v4)]) hx hb dX7_shrunk_48 hl (by decide) rfl (fun ls hl => ?_)
          refine lv_iload hx hb dX7_shrunk_50 (lv_at hl 1 rfl) ?_
          refine lv_iconst (v := 1) hx hb dX7_shrunk_52 (by decide) ?_
          refine lv_bipush (v := 20) hx hb dX7_shrunk_53 (by decide) ?_
          obtain ⟨x_25, hr_26, hM⟩ := bn_some hM
          refine gv_i (r0 := x_25) (wn := (wX ct aX xX_text xX_reader xX_sowing xX_market xX_book xX_ways xX_land xX_draft xX_im0 xX_im1 xX_im2 mX)) (va_runS (As := [.int x_23, .int (1 : Int32), .int (20 : Int32)]) (rest := []) ⟨hx, hb, hml, hown, hts⟩ (kX7_isIn l dC dI ct _ x_23 (1 : Int32) (20 : Int32) _ hr_26) (va_cwS 3 hts gX7_shrunk_X7_isIn rfl rfl rfl hvX7_isIn.2 ⟨Nat.le_of_ble_eq_true rfl, Nat.le_of_ble_eq_true rfl⟩) (preS_of E0_ok hK hP hD (is := []) rfl rfl e_0) rfl rfl hl.1 rfl (lv_room (Nat.le_of_ble_eq_true rfl)) dX7_shrunk_55 ⟨Nat.le_of_ble_eq_true rfl, Nat.le_of_ble_eq_true rfl⟩) hP hD hS hA [] [0, 1, 2] [0, 1, 2] rfl rfl rfl (by decide) rfl rfl (fun H locs hP hD hS => ?_)
          refine lv_if_eq (tgt := 68) hx hb dX7_shrunk_58 (by decide) (fun hc_28 => ?_) (fun hc_28 => ?_)
          · have hM := it_p hc_28 hM
            refine lv_iconst (v := -1) hx hb dX7_shrunk_68 (by decide) ?_
            have hR := som hM
            rw [hR] at hQ
            exact ret_i hQ hx hb hr hlocks hP hK hD hS dX7_shrunk_69
          · have hM := it_n hc_28 hM
            refine lv_iload hx hb dX7_shrunk_61 (lv_at hl 0 rfl) ?_
            refine lv_iload hx hb dX7_shrunk_63 (lv_at hl 1 rfl) ?_
            refine lv_icmp_lt (tgt := 70) hx hb dX7_shrunk_65 (by decide) (fun hc_29 => ?_) (fun hc_29 => ?_)
            · have hM := it_p hc_29 hM
              refine lv_iload_n hx hb dX7_shrunk_70 rfl (lv_at hl 3 rfl) ?_
              refine lv_istore (lv' := [(7, .int v1), (6, .int x_24), (5, .int x_23), (0, .ref (aX 0)), (1, .int v1), (2, .int v2), (3, .int v3), (4, .int v4)]) hx hb dX7_shrunk_71 hl (by decide) rfl (fun ls hl => ?_)
              refine lv_iconst (v := 0) hx hb dX7_shrunk_73 (by decide) ?_
              refine lv_istore (lv' := [(8, .int (0 : Int32)), (7, .int v1), (6, .int x_24), (5, .int x_23), (0, .ref (aX 0)), (1, .int v1), (2, .int v2), (3, .int v3), (4, .int v4)]) hx hb dX7_shrunk_74 hl (by decide) rfl (fun ls hl => ?_)
              exact N76 v3 v4 x_23 x_24 v1 (0 : Int32) hM _ _ hP hD hS _ (lv_sub hl [7, 8, 3, 2, 1, 0] rfl)
            · have hM := it_n hc_29 hM
              refine lv_iconst (v := -1) hx hb dX7_shrunk_68 (by decide) ?_
              have hR := som hM
              rw [hR] at hQ
              exact ret_i hQ hx hb hr hlocks hP hK hD hS dX7_shrunk_69
        · have hM := it_nn hc_22 hM
          refine lv_iconst (v := -1) hx hb dX7_shrunk_36 (by decide) ?_
          have hR := som hM
          rw [hR] at hQ
          exact ret_i hQ hx hb hr hlocks hP hK hD hS dX7_shrunk_37
abbrev rmX7_round : Room := { frames := 2, cells := 0, slots := 0, locals := 51 }
theorem iwX7_round_X1 : ∀ w ∈ wsX10, w ∈ wsX7_round := fun _ h => List.mem_cons_of_mem _ (List.mem_append_left _ (List.mem_append_right _ (h)))
theorem iwX7_round_X6 : ∀ w ∈ wsX60, w ∈ wsX7_round := fun _ h => List.mem_cons_of_mem _ (List.mem_append_right _ (h))
theorem iwX7_round_X7 : ∀ w ∈ wsX70, w ∈ wsX7_round := fun _ h => List.mem_cons_of_mem _ (List.mem_append_left _ (List.mem_append_left _ (List.mem_append_right _ (h))))
set_option maxHeartbeats 4000000 in
set_option maxRecDepth 100000 in
theorem kX7_round (l : Launch) (dC : Nat → ClassId) (dI : Nat → Nat → Nat) (ct : Nat → ClassId) (aX : Nat → Nat) (aY : Nat → Nat) (aL : Nat → Nat) (xX_text : Nat) (xX_reader : Nat) (xX_sowing : Nat) (xX_market : Nat) (xX_book : Nat) (xX_draft : Nat) (xX_im0 : Nat) (xX_im1 : Nat) (xX_im2 : Nat) (sz : Nat) (mX : Mem) (mY : Mem) (mL : Mem) (v1 : Int32) (v2 : Int32) (res : (Int32 × Mem)) (hM : mX7_round mX mY mL v1 v2 = some res) : Met l yX7_round wsX7_round rmX7_round (va_Pc [.ref (aX 0), .int v1, .int v2] (PB (dC, dI) ct E0 sz (wX ct aX xX_text xX_reader xX_sowing xX_market xX_book (aY 0) (aL 0) xX_draft xX_im0 xX_im1 xX_im2 mX ++ wY ct aY mY ++ wL ct aL mL))) (Qi (dC, dI) ct (va_A (wX ct aX xX_text xX_reader xX_sowing xX_market xX_book (aY 0) (aL 0) xX_draft xX_im0 xX_im1 xX_im2 mX ++ wY ct aY mY ++ wL ct aL mL) sz) res.1 (wX ct aX xX_text xX_reader xX_sowing xX_market xX_book (aY 0) (aL 0) xX_draft xX_im0 xX_im1 xX_im2 mX ++ wY ct aY res.2 ++ wL ct aL mL)) 0 0 (va_A (wX ct aX xX_text xX_reader xX_sowing xX_market xX_book (aY 0) (aL 0) xX_draft xX_im0 xX_im1 xX_im2 mX ++ wY ct aY mY ++ wL ct aL mL) sz) := by
  refine Met.ofW (cc := cX7_round) (maxL := 3) (ret := (some .int)) (by decide) rfl ?_
  intro p e s m args below meth c s₁ B hml hv
  obtain ⟨hargs, hsz, hP, hK, hD0, hE⟩ := hv
  have hx := B.exec
  have hb := B.bytes
  have hr := B.returns
  have hts := atoms_spec (ws := wsX7_round) B.pre
  have hown : s.vm.findClass RX7 = some m.cls := findClass_of_methodNamed B.named
  have hlocks := B.notSynchronized
  clear B s₁
  subst hsz
  have hD := hD0.self (sz := s.heap.size)
  clear hD0
  generalize hAe : va_A (wX ct aX xX_text xX_reader xX_sowing xX_market xX_book (aY 0) (aL 0) xX_draft xX_im0 xX_im1 xX_im2 mX ++ wY ct aY mY ++ wL ct aL mL) s.heap.size = A at hD hE ⊢
  have hA : ∀ q : Nat, s.heap.size ≤ q → A q := fun q h => by rw [← hAe]; exact Or.inr h
  clear hAe
  have hS : va_S A s.heap s.heap [] := va_S.rf
  refine cutQ (fun Q hQ => ?_)
  refine entryW (vs := [.ref (aX 0), .int v1, .int v2]) hargs (Nat.le_of_ble_eq_true rfl) (fun ls hl => ?_)
  replace hl : lv_has ls 3 [(0, .ref (aX 0)), (1, .int v1), (2, .int v2)] := hl
  unfold mX7_round at hM
  refine lv_aload_n hx hb dX7_round_0 rfl (lv_at hl 0 rfl) ?_
  refine va_get (D := (dC, dI)) (ci := 7) (v := .int (mX 0 10)) (C := RX7) (T := TX7) (N := 11) hx hb hts iwX7_round_X7 hown hK hP 0 rfl rfl 10 (by decide) (hts _ (List.mem_of_getElem? (i := 1) rfl)) (fun _ h9 => h9) rfl dX7_round_1 ?_
  refine lv_if_eq (tgt := 21) hx hb dX7_round_4 (by decide) (fun hc_1 => ?_) (fun hc_1 => ?_)
  · have hM := it_p hc_1 hM
    refine lv_iconst (v := -1) hx hb dX7_round_21 (by decide) ?_
    have hR := som hM
    rw [hR] at hQ
    exact ret_i hQ hx hb hr hlocks hP hK hD hS dX7_round_22
  · have hM := it_n hc_1 hM
    refine lv_iload_n hx hb dX7_round_7 rfl (lv_at hl 1 rfl) ?_
    refine lv_iconst (v := 0) hx hb dX7_round_8 (by decide) ?_
    refine lv_iconst (v := 4) hx hb dX7_round_9 (by decide) ?_
    obtain ⟨x_2, hr_3, hM⟩ := bn_some hM
    refine gv_i (r0 := x_2) (wn := (wX ct aX xX_text xX_reader xX_sowing xX_market xX_book (aY 0) (aL 0) xX_draft xX_im0 xX_im1 xX_im2 mX ++ wY ct aY mY ++ wL ct aL mL)) (va_runS (As := [.int v1, .int (0 : Int32), .int (4 : Int32)]) (rest := []) ⟨hx, hb, hml, hown, hts⟩ (kX7_isIn l dC dI ct _ v1 (0 : Int32) (4 : Int32) _ hr_3) (va_cwS 3 hts gX7_round_X7_isIn rfl rfl rfl hvX7_isIn.2 ⟨Nat.le_of_ble_eq_true rfl, Nat.le_of_ble_eq_true rfl⟩) (preS_of E0_ok hK hP hD (is := []) rfl rfl e_0) rfl rfl hl.1 rfl (lv_room (Nat.le_of_ble_eq_true rfl)) dX7_round_10 ⟨Nat.le_of_ble_eq_true rfl, Nat.le_of_ble_eq_true rfl⟩) hP hD hS hA [] [0, 1, 2, 3, 4, 5, 6, 7, 8, 9, 10, 11, 12, 13, 14, 15] [0, 1, 2, 3, 4, 5, 6, 7, 8, 9, 10, 11, 12, 13, 14, 15] rfl rfl rfl (by decide) rfl rfl (fun H locs hP hD hS => ?_)
    refine lv_if_eq (tgt := 21) hx hb dX7_round_13 (by decide) (fun hc_5 => ?_) (fun hc_5 => ?_)
    · have hM := it_p hc_5 hM
      refine lv_iconst (v := -1) hx hb dX7_round_21 (by decide) ?_
      have hR := som hM
      rw [hR] at hQ
      exact ret_i hQ hx hb hr hlocks hP hK hD hS dX7_round_22
    · have hM := it_n hc_5 hM
      refine lv_iload_n hx hb dX7_round_16 rfl (lv_at hl 2 rfl) ?_
      refine lv_iconst (v := -1) hx hb dX7_round_17 (by decide) ?_
      refine lv_icmp_ge (tgt := 23) hx hb dX7_round_18 (by decide) (fun hc_6 => ?_) (fun hc_6 => ?_)
      · have hM := it_p hc_6 hM
        refine lv_aload_n hx hb dX7_round_23 rfl (lv_at hl 0 rfl) ?_
        refine va_get (D := (dC, dI)) (ci := 7) (v := .ref (aY 0)) (C := RX7) (T := TX7) (N := 11) hx hb hts iwX7_round_X7 hown hK hP 0 rfl rfl 5 (by decide) (hts _ (List.mem_of_getElem? (i := 2) rfl)) (fun _ h9 => h9) rfl dX7_round_24 ?_
        refine lv_aload_n hx hb dX7_round_27 rfl (lv_at hl 0 rfl) ?_
        refine va_get (D := (dC, dI)) (ci := 7) (v := .ref (aL 0)) (C := RX7) (T := TX7) (N := 11) hx hb hts iwX7_round_X7 hown hK hP 0 rfl rfl 8 (by decide) (hts _ (List.mem_of_getElem? (i := 3) rfl)) (fun _ h9 => h9) rfl dX7_round_28 ?_
        refine lv_aload_n hx hb dX7_round_31 rfl (lv_at hl 0 rfl) ?_
        refine va_get (D := (dC, dI)) (ci := 7) (v := .ref (aL 0)) (C := RX7) (T := TX7) (N := 11) hx hb hts iwX7_round_X7 hown hK hP 0 rfl rfl 8 (by decide) (hts _ (List.mem_of_getElem? (i := 3) rfl)) (fun _ h9 => h9) rfl dX7_round_32 ?_
        refine va_get (D := (dC, dI)) (ci := 1) (v := .int (mL 0 12)) (C := RX1) (T := TX1) (N := 17) hx hb hts iwX7_round_X1 hown hK hP 6 rfl rfl 12 (by decide) (hts _ (List.mem_of_getElem? (i := 4) rfl)) (fun _ h9 => h9) rfl dX7_round_35 ?_
        obtain ⟨mY_7, hr_8, hM⟩ := bn_some hM
        refine gv_v (wn := (wX ct aX xX_text xX_reader xX_sowing xX_market xX_book (aY 0) (aL 0) xX_draft xX_im0 xX_im1 xX_im2 mX ++ wY ct aY mY_7 ++ wL ct aL mL)) (va_runV (As := [.ref (aL 0), .int (mL 0 12)]) (rest := []) ⟨hx, hb, hml, hown, hts⟩ (kX6_measure l dC dI ct aY aL _ mY mL (mL 0 12) _ hr_8) (cwV 2 hts gX7_round_X6_measure rfl rfl rfl hvX6_measure ⟨Nat.le_of_ble_eq_true rfl, Nat.le_of_ble_eq_true rfl⟩) (preV_of E0_ok hK hP hD (is := [3, 4, 5, 6, 7, 8, 9, 10, 11, 12, 13, 14, 15]) rfl rfl rfl (ci := 6) rfl 3 rfl e_0) rfl rfl hl.1 rfl (lv_room (Nat.le_of_ble_eq_true rfl)) dX7_round_38 ⟨Nat.le_of_ble_eq_true rfl, Nat.le_of_ble_eq_true rfl⟩) hP hD hS hA [3, 4, 5, 6, 7, 8, 9, 10, 11, 12, 13, 14, 15] [0, 1, 2] [0, 1, 2, 3, 4, 5, 6, 7, 8, 9, 10, 11, 12, 13, 14, 15] rfl rfl rfl (by decide) rfl rfl (fun H locs hP hD hS => ?_)
        refine lv_iload_n hx hb dX7_round_41 rfl (lv_at hl 2 rfl) ?_
        refine lv_iconst (v := -1) hx hb dX7_round_42 (by decide) ?_
        refine lv_icmp_ne (tgt := 58) hx hb dX7_round_43 (by decide) (fun hc_10 => ?_) (fun hc_10 => ?_)
        · have hM := it_p hc_10 hM
          refine lv_aload_n hx hb dX7_round_58 rfl (lv_at hl 0 rfl) ?_
          refine va_get (D := (dC, dI)) (ci := 7) (v := .ref (aY 0)) (C := RX7) (T := TX7) (N := 11) hx hb hts iwX7_round_X7 hown hK hP 0 rfl rfl 5 (by decide) (hts _ (List.mem_of_getElem? (i := 2) rfl)) (fun _ h9 => h9) rfl dX7_round_59 ?_
          refine lv_aload_n hx hb dX7_round_62 rfl (lv_at hl 0 rfl) ?_
          refine va_get (D := (dC, dI)) (ci := 7) (v := .ref (aL 0)) (C := RX7) (T := TX7) (N := 11) hx hb hts iwX7_round_X7 hown hK hP 0 rfl rfl 8 (by decide) (hts _ (List.mem_of_getElem? (i := 3) rfl)) (fun _ h9 => h9) rfl dX7_round_63 ?_
          refine lv_iload_n hx hb dX7_round_66 rfl (lv_at hl 1 rfl) ?_
          refine lv_iload_n hx hb dX7_round_67 rfl (lv_at hl 2 rfl) ?_
          obtain ⟨x_11, hr_12, hM⟩ := bn_some hM
          refine gv_i (r0 := x_11) (wn := (wX ct aX xX_text xX_reader xX_sowing xX_market xX_book (aY 0) (aL 0) xX_draft xX_im0 xX_im1 xX_im2 mX ++ wY ct aY mY_7 ++ wL ct aL mL)) (va_runV (As := [.ref (aL 0), .int v1, .int v2]) (rest := []) ⟨hx, hb, hml, hown, hts⟩ (kX6_turnAt l dC dI ct aY aL _ mY_7 mL v1 v2 _ hr_12) (cwV 3 hts gX7_round_X6_turnAt rfl rfl rfl hvX6_turnAt ⟨Nat.le_of_ble_eq_true rfl, Nat.le_of_ble_eq_true rfl⟩) (preV_of E0_ok hK hP hD (is := [3, 4, 5, 6, 7, 8, 9, 10, 11, 12, 13, 14, 15]) rfl rfl rfl (ci := 6) rfl 3 rfl e_0) rfl rfl hl.1 rfl (lv_room (Nat.le_of_ble_eq_true rfl)) dX7_round_68 ⟨Nat.le_of_ble_eq_true rfl, Nat.le_of_ble_eq_true rfl⟩) hP hD hS hA [3, 4, 5, 6, 7, 8, 9, 10, 11, 12, 13, 14, 15] [0, 1, 2] [0, 1, 2, 3, 4, 5, 6, 7, 8, 9, 10, 11, 12, 13, 14, 15] rfl rfl rfl (by decide) rfl rfl (fun H locs hP hD hS => ?_)
          have hR := som hM
          rw [hR] at hQ
          exact ret_i hQ hx hb hr hlocks hP hK hD hS dX7_round_71
        · have hM := it_nn hc_10 hM
          refine lv_aload_n hx hb dX7_round_46 rfl (lv_at hl 0 rfl) ?_
          refine va_get (D := (dC, dI)) (ci := 7) (v := .ref (aY 0)) (C := RX7) (T := TX7) (N := 11) hx hb hts iwX7_round_X7 hown hK hP 0 rfl rfl 5 (by decide) (hts _ (List.mem_of_getElem? (i := 2) rfl)) (fun _ h9 => h9) rfl dX7_round_47 ?_
          refine va_get (D := (dC, dI)) (ci := 6) (v := .ref (aY 1)) (C := RX6) (T := TX6) (N := 2) hx hb hts iwX7_round_X6 hown hK hP 3 rfl rfl 0 (by decide) (hts _ (List.mem_of_getElem? (i := 5) rfl)) (fun _ h9 => h9) rfl dX7_round_50 ?_
          refine lv_iload_n hx hb dX7_round_53 rfl (lv_at hl 1 rfl) ?_
          obtain ⟨hi, hM⟩ := gi_some hM
          refine va_iald hx hb hK hP 4 0 rfl rfl hi dX7_round_54 ?_
          refine lv_goto (tgt := 71) hx hb dX7_round_55 (by decide) ?_
          refine lv_topi (fun x_14 ex_14 => ?_)
          have hM := nm_at ex_14 hM
          have hR := som hM
          rw [hR] at hQ
          exact ret_i hQ hx hb hr hlocks hP hK hD hS dX7_round_71
      · have hM := it_n hc_6 hM
        refine lv_iconst (v := -1) hx hb dX7_round_21 (by decide) ?_
        have hR := som hM
        rw [hR] at hQ
        exact ret_i hQ hx hb hr hlocks hP hK hD hS dX7_round_22
abbrev rmX7_words : Room := { frames := 3, cells := 0, slots := 0, locals := 78 }
theorem iwX7_words_X7 : ∀ w ∈ wsX70, w ∈ wsX7_words := fun _ h => List.mem_cons_of_mem _ (List.mem_append_left _ (List.mem_append_left _ (List.mem_append_right _ (h))))
set_option maxHeartbeats 4000000 in
set_option maxRecDepth 100000 in
theorem kX7_words (l : Launch) (dC : Nat → ClassId) (dI : Nat → Nat → Nat) (ct : Nat → ClassId) (aX : Nat → Nat) (aY : Nat → Nat) (aL : Nat → Nat) (xX_text : Nat) (xX_reader : Nat) (xX_sowing : Nat) (xX_market : Nat) (xX_book : Nat) (xX_draft : Nat) (xX_im0 : Nat) (xX_im1 : Nat) (xX_im2 : Nat) (sz : Nat) (mX : Mem) (mY : Mem) (mL : Mem) (v1 : Int32) (v2 : Int32) (res : (Int32 × Mem)) (hM : mX7_words mX mY mL v1 v2 = some res) : Met l yX7_words wsX7_words rmX7_words (va_Pc [.ref (aX 0), .int v1, .int v2] (PB (dC, dI) ct E0 sz (wX ct aX xX_text xX_reader xX_sowing xX_market xX_book (aY 0) (aL 0) xX_draft xX_im0 xX_im1 xX_im2 mX ++ wY ct aY mY ++ wL ct aL mL))) (Qi (dC, dI) ct (va_A (wX ct aX xX_text xX_reader xX_sowing xX_market xX_book (aY 0) (aL 0) xX_draft xX_im0 xX_im1 xX_im2 mX ++ wY ct aY mY ++ wL ct aL mL) sz) res.1 (wX ct aX xX_text xX_reader xX_sowing xX_market xX_book (aY 0) (aL 0) xX_draft xX_im0 xX_im1 xX_im2 mX ++ wY ct aY res.2 ++ wL ct aL mL)) 0 0 (va_A (wX ct aX xX_text xX_reader xX_sowing xX_market xX_book (aY 0) (aL 0) xX_draft xX_im0 xX_im1 xX_im2 mX ++ wY ct aY mY ++ wL ct aL mL) sz) := by
  refine Met.ofW (cc := cX7_words) (maxL := 3) (ret := (some .int)) (by decide) rfl ?_
  intro p e s m args below meth c s₁ B hml hv
  obtain ⟨hargs, hsz, hP, hK, hD0, hE⟩ := hv
  have hx := B.exec
  have hb := B.bytes
  have hr := B.returns
  have hts := atoms_spec (ws := wsX7_words) B.pre
  have hown : s.vm.findClass RX7 = some m.cls := findClass_of_methodNamed B.named
  have hlocks := B.notSynchronized
  clear B s₁
  subst hsz
  have hD := hD0.self (sz := s.heap.size)
  clear hD0
  generalize hAe : va_A (wX ct aX xX_text xX_reader xX_sowing xX_market xX_book (aY 0) (aL 0) xX_draft xX_im0 xX_im1 xX_im2 mX ++ wY ct aY mY ++ wL ct aL mL) s.heap.size = A at hD hE ⊢
  have hA : ∀ q : Nat, s.heap.size ≤ q → A q := fun q h => by rw [← hAe]; exact Or.inr h
  clear hAe
  have hS : va_S A s.heap s.heap [] := va_S.rf
  refine cutQ (fun Q hQ => ?_)
  refine entryW (vs := [.ref (aX 0), .int v1, .int v2]) hargs (Nat.le_of_ble_eq_true rfl) (fun ls hl => ?_)
  replace hl : lv_has ls 3 [(0, .ref (aX 0)), (1, .int v1), (2, .int v2)] := hl
  unfold mX7_words at hM
  refine lv_aload_n hx hb dX7_words_0 rfl (lv_at hl 0 rfl) ?_
  refine va_get (D := (dC, dI)) (ci := 7) (v := .int (mX 0 10)) (C := RX7) (T := TX7) (N := 11) hx hb hts iwX7_words_X7 hown hK hP 0 rfl rfl 10 (by decide) (hts _ (List.mem_of_getElem? (i := 1) rfl)) (fun _ h9 => h9) rfl dX7_words_1 ?_
  refine lv_if_eq (tgt := 28) hx hb dX7_words_4 (by decide) (fun hc_1 => ?_) (fun hc_1 => ?_)
  · have hM := it_p hc_1 hM
    refine lv_iconst (v := -1) hx hb dX7_words_28 (by decide) ?_
    have hR := som hM
    rw [hR] at hQ
    exact ret_i hQ hx hb hr hlocks hP hK hD hS dX7_words_29
  · have hM := it_n hc_1 hM
    refine lv_iload_n hx hb dX7_words_7 rfl (lv_at hl 1 rfl) ?_
    refine lv_iconst (v := 0) hx hb dX7_words_8 (by decide) ?_
    refine lv_bipush (v := 31) hx hb dX7_words_9 (by decide) ?_
    obtain ⟨x_2, hr_3, hM⟩ := bn_some hM
    refine gv_i (r0 := x_2) (wn := (wX ct aX xX_text xX_reader xX_sowing xX_market xX_book (aY 0) (aL 0) xX_draft xX_im0 xX_im1 xX_im2 mX ++ wY ct aY mY ++ wL ct aL mL)) (va_runS (As := [.int v1, .int (0 : Int32), .int (31 : Int32)]) (rest := []) ⟨hx, hb, hml, hown, hts⟩ (kX7_isIn l dC dI ct _ v1 (0 : Int32) (31 : Int32) _ hr_3) (va_cwS 3 hts gX7_words_X7_isIn rfl rfl rfl hvX7_isIn.2 ⟨Nat.le_of_ble_eq_true rfl, Nat.le_of_ble_eq_true rfl⟩) (preS_of E0_ok hK hP hD (is := []) rfl rfl e_0) rfl rfl hl.1 rfl (lv_room (Nat.le_of_ble_eq_true rfl)) dX7_words_11 ⟨Nat.le_of_ble_eq_true rfl, Nat.le_of_ble_eq_true rfl⟩) hP hD hS hA [] [0, 1, 2, 3, 4, 5, 6, 7, 8, 9, 10, 11, 12, 13, 14, 15] [0, 1, 2, 3, 4, 5, 6, 7, 8, 9, 10, 11, 12, 13, 14, 15] rfl rfl rfl (by decide) rfl rfl (fun H locs hP hD hS => ?_)
    refine lv_if_eq (tgt := 28) hx hb dX7_words_14 (by decide) (fun hc_5 => ?_) (fun hc_5 => ?_)
    · have hM := it_p hc_5 hM
      refine lv_iconst (v := -1) hx hb dX7_words_28 (by decide) ?_
      have hR := som hM
      rw [hR] at hQ
      exact ret_i hQ hx hb hr hlocks hP hK hD hS dX7_words_29
    · have hM := it_n hc_5 hM
      refine lv_iload_n hx hb dX7_words_17 rfl (lv_at hl 2 rfl) ?_
      refine lv_iconst (v := 0) hx hb dX7_words_18 (by decide) ?_
      refine lv_sipush (v := 2000) hx hb dX7_words_19 (by decide) ?_
      obtain ⟨x_6, hr_7, hM⟩ := bn_some hM
      refine gv_i (r0 := x_6) (wn := (wX ct aX xX_text xX_reader xX_sowing xX_market xX_book (aY 0) (aL 0) xX_draft xX_im0 xX_im1 xX_im2 mX ++ wY ct aY mY ++ wL ct aL mL)) (va_runS (As := [.int v2, .int (0 : Int32), .int (2000 : Int32)]) (rest := []) ⟨hx, hb, hml, hown, hts⟩ (kX7_isIn l dC dI ct _ v2 (0 : Int32) (2000 : Int32) _ hr_7) (va_cwS 3 hts gX7_words_X7_isIn rfl rfl rfl hvX7_isIn.2 ⟨Nat.le_of_ble_eq_true rfl, Nat.le_of_ble_eq_true rfl⟩) (preS_of E0_ok hK hP hD (is := []) rfl rfl e_0) rfl rfl hl.1 rfl (lv_room (Nat.le_of_ble_eq_true rfl)) dX7_words_22 ⟨Nat.le_of_ble_eq_true rfl, Nat.le_of_ble_eq_true rfl⟩) hP hD hS hA [] [0, 1, 2, 3, 4, 5, 6, 7, 8, 9, 10, 11, 12, 13, 14, 15] [0, 1, 2, 3, 4, 5, 6, 7, 8, 9, 10, 11, 12, 13, 14, 15] rfl rfl rfl (by decide) rfl rfl (fun H locs hP hD hS => ?_)
      refine lv_if_ne (tgt := 30) hx hb dX7_words_25 (by decide) (fun hc_9 => ?_) (fun hc_9 => ?_)
      · have hM := it_p hc_9 hM
        refine lv_aload_n hx hb dX7_words_30 rfl (lv_at hl 0 rfl) ?_
        refine va_get (D := (dC, dI)) (ci := 7) (v := .ref (aY 0)) (C := RX7) (T := TX7) (N := 11) hx hb hts iwX7_words_X7 hown hK hP 0 rfl rfl 5 (by decide) (hts _ (List.mem_of_getElem? (i := 2) rfl)) (fun _ h9 => h9) rfl dX7_words_31 ?_
        refine lv_aload_n hx hb dX7_words_34 rfl (lv_at hl 0 rfl) ?_
        refine va_get (D := (dC, dI)) (ci := 7) (v := .ref (aL 0)) (C := RX7) (T := TX7) (N := 11) hx hb hts iwX7_words_X7 hown hK hP 0 rfl rfl 8 (by decide) (hts _ (List.mem_of_getElem? (i := 3) rfl)) (fun _ h9 => h9) rfl dX7_words_35 ?_
        refine lv_iload_n hx hb dX7_words_38 rfl (lv_at hl 1 rfl) ?_
        refine lv_iload_n hx hb dX7_words_39 rfl (lv_at hl 2 rfl) ?_
        obtain ⟨q_13, hr_12, hM⟩ := bn_some hM
        obtain ⟨x_10, mY_11⟩ := q_13
        have hM := nm_at (y := x_10) rfl hM
        have hM := nm_at (y := mY_11) rfl hM
        refine gv_i (r0 := x_10) (wn := (wX ct aX xX_text xX_reader xX_sowing xX_market xX_book (aY 0) (aL 0) xX_draft xX_im0 xX_im1 xX_im2 mX ++ wY ct aY mY_11 ++ wL ct aL mL)) (va_runV (As := [.ref (aL 0), .int v1, .int v2]) (rest := []) ⟨hx, hb, hml, hown, hts⟩ (kX6_fewestWords l dC dI ct aY aL _ mY mL v1 v2 _ hr_12) (cwV 3 hts gX7_words_X6_fewestWords rfl rfl rfl hvX6_fewestWords ⟨Nat.le_of_ble_eq_true rfl, Nat.le_of_ble_eq_true rfl⟩) (preV_of E0_ok hK hP hD (is := [3, 4, 5, 6, 7, 8, 9, 10, 11, 12, 13, 14, 15]) rfl rfl rfl (ci := 6) rfl 3 rfl e_0) rfl rfl hl.1 rfl (lv_room (Nat.le_of_ble_eq_true rfl)) dX7_words_40 ⟨Nat.le_of_ble_eq_true rfl, Nat.le_of_ble_eq_true rfl⟩) hP hD hS hA [3, 4, 5, 6, 7, 8, 9, 10, 11, 12, 13, 14, 15] [0, 1, 2] [0, 1, 2, 3, 4, 5, 6, 7, 8, 9, 10, 11, 12, 13, 14, 15] rfl rfl rfl (by decide) rfl rfl (fun H locs hP hD hS => ?_)
        have hR := som hM
        rw [hR] at hQ
        exact ret_i hQ hx hb hr hlocks hP hK hD hS dX7_words_43
      · have hM := it_nn hc_9 hM
        refine lv_iconst (v := -1) hx hb dX7_words_28 (by decide) ?_
        have hR := som hM
        rw [hR] at hQ
        exact ret_i hQ hx hb hr hlocks hP hK hD hS dX7_words_29
abbrev rmX7_image : Room := { frames := 2, cells := 0, slots := 0, locals := 85 }
theorem iwX7_image_X7 : ∀ w ∈ wsX70, w ∈ wsX7_image := fun _ h => List.mem_cons_of_mem _ (List.mem_append_left _ (List.mem_append_right _ (h)))
set_option maxHeartbeats 4000000 in
set_option maxRecDepth 100000 in
theorem kX7_image (l : Launch) (dC : Nat → ClassId) (dI : Nat → Nat → Nat) (ct : Nat → ClassId) (aX : Nat → Nat) (aM : Nat → Nat) (aI0 : Nat → Nat) (aI1 : Nat → Nat) (aI2 : Nat → Nat) (xX_text : Nat) (xX_reader : Nat) (xX_sowing : Nat) (xX_book : Nat) (xX_ways : Nat) (xX_land : Nat) (xX_draft : Nat) (sz : Nat) (mX : Mem) (mM : Mem) (mI0 : Mem) (mI1 : Mem) (mI2 : Mem) (v1 : Int32) (res : (Int32 × Mem × Mem × Mem × Mem)) (hM : mX7_image mX mM mI0 mI1 mI2 v1 = some res) : Met l yX7_image wsX7_image rmX7_image (va_Pc [.ref (aX 0), .int v1] (PB (dC, dI) ct E0 sz (wX ct aX xX_text xX_reader xX_sowing (aM 0) xX_book xX_ways xX_land xX_draft (aI0 0) (aI1 0) (aI2 0) mX ++ wM ct aM mM ++ wM ct aI0 mI0 ++ wM ct aI1 mI1 ++ wM ct aI2 mI2))) (Qi (dC, dI) ct (va_A (wX ct aX xX_text xX_reader xX_sowing (aM 0) xX_book xX_ways xX_land xX_draft (aI0 0) (aI1 0) (aI2 0) mX ++ wM ct aM mM ++ wM ct aI0 mI0 ++ wM ct aI1 mI1 ++ wM ct aI2 mI2) sz) res.1 (wX ct aX xX_text xX_reader xX_sowing (aM 0) xX_book xX_ways xX_land xX_draft (aI0 0) (aI1 0) (aI2 0) res.2.1 ++ wM ct aM mM ++ wM ct aI0 res.2.2.1 ++ wM ct aI1 res.2.2.2.1 ++ wM ct aI2 res.2.2.2.2)) 0 0 (va_A (wX ct aX xX_text xX_reader xX_sowing (aM 0) xX_book xX_ways xX_land xX_draft (aI0 0) (aI1 0) (aI2 0) mX ++ wM ct aM mM ++ wM ct aI0 mI0 ++ wM ct aI1 mI1 ++ wM ct aI2 mI2) sz) := by
  refine Met.ofW (cc := cX7_image) (maxL := 2) (ret := (some .boolean)) (by decide) rfl ?_
  intro p e s m args below meth c s₁ B hml hv
  obtain ⟨hargs, hsz, hP, hK, hD0, hE⟩ := hv
  have hx := B.exec
  have hb := B.bytes
  have hr := B.returns
  have hts := atoms_spec (ws := wsX7_image) B.pre
  have hown : s.vm.findClass RX7 = some m.cls := findClass_of_methodNamed B.named
  have hlocks := B.notSynchronized
  clear B s₁
  subst hsz
  have hD := hD0.self (sz := s.heap.size)
  clear hD0
  generalize hAe : va_A (wX ct aX xX_text xX_reader xX_sowing (aM 0) xX_book xX_ways xX_land xX_draft (aI0 0) (aI1 0) (aI2 0) mX ++ wM ct aM mM ++ wM ct aI0 mI0 ++ wM ct aI1 mI1 ++ wM ct aI2 mI2) s.heap.size = A at hD hE ⊢
  have hA : ∀ q : Nat, s.heap.size ≤ q → A q := fun q h => by rw [← hAe]; exact Or.inr h
  clear hAe
  have hS : va_S A s.heap s.heap [] := va_S.rf
  refine cutQ (fun Q hQ => ?_)
  refine entryW (vs := [.ref (aX 0), .int v1]) hargs (Nat.le_of_ble_eq_true rfl) (fun ls hl => ?_)
  replace hl : lv_has ls 2 [(0, .ref (aX 0)), (1, .int v1)] := hl
  unfold mX7_image at hM
  refine lv_aload_n hx hb dX7_image_0 rfl (lv_at hl 0 rfl) ?_
  refine va_get (D := (dC, dI)) (ci := 7) (v := .int (mX 0 10)) (C := RX7) (T := TX7) (N := 11) hx hb hts iwX7_image_X7 hown hK hP 0 rfl rfl 10 (by decide) (hts _ (List.mem_of_getElem? (i := 1) rfl)) (fun _ h9 => h9) rfl dX7_image_1 ?_
  refine lv_if_eq (tgt := 16) hx hb dX7_image_4 (by decide) (fun hc_1 => ?_) (fun hc_1 => ?_)
  · have hM := it_p hc_1 hM
    refine lv_iconst (v := 0) hx hb dX7_image_16 (by decide) ?_
    have hR := som hM
    rw [hR] at hQ
    exact ret_z hQ hx hb hr hlocks rfl hP hK hD hS dX7_image_17
  · have hM := it_n hc_1 hM
    refine lv_iload_n hx hb dX7_image_7 rfl (lv_at hl 1 rfl) ?_
    refine lv_iconst (v := 0) hx hb dX7_image_8 (by decide) ?_
    refine lv_iconst (v := 2) hx hb dX7_image_9 (by decide) ?_
    obtain ⟨x_2, hr_3, hM⟩ := bn_some hM
    have hPs := pm_P (ws' := ([] : va_W) ++ (wX ct aX xX_text xX_reader xX_sowing (aM 0) xX_book xX_ways xX_land xX_draft (aI0 0) (aI1 0) (aI2 0) mX ++ wM ct aM mM ++ wM ct aI0 mI0 ++ wM ct aI1 mI1 ++ wM ct aI2 mI2)) [wX ct aX xX_text xX_reader xX_sowing (aM 0) xX_book xX_ways xX_land xX_draft (aI0 0) (aI1 0) (aI2 0) mX, wM ct aM mM, wM ct aI0 mI0, wM ct aI1 mI1, wM ct aI2 mI2] [0, 1, 2, 3, 4] (show List.Perm [0, 1, 2, 3, 4] (List.range 5) from by decide) (by simp only [List.flatten_cons, List.flatten_nil, List.append_nil, List.nil_append, List.append_assoc]) (by show List.flatten [wX ct aX xX_text xX_reader xX_sowing (aM 0) xX_book xX_ways xX_land xX_draft (aI0 0) (aI1 0) (aI2 0) mX, wM ct aM mM, wM ct aI0 mI0, wM ct aI1 mI1, wM ct aI2 mI2] = _; simp only [List.flatten_cons, List.flatten_nil, List.append_nil, List.nil_append, List.append_assoc]) hP
    have hDs := pm_D (ws' := ([] : va_W) ++ (wX ct aX xX_text xX_reader xX_sowing (aM 0) xX_book xX_ways xX_land xX_draft (aI0 0) (aI1 0) (aI2 0) mX ++ wM ct aM mM ++ wM ct aI0 mI0 ++ wM ct aI1 mI1 ++ wM ct aI2 mI2)) [wX ct aX xX_text xX_reader xX_sowing (aM 0) xX_book xX_ways xX_land xX_draft (aI0 0) (aI1 0) (aI2 0) mX, wM ct aM mM, wM ct aI0 mI0, wM ct aI1 mI1, wM ct aI2 mI2] [0, 1, 2, 3, 4] (show List.Perm [0, 1, 2, 3, 4] (List.range 5) from by decide) (by simp only [List.flatten_cons, List.flatten_nil, List.append_nil, List.nil_append, List.append_assoc]) (by show List.flatten [wX ct aX xX_text xX_reader xX_sowing (aM 0) xX_book xX_ways xX_land xX_draft (aI0 0) (aI1 0) (aI2 0) mX, wM ct aM mM, wM ct aI0 mI0, wM ct aI1 mI1, wM ct aI2 mI2] = _; simp only [List.flatten_cons, List.flatten_nil, List.append_nil, List.nil_append, List.append_assoc]) hD
    refine sp_i (r0 := x_2) (wr := (wX ct aX xX_text xX_reader xX_sowing (aM 0) xX_book xX_ways xX_land xX_draft (aI0 0) (aI1 0) (aI2 0) mX ++ wM ct aM mM ++ wM ct aI0 mI0 ++ wM ct aI1 mI1 ++ wM ct aI2 mI2)) (va_runS (As := [.int v1, .int (0 : Int32), .int (2 : Int32)]) (rest := []) ⟨hx, hb, hml, hown, hts⟩ (kX7_isIn l dC dI ct _ v1 (0 : Int32) (2 : Int32) _ hr_3) (va_cwS 3 hts gX7_image_X7_isIn rfl rfl rfl hvX7_isIn.2 ⟨Nat.le_of_ble_eq_true rfl, Nat.le_of_ble_eq_true rfl⟩) (sp_preS E0_ok hK hPs hDs e_0) rfl rfl hl.1 rfl (lv_room (Nat.le_of_ble_eq_true rfl)) dX7_image_10 ⟨Nat.le_of_ble_eq_true rfl, Nat.le_of_ble_eq_true rfl⟩) hPs hDs hS hA (fun H locs hPs hDs hS => ?_)
    replace hPs : va_P (dC, dI) vwCl (([] : va_W) ++ (wX ct aX xX_text xX_reader xX_sowing (aM 0) xX_book xX_ways xX_land xX_draft (aI0 0) (aI1 0) (aI2 0) mX ++ wM ct aM mM ++ wM ct aI0 mI0 ++ wM ct aI1 mI1 ++ wM ct aI2 mI2)) H := hPs
    replace hDs : va_D A (([] : va_W) ++ (wX ct aX xX_text xX_reader xX_sowing (aM 0) xX_book xX_ways xX_land xX_draft (aI0 0) (aI1 0) (aI2 0) mX ++ wM ct aM mM ++ wM ct aI0 mI0 ++ wM ct aI1 mI1 ++ wM ct aI2 mI2)) := hDs
    have hP := pm_P (ws' := (wX ct aX xX_text xX_reader xX_sowing (aM 0) xX_book xX_ways xX_land xX_draft (aI0 0) (aI1 0) (aI2 0) mX ++ wM ct aM mM ++ wM ct aI0 mI0 ++ wM ct aI1 mI1 ++ wM ct aI2 mI2)) [wX ct aX xX_text xX_reader xX_sowing (aM 0) xX_book xX_ways xX_land xX_draft (aI0 0) (aI1 0) (aI2 0) mX, wM ct aM mM, wM ct aI0 mI0, wM ct aI1 mI1, wM ct aI2 mI2] [0, 1, 2, 3, 4] (show List.Perm [0, 1, 2, 3, 4] (List.range 5) from by decide) (by simp only [List.flatten_cons, List.flatten_nil, List.append_nil, List.nil_append, List.append_assoc]) (by show List.flatten [wX ct aX xX_text xX_reader xX_sowing (aM 0) xX_book xX_ways xX_land xX_draft (aI0 0) (aI1 0) (aI2 0) mX, wM ct aM mM, wM ct aI0 mI0, wM ct aI1 mI1, wM ct aI2 mI2] = _; simp only [List.flatten_cons, List.flatten_nil, List.append_nil, List.nil_append, List.append_assoc]) hPs
    have hD := pm_D (ws' := (wX ct aX xX_text xX_reader xX_sowing (aM 0) xX_book xX_ways xX_land xX_draft (aI0 0) (aI1 0) (aI2 0) mX ++ wM ct aM mM ++ wM ct aI0 mI0 ++ wM ct aI1 mI1 ++ wM ct aI2 mI2)) [wX ct aX xX_text xX_reader xX_sowing (aM 0) xX_book xX_ways xX_land xX_draft (aI0 0) (aI1 0) (aI2 0) mX, wM ct aM mM, wM ct aI0 mI0, wM ct aI1 mI1, wM ct aI2 mI2] [0, 1, 2, 3, 4] (show List.Perm [0, 1, 2, 3, 4] (List.range 5) from by decide) (by simp only [List.flatten_cons, List.flatten_nil, List.append_nil, List.nil_append, List.append_assoc]) (by show List.flatten [wX ct aX xX_text xX_reader xX_sowing (aM 0) xX_book xX_ways xX_land xX_draft (aI0 0) (aI1 0) (aI2 0) mX, wM ct aM mM, wM ct aI0 mI0, wM ct aI1 mI1, wM ct aI2 mI2] = _; simp only [List.flatten_cons, List.flatten_nil, List.append_nil, List.nil_append, List.append_assoc]) hDs
    clear hPs hDs
    refine lv_if_ne (tgt := 18) hx hb dX7_image_13 (by decide) (fun hc_5 => ?_) (fun hc_5 => ?_)
    · have hM := it_p hc_5 hM
      refine lv_aload_n hx hb dX7_image_18 rfl (lv_at hl 0 rfl) ?_
      refine va_get (D := (dC, dI)) (ci := 7) (v := .ref (aX 1)) (C := RX7) (T := TX7) (N := 11) hx hb hts iwX7_image_X7 hown hK hP 0 rfl rfl 6 (by decide) (hts _ (List.mem_of_getElem? (i := 2) rfl)) (fun _ h9 => h9) rfl dX7_image_19 ?_
      refine lv_iload_n hx hb dX7_image_22 rfl (lv_at hl 1 rfl) ?_
      obtain ⟨hi, hM⟩ := gi_some hM
      by_cases hc_6 : v1 = 0
      · have hM := it_p hc_6 hM
        refine va_aldq (C := "MoonDebts$Market") hx hb hK hP 1 4 rfl rfl hi dX7_image_23 ?_
        refine W.eq (g2 := F0 m 24 ls [.ref (aI0 0)]) (by rw [hc_6]; rfl) ?_
        refine lv_aload_n hx hb dX7_image_24 rfl (lv_at hl 0 rfl) ?_
        refine va_get (D := (dC, dI)) (ci := 7) (v := .ref (aM 0)) (C := RX7) (T := TX7) (N := 11) hx hb hts iwX7_image_X7 hown hK hP 0 rfl rfl 3 (by decide) (hts _ (List.mem_of_getElem? (i := 3) rfl)) (fun _ h9 => h9) rfl dX7_image_25 ?_
        obtain ⟨mI0_8, hr_9, hM⟩ := bn_some hM
        have hPs := pm_P (ws' := (wM ct aI0 mI0 ++ wM ct aM mM) ++ (wX ct aX xX_text xX_reader xX_sowing (aM 0) xX_book xX_ways xX_land xX_draft (aI0 0) (aI1 0) (aI2 0) mX ++ wM ct aI1 mI1 ++ wM ct aI2 mI2)) [wX ct aX xX_text xX_reader xX_sowing (aM 0) xX_book xX_ways xX_land xX_draft (aI0 0) (aI1 0) (aI2 0) mX, wM ct aM mM, wM ct aI0 mI0, wM ct aI1 mI1, wM ct aI2 mI2] [2, 1, 0, 3, 4] (show List.Perm [2, 1, 0, 3, 4] (List.range 5) from by decide) (by simp only [List.flatten_cons, List.flatten_nil, List.append_nil, List.nil_append, List.append_assoc]) (by show List.flatten [wM ct aI0 mI0, wM ct aM mM, wX ct aX xX_text xX_reader xX_sowing (aM 0) xX_book xX_ways xX_land xX_draft (aI0 0) (aI1 0) (aI2 0) mX, wM ct aI1 mI1, wM ct aI2 mI2] = _; simp only [List.flatten_cons, List.flatten_nil, List.append_nil, List.nil_append, List.append_assoc]) hP
        have hDs := pm_D (ws' := (wM ct aI0 mI0 ++ wM ct aM mM) ++ (wX ct aX xX_text xX_reader xX_sowing (aM 0) xX_book xX_ways xX_land xX_draft (aI0 0) (aI1 0) (aI2 0) mX ++ wM ct aI1 mI1 ++ wM ct aI2 mI2)) [wX ct aX xX_text xX_reader xX_sowing (aM 0) xX_book xX_ways xX_land xX_draft (aI0 0) (aI1 0) (aI2 0) mX, wM ct aM mM, wM ct aI0 mI0, wM ct aI1 mI1, wM ct aI2 mI2] [2, 1, 0, 3, 4] (show List.Perm [2, 1, 0, 3, 4] (List.range 5) from by decide) (by simp only [List.flatten_cons, List.flatten_nil, List.append_nil, List.nil_append, List.append_assoc]) (by show List.flatten [wM ct aI0 mI0, wM ct aM mM, wX ct aX xX_text xX_reader xX_sowing (aM 0) xX_book xX_ways xX_land xX_draft (aI0 0) (aI1 0) (aI2 0) mX, wM ct aI1 mI1, wM ct aI2 mI2] = _; simp only [List.flatten_cons, List.flatten_nil, List.append_nil, List.nil_append, List.append_assoc]) hD
        refine sp_v (wr := (wX ct aX xX_text xX_reader xX_sowing (aM 0) xX_book xX_ways xX_land xX_draft (aI0 0) (aI1 0) (aI2 0) mX ++ wM ct aI1 mI1 ++ wM ct aI2 mI2)) (va_runV (As := [.ref (aM 0)]) (rest := []) ⟨hx, hb, hml, hown, hts⟩ (kX2_copyFrom l dC dI ct aI0 aM _ mI0 mM _ hr_9) (cwV 1 hts gX7_image_X2_copyFrom rfl rfl rfl hvX2_copyFrom ⟨Nat.le_of_ble_eq_true rfl, Nat.le_of_ble_eq_true rfl⟩) (sp_preV E0_ok hK hPs hDs rfl (ci := 2) rfl 0 rfl e_0) rfl rfl hl.1 rfl (lv_room (Nat.le_of_ble_eq_true rfl)) dX7_image_28 ⟨Nat.le_of_ble_eq_true rfl, Nat.le_of_ble_eq_true rfl⟩) hPs hDs hS hA (fun H locs hPs hDs hS => ?_)
        replace hPs : va_P (dC, dI) vwCl ((wM ct aI0 mI0_8 ++ wM ct aM mM) ++ (wX ct aX xX_text xX_reader xX_sowing (aM 0) xX_book xX_ways xX_land xX_draft (aI0 0) (aI1 0) (aI2 0) mX ++ wM ct aI1 mI1 ++ wM ct aI2 mI2)) H := hPs
        replace hDs : va_D A ((wM ct aI0 mI0_8 ++ wM ct aM mM) ++ (wX ct aX xX_text xX_reader xX_sowing (aM 0) xX_book xX_ways xX_land xX_draft (aI0 0) (aI1 0) (aI2 0) mX ++ wM ct aI1 mI1 ++ wM ct aI2 mI2)) := hDs
        have hP := pm_P (ws' := (wX ct aX xX_text xX_reader xX_sowing (aM 0) xX_book xX_ways xX_land xX_draft (aI0 0) (aI1 0) (aI2 0) mX ++ wM ct aM mM ++ wM ct aI0 mI0_8 ++ wM ct aI1 mI1 ++ wM ct aI2 mI2)) [wM ct aI0 mI0_8, wM ct aM mM, wX ct aX xX_text xX_reader xX_sowing (aM 0) xX_book xX_ways xX_land xX_draft (aI0 0) (aI1 0) (aI2 0) mX, wM ct aI1 mI1, wM ct aI2 mI2] [2, 1, 0, 3, 4] (show List.Perm [2, 1, 0, 3, 4] (List.range 5) from by decide) (by simp only [List.flatten_cons, List.flatten_nil, List.append_nil, List.nil_append, List.append_assoc]) (by show List.flatten [wX ct aX xX_text xX_reader xX_sowing (aM 0) xX_book xX_ways xX_land xX_draft (aI0 0) (aI1 0) (aI2 0) mX, wM ct aM mM, wM ct aI0 mI0_8, wM ct aI1 mI1, wM ct aI2 mI2] = _; simp only [List.flatten_cons, List.flatten_nil, List.append_nil, List.nil_append, List.append_assoc]) hPs
        have hD := pm_D (ws' := (wX ct aX xX_text xX_reader xX_sowing (aM 0) xX_book xX_ways xX_land xX_draft (aI0 0) (aI1 0) (aI2 0) mX ++ wM ct aM mM ++ wM ct aI0 mI0_8 ++ wM ct aI1 mI1 ++ wM ct aI2 mI2)) [wM ct aI0 mI0_8, wM ct aM mM, wX ct aX xX_text xX_reader xX_sowing (aM 0) xX_book xX_ways xX_land xX_draft (aI0 0) (aI1 0) (aI2 0) mX, wM ct aI1 mI1, wM ct aI2 mI2] [2, 1, 0, 3, 4] (show List.Perm [2, 1, 0, 3, 4] (List.range 5) from by decide) (by simp only [List.flatten_cons, List.flatten_nil, List.append_nil, List.nil_append, List.append_assoc]) (by show List.flatten [wX ct aX xX_text xX_reader xX_sowing (aM 0) xX_book xX_ways xX_land xX_draft (aI0 0) (aI1 0) (aI2 0) mX, wM ct aM mM, wM ct aI0 mI0_8, wM ct aI1 mI1, wM ct aI2 mI2] = _; simp only [List.flatten_cons, List.flatten_nil, List.append_nil, List.nil_append, List.append_assoc]) hDs
        clear hPs hDs
        refine lv_aload_n hx hb dX7_image_31 rfl (lv_at hl 0 rfl) ?_
        refine va_get (D := (dC, dI)) (ci := 7) (v := .ref (aX 2)) (C := RX7) (T := TX7) (N := 11) hx hb hts iwX7_image_X7 hown hK hP 0 rfl rfl 7 (by decide) (hts _ (List.mem_of_getElem? (i := 4) rfl)) (fun _ h9 => h9) rfl dX7_image_32 ?_
        refine lv_iload_n hx hb dX7_image_35 rfl (lv_at hl 1 rfl) ?_
        refine lv_iconst (v := 1) hx hb dX7_image_36 (by decide) ?_
        obtain ⟨hi, hM⟩ := gi_some hM
        refine st_z (wf := fun z => (wX ct aX xX_text xX_reader xX_sowing (aM 0) xX_book xX_ways xX_land xX_draft (aI0 0) (aI1 0) (aI2 0) z ++ wM ct aM mM ++ wM ct aI0 mI0_8 ++ wM ct aI1 mI1 ++ wM ct aI2 mI2)) (m1 := upi mX 2 v1.toNatClampNeg (1 : Int32)) hx hb hK hP hD hS 2 rfl hi dX7_image_37 rfl (fun mX_11 emX_11 H locs hP hD hS => ?_)
        have hM := nm_at emX_11 hM
        refine lv_iconst (v := 1) hx hb dX7_image_38 (by decide) ?_
        have hR := som hM
        rw [hR] at hQ
        exact ret_z hQ hx hb hr hlocks rfl hP hK hD hS dX7_image_39
      · have hM := it_n hc_6 hM
        by_cases hc_7 : v1 = 1
        · have hM := it_p hc_7 hM
          refine va_aldq (C := "MoonDebts$Market") hx hb hK hP 1 4 rfl rfl hi dX7_image_23 ?_
          refine W.eq (g2 := F0 m 24 ls [.ref (aI1 0)]) (by rw [hc_7]; rfl) ?_
          refine lv_aload_n hx hb dX7_image_24 rfl (lv_at hl 0 rfl) ?_
          refine va_get (D := (dC, dI)) (ci := 7) (v := .ref (aM 0)) (C := RX7) (T := TX7) (N := 11) hx hb hts iwX7_image_X7 hown hK hP 0 rfl rfl 3 (by decide) (hts _ (List.mem_of_getElem? (i := 3) rfl)) (fun _ h9 => h9) rfl dX7_image_25 ?_
          obtain ⟨mI1_12, hr_13, hM⟩ := bn_some hM
          have hPs := pm_P (ws' := (wM ct aI1 mI1 ++ wM ct aM mM) ++ (wX ct aX xX_text xX_reader xX_sowing (aM 0) xX_book xX_ways xX_land xX_draft (aI0 0) (aI1 0) (aI2 0) mX ++ wM ct aI0 mI0 ++ wM ct aI2 mI2)) [wX ct aX xX_text xX_reader xX_sowing (aM 0) xX_book xX_ways xX_land xX_draft (aI0 0) (aI1 0) (aI2 0) mX, wM ct aM mM, wM ct aI0 mI0, wM ct aI1 mI1, wM ct aI2 mI2] [3, 1, 0, 2, 4] (show List.Perm [3, 1, 0, 2, 4] (List.range 5) from by decide) (by simp only [List.flatten_cons, List.flatten_nil, List.append_nil, List.nil_append, List.append_assoc]) (by show List.flatten [wM ct aI1 mI1, wM ct aM mM, wX ct aX xX_text xX_reader xX_sowing (aM 0) xX_book xX_ways xX_land xX_draft (aI0 0) (aI1 0) (aI2 0) mX, wM ct aI0 mI0, wM ct aI2 mI2] = _; simp only [List.flatten_cons, List.flatten_nil, List.append_nil, List.nil_append, List.append_assoc]) hP
          have hDs := pm_D (ws' := (wM ct aI1 mI1 ++ wM ct aM mM) ++ (wX ct aX xX_text xX_reader xX_sowing (aM 0) xX_book xX_ways xX_land xX_draft (aI0 0) (aI1 0) (aI2 0) mX ++ wM ct aI0 mI0 ++ wM ct aI2 mI2)) [wX ct aX xX_text xX_reader xX_sowing (aM 0) xX_book xX_ways xX_land xX_draft (aI0 0) (aI1 0) (aI2 0) mX, wM ct aM mM, wM ct aI0 mI0, wM ct aI1 mI1, wM ct aI2 mI2] [3, 1, 0, 2, 4] (show List.Perm [3, 1, 0, 2, 4] (List.range 5) from by decide) (by simp only [List.flatten_cons, List.flatten_nil, List.append_nil, List.nil_append, List.append_assoc]) (by show List.flatten [wM ct aI1 mI1, wM ct aM mM, wX ct aX xX_text xX_reader xX_sowing (aM 0) xX_book xX_ways xX_land xX_draft (aI0 0) (aI1 0) (aI2 0) mX, wM ct aI0 mI0, wM ct aI2 mI2] = _; simp only [List.flatten_cons, List.flatten_nil, List.append_nil, List.nil_append, List.append_assoc]) hD
          refine sp_v (wr := (wX ct aX xX_text xX_reader xX_sowing (aM 0) xX_book xX_ways xX_land xX_draft (aI0 0) (aI1 0) (aI2 0) mX ++ wM ct aI0 mI0 ++ wM ct aI2 mI2)) (va_runV (As := [.ref (aM 0)]) (rest := []) ⟨hx, hb, hml, hown, hts⟩ (kX2_copyFrom l dC dI ct aI1 aM _ mI1 mM _ hr_13) (cwV 1 hts gX7_image_X2_copyFrom rfl rfl rfl hvX2_copyFrom ⟨Nat.le_of_ble_eq_true rfl, Nat.le_of_ble_eq_true rfl⟩) (sp_preV E0_ok hK hPs hDs rfl (ci := 2) rfl 0 rfl e_0) rfl rfl hl.1 rfl (lv_room (Nat.le_of_ble_eq_true rfl)) dX7_image_28 ⟨Nat.le_of_ble_eq_true rfl, Nat.le_of_ble_eq_true rfl⟩) hPs hDs hS hA (fun H locs hPs hDs hS => ?_)
          replace hPs : va_P (dC, dI) vwCl ((wM ct aI1 mI1_12 ++ wM ct aM mM) ++ (wX ct aX xX_text xX_reader xX_sowing (aM 0) xX_book xX_ways xX_land xX_draft (aI0 0) (aI1 0) (aI2 0) mX ++ wM ct aI0 mI0 ++ wM ct aI2 mI2)) H := hPs
          replace hDs : va_D A ((wM ct aI1 mI1_12 ++ wM ct aM mM) ++ (wX ct aX xX_text xX_reader xX_sowing (aM 0) xX_book xX_ways xX_land xX_draft (aI0 0) (aI1 0) (aI2 0) mX ++ wM ct aI0 mI0 ++ wM ct aI2 mI2)) := hDs
          have hP := pm_P (ws' := (wX ct aX xX_text xX_reader xX_sowing (aM 0) xX_book xX_ways xX_land xX_draft (aI0 0) (aI1 0) (aI2 0) mX ++ wM ct aM mM ++ wM ct aI0 mI0 ++ wM ct aI1 mI1_12 ++ wM ct aI2 mI2)) [wM ct aI1 mI1_12, wM ct aM mM, wX ct aX xX_text xX_reader xX_sowing (aM 0) xX_book xX_ways xX_land xX_draft (aI0 0) (aI1 0) (aI2 0) mX, wM ct aI0 mI0, wM ct aI2 mI2] [2, 1, 3, 0, 4] (show List.Perm [2, 1, 3, 0, 4] (List.range 5) from by decide) (by simp only [List.flatten_cons, List.flatten_nil, List.append_nil, List.nil_append, List.append_assoc]) (by show List.flatten [wX ct aX xX_text xX_reader xX_sowing (aM 0) xX_book xX_ways xX_land xX_draft (aI0 0) (aI1 0) (aI2 0) mX, wM ct aM mM, wM ct aI0 mI0, wM ct aI1 mI1_12, wM ct aI2 mI2] = _; simp only [List.flatten_cons, List.flatten_nil, List.append_nil, List.nil_append, List.append_assoc]) hPs
          have hD := pm_D (ws' := (wX ct aX xX_text xX_reader xX_sowing (aM 0) xX_book xX_ways xX_land xX_draft (aI0 0) (aI1 0) (aI2 0) mX ++ wM ct aM mM ++ wM ct aI0 mI0 ++ wM ct aI1 mI1_12 ++ wM ct aI2 mI2)) [wM ct aI1 mI1_12, wM ct aM mM, wX ct aX xX_text xX_reader xX_sowing (aM 0) xX_book xX_ways xX_land xX_draft (aI0 0) (aI1 0) (aI2 0) mX, wM ct aI0 mI0, wM ct aI2 mI2] [2, 1, 3, 0, 4] (show List.Perm [2, 1, 3, 0, 4] (List.range 5) from by decide) (by simp only [List.flatten_cons, List.flatten_nil, List.append_nil, List.nil_append, List.append_assoc]) (by show List.flatten [wX ct aX xX_text xX_reader xX_sowing (aM 0) xX_book xX_ways xX_land xX_draft (aI0 0) (aI1 0) (aI2 0) mX, wM ct aM mM, wM ct aI0 mI0, wM ct aI1 mI1_12, wM ct aI2 mI2] = _; simp only [List.flatten_cons, List.flatten_nil, List.append_nil, List.nil_append, List.append_assoc]) hDs
          clear hPs hDs
          refine lv_aload_n hx hb dX7_image_31 rfl (lv_at hl 0 rfl) ?_
          refine va_get (D := (dC, dI)) (ci := 7) (v := .ref (aX 2)) (C := RX7) (T := TX7) (N := 11) hx hb hts iwX7_image_X7 hown hK hP 0 rfl rfl 7 (by decide) (hts _ (List.mem_of_getElem? (i := 4) rfl)) (fun _ h9 => h9) rfl dX7_image_32 ?_
          refine lv_iload_n hx hb dX7_image_35 rfl (lv_at hl 1 rfl) ?_
          refine lv_iconst (v := 1) hx hb dX7_image_36 (by decide) ?_
          obtain ⟨hi, hM⟩ := gi_some hM
          refine st_z (wf := fun z => (wX ct aX xX_text xX_reader xX_sowing (aM 0) xX_book xX_ways xX_land xX_draft (aI0 0) (aI1 0) (aI2 0) z ++ wM ct aM mM ++ wM ct aI0 mI0 ++ wM ct aI1 mI1_12 ++ wM ct aI2 mI2)) (m1 := upi mX 2 v1.toNatClampNeg (1 : Int32)) hx hb hK hP hD hS 2 rfl hi dX7_image_37 rfl (fun mX_15 emX_15 H locs hP hD hS => ?_)
          have hM := nm_at emX_15 hM
          refine lv_iconst (v := 1) hx hb dX7_image_38 (by decide) ?_
          have hR := som hM
          rw [hR] at hQ
          exact ret_z hQ hx hb hr hlocks rfl hP hK hD hS dX7_image_39
        · have hM := it_n hc_7 hM
          have hc2 := in3 hi hc_6 hc_7
          refine va_aldq (C := "MoonDebts$Market") hx hb hK hP 1 4 rfl rfl hi dX7_image_23 ?_
          refine W.eq (g2 := F0 m 24 ls [.ref (aI2 0)]) (by rw [hc2]; rfl) ?_
          refine lv_aload_n hx hb dX7_image_24 rfl (lv_at hl 0 rfl) ?_
          refine va_get (D := (dC, dI)) (ci := 7) (v := .ref (aM 0)) (C := RX7) (T := TX7) (N := 11) hx hb hts iwX7_image_X7 hown hK hP 0 rfl rfl 3 (by decide) (hts _ (List.mem_of_getElem? (i := 3) rfl)) (fun _ h9 => h9) rfl dX7_image_25 ?_
          obtain ⟨mI2_16, hr_17, hM⟩ := bn_some hM
          have hPs := pm_P (ws' := (wM ct aI2 mI2 ++ wM ct aM mM) ++ (wX ct aX xX_text xX_reader xX_sowing (aM 0) xX_book xX_ways xX_land xX_draft (aI0 0) (aI1 0) (aI2 0) mX ++ wM ct aI0 mI0 ++ wM ct aI1 mI1)) [wX ct aX xX_text xX_reader xX_sowing (aM 0) xX_book xX_ways xX_land xX_draft (aI0 0) (aI1 0) (aI2 0) mX, wM ct aM mM, wM ct aI0 mI0, wM ct aI1 mI1, wM ct aI2 mI2] [4, 1, 0, 2, 3] (show List.Perm [4, 1, 0, 2, 3] (List.range 5) from by decide) (by simp only [List.flatten_cons, List.flatten_nil, List.append_nil, List.nil_append, List.append_assoc]) (by show List.flatten [wM ct aI2 mI2, wM ct aM mM, wX ct aX xX_text xX_reader xX_sowing (aM 0) xX_book xX_ways xX_land xX_draft (aI0 0) (aI1 0) (aI2 0) mX, wM ct aI0 mI0, wM ct aI1 mI1] = _; simp only [List.flatten_cons, List.flatten_nil, List.append_nil, List.nil_append, List.append_assoc]) hP
          have hDs := pm_D (ws' := (wM ct aI2 mI2 ++ wM ct aM mM) ++ (wX ct aX xX_text xX_reader xX_sowing (aM 0) xX_book xX_ways xX_land xX_draft (aI0 0) (aI1 0) (aI2 0) mX ++ wM ct aI0 mI0 ++ wM ct aI1 mI1)) [wX ct aX xX_text xX_reader xX_sowing (aM 0) xX_book xX_ways xX_land xX_draft (aI0 0) (aI1 0) (aI2 0) mX, wM ct aM mM, wM ct aI0 mI0, wM ct aI1 mI1, wM ct aI2 mI2] [4, 1, 0, 2, 3] (show List.Perm [4, 1, 0, 2, 3] (List.range 5) from by decide) (by simp only [List.flatten_cons, List.flatten_nil, List.append_nil, List.nil_append, List.append_assoc]) (by show List.flatten [wM ct aI2 mI2, wM ct aM mM, wX ct aX xX_text xX_reader xX_sowing (aM 0) xX_book xX_ways xX_land xX_draft (aI0 0) (aI1 0) (aI2 0) mX, wM ct aI0 mI0, wM ct aI1 mI1] = _; simp only [List.flatten_cons, List.flatten_nil, List.append_nil, List.nil_append, List.append_assoc]) hD
          refine sp_v (wr := (wX ct aX xX_text xX_reader xX_sowing (aM 0) xX_book xX_ways xX_land xX_draft (aI0 0) (aI1 0) (aI2 0) mX ++ wM ct aI0 mI0 ++ wM ct aI1 mI1)) (va_runV (As := [.ref (aM 0)]) (rest := []) ⟨hx, hb, hml, hown, hts⟩ (kX2_copyFrom l dC dI ct aI2 aM _ mI2 mM _ hr_17) (cwV 1 hts gX7_image_X2_copyFrom rfl rfl rfl hvX2_copyFrom ⟨Nat.le_of_ble_eq_true rfl, Nat.le_of_ble_eq_true rfl⟩) (sp_preV E0_ok hK hPs hDs rfl (ci := 2) rfl 0 rfl e_0) rfl rfl hl.1 rfl (lv_room (Nat.le_of_ble_eq_true rfl)) dX7_image_28 ⟨Nat.le_of_ble_eq_true rfl, Nat.le_of_ble_eq_true rfl⟩) hPs hDs hS hA (fun H locs hPs hDs hS => ?_)
          replace hPs : va_P (dC, dI) vwCl ((wM ct aI2 mI2_16 ++ wM ct aM mM) ++ (wX ct aX xX_text xX_reader xX_sowing (aM 0) xX_book xX_ways xX_land xX_draft (aI0 0) (aI1 0) (aI2 0) mX ++ wM ct aI0 mI0 ++ wM ct aI1 mI1)) H := hPs
          replace hDs : va_D A ((wM ct aI2 mI2_16 ++ wM ct aM mM) ++ (wX ct aX xX_text xX_reader xX_sowing (aM 0) xX_book xX_ways xX_land xX_draft (aI0 0) (aI1 0) (aI2 0) mX ++ wM ct aI0 mI0 ++ wM ct aI1 mI1)) := hDs
          have hP := pm_P (ws' := (wX ct aX xX_text xX_reader xX_sowing (aM 0) xX_book xX_ways xX_land xX_draft (aI0 0) (aI1 0) (aI2 0) mX ++ wM ct aM mM ++ wM ct aI0 mI0 ++ wM ct aI1 mI1 ++ wM ct aI2 mI2_16)) [wM ct aI2 mI2_16, wM ct aM mM, wX ct aX xX_text xX_reader xX_sowing (aM 0) xX_book xX_ways xX_land xX_draft (aI0 0) (aI1 0) (aI2 0) mX, wM ct aI0 mI0, wM ct aI1 mI1] [2, 1, 3, 4, 0] (show List.Perm [2, 1, 3, 4, 0] (List.range 5) from by decide) (by simp only [List.flatten_cons, List.flatten_nil, List.append_nil, List.nil_append, List.append_assoc]) (by show List.flatten [wX ct aX xX_text xX_reader xX_sowing (aM 0) xX_book xX_ways xX_land xX_draft (aI0 0) (aI1 0) (aI2 0) mX, wM ct aM mM, wM ct aI0 mI0, wM ct aI1 mI1, wM ct aI2 mI2_16] = _; simp only [List.flatten_cons, List.flatten_nil, List.append_nil, List.nil_append, List.append_assoc]) hPs
          have hD := pm_D (ws' := (wX ct aX xX_text xX_reader xX_sowing (aM 0) xX_book xX_ways xX_land xX_draft (aI0 0) (aI1 0) (aI2 0) mX ++ wM ct aM mM ++ wM ct aI0 mI0 ++ wM ct aI1 mI1 ++ wM ct aI2 mI2_16)) [wM ct aI2 mI2_16, wM ct aM mM, wX ct aX xX_text xX_reader xX_sowing (aM 0) xX_book xX_ways xX_land xX_draft (aI0 0) (aI1 0) (aI2 0) mX, wM ct aI0 mI0, wM ct aI1 mI1] [2, 1, 3, 4, 0] (show List.Perm [2, 1, 3, 4, 0] (List.range 5) from by decide) (by simp only [List.flatten_cons, List.flatten_nil, List.append_nil, List.nil_append, List.append_assoc]) (by show List.flatten [wX ct aX xX_text xX_reader xX_sowing (aM 0) xX_book xX_ways xX_land xX_draft (aI0 0) (aI1 0) (aI2 0) mX, wM ct aM mM, wM ct aI0 mI0, wM ct aI1 mI1, wM ct aI2 mI2_16] = _; simp only [List.flatten_cons, List.flatten_nil, List.append_nil, List.nil_append, List.append_assoc]) hDs
          clear hPs hDs
          refine lv_aload_n hx hb dX7_image_31 rfl (lv_at hl 0 rfl) ?_
          refine va_get (D := (dC, dI)) (ci := 7) (v := .ref (aX 2)) (C := RX7) (T := TX7) (N := 11) hx hb hts iwX7_image_X7 hown hK hP 0 rfl rfl 7 (by decide) (hts _ (List.mem_of_getElem? (i := 4) rfl)) (fun _ h9 => h9) rfl dX7_image_32 ?_
          refine lv_iload_n hx hb dX7_image_35 rfl (lv_at hl 1 rfl) ?_
          refine lv_iconst (v := 1) hx hb dX7_image_36 (by decide) ?_
          obtain ⟨hi, hM⟩ := gi_some hM
          refine st_z (wf := fun z => (wX ct aX xX_text xX_reader xX_sowing (aM 0) xX_book xX_ways xX_land xX_draft (aI0 0) (aI1 0) (aI2 0) z ++ wM ct aM mM ++ wM ct aI0 mI0 ++ wM ct aI1 mI1 ++ wM ct aI2 mI2_16)) (m1 := upi mX 2 v1.toNatClampNeg (1 : Int32)) hx hb hK hP hD hS 2 rfl hi dX7_image_37 rfl (fun mX_19 emX_19 H locs hP hD hS => ?_)
          have hM := nm_at emX_19 hM
          refine lv_iconst (v := 1) hx hb dX7_image_38 (by decide) ?_
          have hR := som hM
          rw [hR] at hQ
          exact ret_z hQ hx hb hr hlocks rfl hP hK hD hS dX7_image_39
    · have hM := it_nn hc_5 hM
      refine lv_iconst (v := 0) hx hb dX7_image_16 (by decide) ?_
      have hR := som hM
      rw [hR] at hQ
      exact ret_z hQ hx hb hr hlocks rfl hP hK hD hS dX7_image_17
abbrev rmX7_on : Room := { frames := 2, cells := 0, slots := 0, locals := 85 }
theorem iwX7_on_X7 : ∀ w ∈ wsX70, w ∈ wsX7_on := fun _ h => List.mem_cons_of_mem _ (List.mem_append_left _ (List.mem_append_right _ (h)))
set_option maxHeartbeats 4000000 in
set_option maxRecDepth 100000 in
theorem kX7_on (l : Launch) (dC : Nat → ClassId) (dI : Nat → Nat → Nat) (ct : Nat → ClassId) (aX : Nat → Nat) (aM : Nat → Nat) (aI0 : Nat → Nat) (aI1 : Nat → Nat) (aI2 : Nat → Nat) (xX_text : Nat) (xX_reader : Nat) (xX_sowing : Nat) (xX_book : Nat) (xX_ways : Nat) (xX_land : Nat) (xX_draft : Nat) (sz : Nat) (mX : Mem) (mM : Mem) (mI0 : Mem) (mI1 : Mem) (mI2 : Mem) (v1 : Int32) (res : (Int32 × Mem)) (hM : mX7_on mX mM mI0 mI1 mI2 v1 = some res) : Met l yX7_on wsX7_on rmX7_on (va_Pc [.ref (aX 0), .int v1] (PB (dC, dI) ct E0 sz (wX ct aX xX_text xX_reader xX_sowing (aM 0) xX_book xX_ways xX_land xX_draft (aI0 0) (aI1 0) (aI2 0) mX ++ wM ct aM mM ++ wM ct aI0 mI0 ++ wM ct aI1 mI1 ++ wM ct aI2 mI2))) (Qi (dC, dI) ct (va_A (wX ct aX xX_text xX_reader xX_sowing (aM 0) xX_book xX_ways xX_land xX_draft (aI0 0) (aI1 0) (aI2 0) mX ++ wM ct aM mM ++ wM ct aI0 mI0 ++ wM ct aI1 mI1 ++ wM ct aI2 mI2) sz) res.1 (wX ct aX xX_text xX_reader xX_sowing (aM 0) xX_book xX_ways xX_land xX_draft (aI0 0) (aI1 0) (aI2 0) mX ++ wM ct aM res.2 ++ wM ct aI0 mI0 ++ wM ct aI1 mI1 ++ wM ct aI2 mI2)) 0 0 (va_A (wX ct aX xX_text xX_reader xX_sowing (aM 0) xX_book xX_ways xX_land xX_draft (aI0 0) (aI1 0) (aI2 0) mX ++ wM ct aM mM ++ wM ct aI0 mI0 ++ wM ct aI1 mI1 ++ wM ct aI2 mI2) sz) := by
  refine Met.ofW (cc := cX7_on) (maxL := 2) (ret := (some .boolean)) (by decide) rfl ?_
  intro p e s m args below meth c s₁ B hml hv
  obtain ⟨hargs, hsz, hP, hK, hD0, hE⟩ := hv
  have hx := B.exec
  have hb := B.bytes
  have hr := B.returns
  have hts := atoms_spec (ws := wsX7_on) B.pre
  have hown : s.vm.findClass RX7 = some m.cls := findClass_of_methodNamed B.named
  have hlocks := B.notSynchronized
  clear B s₁
  subst hsz
  have hD := hD0.self (sz := s.heap.size)
  clear hD0
  generalize hAe : va_A (wX ct aX xX_text xX_reader xX_sowing (aM 0) xX_book xX_ways xX_land xX_draft (aI0 0) (aI1 0) (aI2 0) mX ++ wM ct aM mM ++ wM ct aI0 mI0 ++ wM ct aI1 mI1 ++ wM ct aI2 mI2) s.heap.size = A at hD hE ⊢
  have hA : ∀ q : Nat, s.heap.size ≤ q → A q := fun q h => by rw [← hAe]; exact Or.inr h
  clear hAe
  have hS : va_S A s.heap s.heap [] := va_S.rf
  refine cutQ (fun Q hQ => ?_)
  refine entryW (vs := [.ref (aX 0), .int v1]) hargs (Nat.le_of_ble_eq_true rfl) (fun ls hl => ?_)
  replace hl : lv_has ls 2 [(0, .ref (aX 0)), (1, .int v1)] := hl
  unfold mX7_on at hM
  refine lv_iload_n hx hb dX7_on_0 rfl (lv_at hl 1 rfl) ?_
  refine lv_iconst (v := 0) hx hb dX7_on_1 (by decide) ?_
  refine lv_iconst (v := 2) hx hb dX7_on_2 (by decide) ?_
  obtain ⟨x_1, hr_2, hM⟩ := bn_some hM
  have hPs := pm_P (ws' := ([] : va_W) ++ (wX ct aX xX_text xX_reader xX_sowing (aM 0) xX_book xX_ways xX_land xX_draft (aI0 0) (aI1 0) (aI2 0) mX ++ wM ct aM mM ++ wM ct aI0 mI0 ++ wM ct aI1 mI1 ++ wM ct aI2 mI2)) [wX ct aX xX_text xX_reader xX_sowing (aM 0) xX_book xX_ways xX_land xX_draft (aI0 0) (aI1 0) (aI2 0) mX, wM ct aM mM, wM ct aI0 mI0, wM ct aI1 mI1, wM ct aI2 mI2] [0, 1, 2, 3, 4] (show List.Perm [0, 1, 2, 3, 4] (List.range 5) from by decide) (by simp only [List.flatten_cons, List.flatten_nil, List.append_nil, List.nil_append, List.append_assoc]) (by show List.flatten [wX ct aX xX_text xX_reader xX_sowing (aM 0) xX_book xX_ways xX_land xX_draft (aI0 0) (aI1 0) (aI2 0) mX, wM ct aM mM, wM ct aI0 mI0, wM ct aI1 mI1, wM ct aI2 mI2] = _; simp only [List.flatten_cons, List.flatten_nil, List.append_nil, List.nil_append, List.append_assoc]) hP
  have hDs := pm_D (ws' := ([] : va_W) ++ (wX ct aX xX_text xX_reader xX_sowing (aM 0) xX_book xX_ways xX_land xX_draft (aI0 0) (aI1 0) (aI2 0) mX ++ wM ct aM mM ++ wM ct aI0 mI0 ++ wM ct aI1 mI1 ++ wM ct aI2 mI2)) [wX ct aX xX_text xX_reader xX_sowing (aM 0) xX_book xX_ways xX_land xX_draft (aI0 0) (aI1 0) (aI2 0) mX, wM ct aM mM, wM ct aI0 mI0, wM ct aI1 mI1, wM ct aI2 mI2] [0, 1, 2, 3, 4] (show List.Perm [0, 1, 2, 3, 4] (List.range 5) from by decide) (by simp only [List.flatten_cons, List.flatten_nil, List.append_nil, List.nil_append, List.append_assoc]) (by show List.flatten [wX ct aX xX_text xX_reader xX_sowing (aM 0) xX_book xX_ways xX_land xX_draft (aI0 0) (aI1 0) (aI2 0) mX, wM ct aM mM, wM ct aI0 mI0, wM ct aI1 mI1, wM ct aI2 mI2] = _; simp only [List.flatten_cons, List.flatten_nil, List.append_nil, List.nil_append, List.append_assoc]) hD
  refine sp_i (r0 := x_1) (wr := (wX ct aX xX_text xX_reader xX_sowing (aM 0) xX_book xX_ways xX_land xX_draft (aI0 0) (aI1 0) (aI2 0) mX ++ wM ct aM mM ++ wM ct aI0 mI0 ++ wM ct aI1 mI1 ++ wM ct aI2 mI2)) (va_runS (As := [.int v1, .int (0 : Int32), .int (2 : Int32)]) (rest := []) ⟨hx, hb, hml, hown, hts⟩ (kX7_isIn l dC dI ct _ v1 (0 : Int32) (2 : Int32) _ hr_2) (va_cwS 3 hts gX7_on_X7_isIn rfl rfl rfl hvX7_isIn.2 ⟨Nat.le_of_ble_eq_true rfl, Nat.le_of_ble_eq_true rfl⟩) (sp_preS E0_ok hK hPs hDs e_0) rfl rfl hl.1 rfl (lv_room (Nat.le_of_ble_eq_true rfl)) dX7_on_3 ⟨Nat.le_of_ble_eq_true rfl, Nat.le_of_ble_eq_true rfl⟩) hPs hDs hS hA (fun H locs hPs hDs hS => ?_)
  replace hPs : va_P (dC, dI) vwCl (([] : va_W) ++ (wX ct aX xX_text xX_reader xX_sowing (aM 0) xX_book xX_ways xX_land xX_draft (aI0 0) (aI1 0) (aI2 0) mX ++ wM ct aM mM ++ wM ct aI0 mI0 ++ wM ct aI1 mI1 ++ wM ct aI2 mI2)) H := hPs
  replace hDs : va_D A (([] : va_W) ++ (wX ct aX xX_text xX_reader xX_sowing (aM 0) xX_book xX_ways xX_land xX_draft (aI0 0) (aI1 0) (aI2 0) mX ++ wM ct aM mM ++ wM ct aI0 mI0 ++ wM ct aI1 mI1 ++ wM ct aI2 mI2)) := hDs
  have hP := pm_P (ws' := (wX ct aX xX_text xX_reader xX_sowing (aM 0) xX_book xX_ways xX_land xX_draft (aI0 0) (aI1 0) (aI2 0) mX ++ wM ct aM mM ++ wM ct aI0 mI0 ++ wM ct aI1 mI1 ++ wM ct aI2 mI2)) [wX ct aX xX_text xX_reader xX_sowing (aM 0) xX_book xX_ways xX_land xX_draft (aI0 0) (aI1 0) (aI2 0) mX, wM ct aM mM, wM ct aI0 mI0, wM ct aI1 mI1, wM ct aI2 mI2] [0, 1, 2, 3, 4] (show List.Perm [0, 1, 2, 3, 4] (List.range 5) from by decide) (by simp only [List.flatten_cons, List.flatten_nil, List.append_nil, List.nil_append, List.append_assoc]) (by show List.flatten [wX ct aX xX_text xX_reader xX_sowing (aM 0) xX_book xX_ways xX_land xX_draft (aI0 0) (aI1 0) (aI2 0) mX, wM ct aM mM, wM ct aI0 mI0, wM ct aI1 mI1, wM ct aI2 mI2] = _; simp only [List.flatten_cons, List.flatten_nil, List.append_nil, List.nil_append, List.append_assoc]) hPs
  have hD := pm_D (ws' := (wX ct aX xX_text xX_reader xX_sowing (aM 0) xX_book xX_ways xX_land xX_draft (aI0 0) (aI1 0) (aI2 0) mX ++ wM ct aM mM ++ wM ct aI0 mI0 ++ wM ct aI1 mI1 ++ wM ct aI2 mI2)) [wX ct aX xX_text xX_reader xX_sowing (aM 0) xX_book xX_ways xX_land xX_draft (aI0 0) (aI1 0) (aI2 0) mX, wM ct aM mM, wM ct aI0 mI0, wM ct aI1 mI1, wM ct aI2 mI2] [0, 1, 2, 3, 4] (show List.Perm [0, 1, 2, 3, 4] (List.range 5) from by decide) (by simp only [List.flatten_cons, List.flatten_nil, List.append_nil, List.nil_append, List.append_assoc]) (by show List.flatten [wX ct aX xX_text xX_reader xX_sowing (aM 0) xX_book xX_ways xX_land xX_draft (aI0 0) (aI1 0) (aI2 0) mX, wM ct aM mM, wM ct aI0 mI0, wM ct aI1 mI1, wM ct aI2 mI2] = _; simp only [List.flatten_cons, List.flatten_nil, List.append_nil, List.nil_append, List.append_assoc]) hDs
  clear hPs hDs
  refine lv_if_eq (tgt := 18) hx hb dX7_on_6 (by decide) (fun hc_4 => ?_) (fun hc_4 => ?_)
  · have hM := it_p hc_4 hM
    refine lv_iconst (v := 0) hx hb dX7_on_18 (by decide) ?_
    have hR := som hM
    rw [hR] at hQ
    exact ret_z hQ hx hb hr hlocks rfl hP hK hD hS dX7_on_19
  · have hM := it_n hc_4 hM
    refine lv_aload_n hx hb dX7_on_9 rfl (lv_at hl 0 rfl) ?_
    refine va_get (D := (dC, dI)) (ci := 7) (v := .ref (aX 2)) (C := RX7) (T := TX7) (N := 11) hx hb hts iwX7_on_X7 hown hK hP 0 rfl rfl 7 (by decide) (hts _ (List.mem_of_getElem? (i := 1) rfl)) (fun _ h9 => h9) rfl dX7_on_10 ?_
    refine lv_iload_n hx hb dX7_on_13 rfl (lv_at hl 1 rfl) ?_
    obtain ⟨hi, hM⟩ := gi_some hM
    refine va_zald hx hb hK hP 2 2 rfl rfl hi dX7_on_14 ?_
    refine lv_if_ne (tgt := 20) hx hb dX7_on_15 (by decide) (fun hc_5 => ?_) (fun hc_5 => ?_)
    · have hM := it_p hc_5 hM
      refine lv_aload_n hx hb dX7_on_20 rfl (lv_at hl 0 rfl) ?_
      refine va_get (D := (dC, dI)) (ci := 7) (v := .ref (aM 0)) (C := RX7) (T := TX7) (N := 11) hx hb hts iwX7_on_X7 hown hK hP 0 rfl rfl 3 (by decide) (hts _ (List.mem_of_getElem? (i := 2) rfl)) (fun _ h9 => h9) rfl dX7_on_21 ?_
      refine lv_aload_n hx hb dX7_on_24 rfl (lv_at hl 0 rfl) ?_
      refine va_get (D := (dC, dI)) (ci := 7) (v := .ref (aX 1)) (C := RX7) (T := TX7) (N := 11) hx hb hts iwX7_on_X7 hown hK hP 0 rfl rfl 6 (by decide) (hts _ (List.mem_of_getElem? (i := 3) rfl)) (fun _ h9 => h9) rfl dX7_on_25 ?_
      refine lv_iload_n hx hb dX7_on_28 rfl (lv_at hl 1 rfl) ?_
      obtain ⟨hi, hM⟩ := gi_some hM
      by_cases hc_6 : v1 = 0
      · have hM := it_p hc_6 hM
        refine va_aldq (C := "MoonDebts$Market") hx hb hK hP 1 4 rfl rfl hi dX7_on_29 ?_
        refine W.eq (g2 := F0 m 30 ls [.ref (aI0 0), .ref (aM 0)]) (by rw [hc_6]; rfl) ?_
        obtain ⟨mM_8, hr_9, hM⟩ := bn_some hM
        have hPs := pm_P (ws' := (wM ct aM mM ++ wM ct aI0 mI0) ++ (wX ct aX xX_text xX_reader xX_sowing (aM 0) xX_book xX_ways xX_land xX_draft (aI0 0) (aI1 0) (aI2 0) mX ++ wM ct aI1 mI1 ++ wM ct aI2 mI2)) [wX ct aX xX_text xX_reader xX_sowing (aM 0) xX_book xX_ways xX_land xX_draft (aI0 0) (aI1 0) (aI2 0) mX, wM ct aM mM, wM ct aI0 mI0, wM ct aI1 mI1, wM ct aI2 mI2] [1, 2, 0, 3, 4] (show List.Perm [1, 2, 0, 3, 4] (List.range 5) from by decide) (by simp only [List.flatten_cons, List.flatten_nil, List.append_nil, List.nil_append, List.append_assoc]) (by show List.flatten [wM ct aM mM, wM ct aI0 mI0, wX ct aX xX_text xX_reader xX_sowing (aM 0) xX_book xX_ways xX_land xX_draft (aI0 0) (aI1 0) (aI2 0) mX, wM ct aI1 mI1, wM ct aI2 mI2] = _; simp only [List.flatten_cons, List.flatten_nil, List.append_nil, List.nil_append, List.append_assoc]) hP
        have hDs := pm_D (ws' := (wM ct aM mM ++ wM ct aI0 mI0) ++ (wX ct aX xX_text xX_reader xX_sowing (aM 0) xX_book xX_ways xX_land xX_draft (aI0 0) (aI1 0) (aI2 0) mX ++ wM ct aI1 mI1 ++ wM ct aI2 mI2)) [wX ct aX xX_text xX_reader xX_sowing (aM 0) xX_book xX_ways xX_land xX_draft (aI0 0) (aI1 0) (aI2 0) mX, wM ct aM mM, wM ct aI0 mI0, wM ct aI1 mI1, wM ct aI2 mI2] [1, 2, 0, 3, 4] (show List.Perm [1, 2, 0, 3, 4] (List.range 5) from by decide) (by simp only [List.flatten_cons, List.flatten_nil, List.append_nil, List.nil_append, List.append_assoc]) (by show List.flatten [wM ct aM mM, wM ct aI0 mI0, wX ct aX xX_text xX_reader xX_sowing (aM 0) xX_book xX_ways xX_land xX_draft (aI0 0) (aI1 0) (aI2 0) mX, wM ct aI1 mI1, wM ct aI2 mI2] = _; simp only [List.flatten_cons, List.flatten_nil, List.append_nil, List.nil_append, List.append_assoc]) hD
        refine sp_v (wr := (wX ct aX xX_text xX_reader xX_sowing (aM 0) xX_book xX_ways xX_land xX_draft (aI0 0) (aI1 0) (aI2 0) mX ++ wM ct aI1 mI1 ++ wM ct aI2 mI2)) (va_runV (As := [.ref (aI0 0)]) (rest := []) ⟨hx, hb, hml, hown, hts⟩ (kX2_copyFrom l dC dI ct aM aI0 _ mM mI0 _ hr_9) (cwV 1 hts gX7_on_X2_copyFrom rfl rfl rfl hvX2_copyFrom ⟨Nat.le_of_ble_eq_true rfl, Nat.le_of_ble_eq_true rfl⟩) (sp_preV E0_ok hK hPs hDs rfl (ci := 2) rfl 0 rfl e_0) rfl rfl hl.1 rfl (lv_room (Nat.le_of_ble_eq_true rfl)) dX7_on_30 ⟨Nat.le_of_ble_eq_true rfl, Nat.le_of_ble_eq_true rfl⟩) hPs hDs hS hA (fun H locs hPs hDs hS => ?_)
        replace hPs : va_P (dC, dI) vwCl ((wM ct aM mM_8 ++ wM ct aI0 mI0) ++ (wX ct aX xX_text xX_reader xX_sowing (aM 0) xX_book xX_ways xX_land xX_draft (aI0 0) (aI1 0) (aI2 0) mX ++ wM ct aI1 mI1 ++ wM ct aI2 mI2)) H := hPs
        replace hDs : va_D A ((wM ct aM mM_8 ++ wM ct aI0 mI0) ++ (wX ct aX xX_text xX_reader xX_sowing (aM 0) xX_book xX_ways xX_land xX_draft (aI0 0) (aI1 0) (aI2 0) mX ++ wM ct aI1 mI1 ++ wM ct aI2 mI2)) := hDs
        have hP := pm_P (ws' := (wX ct aX xX_text xX_reader xX_sowing (aM 0) xX_book xX_ways xX_land xX_draft (aI0 0) (aI1 0) (aI2 0) mX ++ wM ct aM mM_8 ++ wM ct aI0 mI0 ++ wM ct aI1 mI1 ++ wM ct aI2 mI2)) [wM ct aM mM_8, wM ct aI0 mI0, wX ct aX xX_text xX_reader xX_sowing (aM 0) xX_book xX_ways xX_land xX_draft (aI0 0) (aI1 0) (aI2 0) mX, wM ct aI1 mI1, wM ct aI2 mI2] [2, 0, 1, 3, 4] (show List.Perm [2, 0, 1, 3, 4] (List.range 5) from by decide) (by simp only [List.flatten_cons, List.flatten_nil, List.append_nil, List.nil_append, List.append_assoc]) (by show List.flatten [wX ct aX xX_text xX_reader xX_sowing (aM 0) xX_book xX_ways xX_land xX_draft (aI0 0) (aI1 0) (aI2 0) mX, wM ct aM mM_8, wM ct aI0 mI0, wM ct aI1 mI1, wM ct aI2 mI2] = _; simp only [List.flatten_cons, List.flatten_nil, List.append_nil, List.nil_append, List.append_assoc]) hPs
        have hD := pm_D (ws' := (wX ct aX xX_text xX_reader xX_sowing (aM 0) xX_book xX_ways xX_land xX_draft (aI0 0) (aI1 0) (aI2 0) mX ++ wM ct aM mM_8 ++ wM ct aI0 mI0 ++ wM ct aI1 mI1 ++ wM ct aI2 mI2)) [wM ct aM mM_8, wM ct aI0 mI0, wX ct aX xX_text xX_reader xX_sowing (aM 0) xX_book xX_ways xX_land xX_draft (aI0 0) (aI1 0) (aI2 0) mX, wM ct aI1 mI1, wM ct aI2 mI2] [2, 0, 1, 3, 4] (show List.Perm [2, 0, 1, 3, 4] (List.range 5) from by decide) (by simp only [List.flatten_cons, List.flatten_nil, List.append_nil, List.nil_append, List.append_assoc]) (by show List.flatten [wX ct aX xX_text xX_reader xX_sowing (aM 0) xX_book xX_ways xX_land xX_draft (aI0 0) (aI1 0) (aI2 0) mX, wM ct aM mM_8, wM ct aI0 mI0, wM ct aI1 mI1, wM ct aI2 mI2] = _; simp only [List.flatten_cons, List.flatten_nil, List.append_nil, List.nil_append, List.append_assoc]) hDs
        clear hPs hDs
        refine lv_iconst (v := 1) hx hb dX7_on_33 (by decide) ?_
        have hR := som hM
        rw [hR] at hQ
        exact ret_z hQ hx hb hr hlocks rfl hP hK hD hS dX7_on_34
      · have hM := it_n hc_6 hM
        by_cases hc_7 : v1 = 1
        · have hM := it_p hc_7 hM
          refine va_aldq (C := "MoonDebts$Market") hx hb hK hP 1 4 rfl rfl hi dX7_on_29 ?_
          refine W.eq (g2 := F0 m 30 ls [.ref (aI1 0), .ref (aM 0)]) (by rw [hc_7]; rfl) ?_
          obtain ⟨mM_11, hr_12, hM⟩ := bn_some hM
          have hPs := pm_P (ws' := (wM ct aM mM ++ wM ct aI1 mI1) ++ (wX ct aX xX_text xX_reader xX_sowing (aM 0) xX_book xX_ways xX_land xX_draft (aI0 0) (aI1 0) (aI2 0) mX ++ wM ct aI0 mI0 ++ wM ct aI2 mI2)) [wX ct aX xX_text xX_reader xX_sowing (aM 0) xX_book xX_ways xX_land xX_draft (aI0 0) (aI1 0) (aI2 0) mX, wM ct aM mM, wM ct aI0 mI0, wM ct aI1 mI1, wM ct aI2 mI2] [1, 3, 0, 2, 4] (show List.Perm [1, 3, 0, 2, 4] (List.range 5) from by decide) (by simp only [List.flatten_cons, List.flatten_nil, List.append_nil, List.nil_append, List.append_assoc]) (by show List.flatten [wM ct aM mM, wM ct aI1 mI1, wX ct aX xX_text xX_reader xX_sowing (aM 0) xX_book xX_ways xX_land xX_draft (aI0 0) (aI1 0) (aI2 0) mX, wM ct aI0 mI0, wM ct aI2 mI2] = _; simp only [List.flatten_cons, List.flatten_nil, List.append_nil, List.nil_append, List.append_assoc]) hP
          have hDs := pm_D (ws' := (wM ct aM mM ++ wM ct aI1 mI1) ++ (wX ct aX xX_text xX_reader xX_sowing (aM 0) xX_book xX_ways xX_land xX_draft (aI0 0) (aI1 0) (aI2 0) mX ++ wM ct aI0 mI0 ++ wM ct aI2 mI2)) [wX ct aX xX_text xX_reader xX_sowing (aM 0) xX_book xX_ways xX_land xX_draft (aI0 0) (aI1 0) (aI2 0) mX, wM ct aM mM, wM ct aI0 mI0, wM ct aI1 mI1, wM ct aI2 mI2] [1, 3, 0, 2, 4] (show List.Perm [1, 3, 0, 2, 4] (List.range 5) from by decide) (by simp only [List.flatten_cons, List.flatten_nil, List.append_nil, List.nil_append, List.append_assoc]) (by show List.flatten [wM ct aM mM, wM ct aI1 mI1, wX ct aX xX_text xX_reader xX_sowing (aM 0) xX_book xX_ways xX_land xX_draft (aI0 0) (aI1 0) (aI2 0) mX, wM ct aI0 mI0, wM ct aI2 mI2] = _; simp only [List.flatten_cons, List.flatten_nil, List.append_nil, List.nil_append, List.append_assoc]) hD
          refine sp_v (wr := (wX ct aX xX_text xX_reader xX_sowing (aM 0) xX_book xX_ways xX_land xX_draft (aI0 0) (aI1 0) (aI2 0) mX ++ wM ct aI0 mI0 ++ wM ct aI2 mI2)) (va_runV (As := [.ref (aI1 0)]) (rest := []) ⟨hx, hb, hml, hown, hts⟩ (kX2_copyFrom l dC dI ct aM aI1 _ mM mI1 _ hr_12) (cwV 1 hts gX7_on_X2_copyFrom rfl rfl rfl hvX2_copyFrom ⟨Nat.le_of_ble_eq_true rfl, Nat.le_of_ble_eq_true rfl⟩) (sp_preV E0_ok hK hPs hDs rfl (ci := 2) rfl 0 rfl e_0) rfl rfl hl.1 rfl (lv_room (Nat.le_of_ble_eq_true rfl)) dX7_on_30 ⟨Nat.le_of_ble_eq_true rfl, Nat.le_of_ble_eq_true rfl⟩) hPs hDs hS hA (fun H locs hPs hDs hS => ?_)
          replace hPs : va_P (dC, dI) vwCl ((wM ct aM mM_11 ++ wM ct aI1 mI1) ++ (wX ct aX xX_text xX_reader xX_sowing (aM 0) xX_book xX_ways xX_land xX_draft (aI0 0) (aI1 0) (aI2 0) mX ++ wM ct aI0 mI0 ++ wM ct aI2 mI2)) H := hPs
          replace hDs : va_D A ((wM ct aM mM_11 ++ wM ct aI1 mI1) ++ (wX ct aX xX_text xX_reader xX_sowing (aM 0) xX_book xX_ways xX_land xX_draft (aI0 0) (aI1 0) (aI2 0) mX ++ wM ct aI0 mI0 ++ wM ct aI2 mI2)) := hDs
          have hP := pm_P (ws' := (wX ct aX xX_text xX_reader xX_sowing (aM 0) xX_book xX_ways xX_land xX_draft (aI0 0) (aI1 0) (aI2 0) mX ++ wM ct aM mM_11 ++ wM ct aI0 mI0 ++ wM ct aI1 mI1 ++ wM ct aI2 mI2)) [wM ct aM mM_11, wM ct aI1 mI1, wX ct aX xX_text xX_reader xX_sowing (aM 0) xX_book xX_ways xX_land xX_draft (aI0 0) (aI1 0) (aI2 0) mX, wM ct aI0 mI0, wM ct aI2 mI2] [2, 0, 3, 1, 4] (show List.Perm [2, 0, 3, 1, 4] (List.range 5) from by decide) (by simp only [List.flatten_cons, List.flatten_nil, List.append_nil, List.nil_append, List.append_assoc]) (by show List.flatten [wX ct aX xX_text xX_reader xX_sowing (aM 0) xX_book xX_ways xX_land xX_draft (aI0 0) (aI1 0) (aI2 0) mX, wM ct aM mM_11, wM ct aI0 mI0, wM ct aI1 mI1, wM ct aI2 mI2] = _; simp only [List.flatten_cons, List.flatten_nil, List.append_nil, List.nil_append, List.append_assoc]) hPs
          have hD := pm_D (ws' := (wX ct aX xX_text xX_reader xX_sowing (aM 0) xX_book xX_ways xX_land xX_draft (aI0 0) (aI1 0) (aI2 0) mX ++ wM ct aM mM_11 ++ wM ct aI0 mI0 ++ wM ct aI1 mI1 ++ wM ct aI2 mI2)) [wM ct aM mM_11, wM ct aI1 mI1, wX ct aX xX_text xX_reader xX_sowing (aM 0) xX_book xX_ways xX_land xX_draft (aI0 0) (aI1 0) (aI2 0) mX, wM ct aI0 mI0, wM ct aI2 mI2] [2, 0, 3, 1, 4] (show List.Perm [2, 0, 3, 1, 4] (List.range 5) from by decide) (by simp only [List.flatten_cons, List.flatten_nil, List.append_nil, List.nil_append, List.append_assoc]) (by show List.flatten [wX ct aX xX_text xX_reader xX_sowing (aM 0) xX_book xX_ways xX_land xX_draft (aI0 0) (aI1 0) (aI2 0) mX, wM ct aM mM_11, wM ct aI0 mI0, wM ct aI1 mI1, wM ct aI2 mI2] = _; simp only [List.flatten_cons, List.flatten_nil, List.append_nil, List.nil_append, List.append_assoc]) hDs
          clear hPs hDs
          refine lv_iconst (v := 1) hx hb dX7_on_33 (by decide) ?_
          have hR := som hM
          rw [hR] at hQ
          exact ret_z hQ hx hb hr hlocks rfl hP hK hD hS dX7_on_34
        · have hM := it_n hc_7 hM
          have hc2 := in3 hi hc_6 hc_7
          refine va_aldq (C := "MoonDebts$Market") hx hb hK hP 1 4 rfl rfl hi dX7_on_29 ?_
          refine W.eq (g2 := F0 m 30 ls [.ref (aI2 0), .ref (aM 0)]) (by rw [hc2]; rfl) ?_
          obtain ⟨mM_14, hr_15, hM⟩ := bn_some hM
          have hPs := pm_P (ws' := (wM ct aM mM ++ wM ct aI2 mI2) ++ (wX ct aX xX_text xX_reader xX_sowing (aM 0) xX_book xX_ways xX_land xX_draft (aI0 0) (aI1 0) (aI2 0) mX ++ wM ct aI0 mI0 ++ wM ct aI1 mI1)) [wX ct aX xX_text xX_reader xX_sowing (aM 0) xX_book xX_ways xX_land xX_draft (aI0 0) (aI1 0) (aI2 0) mX, wM ct aM mM, wM ct aI0 mI0, wM ct aI1 mI1, wM ct aI2 mI2] [1, 4, 0, 2, 3] (show List.Perm [1, 4, 0, 2, 3] (List.range 5) from by decide) (by simp only [List.flatten_cons, List.flatten_nil, List.append_nil, List.nil_append, List.append_assoc]) (by show List.flatten [wM ct aM mM, wM ct aI2 mI2, wX ct aX xX_text xX_reader xX_sowing (aM 0) xX_book xX_ways xX_land xX_draft (aI0 0) (aI1 0) (aI2 0) mX, wM ct aI0 mI0, wM ct aI1 mI1] = _; simp only [List.flatten_cons, List.flatten_nil, List.append_nil, List.nil_append, List.append_assoc]) hP
          have hDs := pm_D (ws' := (wM ct aM mM ++ wM ct aI2 mI2) ++ (wX ct aX xX_text xX_reader xX_sowing (aM 0) xX_book xX_ways xX_land xX_draft (aI0 0) (aI1 0) (aI2 0) mX ++ wM ct aI0 mI0 ++ wM ct aI1 mI1)) [wX ct aX xX_text xX_reader xX_sowing (aM 0) xX_book xX_ways xX_land xX_draft (aI0 0) (aI1 0) (aI2 0) mX, wM ct aM mM, wM ct aI0 mI0, wM ct aI1 mI1, wM ct aI2 mI2] [1, 4, 0, 2, 3] (show List.Perm [1, 4, 0, 2, 3] (List.range 5) from by decide) (by simp only [List.flatten_cons, List.flatten_nil, List.append_nil, List.nil_append, List.append_assoc]) (by show List.flatten [wM ct aM mM, wM ct aI2 mI2, wX ct aX xX_text xX_reader xX_sowing (aM 0) xX_book xX_ways xX_land xX_draft (aI0 0) (aI1 0) (aI2 0) mX, wM ct aI0 mI0, wM ct aI1 mI1] = _; simp only [List.flatten_cons, List.flatten_nil, List.append_nil, List.nil_append, List.append_assoc]) hD
          refine sp_v (wr := (wX ct aX xX_text xX_reader xX_sowing (aM 0) xX_book xX_ways xX_land xX_draft (aI0 0) (aI1 0) (aI2 0) mX ++ wM ct aI0 mI0 ++ wM ct aI1 mI1)) (va_runV (As := [.ref (aI2 0)]) (rest := []) ⟨hx, hb, hml, hown, hts⟩ (kX2_copyFrom l dC dI ct aM aI2 _ mM mI2 _ hr_15) (cwV 1 hts gX7_on_X2_copyFrom rfl rfl rfl hvX2_copyFrom ⟨Nat.le_of_ble_eq_true rfl, Nat.le_of_ble_eq_true rfl⟩) (sp_preV E0_ok hK hPs hDs rfl (ci := 2) rfl 0 rfl e_0) rfl rfl hl.1 rfl (lv_room (Nat.le_of_ble_eq_true rfl)) dX7_on_30 ⟨Nat.le_of_ble_eq_true rfl, Nat.le_of_ble_eq_true rfl⟩) hPs hDs hS hA (fun H locs hPs hDs hS => ?_)
          replace hPs : va_P (dC, dI) vwCl ((wM ct aM mM_14 ++ wM ct aI2 mI2) ++ (wX ct aX xX_text xX_reader xX_sowing (aM 0) xX_book xX_ways xX_land xX_draft (aI0 0) (aI1 0) (aI2 0) mX ++ wM ct aI0 mI0 ++ wM ct aI1 mI1)) H := hPs
          replace hDs : va_D A ((wM ct aM mM_14 ++ wM ct aI2 mI2) ++ (wX ct aX xX_text xX_reader xX_sowing (aM 0) xX_book xX_ways xX_land xX_draft (aI0 0) (aI1 0) (aI2 0) mX ++ wM ct aI0 mI0 ++ wM ct aI1 mI1)) := hDs
          have hP := pm_P (ws' := (wX ct aX xX_text xX_reader xX_sowing (aM 0) xX_book xX_ways xX_land xX_draft (aI0 0) (aI1 0) (aI2 0) mX ++ wM ct aM mM_14 ++ wM ct aI0 mI0 ++ wM ct aI1 mI1 ++ wM ct aI2 mI2)) [wM ct aM mM_14, wM ct aI2 mI2, wX ct aX xX_text xX_reader xX_sowing (aM 0) xX_book xX_ways xX_land xX_draft (aI0 0) (aI1 0) (aI2 0) mX, wM ct aI0 mI0, wM ct aI1 mI1] [2, 0, 3, 4, 1] (show List.Perm [2, 0, 3, 4, 1] (List.range 5) from by decide) (by simp only [List.flatten_cons, List.flatten_nil, List.append_nil, List.nil_append, List.append_assoc]) (by show List.flatten [wX ct aX xX_text xX_reader xX_sowing (aM 0) xX_book xX_ways xX_land xX_draft (aI0 0) (aI1 0) (aI2 0) mX, wM ct aM mM_14, wM ct aI0 mI0, wM ct aI1 mI1, wM ct aI2 mI2] = _; simp only [List.flatten_cons, List.flatten_nil, List.append_nil, List.nil_append, List.append_assoc]) hPs
          have hD := pm_D (ws' := (wX ct aX xX_text xX_reader xX_sowing (aM 0) xX_book xX_ways xX_land xX_draft (aI0 0) (aI1 0) (aI2 0) mX ++ wM ct aM mM_14 ++ wM ct aI0 mI0 ++ wM ct aI1 mI1 ++ wM ct aI2 mI2)) [wM ct aM mM_14, wM ct aI2 mI2, wX ct aX xX_text xX_reader xX_sowing (aM 0) xX_book xX_ways xX_land xX_draft (aI0 0) (aI1 0) (aI2 0) mX, wM ct aI0 mI0, wM ct aI1 mI1] [2, 0, 3, 4, 1] (show List.Perm [2, 0, 3, 4, 1] (List.range 5) from by decide) (by simp only [List.flatten_cons, List.flatten_nil, List.append_nil, List.nil_append, List.append_assoc]) (by show List.flatten [wX ct aX xX_text xX_reader xX_sowing (aM 0) xX_book xX_ways xX_land xX_draft (aI0 0) (aI1 0) (aI2 0) mX, wM ct aM mM_14, wM ct aI0 mI0, wM ct aI1 mI1, wM ct aI2 mI2] = _; simp only [List.flatten_cons, List.flatten_nil, List.append_nil, List.nil_append, List.append_assoc]) hDs
          clear hPs hDs
          refine lv_iconst (v := 1) hx hb dX7_on_33 (by decide) ?_
          have hR := som hM
          rw [hR] at hQ
          exact ret_z hQ hx hb hr hlocks rfl hP hK hD hS dX7_on_34
    · have hM := it_nn hc_5 hM
      refine lv_iconst (v := 0) hx hb dX7_on_18 (by decide) ?_
      have hR := som hM
      rw [hR] at hQ
      exact ret_z hQ hx hb hr hlocks rfl hP hK hD hS dX7_on_19
abbrev rmX7_count : Room := { frames := 1, cells := 0, slots := 0, locals := 22 }
theorem iwX7_count_X0 : ∀ w ∈ wsX00, w ∈ wsX7_count := fun _ h => List.mem_cons_of_mem _ (List.mem_append_left _ (List.mem_append_left _ (List.mem_append_right _ (h))))
theorem iwX7_count_X5 : ∀ w ∈ wsX50, w ∈ wsX7_count := fun _ h => List.mem_cons_of_mem _ (List.mem_append_left _ (List.mem_append_right _ (h)))
theorem iwX7_count_X7 : ∀ w ∈ wsX70, w ∈ wsX7_count := fun _ h => List.mem_cons_of_mem _ (List.mem_append_left _ (List.mem_append_left _ (List.mem_append_left _ (List.mem_append_right _ (h)))))
set_option maxHeartbeats 4000000 in
set_option maxRecDepth 100000 in
theorem kX7_count (l : Launch) (dC : Nat → ClassId) (dI : Nat → Nat → Nat) (ct : Nat → ClassId) (aX : Nat → Nat) (aB : Nat → Nat) (aT : Nat → Nat) (aL : Nat → Nat) (xX_reader : Nat) (xX_sowing : Nat) (xX_market : Nat) (xX_ways : Nat) (xX_draft : Nat) (xX_im0 : Nat) (xX_im1 : Nat) (xX_im2 : Nat) (xB_judged : Nat) (sz : Nat) (mX : Mem) (mB : Mem) (mT : Mem) (mL : Mem) (v1 : Int32) (res : Int32) (hM : mX7_count mX mB mT mL v1 = some res) : Met l yX7_count wsX7_count rmX7_count (va_Pc [.ref (aX 0), .int v1] (PB (dC, dI) ct E0 sz (wX ct aX (aT 0) xX_reader xX_sowing xX_market (aB 0) xX_ways (aL 0) xX_draft xX_im0 xX_im1 xX_im2 mX ++ wB ct aB xB_judged mB ++ wT ct aT mT ++ wL ct aL mL))) (Qi (dC, dI) ct (va_A (wX ct aX (aT 0) xX_reader xX_sowing xX_market (aB 0) xX_ways (aL 0) xX_draft xX_im0 xX_im1 xX_im2 mX ++ wB ct aB xB_judged mB ++ wT ct aT mT ++ wL ct aL mL) sz) res (wX ct aX (aT 0) xX_reader xX_sowing xX_market (aB 0) xX_ways (aL 0) xX_draft xX_im0 xX_im1 xX_im2 mX ++ wB ct aB xB_judged mB ++ wT ct aT mT ++ wL ct aL mL)) 0 0 (va_A (wX ct aX (aT 0) xX_reader xX_sowing xX_market (aB 0) xX_ways (aL 0) xX_draft xX_im0 xX_im1 xX_im2 mX ++ wB ct aB xB_judged mB ++ wT ct aT mT ++ wL ct aL mL) sz) := by
  refine Met.ofW (cc := cX7_count) (maxL := 2) (ret := (some .int)) (by decide) rfl ?_
  intro p e s m args below meth c s₁ B hml hv
  obtain ⟨hargs, hsz, hP, hK, hD0, hE⟩ := hv
  have hx := B.exec
  have hb := B.bytes
  have hr := B.returns
  have hts := atoms_spec (ws := wsX7_count) B.pre
  have hown : s.vm.findClass RX7 = some m.cls := findClass_of_methodNamed B.named
  have hlocks := B.notSynchronized
  clear B s₁
  subst hsz
  have hD := hD0.self (sz := s.heap.size)
  clear hD0
  generalize hAe : va_A (wX ct aX (aT 0) xX_reader xX_sowing xX_market (aB 0) xX_ways (aL 0) xX_draft xX_im0 xX_im1 xX_im2 mX ++ wB ct aB xB_judged mB ++ wT ct aT mT ++ wL ct aL mL) s.heap.size = A at hD hE ⊢
  have hA : ∀ q : Nat, s.heap.size ≤ q → A q := fun q h => by rw [← hAe]; exact Or.inr h
  clear hAe
  have hS : va_S A s.heap s.heap [] := va_S.rf
  refine cutQ (fun Q hQ => ?_)
  refine entryW (vs := [.ref (aX 0), .int v1]) hargs (Nat.le_of_ble_eq_true rfl) (fun ls hl => ?_)
  replace hl : lv_has ls 2 [(0, .ref (aX 0)), (1, .int v1)] := hl
  unfold mX7_count at hM
  refine lv_iload_n hx hb dX7_count_0 rfl (lv_at hl 1 rfl) ?_
  refine lv_bipush (v := 7) hx hb dX7_count_1 (by decide) ?_
  refine lv_icmp_ne (tgt := 14) hx hb dX7_count_3 (by decide) (fun hc_1 => ?_) (fun hc_1 => ?_)
  · have hM := it_p hc_1 hM
    refine lv_iload_n hx hb dX7_count_14 rfl (lv_at hl 1 rfl) ?_
    refine lv_bipush (v := 8) hx hb dX7_count_15 (by decide) ?_
    refine lv_icmp_ne (tgt := 28) hx hb dX7_count_17 (by decide) (fun hc_2 => ?_) (fun hc_2 => ?_)
    · have hM := it_p hc_2 hM
      refine lv_iload_n hx hb dX7_count_28 rfl (lv_at hl 1 rfl) ?_
      refine lv_iconst (v := 0) hx hb dX7_count_29 (by decide) ?_
      refine lv_bipush (v := 6) hx hb dX7_count_30 (by decide) ?_
      obtain ⟨x_3, hr_4, hM⟩ := bn_some hM
      have hPs := pm_P (ws' := ([] : va_W) ++ (wX ct aX (aT 0) xX_reader xX_sowing xX_market (aB 0) xX_ways (aL 0) xX_draft xX_im0 xX_im1 xX_im2 mX ++ wB ct aB xB_judged mB ++ wT ct aT mT ++ wL ct aL mL)) [wX ct aX (aT 0) xX_reader xX_sowing xX_market (aB 0) xX_ways (aL 0) xX_draft xX_im0 xX_im1 xX_im2 mX, wB ct aB xB_judged mB, wT ct aT mT, wL ct aL mL] [0, 1, 2, 3] (show List.Perm [0, 1, 2, 3] (List.range 4) from by decide) (by simp only [List.flatten_cons, List.flatten_nil, List.append_nil, List.nil_append, List.append_assoc]) (by show List.flatten [wX ct aX (aT 0) xX_reader xX_sowing xX_market (aB 0) xX_ways (aL 0) xX_draft xX_im0 xX_im1 xX_im2 mX, wB ct aB xB_judged mB, wT ct aT mT, wL ct aL mL] = _; simp only [List.flatten_cons, List.flatten_nil, List.append_nil, List.nil_append, List.append_assoc]) hP
      have hDs := pm_D (ws' := ([] : va_W) ++ (wX ct aX (aT 0) xX_reader xX_sowing xX_market (aB 0) xX_ways (aL 0) xX_draft xX_im0 xX_im1 xX_im2 mX ++ wB ct aB xB_judged mB ++ wT ct aT mT ++ wL ct aL mL)) [wX ct aX (aT 0) xX_reader xX_sowing xX_market (aB 0) xX_ways (aL 0) xX_draft xX_im0 xX_im1 xX_im2 mX, wB ct aB xB_judged mB, wT ct aT mT, wL ct aL mL] [0, 1, 2, 3] (show List.Perm [0, 1, 2, 3] (List.range 4) from by decide) (by simp only [List.flatten_cons, List.flatten_nil, List.append_nil, List.nil_append, List.append_assoc]) (by show List.flatten [wX ct aX (aT 0) xX_reader xX_sowing xX_market (aB 0) xX_ways (aL 0) xX_draft xX_im0 xX_im1 xX_im2 mX, wB ct aB xB_judged mB, wT ct aT mT, wL ct aL mL] = _; simp only [List.flatten_cons, List.flatten_nil, List.append_nil, List.nil_append, List.append_assoc]) hD
      refine sp_i (r0 := x_3) (wr := (wX ct aX (aT 0) xX_reader xX_sowing xX_market (aB 0) xX_ways (aL 0) xX_draft xX_im0 xX_im1 xX_im2 mX ++ wB ct aB xB_judged mB ++ wT ct aT mT ++ wL ct aL mL)) (va_runS (As := [.int v1, .int (0 : Int32), .int (6 : Int32)]) (rest := []) ⟨hx, hb, hml, hown, hts⟩ (kX7_isIn l dC dI ct _ v1 (0 : Int32) (6 : Int32) _ hr_4) (va_cwS 3 hts gX7_count_X7_isIn rfl rfl rfl hvX7_isIn.2 ⟨Nat.le_of_ble_eq_true rfl, Nat.le_of_ble_eq_true rfl⟩) (sp_preS E0_ok hK hPs hDs e_0) rfl rfl hl.1 rfl (lv_room (Nat.le_of_ble_eq_true rfl)) dX7_count_32 ⟨Nat.le_of_ble_eq_true rfl, Nat.le_of_ble_eq_true rfl⟩) hPs hDs hS hA (fun H locs hPs hDs hS => ?_)
      replace hPs : va_P (dC, dI) vwCl (([] : va_W) ++ (wX ct aX (aT 0) xX_reader xX_sowing xX_market (aB 0) xX_ways (aL 0) xX_draft xX_im0 xX_im1 xX_im2 mX ++ wB ct aB xB_judged mB ++ wT ct aT mT ++ wL ct aL mL)) H := hPs
      replace hDs : va_D A (([] : va_W) ++ (wX ct aX (aT 0) xX_reader xX_sowing xX_market (aB 0) xX_ways (aL 0) xX_draft xX_im0 xX_im1 xX_im2 mX ++ wB ct aB xB_judged mB ++ wT ct aT mT ++ wL ct aL mL)) := hDs
      have hP := pm_P (ws' := (wX ct aX (aT 0) xX_reader xX_sowing xX_market (aB 0) xX_ways (aL 0) xX_draft xX_im0 xX_im1 xX_im2 mX ++ wB ct aB xB_judged mB ++ wT ct aT mT ++ wL ct aL mL)) [wX ct aX (aT 0) xX_reader xX_sowing xX_market (aB 0) xX_ways (aL 0) xX_draft xX_im0 xX_im1 xX_im2 mX, wB ct aB xB_judged mB, wT ct aT mT, wL ct aL mL] [0, 1, 2, 3] (show List.Perm [0, 1, 2, 3] (List.range 4) from by decide) (by simp only [List.flatten_cons, List.flatten_nil, List.append_nil, List.nil_append, List.append_assoc]) (by show List.flatten [wX ct aX (aT 0) xX_reader xX_sowing xX_market (aB 0) xX_ways (aL 0) xX_draft xX_im0 xX_im1 xX_im2 mX, wB ct aB xB_judged mB, wT ct aT mT, wL ct aL mL] = _; simp only [List.flatten_cons, List.flatten_nil, List.append_nil, List.nil_append, List.append_assoc]) hPs
      have hD := pm_D (ws' := (wX ct aX (aT 0) xX_reader xX_sowing xX_market (aB 0) xX_ways (aL 0) xX_draft xX_im0 xX_im1 xX_im2 mX ++ wB ct aB xB_judged mB ++ wT ct aT mT ++ wL ct aL mL)) [wX ct aX (aT 0) xX_reader xX_sowing xX_market (aB 0) xX_ways (aL 0) xX_draft xX_im0 xX_im1 xX_im2 mX, wB ct aB xB_judged mB, wT ct aT mT, wL ct aL mL] [0, 1, 2, 3] (show List.Perm [0, 1, 2, 3] (List.range 4) from by decide) (by simp only [List.flatten_cons, List.flatten_nil, List.append_nil, List.nil_append, List.append_assoc]) (by show List.flatten [wX ct aX (aT 0) xX_reader xX_sowing xX_market (aB 0) xX_ways (aL 0) xX_draft xX_im0 xX_im1 xX_im2 mX, wB ct aB xB_judged mB, wT ct aT mT, wL ct aL mL] = _; simp only [List.flatten_cons, List.flatten_nil, List.append_nil, List.nil_append, List.append_assoc]) hDs
      clear hPs hDs
      refine lv_if_ne (tgt := 40) hx hb dX7_count_35 (by decide) (fun hc_6 => ?_) (fun hc_6 => ?_)
      · have hM := it_p hc_6 hM
        refine lv_aload_n hx hb dX7_count_40 rfl (lv_at hl 0 rfl) ?_
        refine va_get (D := (dC, dI)) (ci := 7) (v := .int (mX 0 10)) (C := RX7) (T := TX7) (N := 11) hx hb hts iwX7_count_X7 hown hK hP 0 rfl rfl 10 (by decide) (hts _ (List.mem_of_getElem? (i := 5) rfl)) (fun _ h9 => h9) rfl dX7_count_41 ?_
        refine lv_if_eq (tgt := 58) hx hb dX7_count_44 (by decide) (fun hc_7 => ?_) (fun hc_7 => ?_)
        · have hM := it_p hc_7 hM
          refine lv_iconst (v := 0) hx hb dX7_count_58 (by decide) ?_
          have hR := som hM
          rw [hR] at hQ
          exact ret_i hQ hx hb hr hlocks hP hK hD hS dX7_count_59
        · have hM := it_n hc_7 hM
          refine lv_aload_n hx hb dX7_count_47 rfl (lv_at hl 0 rfl) ?_
          refine va_get (D := (dC, dI)) (ci := 7) (v := .ref (aL 0)) (C := RX7) (T := TX7) (N := 11) hx hb hts iwX7_count_X7 hown hK hP 0 rfl rfl 8 (by decide) (hts _ (List.mem_of_getElem? (i := 6) rfl)) (fun _ h9 => h9) rfl dX7_count_48 ?_
          refine lv_iload_n hx hb dX7_count_51 rfl (lv_at hl 1 rfl) ?_
          obtain ⟨x_8, hr_9, hM⟩ := bn_some hM
          have hPs := pm_P (ws' := (wL ct aL mL) ++ (wX ct aX (aT 0) xX_reader xX_sowing xX_market (aB 0) xX_ways (aL 0) xX_draft xX_im0 xX_im1 xX_im2 mX ++ wB ct aB xB_judged mB ++ wT ct aT mT)) [wX ct aX (aT 0) xX_reader xX_sowing xX_market (aB 0) xX_ways (aL 0) xX_draft xX_im0 xX_im1 xX_im2 mX, wB ct aB xB_judged mB, wT ct aT mT, wL ct aL mL] [3, 0, 1, 2] (show List.Perm [3, 0, 1, 2] (List.range 4) from by decide) (by simp only [List.flatten_cons, List.flatten_nil, List.append_nil, List.nil_append, List.append_assoc]) (by show List.flatten [wL ct aL mL, wX ct aX (aT 0) xX_reader xX_sowing xX_market (aB 0) xX_ways (aL 0) xX_draft xX_im0 xX_im1 xX_im2 mX, wB ct aB xB_judged mB, wT ct aT mT] = _; simp only [List.flatten_cons, List.flatten_nil, List.append_nil, List.nil_append, List.append_assoc]) hP
          have hDs := pm_D (ws' := (wL ct aL mL) ++ (wX ct aX (aT 0) xX_reader xX_sowing xX_market (aB 0) xX_ways (aL 0) xX_draft xX_im0 xX_im1 xX_im2 mX ++ wB ct aB xB_judged mB ++ wT ct aT mT)) [wX ct aX (aT 0) xX_reader xX_sowing xX_market (aB 0) xX_ways (aL 0) xX_draft xX_im0 xX_im1 xX_im2 mX, wB ct aB xB_judged mB, wT ct aT mT, wL ct aL mL] [3, 0, 1, 2] (show List.Perm [3, 0, 1, 2] (List.range 4) from by decide) (by simp only [List.flatten_cons, List.flatten_nil, List.append_nil, List.nil_append, List.append_assoc]) (by show List.flatten [wL ct aL mL, wX ct aX (aT 0) xX_reader xX_sowing xX_market (aB 0) xX_ways (aL 0) xX_draft xX_im0 xX_im1 xX_im2 mX, wB ct aB xB_judged mB, wT ct aT mT] = _; simp only [List.flatten_cons, List.flatten_nil, List.append_nil, List.nil_append, List.append_assoc]) hD
          refine sp_i (r0 := x_8) (wr := (wX ct aX (aT 0) xX_reader xX_sowing xX_market (aB 0) xX_ways (aL 0) xX_draft xX_im0 xX_im1 xX_im2 mX ++ wB ct aB xB_judged mB ++ wT ct aT mT)) (va_runV (As := [.int v1]) (rest := []) ⟨hx, hb, hml, hown, hts⟩ (kX1_countOf l dC dI ct aL _ mL v1 _ hr_9) (cwV 1 hts gX7_count_X1_countOf rfl rfl rfl hvX1_countOf ⟨Nat.le_of_ble_eq_true rfl, Nat.le_of_ble_eq_true rfl⟩) (sp_preV E0_ok hK hPs hDs rfl (ci := 1) rfl 0 rfl e_0) rfl rfl hl.1 rfl (lv_room (Nat.le_of_ble_eq_true rfl)) dX7_count_52 ⟨Nat.le_of_ble_eq_true rfl, Nat.le_of_ble_eq_true rfl⟩) hPs hDs hS hA (fun H locs hPs hDs hS => ?_)
          replace hPs : va_P (dC, dI) vwCl ((wL ct aL mL) ++ (wX ct aX (aT 0) xX_reader xX_sowing xX_market (aB 0) xX_ways (aL 0) xX_draft xX_im0 xX_im1 xX_im2 mX ++ wB ct aB xB_judged mB ++ wT ct aT mT)) H := hPs
          replace hDs : va_D A ((wL ct aL mL) ++ (wX ct aX (aT 0) xX_reader xX_sowing xX_market (aB 0) xX_ways (aL 0) xX_draft xX_im0 xX_im1 xX_im2 mX ++ wB ct aB xB_judged mB ++ wT ct aT mT)) := hDs
          have hP := pm_P (ws' := (wX ct aX (aT 0) xX_reader xX_sowing xX_market (aB 0) xX_ways (aL 0) xX_draft xX_im0 xX_im1 xX_im2 mX ++ wB ct aB xB_judged mB ++ wT ct aT mT ++ wL ct aL mL)) [wL ct aL mL, wX ct aX (aT 0) xX_reader xX_sowing xX_market (aB 0) xX_ways (aL 0) xX_draft xX_im0 xX_im1 xX_im2 mX, wB ct aB xB_judged mB, wT ct aT mT] [1, 2, 3, 0] (show List.Perm [1, 2, 3, 0] (List.range 4) from by decide) (by simp only [List.flatten_cons, List.flatten_nil, List.append_nil, List.nil_append, List.append_assoc]) (by show List.flatten [wX ct aX (aT 0) xX_reader xX_sowing xX_market (aB 0) xX_ways (aL 0) xX_draft xX_im0 xX_im1 xX_im2 mX, wB ct aB xB_judged mB, wT ct aT mT, wL ct aL mL] = _; simp only [List.flatten_cons, List.flatten_nil, List.append_nil, List.nil_append, List.append_assoc]) hPs
          have hD := pm_D (ws' := (wX ct aX (aT 0) xX_reader xX_sowing xX_market (aB 0) xX_ways (aL 0) xX_draft xX_im0 xX_im1 xX_im2 mX ++ wB ct aB xB_judged mB ++ wT ct aT mT ++ wL ct aL mL)) [wL ct aL mL, wX ct aX (aT 0) xX_reader xX_sowing xX_market (aB 0) xX_ways (aL 0) xX_draft xX_im0 xX_im1 xX_im2 mX, wB ct aB xB_judged mB, wT ct aT mT] [1, 2, 3, 0] (show List.Perm [1, 2, 3, 0] (List.range 4) from by decide) (by simp only [List.flatten_cons, List.flatten_nil, List.append_nil, List.nil_append, List.append_assoc]) (by show List.flatten [wX ct aX (aT 0) xX_reader xX_sowing xX_market (aB 0) xX_ways (aL 0) xX_draft xX_im0 xX_im1 xX_im2 mX, wB ct aB xB_judged mB, wT ct aT mT, wL ct aL mL] = _; simp only [List.flatten_cons, List.flatten_nil, List.append_nil, List.nil_append, List.append_assoc]) hDs
          clear hPs hDs
          refine lv_goto (tgt := 59) hx hb dX7_count_55 (by decide) ?_
          have hR := som hM
          rw [hR] at hQ
          exact ret_i hQ hx hb hr hlocks hP hK hD hS dX7_count_59
      · have hM := it_nn hc_6 hM
        refine lv_iconst (v := -1) hx hb dX7_count_38 (by decide) ?_
        have hR := som hM
        rw [hR] at hQ
        exact ret_i hQ hx hb hr hlocks hP hK hD hS dX7_count_39
    · have hM := it_nn hc_2 hM
      refine lv_aload_n hx hb dX7_count_20 rfl (lv_at hl 0 rfl) ?_
      refine va_get (D := (dC, dI)) (ci := 7) (v := .ref (aT 0)) (C := RX7) (T := TX7) (N := 11) hx hb hts iwX7_count_X7 hown hK hP 0 rfl rfl 0 (by decide) (hts _ (List.mem_of_getElem? (i := 3) rfl)) (fun _ h9 => h9) rfl dX7_count_21 ?_
      refine va_get (D := (dC, dI)) (ci := 5) (v := .int (mT 0 1)) (C := RX5) (T := TX5) (N := 2) hx hb hts iwX7_count_X5 hown hK hP 9 rfl rfl 1 (by decide) (hts _ (List.mem_of_getElem? (i := 4) rfl)) (fun _ h9 => h9) rfl dX7_count_24 ?_
      refine lv_topi (fun x_11 ex_11 => ?_)
      have hM := nm_at ex_11 hM
      have hR := som hM
      rw [hR] at hQ
      exact ret_i hQ hx hb hr hlocks hP hK hD hS dX7_count_27
  · have hM := it_nn hc_1 hM
    refine lv_aload_n hx hb dX7_count_6 rfl (lv_at hl 0 rfl) ?_
    refine va_get (D := (dC, dI)) (ci := 7) (v := .ref (aB 0)) (C := RX7) (T := TX7) (N := 11) hx hb hts iwX7_count_X7 hown hK hP 0 rfl rfl 4 (by decide) (hts _ (List.mem_of_getElem? (i := 1) rfl)) (fun _ h9 => h9) rfl dX7_count_7 ?_
    refine va_get (D := (dC, dI)) (ci := 0) (v := .int (mB 0 0)) (C := RX0) (T := TX0) (N := 7) hx hb hts iwX7_count_X0 hown hK hP 3 rfl rfl 0 (by decide) (hts _ (List.mem_of_getElem? (i := 2) rfl)) (fun _ h9 => h9) rfl dX7_count_10 ?_
    refine lv_topi (fun x_12 ex_12 => ?_)
    have hM := nm_at ex_12 hM
    have hR := som hM
    rw [hR] at hQ
    exact ret_i hQ hx hb hr hlocks hP hK hD hS dX7_count_13
