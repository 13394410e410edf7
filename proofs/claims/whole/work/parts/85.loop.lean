set_option maxHeartbeats 8000000 in
set_option maxRecDepth 100000 in
theorem law_loop {p : Program} {l : Launch} {e : Env} {s : State} {m : MethodId} {below : List Frame} {meth : Method} {c : Code} {dC : Nat → ClassId} {dI : Nat → Nat → Nat} {ct : Nat → ClassId} {adK adV : Nat → Nat} {A : Nat → Prop} {b L : Nat} {xs : Nat → Int32} (C0 : lw_At p s m meth c b L xs) (hA : ∀ q : Nat, s.heap.size ≤ q → A q) (hbA : ¬ A b) (hK : va_K (dC, dI) vwCl (Ty ct) s) (hE : EV adK adV A s s.heap) (hA2 : ∀ q : Nat, A q → s.heap.size ≤ q) (hL : L ≤ 3072) {vx vo : Nat} : ∀ (n i : Nat) (x3 : Int32), i ≤ L → L + 1 ≤ i + n → x3 = nI i → ∀ (H : Heap) (locs : List Loc), LI (dC, dI) ct A vx vo H → va_S A s.heap H locs → ∀ (ls : Array Slot), lv_has ls 4 [(0, .ref b), (1, .ref vx), (2, .ref vo), (3, .int x3)] → W p l e room_1 s m #[Value.ref b] below meth c H locs 113 4369 (lw_Z below #[Value.ref b] s) (F0 m 18 ls []) := by
  intro n
  induction n with
  | zero =>
    intro i x3 h1 h2
    exact absurd h2 (by omega)
  | succ n ih =>
    intro i x3 hi hin ex3 H locs h hS ls hl
    obtain ⟨hx, hb, hr, hml, hown, hts, hX, hbl, hlocks, hgv⟩ := id C0
    replace hb : c.code = cL_law := hb
    refine lv_iload_n hx hb dL_law_18 rfl (lv_at hl 3 rfl) ?_
    refine lv_aload_n hx hb dL_law_19 rfl (lv_at hl 0 rfl) ?_
    refine va_slen hx hb hX hbl hbA hS dL_law_20 ?_
    refine lv_bipush (v := 6) hx hb dL_law_21 (by decide) ?_
    refine lv_isub hx hb dL_law_23 ?_
    refine lv_icmp_gt (tgt := 1151) hx hb dL_law_24 (by decide) (fun hc => ?_) (fun hc => ?_)
    · refine lv_iconst (v := 1) hx hb dL_law_1151 (by decide) ?_
      refine va_forget (fun q hq => hA2 _ (hS.2.2 q hq)) ?_
      refine W.widen (k := 600000) (n := 7302250) (Nat.le_of_ble_eq_true rfl) (Nat.le_of_ble_eq_true rfl) ?_
      exact lw_ret hx hb hr hlocks dL_law_1152
    · have hlt : i + 6 ≤ L := by
        rcases Nat.lt_or_ge L (i + 6) with q | q
        · refine absurd ?_ hc
          have e1 : (Int32.ofNat L - 6 : Int32).toInt = (L : Int) - 6 := pk_sub_toInt (a := L) (b := 6) (by omega) (by omega)
          rw [Int32.lt_iff_toInt_lt, ex3, nI_toInt (by omega), e1]
          omega
        · exact q
      have h0 : vp_in x3 L := by rw [ex3]; exact vp_in_nI (by omega) (by omega)
      have h1 : vp_in (x3 + 1) L := by rw [ex3]; exact (nI_add i 1) ▸ vp_in_nI (n := i + 1) (by omega) (by omega)
      have h2 : vp_in (x3 + 2) L := by rw [ex3]; exact (nI_add i 2) ▸ vp_in_nI (n := i + 2) (by omega) (by omega)
      have h3 : vp_in (x3 + 3) L := by rw [ex3]; exact (nI_add i 3) ▸ vp_in_nI (n := i + 3) (by omega) (by omega)
      have h4 : vp_in (x3 + 4) L := by rw [ex3]; exact (nI_add i 4) ▸ vp_in_nI (n := i + 4) (by omega) (by omega)
      have h5 : vp_in (x3 + 5) L := by rw [ex3]; exact (nI_add i 5) ▸ vp_in_nI (n := i + 5) (by omega) (by omega)
      have kk : ∀ (H : Heap) (locs : List Loc), LI (dC, dI) ct A vx vo H → va_S A s.heap H locs → W p l e room_1 s m #[Value.ref b] below meth c H locs 113 4369 (lw_Z below #[Value.ref b] s) (F0 m 1145 ls []) := by
        intro H locs h hS
        obtain ⟨x, ex⟩ : ∃ y : Int32, y = x3 + 6 := ⟨_, rfl⟩
        refine lv_iinc (v := x) (lv' := [(3, .int x), (0, .ref b), (1, .ref vx), (2, .ref vo)]) hx hb dL_law_1145 hl (k := 3) rfl (by rw [ex]; rfl) (by decide) rfl (fun ls hl => ?_)
        refine lv_goto (tgt := 18) hx hb dL_law_1148 (by decide) ?_
        exact ih (i + 6) x hlt (by omega) (by rw [ex, ex3]; exact nI_add i 6) _ _ h hS ls (lv_sub hl [1, 2, 3, 0] rfl)
      refine lv_aload_n hx hb dL_law_27 rfl (lv_at hl 0 rfl) ?_
      refine lv_iload_n hx hb dL_law_28 rfl (lv_at hl 3 rfl) ?_
      refine va_sld hx hb hX hbl hbA hS h0 dL_law_29 ?_
      refine lv_bipush (v := 31) hx hb dL_law_30 (by decide) ?_
      refine lv_iand hx hb dL_law_32 ?_
      refine lv_topi (fun y ey => ?_)
      clear ey
      by_cases c0 : y = 0
      · refine lv_tableIn (off := 139) (tgt := 172) hx hb dL_law_33 (by rw [c0]; decide) (by rw [c0]; decide) (by rw [c0]; decide) (by decide) ?_
        exact lc_feed C0 hA hbA hK hE hl h1 h2 h3 h4 h5 h hS kk
      by_cases c1 : y = 1
      · refine lv_tableIn (off := 202) (tgt := 235) hx hb dL_law_33 (by rw [c1]; decide) (by rw [c1]; decide) (by rw [c1]; decide) (by decide) ?_
        exact lc_end C0 hA hbA hK hE hl h1 h2 h3 h4 h5 h hS kk
      by_cases c2 : y = 2
      · refine lv_tableIn (off := 225) (tgt := 258) hx hb dL_law_33 (by rw [c2]; decide) (by rw [c2]; decide) (by rw [c2]; decide) (by decide) ?_
        exact lc_fault C0 hA hbA hK hE hl h1 h2 h3 h4 h5 h hS kk
      by_cases c3 : y = 3
      · refine lv_tableIn (off := 238) (tgt := 271) hx hb dL_law_33 (by rw [c3]; decide) (by rw [c3]; decide) (by rw [c3]; decide) (by decide) ?_
        exact lc_land C0 hA hbA hK hE hl h1 h2 h3 h4 h5 h hS kk
      by_cases c4 : y = 4
      · refine lv_tableIn (off := 251) (tgt := 284) hx hb dL_law_33 (by rw [c4]; decide) (by rw [c4]; decide) (by rw [c4]; decide) (by decide) ?_
        exact lc_sort C0 hA hbA hK hE hl h1 h2 h3 h4 h5 h hS kk
      by_cases c5 : y = 5
      · refine lv_tableIn (off := 284) (tgt := 317) hx hb dL_law_33 (by rw [c5]; decide) (by rw [c5]; decide) (by rw [c5]; decide) (by decide) ?_
        exact lc_back C0 hA hbA hK hE hl h1 h2 h3 h4 h5 h hS kk
      by_cases c6 : y = 6
      · refine lv_tableIn (off := 327) (tgt := 360) hx hb dL_law_33 (by rw [c6]; decide) (by rw [c6]; decide) (by rw [c6]; decide) (by decide) ?_
        exact lc_lent C0 hA hbA hK hE hl h1 h2 h3 h4 h5 h hS kk
      by_cases c7 : y = 7
      · refine lv_tableIn (off := 360) (tgt := 393) hx hb dL_law_33 (by rw [c7]; decide) (by rw [c7]; decide) (by rw [c7]; decide) (by decide) ?_
        exact lc_brought C0 hA hbA hK hE hl h1 h2 h3 h4 h5 h hS kk
      by_cases c8 : y = 8
      · refine lv_tableIn (off := 383) (tgt := 416) hx hb dL_law_33 (by rw [c8]; decide) (by rw [c8]; decide) (by rw [c8]; decide) (by decide) ?_
        exact lc_moon C0 hA hbA hK hE hl h1 h2 h3 h4 h5 h hS kk
      by_cases c9 : y = 9
      · refine lv_tableIn (off := 426) (tgt := 459) hx hb dL_law_33 (by rw [c9]; decide) (by rw [c9]; decide) (by rw [c9]; decide) (by decide) ?_
        exact lc_best C0 hA hbA hK hE hl h1 h2 h3 h4 h5 h hS kk
      by_cases c10 : y = 10
      · refine lv_tableIn (off := 449) (tgt := 482) hx hb dL_law_33 (by rw [c10]; decide) (by rw [c10]; decide) (by rw [c10]; decide) (by decide) ?_
        exact lc_gains C0 hA hbA hK hE hl h1 h2 h3 h4 h5 h hS kk
      by_cases c11 : y = 11
      · refine lv_tableIn (off := 472) (tgt := 505) hx hb dL_law_33 (by rw [c11]; decide) (by rw [c11]; decide) (by rw [c11]; decide) (by decide) ?_
        exact lc_seed C0 hA hbA hK hE hl h1 h2 h3 h4 h5 h hS kk
      by_cases c12 : y = 12
      · refine lv_tableIn (off := 495) (tgt := 528) hx hb dL_law_33 (by rw [c12]; decide) (by rw [c12]; decide) (by rw [c12]; decide) (by decide) ?_
        exact lc_lend C0 hA hbA hK hE hl h1 h2 h3 h4 h5 h hS kk
      by_cases c13 : y = 13
      · refine lv_tableIn (off := 548) (tgt := 581) hx hb dL_law_33 (by rw [c13]; decide) (by rw [c13]; decide) (by rw [c13]; decide) (by decide) ?_
        exact lc_go C0 hA hbA hK hE hl h1 h2 h3 h4 h5 h hS kk
      by_cases c14 : y = 14
      · refine lv_tableIn (off := 571) (tgt := 604) hx hb dL_law_33 (by rw [c14]; decide) (by rw [c14]; decide) (by rw [c14]; decide) (by decide) ?_
        exact lc_market C0 hA hbA hK hE hl h1 h2 h3 h4 h5 h hS kk
      by_cases c15 : y = 15
      · refine lv_tableIn (off := 594) (tgt := 627) hx hb dL_law_33 (by rw [c15]; decide) (by rw [c15]; decide) (by rw [c15]; decide) (by decide) ?_
        exact lc_loan C0 hA hbA hK hE hl h1 h2 h3 h4 h5 h hS kk
      by_cases c16 : y = 16
      · refine lv_tableIn (off := 627) (tgt := 660) hx hb dL_law_33 (by rw [c16]; decide) (by rw [c16]; decide) (by rw [c16]; decide) (by decide) ?_
        exact lc_entry C0 hA hbA hK hE hl h1 h2 h3 h4 h5 h hS kk
      by_cases c17 : y = 17
      · refine lv_tableIn (off := 670) (tgt := 703) hx hb dL_law_33 (by rw [c17]; decide) (by rw [c17]; decide) (by rw [c17]; decide) (by decide) ?_
        exact lc_clear C0 hA hbA hK hE hl h1 h2 h3 h4 h5 h hS kk
      by_cases c18 : y = 18
      · refine lv_tableIn (off := 683) (tgt := 716) hx hb dL_law_33 (by rw [c18]; decide) (by rw [c18]; decide) (by rw [c18]; decide) (by decide) ?_
        exact lc_judge C0 hA hbA hK hE hl h1 h2 h3 h4 h5 h hS kk
      by_cases c19 : y = 19
      · refine lv_tableIn (off := 706) (tgt := 739) hx hb dL_law_33 (by rw [c19]; decide) (by rw [c19]; decide) (by rw [c19]; decide) (by decide) ?_
        exact lc_holds C0 hA hbA hK hE hl h1 h2 h3 h4 h5 h hS kk
      by_cases c20 : y = 20
      · refine lv_tableIn (off := 749) (tgt := 782) hx hb dL_law_33 (by rw [c20]; decide) (by rw [c20]; decide) (by rw [c20]; decide) (by decide) ?_
        exact lc_greatest C0 hA hbA hK hE hl h1 h2 h3 h4 h5 h hS kk
      by_cases c21 : y = 21
      · refine lv_tableIn (off := 782) (tgt := 815) hx hb dL_law_33 (by rw [c21]; decide) (by rw [c21]; decide) (by rw [c21]; decide) (by decide) ?_
        exact lc_names C0 hA hbA hK hE hl h1 h2 h3 h4 h5 h hS kk
      by_cases c22 : y = 22
      · refine lv_tableIn (off := 815) (tgt := 848) hx hb dL_law_33 (by rw [c22]; decide) (by rw [c22]; decide) (by rw [c22]; decide) (by decide) ?_
        exact lc_round C0 hA hbA hK hE hl h1 h2 h3 h4 h5 h hS kk
      by_cases c23 : y = 23
      · refine lv_tableIn (off := 848) (tgt := 881) hx hb dL_law_33 (by rw [c23]; decide) (by rw [c23]; decide) (by rw [c23]; decide) (by decide) ?_
        exact lc_words C0 hA hbA hK hE hl h1 h2 h3 h4 h5 h hS kk
      by_cases c24 : y = 24
      · refine lv_tableIn (off := 881) (tgt := 914) hx hb dL_law_33 (by rw [c24]; decide) (by rw [c24]; decide) (by rw [c24]; decide) (by decide) ?_
        exact lc_purse C0 hA hbA hK hE hl h1 h2 h3 h4 h5 h hS kk
      by_cases c25 : y = 25
      · refine lv_tableIn (off := 914) (tgt := 947) hx hb dL_law_33 (by rw [c25]; decide) (by rw [c25]; decide) (by rw [c25]; decide) (by decide) ?_
        exact lc_part C0 hA hbA hK hE hl h1 h2 h3 h4 h5 h hS kk
      by_cases c26 : y = 26
      · refine lv_tableIn (off := 957) (tgt := 990) hx hb dL_law_33 (by rw [c26]; decide) (by rw [c26]; decide) (by rw [c26]; decide) (by decide) ?_
        exact lc_shrunk C0 hA hbA hK hE hl h1 h2 h3 h4 h5 h hS kk
      by_cases c27 : y = 27
      · refine lv_tableIn (off := 1010) (tgt := 1043) hx hb dL_law_33 (by rw [c27]; decide) (by rw [c27]; decide) (by rw [c27]; decide) (by decide) ?_
        exact lc_cloudy C0 hA hbA hK hE hl h1 h2 h3 h4 h5 h hS kk
      by_cases c28 : y = 28
      · refine lv_tableIn (off := 1043) (tgt := 1076) hx hb dL_law_33 (by rw [c28]; decide) (by rw [c28]; decide) (by rw [c28]; decide) (by decide) ?_
        exact lc_image C0 hA hbA hK hE hl h1 h2 h3 h4 h5 h hS kk
      by_cases c29 : y = 29
      · refine lv_tableIn (off := 1066) (tgt := 1099) hx hb dL_law_33 (by rw [c29]; decide) (by rw [c29]; decide) (by rw [c29]; decide) (by decide) ?_
        exact lc_on C0 hA hbA hK hE hl h1 h2 h3 h4 h5 h hS kk
      by_cases c30 : y = 30
      · refine lv_tableIn (off := 1089) (tgt := 1122) hx hb dL_law_33 (by rw [c30]; decide) (by rw [c30]; decide) (by rw [c30]; decide) (by decide) ?_
        exact lc_count C0 hA hbA hK hE hl h1 h2 h3 h4 h5 h hS kk
      replace c0 := ne_toInt c0
      rw [show ((0 : Int32)).toInt = 0 from by decide] at c0
      replace c1 := ne_toInt c1
      rw [show ((1 : Int32)).toInt = 1 from by decide] at c1
      replace c2 := ne_toInt c2
      rw [show ((2 : Int32)).toInt = 2 from by decide] at c2
      replace c3 := ne_toInt c3
      rw [show ((3 : Int32)).toInt = 3 from by decide] at c3
      replace c4 := ne_toInt c4
      rw [show ((4 : Int32)).toInt = 4 from by decide] at c4
      replace c5 := ne_toInt c5
      rw [show ((5 : Int32)).toInt = 5 from by decide] at c5
      replace c6 := ne_toInt c6
      rw [show ((6 : Int32)).toInt = 6 from by decide] at c6
      replace c7 := ne_toInt c7
      rw [show ((7 : Int32)).toInt = 7 from by decide] at c7
      replace c8 := ne_toInt c8
      rw [show ((8 : Int32)).toInt = 8 from by decide] at c8
      replace c9 := ne_toInt c9
      rw [show ((9 : Int32)).toInt = 9 from by decide] at c9
      replace c10 := ne_toInt c10
      rw [show ((10 : Int32)).toInt = 10 from by decide] at c10
      replace c11 := ne_toInt c11
      rw [show ((11 : Int32)).toInt = 11 from by decide] at c11
      replace c12 := ne_toInt c12
      rw [show ((12 : Int32)).toInt = 12 from by decide] at c12
      replace c13 := ne_toInt c13
      rw [show ((13 : Int32)).toInt = 13 from by decide] at c13
      replace c14 := ne_toInt c14
      rw [show ((14 : Int32)).toInt = 14 from by decide] at c14
      replace c15 := ne_toInt c15
      rw [show ((15 : Int32)).toInt = 15 from by decide] at c15
      replace c16 := ne_toInt c16
      rw [show ((16 : Int32)).toInt = 16 from by decide] at c16
      replace c17 := ne_toInt c17
      rw [show ((17 : Int32)).toInt = 17 from by decide] at c17
      replace c18 := ne_toInt c18
      rw [show ((18 : Int32)).toInt = 18 from by decide] at c18
      replace c19 := ne_toInt c19
      rw [show ((19 : Int32)).toInt = 19 from by decide] at c19
      replace c20 := ne_toInt c20
      rw [show ((20 : Int32)).toInt = 20 from by decide] at c20
      replace c21 := ne_toInt c21
      rw [show ((21 : Int32)).toInt = 21 from by decide] at c21
      replace c22 := ne_toInt c22
      rw [show ((22 : Int32)).toInt = 22 from by decide] at c22
      replace c23 := ne_toInt c23
      rw [show ((23 : Int32)).toInt = 23 from by decide] at c23
      replace c24 := ne_toInt c24
      rw [show ((24 : Int32)).toInt = 24 from by decide] at c24
      replace c25 := ne_toInt c25
      rw [show ((25 : Int32)).toInt = 25 from by decide] at c25
      replace c26 := ne_toInt c26
      rw [show ((26 : Int32)).toInt = 26 from by decide] at c26
      replace c27 := ne_toInt c27
      rw [show ((27 : Int32)).toInt = 27 from by decide] at c27
      replace c28 := ne_toInt c28
      rw [show ((28 : Int32)).toInt = 28 from by decide] at c28
      replace c29 := ne_toInt c29
      rw [show ((29 : Int32)).toInt = 29 from by decide] at c29
      replace c30 := ne_toInt c30
      rw [show ((30 : Int32)).toInt = 30 from by decide] at c30
      refine lv_tableOut (tgt := 1145) hx hb dL_law_33 (by omega) (by decide) ?_
      exact kk _ _ h hS
