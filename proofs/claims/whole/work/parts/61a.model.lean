abbrev rmX8_in : Room := { frames := 0, cells := 0, slots := 0, locals := 0 }
set_option maxHeartbeats 4000000 in
set_option maxRecDepth 100000 in
theorem kX8_in (l : Launch) (dC : Nat → ClassId) (dI : Nat → Nat → Nat) (ct : Nat → ClassId) (sz : Nat) (v0 : Int32) (v1 : Int32) (v2 : Int32) (res : Int32) (hM : mX8_in v0 v1 v2 = some res) : Met l yX8_in wsX8_in rmX8_in (va_Pc [.int v0, .int v1, .int v2] (PB (dC, dI) ct E0 sz ([] : va_W))) (Qi (dC, dI) ct (va_A ([] : va_W) sz) res ([] : va_W)) 0 0 (va_A ([] : va_W) sz) := by
  refine Met.ofW (cc := cX8_in) (maxL := 3) (ret := (some .boolean)) (by decide) rfl ?_
  intro p e s m args below meth c s₁ B hml hv
  obtain ⟨hargs, hsz, hP, hK, hD0, hE⟩ := hv
  have hx := B.exec
  have hb := B.bytes
  have hr := B.returns
  have hts := atoms_spec (ws := wsX8_in) B.pre
  have hown : s.vm.findClass RX8 = some m.cls := findClass_of_methodNamed B.named
  have hlocks := B.notSynchronized
  clear B s₁
  subst hsz
  have hD := hD0.self (sz := s.heap.size)
  clear hD0
  generalize hAe : va_A ([] : va_W) s.heap.size = A at hD hE ⊢
  have hA : ∀ q : Nat, s.heap.size ≤ q → A q := fun q h => by rw [← hAe]; exact Or.inr h
  clear hAe
  have hS : va_S A s.heap s.heap [] := va_S.rf
  refine cutQ (fun Q hQ => ?_)
  refine entryW (vs := [.int v0, .int v1, .int v2]) hargs (Nat.le_of_ble_eq_true rfl) (fun ls hl => ?_)
  replace hl : lv_has ls 3 [(0, .int v0), (1, .int v1), (2, .int v2)] := hl
  unfold mX8_in at hM
  refine lv_iload_n hx hb dX8_in_0 rfl (lv_at hl 0 rfl) ?_
  refine lv_iload_n hx hb dX8_in_1 rfl (lv_at hl 1 rfl) ?_
  refine lv_icmp_lt (tgt := 14) hx hb dX8_in_2 (by decide) (fun hc_1 => ?_) (fun hc_1 => ?_)
  · have hM := it_p hc_1 hM
    refine lv_iconst (v := 0) hx hb dX8_in_14 (by decide) ?_
    have hR := som hM
    rw [hR] at hQ
    exact ret_z hQ hx hb hr hlocks rfl hP hK hD hS dX8_in_15
  · have hM := it_n hc_1 hM
    refine lv_iload_n hx hb dX8_in_5 rfl (lv_at hl 0 rfl) ?_
    refine lv_iload_n hx hb dX8_in_6 rfl (lv_at hl 2 rfl) ?_
    refine lv_icmp_gt (tgt := 14) hx hb dX8_in_7 (by decide) (fun hc_2 => ?_) (fun hc_2 => ?_)
    · have hM := it_p hc_2 hM
      refine lv_iconst (v := 0) hx hb dX8_in_14 (by decide) ?_
      have hR := som hM
      rw [hR] at hQ
      exact ret_z hQ hx hb hr hlocks rfl hP hK hD hS dX8_in_15
    · have hM := it_n hc_2 hM
      refine lv_iconst (v := 1) hx hb dX8_in_10 (by decide) ?_
      refine lv_goto (tgt := 15) hx hb dX8_in_11 (by decide) ?_
      have hR := som hM
      rw [hR] at hQ
      exact ret_z hQ hx hb hr hlocks rfl hP hK hD hS dX8_in_15
abbrev rmX8_isLetter : Room := { frames := 0, cells := 0, slots := 0, locals := 0 }
set_option maxHeartbeats 4000000 in
set_option maxRecDepth 100000 in
theorem kX8_isLetter (l : Launch) (dC : Nat → ClassId) (dI : Nat → Nat → Nat) (ct : Nat → ClassId) (sz : Nat) (v0 : Int32) (res : Int32) (hM : mX8_isLetter v0 = some res) : Met l yX8_isLetter wsX8_isLetter rmX8_isLetter (va_Pc [.int v0] (PB (dC, dI) ct E0 sz ([] : va_W))) (Qi (dC, dI) ct (va_A ([] : va_W) sz) res ([] : va_W)) 0 0 (va_A ([] : va_W) sz) := by
  refine Met.ofW (cc := cX8_isLetter) (maxL := 1) (ret := (some .boolean)) (by decide) rfl ?_
  intro p e s m args below meth c s₁ B hml hv
  obtain ⟨hargs, hsz, hP, hK, hD0, hE⟩ := hv
  have hx := B.exec
  have hb := B.bytes
  have hr := B.returns
  have hts := atoms_spec (ws := wsX8_isLetter) B.pre
  have hown : s.vm.findClass RX8 = some m.cls := findClass_of_methodNamed B.named
  have hlocks := B.notSynchronized
  clear B s₁
  subst hsz
  have hD := hD0.self (sz := s.heap.size)
  clear hD0
  generalize hAe : va_A ([] : va_W) s.heap.size = A at hD hE ⊢
  have hA : ∀ q : Nat, s.heap.size ≤ q → A q := fun q h => by rw [← hAe]; exact Or.inr h
  clear hAe
  have hS : va_S A s.heap s.heap [] := va_S.rf
  refine cutQ (fun Q hQ => ?_)
  refine entryW (vs := [.int v0]) hargs (Nat.le_of_ble_eq_true rfl) (fun ls hl => ?_)
  replace hl : lv_has ls 1 [(0, .int v0)] := hl
  unfold mX8_isLetter at hM
  refine lv_iload_n hx hb dX8_isLetter_0 rfl (lv_at hl 0 rfl) ?_
  refine lv_bipush (v := 97) hx hb dX8_isLetter_1 (by decide) ?_
  refine lv_icmp_lt (tgt := 16) hx hb dX8_isLetter_3 (by decide) (fun hc_1 => ?_) (fun hc_1 => ?_)
  · have hM := it_p hc_1 hM
    refine lv_iconst (v := 0) hx hb dX8_isLetter_16 (by decide) ?_
    have hR := som hM
    rw [hR] at hQ
    exact ret_z hQ hx hb hr hlocks rfl hP hK hD hS dX8_isLetter_17
  · have hM := it_n hc_1 hM
    refine lv_iload_n hx hb dX8_isLetter_6 rfl (lv_at hl 0 rfl) ?_
    refine lv_bipush (v := 122) hx hb dX8_isLetter_7 (by decide) ?_
    refine lv_icmp_gt (tgt := 16) hx hb dX8_isLetter_9 (by decide) (fun hc_2 => ?_) (fun hc_2 => ?_)
    · have hM := it_p hc_2 hM
      refine lv_iconst (v := 0) hx hb dX8_isLetter_16 (by decide) ?_
      have hR := som hM
      rw [hR] at hQ
      exact ret_z hQ hx hb hr hlocks rfl hP hK hD hS dX8_isLetter_17
    · have hM := it_n hc_2 hM
      refine lv_iconst (v := 1) hx hb dX8_isLetter_12 (by decide) ?_
      refine lv_goto (tgt := 17) hx hb dX8_isLetter_13 (by decide) ?_
      have hR := som hM
      rw [hR] at hQ
      exact ret_z hQ hx hb hr hlocks rfl hP hK hD hS dX8_isLetter_17
abbrev rmX8_isDigit : Room := { frames := 0, cells := 0, slots := 0, locals := 0 }
set_option maxHeartbeats 4000000 in
set_option maxRecDepth 100000 in
theorem kX8_isDigit (l : Launch) (dC : Nat → ClassId) (dI : Nat → Nat → Nat) (ct : Nat → ClassId) (sz : Nat) (v0 : Int32) (res : Int32) (hM : mX8_isDigit v0 = some res) : Met l yX8_isDigit wsX8_isDigit rmX8_isDigit (va_Pc [.int v0] (PB (dC, dI) ct E0 sz ([] : va_W))) (Qi (dC, dI) ct (va_A ([] : va_W) sz) res ([] : va_W)) 0 0 (va_A ([] : va_W) sz) := by
  refine Met.ofW (cc := cX8_isDigit) (maxL := 1) (ret := (some .boolean)) (by decide) rfl ?_
  intro p e s m args below meth c s₁ B hml hv
  obtain ⟨hargs, hsz, hP, hK, hD0, hE⟩ := hv
  have hx := B.exec
  have hb := B.bytes
  have hr := B.returns
  have hts := atoms_spec (ws := wsX8_isDigit) B.pre
  have hown : s.vm.findClass RX8 = some m.cls := findClass_of_methodNamed B.named
  have hlocks := B.notSynchronized
  clear B s₁
  subst hsz
  have hD := hD0.self (sz := s.heap.size)
  clear hD0
  generalize hAe : va_A ([] : va_W) s.heap.size = A at hD hE ⊢
  have hA : ∀ q : Nat, s.heap.size ≤ q → A q := fun q h => by rw [← hAe]; exact Or.inr h
  clear hAe
  have hS : va_S A s.heap s.heap [] := va_S.rf
  refine cutQ (fun Q hQ => ?_)
  refine entryW (vs := [.int v0]) hargs (Nat.le_of_ble_eq_true rfl) (fun ls hl => ?_)
  replace hl : lv_has ls 1 [(0, .int v0)] := hl
  unfold mX8_isDigit at hM
  refine lv_iload_n hx hb dX8_isDigit_0 rfl (lv_at hl 0 rfl) ?_
  refine lv_bipush (v := 48) hx hb dX8_isDigit_1 (by decide) ?_
  refine lv_icmp_lt (tgt := 16) hx hb dX8_isDigit_3 (by decide) (fun hc_1 => ?_) (fun hc_1 => ?_)
  · have hM := it_p hc_1 hM
    refine lv_iconst (v := 0) hx hb dX8_isDigit_16 (by decide) ?_
    have hR := som hM
    rw [hR] at hQ
    exact ret_z hQ hx hb hr hlocks rfl hP hK hD hS dX8_isDigit_17
  · have hM := it_n hc_1 hM
    refine lv_iload_n hx hb dX8_isDigit_6 rfl (lv_at hl 0 rfl) ?_
    refine lv_bipush (v := 57) hx hb dX8_isDigit_7 (by decide) ?_
    refine lv_icmp_gt (tgt := 16) hx hb dX8_isDigit_9 (by decide) (fun hc_2 => ?_) (fun hc_2 => ?_)
    · have hM := it_p hc_2 hM
      refine lv_iconst (v := 0) hx hb dX8_isDigit_16 (by decide) ?_
      have hR := som hM
      rw [hR] at hQ
      exact ret_z hQ hx hb hr hlocks rfl hP hK hD hS dX8_isDigit_17
    · have hM := it_n hc_2 hM
      refine lv_iconst (v := 1) hx hb dX8_isDigit_12 (by decide) ?_
      refine lv_goto (tgt := 17) hx hb dX8_isDigit_13 (by decide) ?_
      have hR := som hM
      rw [hR] at hQ
      exact ret_z hQ hx hb hr hlocks rfl hP hK hD hS dX8_isDigit_17
abbrev rmX8_mostOf : Room := { frames := 0, cells := 0, slots := 0, locals := 0 }
set_option maxHeartbeats 4000000 in
set_option maxRecDepth 100000 in
theorem kX8_mostOf (l : Launch) (dC : Nat → ClassId) (dI : Nat → Nat → Nat) (ct : Nat → ClassId) (sz : Nat) (v0 : Int32) (res : Int32) (hM : mX8_mostOf v0 = some res) : Met l yX8_mostOf wsX8_mostOf rmX8_mostOf (va_Pc [.int v0] (PB (dC, dI) ct E0 sz ([] : va_W))) (Qi (dC, dI) ct (va_A ([] : va_W) sz) res ([] : va_W)) 0 0 (va_A ([] : va_W) sz) := by
  refine Met.ofW (cc := cX8_mostOf) (maxL := 1) (ret := (some .int)) (by decide) rfl ?_
  intro p e s m args below meth c s₁ B hml hv
  obtain ⟨hargs, hsz, hP, hK, hD0, hE⟩ := hv
  have hx := B.exec
  have hb := B.bytes
  have hr := B.returns
  have hts := atoms_spec (ws := wsX8_mostOf) B.pre
  have hown : s.vm.findClass RX8 = some m.cls := findClass_of_methodNamed B.named
  have hlocks := B.notSynchronized
  clear B s₁
  subst hsz
  have hD := hD0.self (sz := s.heap.size)
  clear hD0
  generalize hAe : va_A ([] : va_W) s.heap.size = A at hD hE ⊢
  have hA : ∀ q : Nat, s.heap.size ≤ q → A q := fun q h => by rw [← hAe]; exact Or.inr h
  clear hAe
  have hS : va_S A s.heap s.heap [] := va_S.rf
  refine cutQ (fun Q hQ => ?_)
  refine entryW (vs := [.int v0]) hargs (Nat.le_of_ble_eq_true rfl) (fun ls hl => ?_)
  replace hl : lv_has ls 1 [(0, .int v0)] := hl
  unfold mX8_mostOf at hM
  refine lv_iload_n hx hb dX8_mostOf_0 rfl (lv_at hl 0 rfl) ?_
  refine lv_if_ne (tgt := 9) hx hb dX8_mostOf_1 (by decide) (fun hc_1 => ?_) (fun hc_1 => ?_)
  · have hM := it_p hc_1 hM
    refine lv_iload_n hx hb dX8_mostOf_9 rfl (lv_at hl 0 rfl) ?_
    refine lv_iconst (v := 3) hx hb dX8_mostOf_10 (by decide) ?_
    refine lv_icmp_ne (tgt := 19) hx hb dX8_mostOf_11 (by decide) (fun hc_2 => ?_) (fun hc_2 => ?_)
    · have hM := it_p hc_2 hM
      refine lv_iload_n hx hb dX8_mostOf_19 rfl (lv_at hl 0 rfl) ?_
      refine lv_iconst (v := 5) hx hb dX8_mostOf_20 (by decide) ?_
      refine lv_icmp_ne (tgt := 29) hx hb dX8_mostOf_21 (by decide) (fun hc_3 => ?_) (fun hc_3 => ?_)
      · have hM := it_p hc_3 hM
        refine lv_bipush (v := 99) hx hb dX8_mostOf_29 (by decide) ?_
        have hR := som hM
        rw [hR] at hQ
        exact ret_i hQ hx hb hr hlocks hP hK hD hS dX8_mostOf_31
      · have hM := it_nn hc_3 hM
        refine lv_bipush (v := 16) hx hb dX8_mostOf_24 (by decide) ?_
        refine lv_goto (tgt := 31) hx hb dX8_mostOf_26 (by decide) ?_
        have hR := som hM
        rw [hR] at hQ
        exact ret_i hQ hx hb hr hlocks hP hK hD hS dX8_mostOf_31
    · have hM := it_nn hc_2 hM
      refine lv_bipush (v := 60) hx hb dX8_mostOf_14 (by decide) ?_
      refine lv_goto (tgt := 31) hx hb dX8_mostOf_16 (by decide) ?_
      have hR := som hM
      rw [hR] at hQ
      exact ret_i hQ hx hb hr hlocks hP hK hD hS dX8_mostOf_31
  · have hM := it_nn hc_1 hM
    refine lv_bipush (v := 50) hx hb dX8_mostOf_4 (by decide) ?_
    refine lv_goto (tgt := 31) hx hb dX8_mostOf_6 (by decide) ?_
    have hR := som hM
    rw [hR] at hQ
    exact ret_i hQ hx hb hr hlocks hP hK hD hS dX8_mostOf_31
abbrev rmX8_feed : Room := { frames := 0, cells := 0, slots := 0, locals := 0 }
theorem iwX8_feed_X8 : ∀ w ∈ wsX80, w ∈ wsX8_feed := fun _ h => List.mem_cons_of_mem _ (List.mem_append_right _ (h))
set_option maxHeartbeats 4000000 in
set_option maxRecDepth 100000 in
theorem kX8_feed (l : Launch) (dC : Nat → ClassId) (dI : Nat → Nat → Nat) (ct : Nat → ClassId) (aO : Nat → Nat) (sz : Nat) (mO : Mem) (mO64 : Lem) (v1 : Int32) (v2 : Int32) (v3 : Int32) (v4 : Int32) (v5 : Int32) (res : (Int32 × Mem)) (hM : mX8_feed mO mO64 v1 v2 v3 v4 v5 = some res) : Met l yX8_feed wsX8_feed rmX8_feed (va_Pc [.ref (aO 0), .int v1, .int v2, .int v3, .int v4, .int v5] (PB (dC, dI) ct E0 sz (wO ct aO mO mO64))) (Qi (dC, dI) ct (va_A (wO ct aO mO mO64) sz) res.1 (wO ct aO res.2 mO64)) 0 0 (va_A (wO ct aO mO mO64) sz) := by
  refine Met.ofW (cc := cX8_feed) (maxL := 8) (ret := (some .int)) (by decide) rfl ?_
  intro p e s m args below meth c s₁ B hml hv
  obtain ⟨hargs, hsz, hP, hK, hD0, hE⟩ := hv
  have hx := B.exec
  have hb := B.bytes
  have hr := B.returns
  have hts := atoms_spec (ws := wsX8_feed) B.pre
  have hown : s.vm.findClass RX8 = some m.cls := findClass_of_methodNamed B.named
  have hlocks := B.notSynchronized
  clear B s₁
  subst hsz
  have hD := hD0.self (sz := s.heap.size)
  clear hD0
  generalize hAe : va_A (wO ct aO mO mO64) s.heap.size = A at hD hE ⊢
  have hA : ∀ q : Nat, s.heap.size ≤ q → A q := fun q h => by rw [← hAe]; exact Or.inr h
  clear hAe
  have hS : va_S A s.heap s.heap [] := va_S.rf
  refine cutQ (fun Q hQ => ?_)
  refine entryW (vs := [.ref (aO 0), .int v1, .int v2, .int v3, .int v4, .int v5]) hargs (Nat.le_of_ble_eq_true rfl) (fun ls hl => ?_)
  replace hl : lv_has ls 8 [(0, .ref (aO 0)), (1, .int v1), (2, .int v2), (3, .int v3), (4, .int v4), (5, .int v5)] := hl
  unfold mX8_feed at hM
  have N18 : ∀ (v1 : Int32) (v2 : Int32) (v3 : Int32) (v4 : Int32) (v5 : Int32) (v6 : Int32) (mO : Mem), mX8_feed_L18 v1 v2 v3 v4 v5 v6 mO mO64 = some res → ∀ (H : Heap) (locs : List Loc), va_P (dC, dI) vwCl (wO ct aO mO mO64) H → va_D A (wO ct aO mO mO64) → va_S A s.heap H locs → ∀ ls : Array Slot, lv_has ls 8 [(0, .ref (aO 0)), (1, .int v1), (2, .int v2), (3, .int v3), (4, .int v4), (5, .int v5), (6, .int v6)] → W p l e (headSpec wsX8_feed rmX8_feed).room s m args below meth c H locs 0 0 Q (F0 m 18 ls []) := by
    intro v1 v2 v3 v4 v5 v6 mO hM H locs hP hD hS ls hl
    unfold mX8_feed_L18 at hM
    obtain ⟨ex18, hit18, hM⟩ := bn_some hM
    have X18_0 : ∀ (mO : Mem), ex18 = mO → ∀ (H : Heap) (locs : List Loc), va_P (dC, dI) vwCl (wO ct aO mO mO64) H → va_D A (wO ct aO mO mO64) → va_S A s.heap H locs → ∀ ls : Array Slot, lv_has ls 8 [(0, .ref (aO 0))] → W p l e (headSpec wsX8_feed rmX8_feed).room s m args below meth c H locs 0 0 Q (F0 m 112 ls []) := by
      intro mO hex H locs hP hD hS ls hl
      rw [hex] at hM
      have hM := nm_at (y := mO) rfl hM
      refine lv_aload_n hx hb dX8_feed_112 rfl (lv_at hl 0 rfl) ?_
      refine va_get (D := (dC, dI)) (ci := 8) (v := .int (mO 0 1)) (C := RX8) (T := TX8) (N := 45) hx hb hts iwX8_feed_X8 hown hK hP 0 rfl rfl 1 (by decide) (hts _ (List.mem_of_getElem? (i := 1) rfl)) (fun _ h9 => h9) rfl dX8_feed_113 ?_
      refine lv_topi (fun x_1 ex_1 => ?_)
      have hM := nm_at ex_1 hM
      have hR := som hM
      rw [hR] at hQ
      exact ret_i hQ hx hb hr hlocks hP hK hD hS dX8_feed_116
    have I18 : ∀ (n : Nat) (v6 : Int32) (mO : Mem), itr (fun q => mX8_feed_s18 v1 v2 v3 v4 v5 mO64 q.1 q.2) n (v6, mO) = some ex18 → ∀ (H : Heap) (locs : List Loc), va_P (dC, dI) vwCl (wO ct aO mO mO64) H → va_D A (wO ct aO mO mO64) → va_S A s.heap H locs → ∀ ls : Array Slot, lv_has ls 8 [(0, .ref (aO 0)), (1, .int v1), (2, .int v2), (3, .int v3), (4, .int v4), (5, .int v5), (6, .int v6)] → W p l e (headSpec wsX8_feed rmX8_feed).room s m args below meth c H locs 0 0 Q (F0 m 18 ls []) := by
      intro n
      induction n with
      | zero => intro v6 mO hit; exact (itr_zero hit).elim
      | succ n ih18 =>
        intro v6 mO hit H locs hP hD hS ls hl
        obtain ⟨o18, hM, hbk18, hex18⟩ := itr_succ hit
        replace hM : mX8_feed_s18 v1 v2 v3 v4 v5 mO64 v6 mO = some o18 := hM
        have N71 : ∀ (v6 : Int32) (t0 : Int32) (mO : Mem), mX8_feed_j71 v1 v2 v3 v4 v5 v6 t0 mO mO64 = some o18 → ∀ (H : Heap) (locs : List Loc), va_P (dC, dI) vwCl (wO ct aO mO mO64) H → va_D A (wO ct aO mO mO64) → va_S A s.heap H locs → ∀ ls : Array Slot, lv_has ls 8 [(0, .ref (aO 0)), (1, .int v1), (2, .int v2), (3, .int v3), (4, .int v4), (5, .int v5), (6, .int v6)] → W p l e (headSpec wsX8_feed rmX8_feed).room s m args below meth c H locs 0 0 Q (F0 m 71 ls [.int t0]) := by
          intro v6 t0 mO hM H locs hP hD hS ls hl
          unfold mX8_feed_j71 at hM
          refine lv_istore (lv' := [(7, .int t0), (0, .ref (aO 0)), (1, .int v1), (2, .int v2), (3, .int v3), (4, .int v4), (5, .int v5), (6, .int v6)]) hx hb dX8_feed_71 hl (by decide) rfl (fun ls hl => ?_)
          refine lv_aload_n hx hb dX8_feed_73 rfl (lv_at hl 1 rfl) ?_
          refine va_get (D := (dC, dI)) (ci := 8) (v := .ref (aO 1)) (C := RX8) (T := TX8) (N := 45) hx hb hts iwX8_feed_X8 hown hK hP 0 rfl rfl 0 (by decide) (hts _ (List.mem_of_getElem? (i := 2) rfl)) (fun _ h9 => h9) rfl dX8_feed_74 ?_
          refine lv_aload_n hx hb dX8_feed_77 rfl (lv_at hl 1 rfl) ?_
          refine va_get (D := (dC, dI)) (ci := 8) (v := .int (mO 0 1)) (C := RX8) (T := TX8) (N := 45) hx hb hts iwX8_feed_X8 hown hK hP 0 rfl rfl 1 (by decide) (hts _ (List.mem_of_getElem? (i := 1) rfl)) (fun _ h9 => h9) rfl dX8_feed_78 ?_
          refine lv_iload hx hb dX8_feed_81 (lv_at hl 0 rfl) ?_
          refine lv_bipush (v := 24) hx hb dX8_feed_83 (by decide) ?_
          refine lv_bipush (v := 8) hx hb dX8_feed_85 (by decide) ?_
          refine lv_iload hx hb dX8_feed_87 (lv_at hl 7 rfl) ?_
          refine lv_iconst (v := 4) hx hb dX8_feed_89 (by decide) ?_
          refine lv_irem hx hb dX8_feed_90 (by decide) ?_
          refine lv_imul hx hb dX8_feed_91 ?_
          refine lv_isub hx hb dX8_feed_92 ?_
          refine lv_ishr hx hb dX8_feed_93 ?_
          refine lv_i2b hx hb dX8_feed_94 rfl ?_
          obtain ⟨hi, hM⟩ := gi_some hM
          refine st_b (wf := fun z => (wO ct aO z mO64)) (m1 := upi mO 1 (mO 0 1).toNatClampNeg (vp_nar .byte ((t0 >>> (((24 : Int32) - ((8 : Int32) * (v6 - v6 / (4 : Int32) * (4 : Int32)))) &&& 31)).toInt8.toInt32))) hx hb hK hP hD hS 1 rfl hi dX8_feed_95 rfl (fun mO_2 emO_2 H locs hP hD hS => ?_)
          have hM := nm_at emO_2 hM
          refine lv_aload_n hx hb dX8_feed_96 rfl (lv_at hl 1 rfl) ?_
          refine lv_dup hx hb dX8_feed_97 rfl ?_
          refine va_get (D := (dC, dI)) (ci := 8) (v := .int (mO_2 0 1)) (C := RX8) (T := TX8) (N := 45) hx hb hts iwX8_feed_X8 hown hK hP 0 rfl rfl 1 (by decide) (hts _ (List.mem_of_getElem? (i := 1) rfl)) (fun _ h9 => h9) rfl dX8_feed_98 ?_
          refine lv_iconst (v := 1) hx hb dX8_feed_101 (by decide) ?_
          refine lv_iadd hx hb dX8_feed_102 ?_
          refine pf_i (wf := fun z => (wO ct aO z mO64)) (m1 := upf mO_2 1 ((mO_2 0 1) + (1 : Int32))) hx hb hts iwX8_feed_X8 tyX8 tyX8_ok nmX8 hown hK hP hD hS 0 rfl rfl 1 (by decide) (hts _ (List.mem_of_getElem? (i := 1) rfl)) (fun _ h9 => h9) rfl rfl rfl (Nat.le_of_ble_eq_true rfl) dX8_feed_103 rfl (fun mO_3 emO_3 H locs hP hD hS => ?_)
          have hM := nm_at emO_3 hM
          obtain ⟨x_4, ex_4⟩ : ∃ y : Int32, y = (v6 + (1 : Int32)) := ⟨_, rfl⟩
          have hM := nm_at ex_4 hM
          refine lv_iinc (v := x_4) (lv' := [(6, .int x_4), (7, .int t0), (0, .ref (aO 0)), (1, .int v1), (2, .int v2), (3, .int v3), (4, .int v4), (5, .int v5)]) hx hb dX8_feed_106 hl (k := 7) rfl (by rw [ex_4]; rfl) (by decide) rfl (fun ls hl => ?_)
          refine lv_goto (tgt := 18) hx hb dX8_feed_109 (by decide) ?_
          have hR := som hM
          exact ih18 x_4 mO_3 (hbk18 _ hR) _ _ hP hD hS _ (lv_sub hl [2, 3, 4, 5, 6, 7, 0] rfl)
        unfold mX8_feed_s18 at hM
        refine lv_iload hx hb dX8_feed_18 (lv_at hl 6 rfl) ?_
        refine lv_bipush (v := 20) hx hb dX8_feed_20 (by decide) ?_
        refine lv_icmp_ge (tgt := 112) hx hb dX8_feed_22 (by decide) (fun hc_5 => ?_) (fun hc_5 => ?_)
        · have hM := it_p hc_5 hM
          have hR := som hM
          exact X18_0 mO (hex18 _ hR).symm _ _ hP hD hS _ (lv_sub hl [0] rfl)
        · have hM := it_n hc_5 hM
          refine lv_iload hx hb dX8_feed_25 (lv_at hl 6 rfl) ?_
          refine lv_iconst (v := 4) hx hb dX8_feed_27 (by decide) ?_
          refine lv_icmp_ge (tgt := 35) hx hb dX8_feed_28 (by decide) (fun hc_6 => ?_) (fun hc_6 => ?_)
          · have hM := it_p hc_6 hM
            refine lv_iload hx hb dX8_feed_35 (lv_at hl 6 rfl) ?_
            refine lv_bipush (v := 8) hx hb dX8_feed_37 (by decide) ?_
            refine lv_icmp_ge (tgt := 46) hx hb dX8_feed_39 (by decide) (fun hc_7 => ?_) (fun hc_7 => ?_)
            · have hM := it_p hc_7 hM
              refine lv_iload hx hb dX8_feed_46 (lv_at hl 6 rfl) ?_
              refine lv_bipush (v := 12) hx hb dX8_feed_48 (by decide) ?_
              refine lv_icmp_ge (tgt := 57) hx hb dX8_feed_50 (by decide) (fun hc_8 => ?_) (fun hc_8 => ?_)
              · have hM := it_p hc_8 hM
                refine lv_iload hx hb dX8_feed_57 (lv_at hl 6 rfl) ?_
                refine lv_bipush (v := 16) hx hb dX8_feed_59 (by decide) ?_
                refine lv_icmp_ge (tgt := 69) hx hb dX8_feed_61 (by decide) (fun hc_9 => ?_) (fun hc_9 => ?_)
                · have hM := it_p hc_9 hM
                  refine lv_iload hx hb dX8_feed_69 (lv_at hl 5 rfl) ?_
                  exact N71 v6 v5 mO hM _ _ hP hD hS _ (lv_sub hl [0, 1, 2, 3, 4, 5, 6] rfl)
                · have hM := it_n hc_9 hM
                  refine lv_iload hx hb dX8_feed_64 (lv_at hl 4 rfl) ?_
                  refine lv_goto (tgt := 71) hx hb dX8_feed_66 (by decide) ?_
                  exact N71 v6 v4 mO hM _ _ hP hD hS _ (lv_sub hl [0, 1, 2, 3, 4, 5, 6] rfl)
              · have hM := it_n hc_8 hM
                refine lv_iload_n hx hb dX8_feed_53 rfl (lv_at hl 3 rfl) ?_
                refine lv_goto (tgt := 71) hx hb dX8_feed_54 (by decide) ?_
                exact N71 v6 v3 mO hM _ _ hP hD hS _ (lv_sub hl [0, 1, 2, 3, 4, 5, 6] rfl)
            · have hM := it_n hc_7 hM
              refine lv_iload_n hx hb dX8_feed_42 rfl (lv_at hl 2 rfl) ?_
              refine lv_goto (tgt := 71) hx hb dX8_feed_43 (by decide) ?_
              exact N71 v6 v2 mO hM _ _ hP hD hS _ (lv_sub hl [0, 1, 2, 3, 4, 5, 6] rfl)
          · have hM := it_n hc_6 hM
            refine lv_iload_n hx hb dX8_feed_31 rfl (lv_at hl 1 rfl) ?_
            refine lv_goto (tgt := 71) hx hb dX8_feed_32 (by decide) ?_
            exact N71 v6 v1 mO hM _ _ hP hD hS _ (lv_sub hl [0, 1, 2, 3, 4, 5, 6] rfl)
    exact I18 FU v6 mO hit18 _ _ hP hD hS _ hl
  refine lv_aload_n hx hb dX8_feed_0 rfl (lv_at hl 0 rfl) ?_
  refine va_get (D := (dC, dI)) (ci := 8) (v := .int (mO 0 1)) (C := RX8) (T := TX8) (N := 45) hx hb hts iwX8_feed_X8 hown hK hP 0 rfl rfl 1 (by decide) (hts _ (List.mem_of_getElem? (i := 1) rfl)) (fun _ h9 => h9) rfl dX8_feed_1 ?_
  refine lv_bipush (v := 20) hx hb dX8_feed_4 (by decide) ?_
  refine lv_iadd hx hb dX8_feed_6 ?_
  refine lv_sipush (v := 500) hx hb dX8_feed_7 (by decide) ?_
  refine lv_icmp_le (tgt := 15) hx hb dX8_feed_10 (by decide) (fun hc_10 => ?_) (fun hc_10 => ?_)
  · have hM := it_p hc_10 hM
    refine lv_iconst (v := 0) hx hb dX8_feed_15 (by decide) ?_
    refine lv_istore (lv' := [(6, .int (0 : Int32)), (0, .ref (aO 0)), (1, .int v1), (2, .int v2), (3, .int v3), (4, .int v4), (5, .int v5)]) hx hb dX8_feed_16 hl (by decide) rfl (fun ls hl => ?_)
    exact N18 v1 v2 v3 v4 v5 (0 : Int32) mO hM _ _ hP hD hS _ (lv_sub hl [1, 2, 3, 4, 5, 6, 0] rfl)
  · have hM := it_n hc_10 hM
    refine lv_iconst (v := -1) hx hb dX8_feed_13 (by decide) ?_
    have hR := som hM
    rw [hR] at hQ
    exact ret_i hQ hx hb hr hlocks hP hK hD hS dX8_feed_14
abbrev rmX8_end : Room := { frames := 1, cells := 0, slots := 0, locals := 22 }
theorem iwX8_end_X8 : ∀ w ∈ wsX80, w ∈ wsX8_end := fun _ h => List.mem_cons_of_mem _ (List.mem_append_right _ (h))
set_option maxHeartbeats 4000000 in
set_option maxRecDepth 100000 in
theorem kX8_end (l : Launch) (dC : Nat → ClassId) (dI : Nat → Nat → Nat) (ct : Nat → ClassId) (aO : Nat → Nat) (sz : Nat) (mO : Mem) (mO64 : Lem) (v1 : Int32) (res : (Int32 × Mem)) (hM : mX8_end mO mO64 v1 = some res) : Met l yX8_end wsX8_end rmX8_end (va_Pc [.ref (aO 0), .int v1] (PB (dC, dI) ct E0 sz (wO ct aO mO mO64))) (Qi (dC, dI) ct (va_A (wO ct aO mO mO64) sz) res.1 (wO ct aO res.2 mO64)) 0 0 (va_A (wO ct aO mO mO64) sz) := by
  refine Met.ofW (cc := cX8_end) (maxL := 2) (ret := (some .boolean)) (by decide) rfl ?_
  intro p e s m args below meth c s₁ B hml hv
  obtain ⟨hargs, hsz, hP, hK, hD0, hE⟩ := hv
  have hx := B.exec
  have hb := B.bytes
  have hr := B.returns
  have hts := atoms_spec (ws := wsX8_end) B.pre
  have hown : s.vm.findClass RX8 = some m.cls := findClass_of_methodNamed B.named
  have hlocks := B.notSynchronized
  clear B s₁
  subst hsz
  have hD := hD0.self (sz := s.heap.size)
  clear hD0
  generalize hAe : va_A (wO ct aO mO mO64) s.heap.size = A at hD hE ⊢
  have hA : ∀ q : Nat, s.heap.size ≤ q → A q := fun q h => by rw [← hAe]; exact Or.inr h
  clear hAe
  have hS : va_S A s.heap s.heap [] := va_S.rf
  refine cutQ (fun Q hQ => ?_)
  refine entryW (vs := [.ref (aO 0), .int v1]) hargs (Nat.le_of_ble_eq_true rfl) (fun ls hl => ?_)
  replace hl : lv_has ls 2 [(0, .ref (aO 0)), (1, .int v1)] := hl
  unfold mX8_end at hM
  refine lv_iload_n hx hb dX8_end_0 rfl (lv_at hl 1 rfl) ?_
  refine lv_iconst (v := 0) hx hb dX8_end_1 (by decide) ?_
  refine lv_aload_n hx hb dX8_end_2 rfl (lv_at hl 0 rfl) ?_
  refine va_get (D := (dC, dI)) (ci := 8) (v := .int (mO 0 1)) (C := RX8) (T := TX8) (N := 45) hx hb hts iwX8_end_X8 hown hK hP 0 rfl rfl 1 (by decide) (hts _ (List.mem_of_getElem? (i := 1) rfl)) (fun _ h9 => h9) rfl dX8_end_3 ?_
  obtain ⟨x_1, hr_2, hM⟩ := bn_some hM
  refine gv_i (r0 := x_1) (wn := (wO ct aO mO mO64)) (va_runS (As := [.int v1, .int (0 : Int32), .int (mO 0 1)]) (rest := []) ⟨hx, hb, hml, hown, hts⟩ (kX8_in l dC dI ct _ v1 (0 : Int32) (mO 0 1) _ hr_2) (va_cwS 3 hts gX8_end_X8_in rfl rfl rfl hvX8_in.2 ⟨Nat.le_of_ble_eq_true rfl, Nat.le_of_ble_eq_true rfl⟩) (preS_of E0_ok hK hP hD (is := []) rfl rfl e_0) rfl rfl hl.1 rfl (lv_room (Nat.le_of_ble_eq_true rfl)) dX8_end_6 ⟨Nat.le_of_ble_eq_true rfl, Nat.le_of_ble_eq_true rfl⟩) hP hD hS hA [] [0, 1, 2, 3, 4, 5, 6, 7, 8, 9, 10, 11, 12, 13, 14, 15, 16, 17, 18, 19, 20, 21, 22, 23, 24, 25] [0, 1, 2, 3, 4, 5, 6, 7, 8, 9, 10, 11, 12, 13, 14, 15, 16, 17, 18, 19, 20, 21, 22, 23, 24, 25] rfl rfl rfl (by decide) rfl rfl (fun H locs hP hD hS => ?_)
  refine lv_if_ne (tgt := 14) hx hb dX8_end_9 (by decide) (fun hc_4 => ?_) (fun hc_4 => ?_)
  · have hM := it_p hc_4 hM
    refine lv_aload_n hx hb dX8_end_14 rfl (lv_at hl 0 rfl) ?_
    refine lv_iload_n hx hb dX8_end_15 rfl (lv_at hl 1 rfl) ?_
    refine pf_i (wf := fun z => (wO ct aO z mO64)) (m1 := upf mO 1 v1) hx hb hts iwX8_end_X8 tyX8 tyX8_ok nmX8 hown hK hP hD hS 0 rfl rfl 1 (by decide) (hts _ (List.mem_of_getElem? (i := 1) rfl)) (fun _ h9 => h9) rfl rfl rfl (Nat.le_of_ble_eq_true rfl) dX8_end_16 rfl (fun mO_5 emO_5 H locs hP hD hS => ?_)
    have hM := nm_at emO_5 hM
    refine lv_iconst (v := 1) hx hb dX8_end_19 (by decide) ?_
    have hR := som hM
    rw [hR] at hQ
    exact ret_z hQ hx hb hr hlocks rfl hP hK hD hS dX8_end_20
  · have hM := it_nn hc_4 hM
    refine lv_iconst (v := 0) hx hb dX8_end_12 (by decide) ?_
    have hR := som hM
    rw [hR] at hQ
    exact ret_z hQ hx hb hr hlocks rfl hP hK hD hS dX8_end_13
abbrev rmX8_leads : Room := { frames := 1, cells := 0, slots := 0, locals := 20 }
theorem iwX8_leads_X8 : ∀ w ∈ wsX80, w ∈ wsX8_leads := fun _ h => List.mem_cons_of_mem _ (List.mem_append_right _ (h))
set_option maxHeartbeats 4000000 in
set_option maxRecDepth 100000 in
theorem kX8_leads (l : Launch) (dC : Nat → ClassId) (dI : Nat → Nat → Nat) (ct : Nat → ClassId) (aO : Nat → Nat) (sz : Nat) (mO : Mem) (mO64 : Lem) (res : (Mem × Lem)) (hM : mX8_leads mO mO64 = some res) : Met l yX8_leads wsX8_leads rmX8_leads (va_Pc [.ref (aO 0)] (PB (dC, dI) ct E0 sz (wO ct aO mO mO64))) (Qv (dC, dI) ct (va_A (wO ct aO mO mO64) sz) (wO ct aO res.1 res.2)) 0 0 (va_A (wO ct aO mO mO64) sz) := by
  refine Met.ofW (cc := cX8_leads) (maxL := 2) (ret := none) (by decide) rfl ?_
  intro p e s m args below meth c s₁ B hml hv
  obtain ⟨hargs, hsz, hP, hK, hD0, hE⟩ := hv
  have hx := B.exec
  have hb := B.bytes
  have hr := B.returns
  have hts := atoms_spec (ws := wsX8_leads) B.pre
  have hown : s.vm.findClass RX8 = some m.cls := findClass_of_methodNamed B.named
  have hlocks := B.notSynchronized
  clear B s₁
  subst hsz
  have hD := hD0.self (sz := s.heap.size)
  clear hD0
  generalize hAe : va_A (wO ct aO mO mO64) s.heap.size = A at hD hE ⊢
  have hA : ∀ q : Nat, s.heap.size ≤ q → A q := fun q h => by rw [← hAe]; exact Or.inr h
  clear hAe
  have hS : va_S A s.heap s.heap [] := va_S.rf
  refine cutQ (fun Q hQ => ?_)
  refine entryW (vs := [.ref (aO 0)]) hargs (Nat.le_of_ble_eq_true rfl) (fun ls hl => ?_)
  replace hl : lv_has ls 2 [(0, .ref (aO 0))] := hl
  unfold mX8_leads at hM
  have N312 : ∀ (t1 : Int32) (mO : Mem) (mO64 : Lem), mX8_leads_j312 t1 mO mO64 = some res → ∀ (H : Heap) (locs : List Loc), va_P (dC, dI) vwCl (wO ct aO mO mO64) H → va_D A (wO ct aO mO mO64) → va_S A s.heap H locs → ∀ ls : Array Slot, lv_has ls 2 [(0, .ref (aO 0))] → W p l e (headSpec wsX8_leads rmX8_leads).room s m args below meth c H locs 0 0 Q (F0 m 312 ls [.int t1, .ref (aO 0)]) := by
    intro t1 mO mO64 hM H locs hP hD hS ls hl
    unfold mX8_leads_j312 at hM
    refine pf_i (wf := fun z => (wO ct aO z mO64)) (m1 := upf mO 3 t1) hx hb hts iwX8_leads_X8 tyX8 tyX8_ok nmX8 hown hK hP hD hS 0 rfl rfl 3 (by decide) (hts _ (List.mem_of_getElem? (i := 6) rfl)) (fun _ h9 => h9) rfl rfl rfl (Nat.le_of_ble_eq_true rfl) dX8_leads_312 rfl (fun mO_1 emO_1 H locs hP hD hS => ?_)
    have hM := nm_at emO_1 hM
    refine lv_aload_n hx hb dX8_leads_315 rfl (lv_at hl 0 rfl) ?_
    refine lv_dup hx hb dX8_leads_316 rfl ?_
    refine va_get (D := (dC, dI)) (ci := 8) (v := .int (mO_1 0 2)) (C := RX8) (T := TX8) (N := 45) hx hb hts iwX8_leads_X8 hown hK hP 0 rfl rfl 2 (by decide) (hts _ (List.mem_of_getElem? (i := 1) rfl)) (fun _ h9 => h9) rfl dX8_leads_317 ?_
    refine lv_iconst (v := 1) hx hb dX8_leads_320 (by decide) ?_
    refine lv_iadd hx hb dX8_leads_321 ?_
    refine pf_i (wf := fun z => (wO ct aO z mO64)) (m1 := upf mO_1 2 ((mO_1 0 2) + (1 : Int32))) hx hb hts iwX8_leads_X8 tyX8 tyX8_ok nmX8 hown hK hP hD hS 0 rfl rfl 2 (by decide) (hts _ (List.mem_of_getElem? (i := 1) rfl)) (fun _ h9 => h9) rfl rfl rfl (Nat.le_of_ble_eq_true rfl) dX8_leads_322 rfl (fun mO_2 emO_2 H locs hP hD hS => ?_)
    have hM := nm_at emO_2 hM
    have hR := som hM
    rw [hR] at hQ
    exact ret_v hQ hx hb hr hlocks hP hK hD hS dX8_leads_325
  have N208 : ∀ (mO : Mem) (mO64 : Lem), mX8_leads_L208 mO mO64 = some res → ∀ (H : Heap) (locs : List Loc), va_P (dC, dI) vwCl (wO ct aO mO mO64) H → va_D A (wO ct aO mO mO64) → va_S A s.heap H locs → ∀ ls : Array Slot, lv_has ls 2 [(0, .ref (aO 0))] → W p l e (headSpec wsX8_leads rmX8_leads).room s m args below meth c H locs 0 0 Q (F0 m 208 ls []) := by
    intro mO mO64 hM H locs hP hD hS ls hl
    unfold mX8_leads_L208 at hM
    obtain ⟨ex208, hit208, hM⟩ := bn_some hM
    have X208_0 : ∀ (mO : Mem) (mO64 : Lem), ex208 = (mO, mO64) → ∀ (H : Heap) (locs : List Loc), va_P (dC, dI) vwCl (wO ct aO mO mO64) H → va_D A (wO ct aO mO mO64) → va_S A s.heap H locs → ∀ ls : Array Slot, lv_has ls 2 [(0, .ref (aO 0))] → W p l e (headSpec wsX8_leads rmX8_leads).room s m args below meth c H locs 0 0 Q (F0 m 292 ls []) := by
      intro mO mO64 hex H locs hP hD hS ls hl
      rw [hex] at hM
      have hM := nm_at (y := mO) rfl hM
      have hM := nm_at (y := mO64) rfl hM
      refine lv_aload_n hx hb dX8_leads_292 rfl (lv_at hl 0 rfl) ?_
      refine lv_iconst (v := 2) hx hb dX8_leads_293 (by decide) ?_
      refine pf_i (wf := fun z => (wO ct aO z mO64)) (m1 := upf mO 3 (2 : Int32)) hx hb hts iwX8_leads_X8 tyX8 tyX8_ok nmX8 hown hK hP hD hS 0 rfl rfl 3 (by decide) (hts _ (List.mem_of_getElem? (i := 6) rfl)) (fun _ h9 => h9) rfl rfl rfl (Nat.le_of_ble_eq_true rfl) dX8_leads_294 rfl (fun mO_3 emO_3 H locs hP hD hS => ?_)
      have hM := nm_at emO_3 hM
      refine lv_goto (tgt := 325) hx hb dX8_leads_297 (by decide) ?_
      have hR := som hM
      rw [hR] at hQ
      exact ret_v hQ hx hb hr hlocks hP hK hD hS dX8_leads_325
    have I208 : ∀ (n : Nat) (mO : Mem) (mO64 : Lem), itr (fun q => mX8_leads_s208 q.1 q.2) n (mO, mO64) = some ex208 → ∀ (H : Heap) (locs : List Loc), va_P (dC, dI) vwCl (wO ct aO mO mO64) H → va_D A (wO ct aO mO mO64) → va_S A s.heap H locs → ∀ ls : Array Slot, lv_has ls 2 [(0, .ref (aO 0))] → W p l e (headSpec wsX8_leads rmX8_leads).room s m args below meth c H locs 0 0 Q (F0 m 208 ls []) := by
      intro n
      induction n with
      | zero => intro mO mO64 hit; exact (itr_zero hit).elim
      | succ n ih208 =>
        intro mO mO64 hit H locs hP hD hS ls hl
        obtain ⟨o208, hM, hbk208, hex208⟩ := itr_succ hit
        replace hM : mX8_leads_s208 mO mO64 = some o208 := hM
        have N276 : ∀ (t1 : Int64) (mO : Mem) (mO64 : Lem), mX8_leads_j276 t1 mO mO64 = some o208 → ∀ (H : Heap) (locs : List Loc), va_P (dC, dI) vwCl (wO ct aO mO mO64) H → va_D A (wO ct aO mO mO64) → va_S A s.heap H locs → ∀ ls : Array Slot, lv_has ls 2 [(0, .ref (aO 0))] → W p l e (headSpec wsX8_leads rmX8_leads).room s m args below meth c H locs 0 0 Q (F0 m 276 ls [.long t1, .ref (aO 0)]) := by
          intro t1 mO mO64 hM H locs hP hD hS ls hl
          unfold mX8_leads_j276 at hM
          refine pf_i (wf := fun z => (wO ct aO mO z)) (m1 := upfL mO64 5 t1) hx hb hts iwX8_leads_X8 tyX8 tyX8_ok nmX8 hown hK hP hD hS 0 rfl rfl 5 (by decide) (hts _ (List.mem_of_getElem? (i := 5) rfl)) (fun _ h9 => h9) rfl rfl rfl (Nat.le_of_ble_eq_true rfl) dX8_leads_276 rfl (fun mO64_4 emO64_4 H locs hP hD hS => ?_)
          have hM := nm_at emO64_4 hM
          refine lv_aload_n hx hb dX8_leads_279 rfl (lv_at hl 0 rfl) ?_
          refine lv_dup hx hb dX8_leads_280 rfl ?_
          refine va_get (D := (dC, dI)) (ci := 8) (v := .int (mO 0 2)) (C := RX8) (T := TX8) (N := 45) hx hb hts iwX8_leads_X8 hown hK hP 0 rfl rfl 2 (by decide) (hts _ (List.mem_of_getElem? (i := 1) rfl)) (fun _ h9 => h9) rfl dX8_leads_281 ?_
          refine lv_iconst (v := 1) hx hb dX8_leads_284 (by decide) ?_
          refine lv_iadd hx hb dX8_leads_285 ?_
          refine pf_i (wf := fun z => (wO ct aO z mO64_4)) (m1 := upf mO 2 ((mO 0 2) + (1 : Int32))) hx hb hts iwX8_leads_X8 tyX8 tyX8_ok nmX8 hown hK hP hD hS 0 rfl rfl 2 (by decide) (hts _ (List.mem_of_getElem? (i := 1) rfl)) (fun _ h9 => h9) rfl rfl rfl (Nat.le_of_ble_eq_true rfl) dX8_leads_286 rfl (fun mO_5 emO_5 H locs hP hD hS => ?_)
          have hM := nm_at emO_5 hM
          refine lv_goto (tgt := 208) hx hb dX8_leads_289 (by decide) ?_
          have hR := som hM
          exact ih208 mO_5 mO64_4 (hbk208 _ hR) _ _ hP hD hS _ (lv_sub hl [0] rfl)
        unfold mX8_leads_s208 at hM
        refine lv_aload_n hx hb dX8_leads_208 rfl (lv_at hl 0 rfl) ?_
        refine va_get (D := (dC, dI)) (ci := 8) (v := .int (mO 0 2)) (C := RX8) (T := TX8) (N := 45) hx hb hts iwX8_leads_X8 hown hK hP 0 rfl rfl 2 (by decide) (hts _ (List.mem_of_getElem? (i := 1) rfl)) (fun _ h9 => h9) rfl dX8_leads_209 ?_
        refine lv_aload_n hx hb dX8_leads_212 rfl (lv_at hl 0 rfl) ?_
        refine va_get (D := (dC, dI)) (ci := 8) (v := .int (mO 0 1)) (C := RX8) (T := TX8) (N := 45) hx hb hts iwX8_leads_X8 hown hK hP 0 rfl rfl 1 (by decide) (hts _ (List.mem_of_getElem? (i := 2) rfl)) (fun _ h9 => h9) rfl dX8_leads_213 ?_
        refine lv_icmp_ge (tgt := 292) hx hb dX8_leads_216 (by decide) (fun hc_6 => ?_) (fun hc_6 => ?_)
        · have hM := it_p hc_6 hM
          have hR := som hM
          exact X208_0 mO mO64 (hex208 _ hR).symm _ _ hP hD hS _ (lv_sub hl [0] rfl)
        · have hM := it_n hc_6 hM
          refine lv_aload_n hx hb dX8_leads_219 rfl (lv_at hl 0 rfl) ?_
          refine va_get (D := (dC, dI)) (ci := 8) (v := .ref (aO 1)) (C := RX8) (T := TX8) (N := 45) hx hb hts iwX8_leads_X8 hown hK hP 0 rfl rfl 0 (by decide) (hts _ (List.mem_of_getElem? (i := 3) rfl)) (fun _ h9 => h9) rfl dX8_leads_220 ?_
          refine lv_aload_n hx hb dX8_leads_223 rfl (lv_at hl 0 rfl) ?_
          refine va_get (D := (dC, dI)) (ci := 8) (v := .int (mO 0 2)) (C := RX8) (T := TX8) (N := 45) hx hb hts iwX8_leads_X8 hown hK hP 0 rfl rfl 2 (by decide) (hts _ (List.mem_of_getElem? (i := 1) rfl)) (fun _ h9 => h9) rfl dX8_leads_224 ?_
          obtain ⟨hi, hM⟩ := gi_some hM
          refine va_bald hx hb hK hP 1 1 rfl rfl hi dX8_leads_227 ?_
          obtain ⟨x_7, hr_8, hM⟩ := bn_some hM
          refine gv_i (r0 := x_7) (wn := (wO ct aO mO mO64)) (va_runS (As := [.int (mO 1 (mO 0 2).toNatClampNeg)]) (rest := []) ⟨hx, hb, hml, hown, hts⟩ (kX8_isDigit l dC dI ct _ (mO 1 (mO 0 2).toNatClampNeg) _ hr_8) (va_cwS 1 hts gX8_leads_X8_isDigit rfl rfl rfl hvX8_isDigit.2 ⟨Nat.le_of_ble_eq_true rfl, Nat.le_of_ble_eq_true rfl⟩) (preS_of E0_ok hK hP hD (is := []) rfl rfl e_0) rfl rfl hl.1 rfl (lv_room (Nat.le_of_ble_eq_true rfl)) dX8_leads_228 ⟨Nat.le_of_ble_eq_true rfl, Nat.le_of_ble_eq_true rfl⟩) hP hD hS hA [] [0, 1, 2, 3, 4, 5, 6, 7, 8, 9, 10, 11, 12, 13, 14, 15, 16, 17, 18, 19, 20, 21, 22, 23, 24, 25] [0, 1, 2, 3, 4, 5, 6, 7, 8, 9, 10, 11, 12, 13, 14, 15, 16, 17, 18, 19, 20, 21, 22, 23, 24, 25] rfl rfl rfl (by decide) rfl rfl (fun H locs hP hD hS => ?_)
          refine lv_if_eq (tgt := 292) hx hb dX8_leads_231 (by decide) (fun hc_10 => ?_) (fun hc_10 => ?_)
          · have hM := it_p hc_10 hM
            have hR := som hM
            exact X208_0 mO mO64 (hex208 _ hR).symm _ _ hP hD hS _ (lv_sub hl [0] rfl)
          · have hM := it_n hc_10 hM
            refine lv_aload_n hx hb dX8_leads_234 rfl (lv_at hl 0 rfl) ?_
            refine lv_aload_n hx hb dX8_leads_235 rfl (lv_at hl 0 rfl) ?_
            refine va_get (D := (dC, dI)) (ci := 8) (v := .long (mO64 0 5)) (C := RX8) (T := TX8) (N := 45) hx hb hts iwX8_leads_X8 hown hK hP 0 rfl rfl 5 (by decide) (hts _ (List.mem_of_getElem? (i := 5) rfl)) (fun _ h9 => h9) rfl dX8_leads_236 ?_
            refine lv_ldc2 (v := 9999) hx hb hown (hts _ (List.mem_of_getElem? (i := 7) rfl)) dX8_leads_239 ?_
            refine W.lcmp hx hb dX8_leads_242 ?_
            refine lv_if_le (tgt := 253) hx hb dX8_leads_243 (by decide) (fun hc_11 => ?_) (fun hc_11 => ?_)
            · have hM := it_p hc_11 hM
              refine lv_ldc2 (v := 10) hx hb hown (hts _ (List.mem_of_getElem? (i := 8) rfl)) dX8_leads_253 ?_
              refine lv_aload_n hx hb dX8_leads_256 rfl (lv_at hl 0 rfl) ?_
              refine va_get (D := (dC, dI)) (ci := 8) (v := .long (mO64 0 5)) (C := RX8) (T := TX8) (N := 45) hx hb hts iwX8_leads_X8 hown hK hP 0 rfl rfl 5 (by decide) (hts _ (List.mem_of_getElem? (i := 5) rfl)) (fun _ h9 => h9) rfl dX8_leads_257 ?_
              refine lv_lmul hx hb dX8_leads_260 ?_
              refine lv_aload_n hx hb dX8_leads_261 rfl (lv_at hl 0 rfl) ?_
              refine va_get (D := (dC, dI)) (ci := 8) (v := .ref (aO 1)) (C := RX8) (T := TX8) (N := 45) hx hb hts iwX8_leads_X8 hown hK hP 0 rfl rfl 0 (by decide) (hts _ (List.mem_of_getElem? (i := 3) rfl)) (fun _ h9 => h9) rfl dX8_leads_262 ?_
              refine lv_aload_n hx hb dX8_leads_265 rfl (lv_at hl 0 rfl) ?_
              refine va_get (D := (dC, dI)) (ci := 8) (v := .int (mO 0 2)) (C := RX8) (T := TX8) (N := 45) hx hb hts iwX8_leads_X8 hown hK hP 0 rfl rfl 2 (by decide) (hts _ (List.mem_of_getElem? (i := 1) rfl)) (fun _ h9 => h9) rfl dX8_leads_266 ?_
              obtain ⟨hi, hM⟩ := gi_some hM
              refine va_bald hx hb hK hP 1 1 rfl rfl hi dX8_leads_269 ?_
              refine lv_i2l hx hb dX8_leads_270 rfl ?_
              refine lv_ladd hx hb dX8_leads_271 ?_
              refine lv_ldc2 (v := 48) hx hb hown (hts _ (List.mem_of_getElem? (i := 9) rfl)) dX8_leads_272 ?_
              refine lv_lsub hx hb dX8_leads_275 ?_
              exact N276 ((((10 : Int64) * (mO64 0 5)) + ((mO 1 (mO 0 2).toNatClampNeg).toInt64)) - (48 : Int64)) mO mO64 hM _ _ hP hD hS _ (lv_sub hl [0] rfl)
            · have hM := it_n hc_11 hM
              refine lv_aload_n hx hb dX8_leads_246 rfl (lv_at hl 0 rfl) ?_
              refine va_get (D := (dC, dI)) (ci := 8) (v := .long (mO64 0 5)) (C := RX8) (T := TX8) (N := 45) hx hb hts iwX8_leads_X8 hown hK hP 0 rfl rfl 5 (by decide) (hts _ (List.mem_of_getElem? (i := 5) rfl)) (fun _ h9 => h9) rfl dX8_leads_247 ?_
              refine lv_goto (tgt := 276) hx hb dX8_leads_250 (by decide) ?_
              exact N276 (mO64 0 5) mO mO64 hM _ _ hP hD hS _ (lv_sub hl [0] rfl)
    exact I208 FU mO mO64 hit208 _ _ hP hD hS _ hl
  have N193 : ∀ (mO : Mem) (mO64 : Lem), mX8_leads_j193 mO mO64 = some res → ∀ (H : Heap) (locs : List Loc), va_P (dC, dI) vwCl (wO ct aO mO mO64) H → va_D A (wO ct aO mO mO64) → va_S A s.heap H locs → ∀ ls : Array Slot, lv_has ls 2 [(0, .ref (aO 0))] → W p l e (headSpec wsX8_leads rmX8_leads).room s m args below meth c H locs 0 0 Q (F0 m 193 ls []) := by
    intro mO mO64 hM H locs hP hD hS ls hl
    unfold mX8_leads_j193 at hM
    refine lv_aload_n hx hb dX8_leads_193 rfl (lv_at hl 0 rfl) ?_
    refine lv_iconst (v := 1) hx hb dX8_leads_194 (by decide) ?_
    refine pf_i (wf := fun z => (wO ct aO z mO64)) (m1 := upf mO 3 (1 : Int32)) hx hb hts iwX8_leads_X8 tyX8 tyX8_ok nmX8 hown hK hP hD hS 0 rfl rfl 3 (by decide) (hts _ (List.mem_of_getElem? (i := 6) rfl)) (fun _ h9 => h9) rfl rfl rfl (Nat.le_of_ble_eq_true rfl) dX8_leads_195 rfl (fun mO_12 emO_12 H locs hP hD hS => ?_)
    have hM := nm_at emO_12 hM
    refine lv_goto (tgt := 325) hx hb dX8_leads_198 (by decide) ?_
    have hR := som hM
    rw [hR] at hQ
    exact ret_v hQ hx hb hr hlocks hP hK hD hS dX8_leads_325
  have N99 : ∀ (mO : Mem) (mO64 : Lem), mX8_leads_L99 mO mO64 = some res → ∀ (H : Heap) (locs : List Loc), va_P (dC, dI) vwCl (wO ct aO mO mO64) H → va_D A (wO ct aO mO mO64) → va_S A s.heap H locs → ∀ ls : Array Slot, lv_has ls 2 [(0, .ref (aO 0))] → W p l e (headSpec wsX8_leads rmX8_leads).room s m args below meth c H locs 0 0 Q (F0 m 99 ls []) := by
    intro mO mO64 hM H locs hP hD hS ls hl
    unfold mX8_leads_L99 at hM
    obtain ⟨ex99, hit99, hM⟩ := bn_some hM
    have X99_0 : ∀ (mO : Mem) (mO64 : Lem), ex99 = (mO, mO64) → ∀ (H : Heap) (locs : List Loc), va_P (dC, dI) vwCl (wO ct aO mO mO64) H → va_D A (wO ct aO mO mO64) → va_S A s.heap H locs → ∀ ls : Array Slot, lv_has ls 2 [(0, .ref (aO 0))] → W p l e (headSpec wsX8_leads rmX8_leads).room s m args below meth c H locs 0 0 Q (F0 m 174 ls []) := by
      intro mO mO64 hex H locs hP hD hS ls hl
      rw [hex] at hM
      have hM := nm_at (y := mO) rfl hM
      have hM := nm_at (y := mO64) rfl hM
      refine lv_aload_n hx hb dX8_leads_174 rfl (lv_at hl 0 rfl) ?_
      refine va_get (D := (dC, dI)) (ci := 8) (v := .int (mO 0 2)) (C := RX8) (T := TX8) (N := 45) hx hb hts iwX8_leads_X8 hown hK hP 0 rfl rfl 2 (by decide) (hts _ (List.mem_of_getElem? (i := 1) rfl)) (fun _ h9 => h9) rfl dX8_leads_175 ?_
      refine lv_aload_n hx hb dX8_leads_178 rfl (lv_at hl 0 rfl) ?_
      refine va_get (D := (dC, dI)) (ci := 8) (v := .int (mO 0 4)) (C := RX8) (T := TX8) (N := 45) hx hb hts iwX8_leads_X8 hown hK hP 0 rfl rfl 4 (by decide) (hts _ (List.mem_of_getElem? (i := 4) rfl)) (fun _ h9 => h9) rfl dX8_leads_179 ?_
      refine lv_isub hx hb dX8_leads_182 ?_
      refine lv_bipush (v := 8) hx hb dX8_leads_183 (by decide) ?_
      refine lv_icmp_le (tgt := 193) hx hb dX8_leads_185 (by decide) (fun hc_13 => ?_) (fun hc_13 => ?_)
      · have hM := it_p hc_13 hM
        exact N193 mO mO64 hM _ _ hP hD hS _ (lv_sub hl [0] rfl)
      · have hM := it_n hc_13 hM
        refine lv_aload_n hx hb dX8_leads_188 rfl (lv_at hl 0 rfl) ?_
        refine lv_lconst (v := 0) hx hb dX8_leads_189 (by decide) ?_
        refine pf_i (wf := fun z => (wO ct aO mO z)) (m1 := upfL mO64 5 (0 : Int64)) hx hb hts iwX8_leads_X8 tyX8 tyX8_ok nmX8 hown hK hP hD hS 0 rfl rfl 5 (by decide) (hts _ (List.mem_of_getElem? (i := 5) rfl)) (fun _ h9 => h9) rfl rfl rfl (Nat.le_of_ble_eq_true rfl) dX8_leads_190 rfl (fun mO64_14 emO64_14 H locs hP hD hS => ?_)
        have hM := nm_at emO64_14 hM
        exact N193 mO mO64_14 hM _ _ hP hD hS _ (lv_sub hl [0] rfl)
    have I99 : ∀ (n : Nat) (mO : Mem) (mO64 : Lem), itr (fun q => mX8_leads_s99 q.1 q.2) n (mO, mO64) = some ex99 → ∀ (H : Heap) (locs : List Loc), va_P (dC, dI) vwCl (wO ct aO mO mO64) H → va_D A (wO ct aO mO mO64) → va_S A s.heap H locs → ∀ ls : Array Slot, lv_has ls 2 [(0, .ref (aO 0))] → W p l e (headSpec wsX8_leads rmX8_leads).room s m args below meth c H locs 0 0 Q (F0 m 99 ls []) := by
      intro n
      induction n with
      | zero => intro mO mO64 hit; exact (itr_zero hit).elim
      | succ n ih99 =>
        intro mO mO64 hit H locs hP hD hS ls hl
        obtain ⟨o99, hM, hbk99, hex99⟩ := itr_succ hit
        replace hM : mX8_leads_s99 mO mO64 = some o99 := hM
        have N161 : ∀ (mO : Mem) (mO64 : Lem), mX8_leads_j161 mO mO64 = some o99 → ∀ (H : Heap) (locs : List Loc), va_P (dC, dI) vwCl (wO ct aO mO mO64) H → va_D A (wO ct aO mO mO64) → va_S A s.heap H locs → ∀ ls : Array Slot, lv_has ls 2 [(0, .ref (aO 0))] → W p l e (headSpec wsX8_leads rmX8_leads).room s m args below meth c H locs 0 0 Q (F0 m 161 ls []) := by
          intro mO mO64 hM H locs hP hD hS ls hl
          unfold mX8_leads_j161 at hM
          refine lv_aload_n hx hb dX8_leads_161 rfl (lv_at hl 0 rfl) ?_
          refine lv_dup hx hb dX8_leads_162 rfl ?_
          refine va_get (D := (dC, dI)) (ci := 8) (v := .int (mO 0 2)) (C := RX8) (T := TX8) (N := 45) hx hb hts iwX8_leads_X8 hown hK hP 0 rfl rfl 2 (by decide) (hts _ (List.mem_of_getElem? (i := 1) rfl)) (fun _ h9 => h9) rfl dX8_leads_163 ?_
          refine lv_iconst (v := 1) hx hb dX8_leads_166 (by decide) ?_
          refine lv_iadd hx hb dX8_leads_167 ?_
          refine pf_i (wf := fun z => (wO ct aO z mO64)) (m1 := upf mO 2 ((mO 0 2) + (1 : Int32))) hx hb hts iwX8_leads_X8 tyX8 tyX8_ok nmX8 hown hK hP hD hS 0 rfl rfl 2 (by decide) (hts _ (List.mem_of_getElem? (i := 1) rfl)) (fun _ h9 => h9) rfl rfl rfl (Nat.le_of_ble_eq_true rfl) dX8_leads_168 rfl (fun mO_15 emO_15 H locs hP hD hS => ?_)
          have hM := nm_at emO_15 hM
          refine lv_goto (tgt := 99) hx hb dX8_leads_171 (by decide) ?_
          have hR := som hM
          exact ih99 mO_15 mO64 (hbk99 _ hR) _ _ hP hD hS _ (lv_sub hl [0] rfl)
        unfold mX8_leads_s99 at hM
        refine lv_aload_n hx hb dX8_leads_99 rfl (lv_at hl 0 rfl) ?_
        refine va_get (D := (dC, dI)) (ci := 8) (v := .int (mO 0 2)) (C := RX8) (T := TX8) (N := 45) hx hb hts iwX8_leads_X8 hown hK hP 0 rfl rfl 2 (by decide) (hts _ (List.mem_of_getElem? (i := 1) rfl)) (fun _ h9 => h9) rfl dX8_leads_100 ?_
        refine lv_aload_n hx hb dX8_leads_103 rfl (lv_at hl 0 rfl) ?_
        refine va_get (D := (dC, dI)) (ci := 8) (v := .int (mO 0 1)) (C := RX8) (T := TX8) (N := 45) hx hb hts iwX8_leads_X8 hown hK hP 0 rfl rfl 1 (by decide) (hts _ (List.mem_of_getElem? (i := 2) rfl)) (fun _ h9 => h9) rfl dX8_leads_104 ?_
        refine lv_icmp_ge (tgt := 174) hx hb dX8_leads_107 (by decide) (fun hc_16 => ?_) (fun hc_16 => ?_)
        · have hM := it_p hc_16 hM
          have hR := som hM
          exact X99_0 mO mO64 (hex99 _ hR).symm _ _ hP hD hS _ (lv_sub hl [0] rfl)
        · have hM := it_n hc_16 hM
          refine lv_aload_n hx hb dX8_leads_110 rfl (lv_at hl 0 rfl) ?_
          refine va_get (D := (dC, dI)) (ci := 8) (v := .ref (aO 1)) (C := RX8) (T := TX8) (N := 45) hx hb hts iwX8_leads_X8 hown hK hP 0 rfl rfl 0 (by decide) (hts _ (List.mem_of_getElem? (i := 3) rfl)) (fun _ h9 => h9) rfl dX8_leads_111 ?_
          refine lv_aload_n hx hb dX8_leads_114 rfl (lv_at hl 0 rfl) ?_
          refine va_get (D := (dC, dI)) (ci := 8) (v := .int (mO 0 2)) (C := RX8) (T := TX8) (N := 45) hx hb hts iwX8_leads_X8 hown hK hP 0 rfl rfl 2 (by decide) (hts _ (List.mem_of_getElem? (i := 1) rfl)) (fun _ h9 => h9) rfl dX8_leads_115 ?_
          obtain ⟨hi, hM⟩ := gi_some hM
          refine va_bald hx hb hK hP 1 1 rfl rfl hi dX8_leads_118 ?_
          obtain ⟨x_17, hr_18, hM⟩ := bn_some hM
          refine gv_i (r0 := x_17) (wn := (wO ct aO mO mO64)) (va_runS (As := [.int (mO 1 (mO 0 2).toNatClampNeg)]) (rest := []) ⟨hx, hb, hml, hown, hts⟩ (kX8_isLetter l dC dI ct _ (mO 1 (mO 0 2).toNatClampNeg) _ hr_18) (va_cwS 1 hts gX8_leads_X8_isLetter rfl rfl rfl hvX8_isLetter.2 ⟨Nat.le_of_ble_eq_true rfl, Nat.le_of_ble_eq_true rfl⟩) (preS_of E0_ok hK hP hD (is := []) rfl rfl e_0) rfl rfl hl.1 rfl (lv_room (Nat.le_of_ble_eq_true rfl)) dX8_leads_119 ⟨Nat.le_of_ble_eq_true rfl, Nat.le_of_ble_eq_true rfl⟩) hP hD hS hA [] [0, 1, 2, 3, 4, 5, 6, 7, 8, 9, 10, 11, 12, 13, 14, 15, 16, 17, 18, 19, 20, 21, 22, 23, 24, 25] [0, 1, 2, 3, 4, 5, 6, 7, 8, 9, 10, 11, 12, 13, 14, 15, 16, 17, 18, 19, 20, 21, 22, 23, 24, 25] rfl rfl rfl (by decide) rfl rfl (fun H locs hP hD hS => ?_)
          refine lv_if_eq (tgt := 174) hx hb dX8_leads_122 (by decide) (fun hc_20 => ?_) (fun hc_20 => ?_)
          · have hM := it_p hc_20 hM
            have hR := som hM
            exact X99_0 mO mO64 (hex99 _ hR).symm _ _ hP hD hS _ (lv_sub hl [0] rfl)
          · have hM := it_n hc_20 hM
            refine lv_aload_n hx hb dX8_leads_125 rfl (lv_at hl 0 rfl) ?_
            refine va_get (D := (dC, dI)) (ci := 8) (v := .int (mO 0 2)) (C := RX8) (T := TX8) (N := 45) hx hb hts iwX8_leads_X8 hown hK hP 0 rfl rfl 2 (by decide) (hts _ (List.mem_of_getElem? (i := 1) rfl)) (fun _ h9 => h9) rfl dX8_leads_126 ?_
            refine lv_aload_n hx hb dX8_leads_129 rfl (lv_at hl 0 rfl) ?_
            refine va_get (D := (dC, dI)) (ci := 8) (v := .int (mO 0 4)) (C := RX8) (T := TX8) (N := 45) hx hb hts iwX8_leads_X8 hown hK hP 0 rfl rfl 4 (by decide) (hts _ (List.mem_of_getElem? (i := 4) rfl)) (fun _ h9 => h9) rfl dX8_leads_130 ?_
            refine lv_isub hx hb dX8_leads_133 ?_
            refine lv_bipush (v := 8) hx hb dX8_leads_134 (by decide) ?_
            refine lv_icmp_ge (tgt := 161) hx hb dX8_leads_136 (by decide) (fun hc_21 => ?_) (fun hc_21 => ?_)
            · have hM := it_p hc_21 hM
              exact N161 mO mO64 hM _ _ hP hD hS _ (lv_sub hl [0] rfl)
            · have hM := it_n hc_21 hM
              refine lv_aload_n hx hb dX8_leads_139 rfl (lv_at hl 0 rfl) ?_
              refine lv_aload_n hx hb dX8_leads_140 rfl (lv_at hl 0 rfl) ?_
              refine va_get (D := (dC, dI)) (ci := 8) (v := .long (mO64 0 5)) (C := RX8) (T := TX8) (N := 45) hx hb hts iwX8_leads_X8 hown hK hP 0 rfl rfl 5 (by decide) (hts _ (List.mem_of_getElem? (i := 5) rfl)) (fun _ h9 => h9) rfl dX8_leads_141 ?_
              refine lv_bipush (v := 8) hx hb dX8_leads_144 (by decide) ?_
              refine lv_lshl hx hb dX8_leads_146 rfl ?_
              refine lv_aload_n hx hb dX8_leads_147 rfl (lv_at hl 0 rfl) ?_
              refine va_get (D := (dC, dI)) (ci := 8) (v := .ref (aO 1)) (C := RX8) (T := TX8) (N := 45) hx hb hts iwX8_leads_X8 hown hK hP 0 rfl rfl 0 (by decide) (hts _ (List.mem_of_getElem? (i := 3) rfl)) (fun _ h9 => h9) rfl dX8_leads_148 ?_
              refine lv_aload_n hx hb dX8_leads_151 rfl (lv_at hl 0 rfl) ?_
              refine va_get (D := (dC, dI)) (ci := 8) (v := .int (mO 0 2)) (C := RX8) (T := TX8) (N := 45) hx hb hts iwX8_leads_X8 hown hK hP 0 rfl rfl 2 (by decide) (hts _ (List.mem_of_getElem? (i := 1) rfl)) (fun _ h9 => h9) rfl dX8_leads_152 ?_
              obtain ⟨hi, hM⟩ := gi_some hM
              refine va_bald hx hb hK hP 1 1 rfl rfl hi dX8_leads_155 ?_
              refine lv_i2l hx hb dX8_leads_156 rfl ?_
              refine lv_lor hx hb dX8_leads_157 ?_
              refine pf_i (wf := fun z => (wO ct aO mO z)) (m1 := upfL mO64 5 (((mO64 0 5) <<< ((8 : Int32).toInt64 &&& 63)) ||| ((mO 1 (mO 0 2).toNatClampNeg).toInt64))) hx hb hts iwX8_leads_X8 tyX8 tyX8_ok nmX8 hown hK hP hD hS 0 rfl rfl 5 (by decide) (hts _ (List.mem_of_getElem? (i := 5) rfl)) (fun _ h9 => h9) rfl rfl rfl (Nat.le_of_ble_eq_true rfl) dX8_leads_158 rfl (fun mO64_22 emO64_22 H locs hP hD hS => ?_)
              have hM := nm_at emO64_22 hM
              exact N161 mO mO64_22 hM _ _ hP hD hS _ (lv_sub hl [0] rfl)
    exact I99 FU mO mO64 hit99 _ _ hP hD hS _ hl
  have N0 : ∀ (mO : Mem) (mO64 : Lem), mX8_leads_L0 mO mO64 = some res → ∀ (H : Heap) (locs : List Loc), va_P (dC, dI) vwCl (wO ct aO mO mO64) H → va_D A (wO ct aO mO mO64) → va_S A s.heap H locs → ∀ ls : Array Slot, lv_has ls 2 [(0, .ref (aO 0))] → W p l e (headSpec wsX8_leads rmX8_leads).room s m args below meth c H locs 0 0 Q (F0 m 0 ls []) := by
    intro mO mO64 hM H locs hP hD hS ls hl
    unfold mX8_leads_L0 at hM
    obtain ⟨ex0, hit0, hM⟩ := bn_some hM
    have X0_0 : ∀ (mO : Mem), ex0 = mO → ∀ (H : Heap) (locs : List Loc), va_P (dC, dI) vwCl (wO ct aO mO mO64) H → va_D A (wO ct aO mO mO64) → va_S A s.heap H locs → ∀ ls : Array Slot, lv_has ls 2 [(0, .ref (aO 0))] → W p l e (headSpec wsX8_leads rmX8_leads).room s m args below meth c H locs 0 0 Q (F0 m 52 ls []) := by
      intro mO hex H locs hP hD hS ls hl
      rw [hex] at hM
      have hM := nm_at (y := mO) rfl hM
      refine lv_aload_n hx hb dX8_leads_52 rfl (lv_at hl 0 rfl) ?_
      refine lv_aload_n hx hb dX8_leads_53 rfl (lv_at hl 0 rfl) ?_
      refine va_get (D := (dC, dI)) (ci := 8) (v := .int (mO 0 2)) (C := RX8) (T := TX8) (N := 45) hx hb hts iwX8_leads_X8 hown hK hP 0 rfl rfl 2 (by decide) (hts _ (List.mem_of_getElem? (i := 1) rfl)) (fun _ h9 => h9) rfl dX8_leads_54 ?_
      refine pf_i (wf := fun z => (wO ct aO z mO64)) (m1 := upf mO 4 (mO 0 2)) hx hb hts iwX8_leads_X8 tyX8 tyX8_ok nmX8 hown hK hP hD hS 0 rfl rfl 4 (by decide) (hts _ (List.mem_of_getElem? (i := 4) rfl)) (fun _ h9 => h9) rfl rfl rfl (Nat.le_of_ble_eq_true rfl) dX8_leads_57 rfl (fun mO_23 emO_23 H locs hP hD hS => ?_)
      have hM := nm_at emO_23 hM
      refine lv_aload_n hx hb dX8_leads_60 rfl (lv_at hl 0 rfl) ?_
      refine lv_lconst (v := 0) hx hb dX8_leads_61 (by decide) ?_
      refine pf_i (wf := fun z => (wO ct aO mO_23 z)) (m1 := upfL mO64 5 (0 : Int64)) hx hb hts iwX8_leads_X8 tyX8 tyX8_ok nmX8 hown hK hP hD hS 0 rfl rfl 5 (by decide) (hts _ (List.mem_of_getElem? (i := 5) rfl)) (fun _ h9 => h9) rfl rfl rfl (Nat.le_of_ble_eq_true rfl) dX8_leads_62 rfl (fun mO64_24 emO64_24 H locs hP hD hS => ?_)
      have hM := nm_at emO64_24 hM
      refine lv_aload_n hx hb dX8_leads_65 rfl (lv_at hl 0 rfl) ?_
      refine lv_iconst (v := 0) hx hb dX8_leads_66 (by decide) ?_
      refine pf_i (wf := fun z => (wO ct aO z mO64_24)) (m1 := upf mO_23 3 (0 : Int32)) hx hb hts iwX8_leads_X8 tyX8 tyX8_ok nmX8 hown hK hP hD hS 0 rfl rfl 3 (by decide) (hts _ (List.mem_of_getElem? (i := 6) rfl)) (fun _ h9 => h9) rfl rfl rfl (Nat.le_of_ble_eq_true rfl) dX8_leads_67 rfl (fun mO_25 emO_25 H locs hP hD hS => ?_)
      have hM := nm_at emO_25 hM
      refine lv_aload_n hx hb dX8_leads_70 rfl (lv_at hl 0 rfl) ?_
      refine va_get (D := (dC, dI)) (ci := 8) (v := .int (mO_25 0 2)) (C := RX8) (T := TX8) (N := 45) hx hb hts iwX8_leads_X8 hown hK hP 0 rfl rfl 2 (by decide) (hts _ (List.mem_of_getElem? (i := 1) rfl)) (fun _ h9 => h9) rfl dX8_leads_71 ?_
      refine lv_aload_n hx hb dX8_leads_74 rfl (lv_at hl 0 rfl) ?_
      refine va_get (D := (dC, dI)) (ci := 8) (v := .int (mO_25 0 1)) (C := RX8) (T := TX8) (N := 45) hx hb hts iwX8_leads_X8 hown hK hP 0 rfl rfl 1 (by decide) (hts _ (List.mem_of_getElem? (i := 2) rfl)) (fun _ h9 => h9) rfl dX8_leads_75 ?_
      refine lv_icmp_ne (tgt := 82) hx hb dX8_leads_78 (by decide) (fun hc_26 => ?_) (fun hc_26 => ?_)
      · have hM := it_p hc_26 hM
        refine lv_aload_n hx hb dX8_leads_82 rfl (lv_at hl 0 rfl) ?_
        refine va_get (D := (dC, dI)) (ci := 8) (v := .ref (aO 1)) (C := RX8) (T := TX8) (N := 45) hx hb hts iwX8_leads_X8 hown hK hP 0 rfl rfl 0 (by decide) (hts _ (List.mem_of_getElem? (i := 3) rfl)) (fun _ h9 => h9) rfl dX8_leads_83 ?_
        refine lv_aload_n hx hb dX8_leads_86 rfl (lv_at hl 0 rfl) ?_
        refine va_get (D := (dC, dI)) (ci := 8) (v := .int (mO_25 0 2)) (C := RX8) (T := TX8) (N := 45) hx hb hts iwX8_leads_X8 hown hK hP 0 rfl rfl 2 (by decide) (hts _ (List.mem_of_getElem? (i := 1) rfl)) (fun _ h9 => h9) rfl dX8_leads_87 ?_
        obtain ⟨hi, hM⟩ := gi_some hM
        refine va_bald hx hb hK hP 1 1 rfl rfl hi dX8_leads_90 ?_
        refine lv_topi (fun x_27 ex_27 => ?_)
        have hM := nm_at ex_27 hM
        refine lv_istore_n (lv' := [(1, .int x_27), (0, .ref (aO 0))]) hx hb dX8_leads_91 rfl hl (by decide) rfl (fun ls hl => ?_)
        refine lv_iload_n hx hb dX8_leads_92 rfl (lv_at hl 0 rfl) ?_
        obtain ⟨x_28, hr_29, hM⟩ := bn_some hM
        refine gv_i (r0 := x_28) (wn := (wO ct aO mO_25 mO64_24)) (va_runS (As := [.int x_27]) (rest := []) ⟨hx, hb, hml, hown, hts⟩ (kX8_isLetter l dC dI ct _ x_27 _ hr_29) (va_cwS 1 hts gX8_leads_X8_isLetter rfl rfl rfl hvX8_isLetter.2 ⟨Nat.le_of_ble_eq_true rfl, Nat.le_of_ble_eq_true rfl⟩) (preS_of E0_ok hK hP hD (is := []) rfl rfl e_0) rfl rfl hl.1 rfl (lv_room (Nat.le_of_ble_eq_true rfl)) dX8_leads_93 ⟨Nat.le_of_ble_eq_true rfl, Nat.le_of_ble_eq_true rfl⟩) hP hD hS hA [] [0, 1, 2, 3, 4, 5, 6, 7, 8, 9, 10, 11, 12, 13, 14, 15, 16, 17, 18, 19, 20, 21, 22, 23, 24, 25] [0, 1, 2, 3, 4, 5, 6, 7, 8, 9, 10, 11, 12, 13, 14, 15, 16, 17, 18, 19, 20, 21, 22, 23, 24, 25] rfl rfl rfl (by decide) rfl rfl (fun H locs hP hD hS => ?_)
        refine lv_if_eq (tgt := 201) hx hb dX8_leads_96 (by decide) (fun hc_31 => ?_) (fun hc_31 => ?_)
        · have hM := it_p hc_31 hM
          refine lv_iload_n hx hb dX8_leads_201 rfl (lv_at hl 0 rfl) ?_
          obtain ⟨x_32, hr_33, hM⟩ := bn_some hM
          refine gv_i (r0 := x_32) (wn := (wO ct aO mO_25 mO64_24)) (va_runS (As := [.int x_27]) (rest := []) ⟨hx, hb, hml, hown, hts⟩ (kX8_isDigit l dC dI ct _ x_27 _ hr_33) (va_cwS 1 hts gX8_leads_X8_isDigit rfl rfl rfl hvX8_isDigit.2 ⟨Nat.le_of_ble_eq_true rfl, Nat.le_of_ble_eq_true rfl⟩) (preS_of E0_ok hK hP hD (is := []) rfl rfl e_0) rfl rfl hl.1 rfl (lv_room (Nat.le_of_ble_eq_true rfl)) dX8_leads_202 ⟨Nat.le_of_ble_eq_true rfl, Nat.le_of_ble_eq_true rfl⟩) hP hD hS hA [] [0, 1, 2, 3, 4, 5, 6, 7, 8, 9, 10, 11, 12, 13, 14, 15, 16, 17, 18, 19, 20, 21, 22, 23, 24, 25] [0, 1, 2, 3, 4, 5, 6, 7, 8, 9, 10, 11, 12, 13, 14, 15, 16, 17, 18, 19, 20, 21, 22, 23, 24, 25] rfl rfl rfl (by decide) rfl rfl (fun H locs hP hD hS => ?_)
          refine lv_if_eq (tgt := 300) hx hb dX8_leads_205 (by decide) (fun hc_35 => ?_) (fun hc_35 => ?_)
          · have hM := it_p hc_35 hM
            refine lv_aload_n hx hb dX8_leads_300 rfl (lv_at hl 1 rfl) ?_
            refine lv_iload_n hx hb dX8_leads_301 rfl (lv_at hl 0 rfl) ?_
            refine lv_bipush (v := 59) hx hb dX8_leads_302 (by decide) ?_
            refine lv_icmp_ne (tgt := 311) hx hb dX8_leads_304 (by decide) (fun hc_36 => ?_) (fun hc_36 => ?_)
            · have hM := it_p hc_36 hM
              refine lv_iconst (v := 4) hx hb dX8_leads_311 (by decide) ?_
              exact N312 (4 : Int32) mO_25 mO64_24 hM _ _ hP hD hS _ (lv_sub hl [1] rfl)
            · have hM := it_nn hc_36 hM
              refine lv_iconst (v := 3) hx hb dX8_leads_307 (by decide) ?_
              refine lv_goto (tgt := 312) hx hb dX8_leads_308 (by decide) ?_
              exact N312 (3 : Int32) mO_25 mO64_24 hM _ _ hP hD hS _ (lv_sub hl [1] rfl)
          · have hM := it_n hc_35 hM
            exact N208 mO_25 mO64_24 hM _ _ hP hD hS _ (lv_sub hl [1] rfl)
        · have hM := it_n hc_31 hM
          exact N99 mO_25 mO64_24 hM _ _ hP hD hS _ (lv_sub hl [1] rfl)
      · have hM := it_nn hc_26 hM
        have hR := som hM
        rw [hR] at hQ
        exact ret_v hQ hx hb hr hlocks hP hK hD hS dX8_leads_81
    have I0 : ∀ (n : Nat) (mO : Mem), itr (fun q => mX8_leads_s0 mO64 q) n mO = some ex0 → ∀ (H : Heap) (locs : List Loc), va_P (dC, dI) vwCl (wO ct aO mO mO64) H → va_D A (wO ct aO mO mO64) → va_S A s.heap H locs → ∀ ls : Array Slot, lv_has ls 2 [(0, .ref (aO 0))] → W p l e (headSpec wsX8_leads rmX8_leads).room s m args below meth c H locs 0 0 Q (F0 m 0 ls []) := by
      intro n
      induction n with
      | zero => intro mO hit; exact (itr_zero hit).elim
      | succ n ih0 =>
        intro mO hit H locs hP hD hS ls hl
        obtain ⟨o0, hM, hbk0, hex0⟩ := itr_succ hit
        replace hM : mX8_leads_s0 mO64 mO = some o0 := hM
        have N39 : ∀ (mO : Mem), mX8_leads_j39 mO mO64 = some o0 → ∀ (H : Heap) (locs : List Loc), va_P (dC, dI) vwCl (wO ct aO mO mO64) H → va_D A (wO ct aO mO mO64) → va_S A s.heap H locs → ∀ ls : Array Slot, lv_has ls 2 [(0, .ref (aO 0))] → W p l e (headSpec wsX8_leads rmX8_leads).room s m args below meth c H locs 0 0 Q (F0 m 39 ls []) := by
          intro mO hM H locs hP hD hS ls hl
          unfold mX8_leads_j39 at hM
          refine lv_aload_n hx hb dX8_leads_39 rfl (lv_at hl 0 rfl) ?_
          refine lv_dup hx hb dX8_leads_40 rfl ?_
          refine va_get (D := (dC, dI)) (ci := 8) (v := .int (mO 0 2)) (C := RX8) (T := TX8) (N := 45) hx hb hts iwX8_leads_X8 hown hK hP 0 rfl rfl 2 (by decide) (hts _ (List.mem_of_getElem? (i := 1) rfl)) (fun _ h9 => h9) rfl dX8_leads_41 ?_
          refine lv_iconst (v := 1) hx hb dX8_leads_44 (by decide) ?_
          refine lv_iadd hx hb dX8_leads_45 ?_
          refine pf_i (wf := fun z => (wO ct aO z mO64)) (m1 := upf mO 2 ((mO 0 2) + (1 : Int32))) hx hb hts iwX8_leads_X8 tyX8 tyX8_ok nmX8 hown hK hP hD hS 0 rfl rfl 2 (by decide) (hts _ (List.mem_of_getElem? (i := 1) rfl)) (fun _ h9 => h9) rfl rfl rfl (Nat.le_of_ble_eq_true rfl) dX8_leads_46 rfl (fun mO_37 emO_37 H locs hP hD hS => ?_)
          have hM := nm_at emO_37 hM
          refine lv_goto (tgt := 0) hx hb dX8_leads_49 (by decide) ?_
          have hR := som hM
          exact ih0 mO_37 (hbk0 _ hR) _ _ hP hD hS _ (lv_sub hl [0] rfl)
        unfold mX8_leads_s0 at hM
        refine lv_aload_n hx hb dX8_leads_0 rfl (lv_at hl 0 rfl) ?_
        refine va_get (D := (dC, dI)) (ci := 8) (v := .int (mO 0 2)) (C := RX8) (T := TX8) (N := 45) hx hb hts iwX8_leads_X8 hown hK hP 0 rfl rfl 2 (by decide) (hts _ (List.mem_of_getElem? (i := 1) rfl)) (fun _ h9 => h9) rfl dX8_leads_1 ?_
        refine lv_aload_n hx hb dX8_leads_4 rfl (lv_at hl 0 rfl) ?_
        refine va_get (D := (dC, dI)) (ci := 8) (v := .int (mO 0 1)) (C := RX8) (T := TX8) (N := 45) hx hb hts iwX8_leads_X8 hown hK hP 0 rfl rfl 1 (by decide) (hts _ (List.mem_of_getElem? (i := 2) rfl)) (fun _ h9 => h9) rfl dX8_leads_5 ?_
        refine lv_icmp_ge (tgt := 52) hx hb dX8_leads_8 (by decide) (fun hc_38 => ?_) (fun hc_38 => ?_)
        · have hM := it_p hc_38 hM
          have hR := som hM
          exact X0_0 mO (hex0 _ hR).symm _ _ hP hD hS _ (lv_sub hl [0] rfl)
        · have hM := it_n hc_38 hM
          refine lv_aload_n hx hb dX8_leads_11 rfl (lv_at hl 0 rfl) ?_
          refine va_get (D := (dC, dI)) (ci := 8) (v := .ref (aO 1)) (C := RX8) (T := TX8) (N := 45) hx hb hts iwX8_leads_X8 hown hK hP 0 rfl rfl 0 (by decide) (hts _ (List.mem_of_getElem? (i := 3) rfl)) (fun _ h9 => h9) rfl dX8_leads_12 ?_
          refine lv_aload_n hx hb dX8_leads_15 rfl (lv_at hl 0 rfl) ?_
          refine va_get (D := (dC, dI)) (ci := 8) (v := .int (mO 0 2)) (C := RX8) (T := TX8) (N := 45) hx hb hts iwX8_leads_X8 hown hK hP 0 rfl rfl 2 (by decide) (hts _ (List.mem_of_getElem? (i := 1) rfl)) (fun _ h9 => h9) rfl dX8_leads_16 ?_
          obtain ⟨hi, hM⟩ := gi_some hM
          refine va_bald hx hb hK hP 1 1 rfl rfl hi dX8_leads_19 ?_
          refine lv_bipush (v := 32) hx hb dX8_leads_20 (by decide) ?_
          refine lv_icmp_eq (tgt := 39) hx hb dX8_leads_22 (by decide) (fun hc_39 => ?_) (fun hc_39 => ?_)
          · have hM := it_p hc_39 hM
            exact N39 mO hM _ _ hP hD hS _ (lv_sub hl [0] rfl)
          · have hM := it_n hc_39 hM
            refine lv_aload_n hx hb dX8_leads_25 rfl (lv_at hl 0 rfl) ?_
            refine va_get (D := (dC, dI)) (ci := 8) (v := .ref (aO 1)) (C := RX8) (T := TX8) (N := 45) hx hb hts iwX8_leads_X8 hown hK hP 0 rfl rfl 0 (by decide) (hts _ (List.mem_of_getElem? (i := 3) rfl)) (fun _ h9 => h9) rfl dX8_leads_26 ?_
            refine lv_aload_n hx hb dX8_leads_29 rfl (lv_at hl 0 rfl) ?_
            refine va_get (D := (dC, dI)) (ci := 8) (v := .int (mO 0 2)) (C := RX8) (T := TX8) (N := 45) hx hb hts iwX8_leads_X8 hown hK hP 0 rfl rfl 2 (by decide) (hts _ (List.mem_of_getElem? (i := 1) rfl)) (fun _ h9 => h9) rfl dX8_leads_30 ?_
            obtain ⟨hi, hM⟩ := gi_some hM
            refine va_bald hx hb hK hP 1 1 rfl rfl hi dX8_leads_33 ?_
            refine lv_bipush (v := 10) hx hb dX8_leads_34 (by decide) ?_
            refine lv_icmp_ne (tgt := 52) hx hb dX8_leads_36 (by decide) (fun hc_40 => ?_) (fun hc_40 => ?_)
            · have hM := it_p hc_40 hM
              have hR := som hM
              exact X0_0 mO (hex0 _ hR).symm _ _ hP hD hS _ (lv_sub hl [0] rfl)
            · have hM := it_nn hc_40 hM
              exact N39 mO hM _ _ hP hD hS _ (lv_sub hl [0] rfl)
    exact I0 FU mO hit0 _ _ hP hD hS _ hl
  exact N0 mO mO64 hM _ _ hP hD hS _ (lv_sub hl [0] rfl)
abbrev rmX8_packed : Room := { frames := 4, cells := 0, slots := 0, locals := 85 }
set_option maxHeartbeats 4000000 in
set_option maxRecDepth 100000 in
theorem kX8_packed (l : Launch) (dC : Nat → ClassId) (dI : Nat → Nat → Nat) (ct : Nat → ClassId) (adK adV : Nat → Nat) (sz : Nat) (w0 : Nat) (res : Int64) (hM : mX8_packed w0 = some res) : Met l yX8_packed wsX8_packed rmX8_packed (va_Pc [.ref (adK w0)] (PB (dC, dI) ct (EV adK adV) sz ([] : va_W))) (Ql (dC, dI) ct (va_A ([] : va_W) sz) res ([] : va_W)) 0 0 (va_A ([] : va_W) sz) := by
  refine Met.ofW (cc := cX8_packed) (maxL := 4) (ret := (some .long)) (by decide) rfl ?_
  intro p e s m args below meth c s₁ B hml hv
  obtain ⟨hargs, hsz, hP, hK, hD0, hE⟩ := hv
  have hx := B.exec
  have hb := B.bytes
  have hr := B.returns
  have hts := atoms_spec (ws := wsX8_packed) B.pre
  have hown : s.vm.findClass RX8 = some m.cls := findClass_of_methodNamed B.named
  have hlocks := B.notSynchronized
  clear B s₁
  subst hsz
  have hD := hD0.self (sz := s.heap.size)
  clear hD0
  generalize hAe : va_A ([] : va_W) s.heap.size = A at hD hE ⊢
  have hA : ∀ q : Nat, s.heap.size ≤ q → A q := fun q h => by rw [← hAe]; exact Or.inr h
  clear hAe
  have hS : va_S A s.heap s.heap [] := va_S.rf
  refine cutQ (fun Q hQ => ?_)
  refine entryW (vs := [.ref (adK w0)]) hargs (Nat.le_of_ble_eq_true rfl) (fun ls hl => ?_)
  replace hl : lv_has ls 4 [(0, .ref (adK w0))] := hl
  unfold mX8_packed at hM
  obtain ⟨hw0, hM⟩ := gs_some hM
  have N4 : ∀ (v1 : Int64) (v3 : Int32), mX8_packed_L4 w0 v1 v3 = some res → ∀ (H : Heap) (locs : List Loc), va_P (dC, dI) vwCl ([] : va_W) H → va_D A ([] : va_W) → va_S A s.heap H locs → ∀ ls : Array Slot, lv_has ls 4 [(0, .ref (adK w0)), (1, .long v1), (3, .int v3)] → W p l e (headSpec wsX8_packed rmX8_packed).room s m args below meth c H locs 0 0 Q (F0 m 4 ls []) := by
    intro v1 v3 hM H locs hP hD hS ls hl
    unfold mX8_packed_L4 at hM
    obtain ⟨ex4, hit4, hM⟩ := bn_some hM
    have X4_0 : ∀ (v1 : Int64), ex4 = v1 → ∀ (H : Heap) (locs : List Loc), va_P (dC, dI) vwCl ([] : va_W) H → va_D A ([] : va_W) → va_S A s.heap H locs → ∀ ls : Array Slot, lv_has ls 4 [(1, .long v1)] → W p l e (headSpec wsX8_packed rmX8_packed).room s m args below meth c H locs 0 0 Q (F0 m 30 ls []) := by
      intro v1 hex H locs hP hD hS ls hl
      rw [hex] at hM
      have hM := nm_at (y := v1) rfl hM
      refine lv_lload_n hx hb dX8_packed_30 rfl (lv_at hl 0 rfl) ?_
      have hR := som hM
      rw [hR] at hQ
      exact ret_l hQ hx hb hr hlocks hP hK hD hS dX8_packed_31
    have I4 : ∀ (n : Nat) (v1 : Int64) (v3 : Int32), itr (fun q => mX8_packed_s4 w0 q.1 q.2) n (v1, v3) = some ex4 → ∀ (H : Heap) (locs : List Loc), va_P (dC, dI) vwCl ([] : va_W) H → va_D A ([] : va_W) → va_S A s.heap H locs → ∀ ls : Array Slot, lv_has ls 4 [(0, .ref (adK w0)), (1, .long v1), (3, .int v3)] → W p l e (headSpec wsX8_packed rmX8_packed).room s m args below meth c H locs 0 0 Q (F0 m 4 ls []) := by
      intro n
      induction n with
      | zero => intro v1 v3 hit; exact (itr_zero hit).elim
      | succ n ih4 =>
        intro v1 v3 hit H locs hP hD hS ls hl
        obtain ⟨o4, hM, hbk4, hex4⟩ := itr_succ hit
        replace hM : mX8_packed_s4 w0 v1 v3 = some o4 := hM
        unfold mX8_packed_s4 at hM
        refine lv_iload_n hx hb dX8_packed_4 rfl (lv_at hl 2 rfl) ?_
        refine lv_aload_n hx hb dX8_packed_5 rfl (lv_at hl 0 rfl) ?_
        refine gv_i (r0 := (slen w0)) (wn := ([] : va_W)) (va_runV (As := []) (rest := [.int v3]) ⟨hx, hb, hml, hown, hts⟩ (kJ0_length_8abf5 l dC dI ct adK adV _ w0 hw0) (cwV 0 hts gX8_packed_J0_length_8abf5 rfl rfl rfl hvJ0_length_8abf5 ⟨Nat.le_of_ble_eq_true rfl, Nat.le_of_ble_eq_true rfl⟩) (preVs hK hP hD hS hA hE hw0) rfl rfl hl.1 rfl (lv_room (Nat.le_of_ble_eq_true rfl)) dX8_packed_6 ⟨Nat.le_of_ble_eq_true rfl, Nat.le_of_ble_eq_true rfl⟩) hP hD hS hA [] [] [] rfl rfl rfl (by decide) rfl rfl (fun H locs hP hD hS => ?_)
        refine lv_icmp_ge (tgt := 30) hx hb dX8_packed_9 (by decide) (fun hc_1 => ?_) (fun hc_1 => ?_)
        · have hM := it_p hc_1 hM
          have hR := som hM
          exact X4_0 v1 (hex4 _ hR).symm _ _ hP hD hS _ (lv_sub hl [1] rfl)
        · have hM := it_n hc_1 hM
          refine lv_lload_n hx hb dX8_packed_12 rfl (lv_at hl 1 rfl) ?_
          refine lv_bipush (v := 8) hx hb dX8_packed_13 (by decide) ?_
          refine lv_lshl hx hb dX8_packed_15 rfl ?_
          refine lv_aload_n hx hb dX8_packed_16 rfl (lv_at hl 0 rfl) ?_
          refine lv_iload_n hx hb dX8_packed_17 rfl (lv_at hl 2 rfl) ?_
          obtain ⟨hi, hM⟩ := gi_some hM
          refine gv_i (r0 := (sch w0 v3.toNatClampNeg)) (wn := ([] : va_W)) (va_runV (As := [.int v3]) (rest := [.long (v1 <<< ((8 : Int32).toInt64 &&& 63))]) ⟨hx, hb, hml, hown, hts⟩ (kJ0_charAt_5068e l dC dI ct adK adV _ w0 v3 hw0 hi) (cwV 1 hts gX8_packed_J0_charAt_5068e rfl rfl rfl hvJ0_charAt_5068e ⟨Nat.le_of_ble_eq_true rfl, Nat.le_of_ble_eq_true rfl⟩) (preVs hK hP hD hS hA hE hw0) rfl rfl hl.1 rfl (lv_room (Nat.le_of_ble_eq_true rfl)) dX8_packed_18 ⟨Nat.le_of_ble_eq_true rfl, Nat.le_of_ble_eq_true rfl⟩) hP hD hS hA [] [] [] rfl rfl rfl (by decide) rfl rfl (fun H locs hP hD hS => ?_)
          refine lv_i2l hx hb dX8_packed_21 rfl ?_
          refine lv_lor hx hb dX8_packed_22 ?_
          refine lv_topl (fun x_2 ex_2 => ?_)
          have hM := nm_at ex_2 hM
          refine lv_lstore_n (lv' := [(1, .long x_2), (0, .ref (adK w0)), (3, .int v3)]) hx hb dX8_packed_23 rfl hl (by decide) rfl (fun ls hl => ?_)
          obtain ⟨x_3, ex_3⟩ : ∃ y : Int32, y = (v3 + (1 : Int32)) := ⟨_, rfl⟩
          have hM := nm_at ex_3 hM
          refine lv_iinc (v := x_3) (lv' := [(3, .int x_3), (1, .long x_2), (0, .ref (adK w0))]) hx hb dX8_packed_24 hl (k := 2) rfl (by rw [ex_3]; rfl) (by decide) rfl (fun ls hl => ?_)
          refine lv_goto (tgt := 4) hx hb dX8_packed_27 (by decide) ?_
          have hR := som hM
          exact ih4 x_2 x_3 (hbk4 _ hR) _ _ hP hD hS _ (lv_sub hl [2, 1, 0] rfl)
    exact I4 FU v1 v3 hit4 _ _ hP hD hS _ hl
  refine lv_lconst (v := 0) hx hb dX8_packed_0 (by decide) ?_
  refine lv_lstore_n (lv' := [(1, .long (0 : Int64)), (0, .ref (adK w0))]) hx hb dX8_packed_1 rfl hl (by decide) rfl (fun ls hl => ?_)
  refine lv_iconst (v := 0) hx hb dX8_packed_2 (by decide) ?_
  refine lv_istore_n (lv' := [(3, .int (0 : Int32)), (1, .long (0 : Int64)), (0, .ref (adK w0))]) hx hb dX8_packed_3 rfl hl (by decide) rfl (fun ls hl => ?_)
  exact N4 (0 : Int64) (0 : Int32) hM _ _ hP hD hS _ (lv_sub hl [2, 1, 0] rfl)
abbrev rmX8_isWord : Room := { frames := 5, cells := 0, slots := 0, locals := 108 }
theorem iwX8_isWord_X8 : ∀ w ∈ wsX80, w ∈ wsX8_isWord := fun _ h => List.mem_cons_of_mem _ (List.mem_append_right _ (h))
set_option maxHeartbeats 4000000 in
set_option maxRecDepth 100000 in
theorem kX8_isWord (l : Launch) (dC : Nat → ClassId) (dI : Nat → Nat → Nat) (ct : Nat → ClassId) (aO : Nat → Nat) (adK adV : Nat → Nat) (sz : Nat) (mO : Mem) (mO64 : Lem) (w1 : Nat) (res : Int32) (hM : mX8_isWord mO mO64 w1 = some res) : Met l yX8_isWord wsX8_isWord rmX8_isWord (va_Pc [.ref (aO 0), .ref (adK w1)] (PB (dC, dI) ct (EV adK adV) sz (wO ct aO mO mO64))) (Qi (dC, dI) ct (va_A (wO ct aO mO mO64) sz) res (wO ct aO mO mO64)) 0 0 (va_A (wO ct aO mO mO64) sz) := by
  refine Met.ofW (cc := cX8_isWord) (maxL := 2) (ret := (some .boolean)) (by decide) rfl ?_
  intro p e s m args below meth c s₁ B hml hv
  obtain ⟨hargs, hsz, hP, hK, hD0, hE⟩ := hv
  have hx := B.exec
  have hb := B.bytes
  have hr := B.returns
  have hts := atoms_spec (ws := wsX8_isWord) B.pre
  have hown : s.vm.findClass RX8 = some m.cls := findClass_of_methodNamed B.named
  have hlocks := B.notSynchronized
  clear B s₁
  subst hsz
  have hD := hD0.self (sz := s.heap.size)
  clear hD0
  generalize hAe : va_A (wO ct aO mO mO64) s.heap.size = A at hD hE ⊢
  have hA : ∀ q : Nat, s.heap.size ≤ q → A q := fun q h => by rw [← hAe]; exact Or.inr h
  clear hAe
  have hS : va_S A s.heap s.heap [] := va_S.rf
  refine cutQ (fun Q hQ => ?_)
  refine entryW (vs := [.ref (aO 0), .ref (adK w1)]) hargs (Nat.le_of_ble_eq_true rfl) (fun ls hl => ?_)
  replace hl : lv_has ls 2 [(0, .ref (aO 0)), (1, .ref (adK w1))] := hl
  unfold mX8_isWord at hM
  obtain ⟨hw1, hM⟩ := gs_some hM
  refine lv_aload_n hx hb dX8_isWord_0 rfl (lv_at hl 0 rfl) ?_
  refine va_get (D := (dC, dI)) (ci := 8) (v := .int (mO 0 3)) (C := RX8) (T := TX8) (N := 45) hx hb hts iwX8_isWord_X8 hown hK hP 0 rfl rfl 3 (by decide) (hts _ (List.mem_of_getElem? (i := 1) rfl)) (fun _ h9 => h9) rfl dX8_isWord_1 ?_
  refine lv_iconst (v := 1) hx hb dX8_isWord_4 (by decide) ?_
  refine lv_icmp_ne (tgt := 24) hx hb dX8_isWord_5 (by decide) (fun hc_1 => ?_) (fun hc_1 => ?_)
  · have hM := it_p hc_1 hM
    refine lv_iconst (v := 0) hx hb dX8_isWord_24 (by decide) ?_
    have hR := som hM
    rw [hR] at hQ
    exact ret_z hQ hx hb hr hlocks rfl hP hK hD hS dX8_isWord_25
  · have hM := it_nn hc_1 hM
    refine lv_aload_n hx hb dX8_isWord_8 rfl (lv_at hl 0 rfl) ?_
    refine va_get (D := (dC, dI)) (ci := 8) (v := .long (mO64 0 5)) (C := RX8) (T := TX8) (N := 45) hx hb hts iwX8_isWord_X8 hown hK hP 0 rfl rfl 5 (by decide) (hts _ (List.mem_of_getElem? (i := 2) rfl)) (fun _ h9 => h9) rfl dX8_isWord_9 ?_
    refine lv_aload_n hx hb dX8_isWord_12 rfl (lv_at hl 1 rfl) ?_
    obtain ⟨x_2, hr_3, hM⟩ := bn_some hM
    refine gv_l (r0 := x_2) (wn := (wO ct aO mO mO64)) (va_runS (As := [.ref (adK w1)]) (rest := [.long (mO64 0 5)]) ⟨hx, hb, hml, hown, hts⟩ (kX8_packed l dC dI ct adK adV _ w1 _ hr_3) (va_cwS 1 hts gX8_isWord_X8_packed rfl rfl rfl hvX8_packed.2 ⟨Nat.le_of_ble_eq_true rfl, Nat.le_of_ble_eq_true rfl⟩) (preS_of EV_ok hK hP hD (is := []) rfl rfl (e_sub EV_ok hE hS (va_free hD hS hA [] rfl))) rfl rfl hl.1 rfl (lv_room (Nat.le_of_ble_eq_true rfl)) dX8_isWord_13 ⟨Nat.le_of_ble_eq_true rfl, Nat.le_of_ble_eq_true rfl⟩) hP hD hS hA [] [0, 1, 2, 3, 4, 5, 6, 7, 8, 9, 10, 11, 12, 13, 14, 15, 16, 17, 18, 19, 20, 21, 22, 23, 24, 25] [0, 1, 2, 3, 4, 5, 6, 7, 8, 9, 10, 11, 12, 13, 14, 15, 16, 17, 18, 19, 20, 21, 22, 23, 24, 25] rfl rfl rfl (by decide) rfl rfl (fun H locs hP hD hS => ?_)
    refine W.lcmp hx hb dX8_isWord_16 ?_
    refine lv_if_ne (tgt := 24) hx hb dX8_isWord_17 (by decide) (fun hc_5 => ?_) (fun hc_5 => ?_)
    · have hM := it_p hc_5 hM
      refine lv_iconst (v := 0) hx hb dX8_isWord_24 (by decide) ?_
      have hR := som hM
      rw [hR] at hQ
      exact ret_z hQ hx hb hr hlocks rfl hP hK hD hS dX8_isWord_25
    · have hM := it_nn hc_5 hM
      refine lv_iconst (v := 1) hx hb dX8_isWord_20 (by decide) ?_
      refine lv_goto (tgt := 25) hx hb dX8_isWord_21 (by decide) ?_
      have hR := som hM
      rw [hR] at hQ
      exact ret_z hQ hx hb hr hlocks rfl hP hK hD hS dX8_isWord_25
abbrev rmX8_kindHere : Room := { frames := 6, cells := 0, slots := 0, locals := 129 }
set_option maxHeartbeats 4000000 in
set_option maxRecDepth 100000 in
theorem kX8_kindHere (l : Launch) (dC : Nat → ClassId) (dI : Nat → Nat → Nat) (ct : Nat → ClassId) (aO : Nat → Nat) (adK adV : Nat → Nat) (sz : Nat) (mO : Mem) (mO64 : Lem) (res : Int32) (hM : mX8_kindHere mO mO64 = some res) : Met l yX8_kindHere wsX8_kindHere rmX8_kindHere (va_Pc [.ref (aO 0)] (PB (dC, dI) ct (EV adK adV) sz (wO ct aO mO mO64))) (Qi (dC, dI) ct (va_A (wO ct aO mO mO64) sz) res (wO ct aO mO mO64)) 0 0 (va_A (wO ct aO mO mO64) sz) := by
  refine Met.ofW (cc := cX8_kindHere) (maxL := 1) (ret := (some .int)) (by decide) rfl ?_
  intro p e s m args below meth c s₁ B hml hv
  obtain ⟨hargs, hsz, hP, hK, hD0, hE⟩ := hv
  have hx := B.exec
  have hb := B.bytes
  have hr := B.returns
  have hts := atoms_spec (ws := wsX8_kindHere) B.pre
  have hown : s.vm.findClass RX8 = some m.cls := findClass_of_methodNamed B.named
  have hlocks := B.notSynchronized
  clear B s₁
  subst hsz
  have hD := hD0.self (sz := s.heap.size)
  clear hD0
  generalize hAe : va_A (wO ct aO mO mO64) s.heap.size = A at hD hE ⊢
  have hA : ∀ q : Nat, s.heap.size ≤ q → A q := fun q h => by rw [← hAe]; exact Or.inr h
  clear hAe
  have hS : va_S A s.heap s.heap [] := va_S.rf
  refine cutQ (fun Q hQ => ?_)
  refine entryW (vs := [.ref (aO 0)]) hargs (Nat.le_of_ble_eq_true rfl) (fun ls hl => ?_)
  replace hl : lv_has ls 1 [(0, .ref (aO 0))] := hl
  unfold mX8_kindHere at hM
  refine lv_aload_n hx hb dX8_kindHere_0 rfl (lv_at hl 0 rfl) ?_
  refine va_ldcS hx hb hown (show vk_R RX8 136 "loan" (adK 6) s from hE.2.2.1 6 (by decide)) dX8_kindHere_1 ?_
  obtain ⟨x_1, hr_2, hM⟩ := bn_some hM
  refine gv_i (r0 := x_1) (wn := (wO ct aO mO mO64)) (va_runV (As := [.ref (adK 6)]) (rest := []) ⟨hx, hb, hml, hown, hts⟩ (kX8_isWord l dC dI ct aO adK adV _ mO mO64 6 _ hr_2) (cwV 1 hts gX8_kindHere_X8_isWord rfl rfl rfl hvX8_isWord ⟨Nat.le_of_ble_eq_true rfl, Nat.le_of_ble_eq_true rfl⟩) (preV_of EV_ok hK hP hD (is := [0, 1, 2, 3, 4, 5, 6, 7, 8, 9, 10, 11, 12, 13, 14, 15, 16, 17, 18, 19, 20, 21, 22, 23, 24, 25]) rfl rfl rfl (ci := 8) rfl 0 rfl (e_sub EV_ok hE hS (va_free hD hS hA [0, 1, 2, 3, 4, 5, 6, 7, 8, 9, 10, 11, 12, 13, 14, 15, 16, 17, 18, 19, 20, 21, 22, 23, 24, 25] rfl))) rfl rfl hl.1 rfl (lv_room (Nat.le_of_ble_eq_true rfl)) dX8_kindHere_3 ⟨Nat.le_of_ble_eq_true rfl, Nat.le_of_ble_eq_true rfl⟩) hP hD hS hA [0, 1, 2, 3, 4, 5, 6, 7, 8, 9, 10, 11, 12, 13, 14, 15, 16, 17, 18, 19, 20, 21, 22, 23, 24, 25] [] [0, 1, 2, 3, 4, 5, 6, 7, 8, 9, 10, 11, 12, 13, 14, 15, 16, 17, 18, 19, 20, 21, 22, 23, 24, 25] rfl rfl rfl (by decide) rfl rfl (fun H locs hP hD hS => ?_)
  refine lv_if_eq (tgt := 13) hx hb dX8_kindHere_6 (by decide) (fun hc_4 => ?_) (fun hc_4 => ?_)
  · have hM := it_p hc_4 hM
    refine lv_aload_n hx hb dX8_kindHere_13 rfl (lv_at hl 0 rfl) ?_
    refine va_ldcS hx hb hown (show vk_R RX8 142 "pledge" (adK 7) s from hE.2.2.1 7 (by decide)) dX8_kindHere_14 ?_
    obtain ⟨x_5, hr_6, hM⟩ := bn_some hM
    refine gv_i (r0 := x_5) (wn := (wO ct aO mO mO64)) (va_runV (As := [.ref (adK 7)]) (rest := []) ⟨hx, hb, hml, hown, hts⟩ (kX8_isWord l dC dI ct aO adK adV _ mO mO64 7 _ hr_6) (cwV 1 hts gX8_kindHere_X8_isWord rfl rfl rfl hvX8_isWord ⟨Nat.le_of_ble_eq_true rfl, Nat.le_of_ble_eq_true rfl⟩) (preV_of EV_ok hK hP hD (is := [0, 1, 2, 3, 4, 5, 6, 7, 8, 9, 10, 11, 12, 13, 14, 15, 16, 17, 18, 19, 20, 21, 22, 23, 24, 25]) rfl rfl rfl (ci := 8) rfl 0 rfl (e_sub EV_ok hE hS (va_free hD hS hA [0, 1, 2, 3, 4, 5, 6, 7, 8, 9, 10, 11, 12, 13, 14, 15, 16, 17, 18, 19, 20, 21, 22, 23, 24, 25] rfl))) rfl rfl hl.1 rfl (lv_room (Nat.le_of_ble_eq_true rfl)) dX8_kindHere_16 ⟨Nat.le_of_ble_eq_true rfl, Nat.le_of_ble_eq_true rfl⟩) hP hD hS hA [0, 1, 2, 3, 4, 5, 6, 7, 8, 9, 10, 11, 12, 13, 14, 15, 16, 17, 18, 19, 20, 21, 22, 23, 24, 25] [] [0, 1, 2, 3, 4, 5, 6, 7, 8, 9, 10, 11, 12, 13, 14, 15, 16, 17, 18, 19, 20, 21, 22, 23, 24, 25] rfl rfl rfl (by decide) rfl rfl (fun H locs hP hD hS => ?_)
    refine lv_if_eq (tgt := 26) hx hb dX8_kindHere_19 (by decide) (fun hc_8 => ?_) (fun hc_8 => ?_)
    · have hM := it_p hc_8 hM
      refine lv_aload_n hx hb dX8_kindHere_26 rfl (lv_at hl 0 rfl) ?_
      refine va_ldcS hx hb hown (show vk_R RX8 144 "sale" (adK 8) s from hE.2.2.1 8 (by decide)) dX8_kindHere_27 ?_
      obtain ⟨x_9, hr_10, hM⟩ := bn_some hM
      refine gv_i (r0 := x_9) (wn := (wO ct aO mO mO64)) (va_runV (As := [.ref (adK 8)]) (rest := []) ⟨hx, hb, hml, hown, hts⟩ (kX8_isWord l dC dI ct aO adK adV _ mO mO64 8 _ hr_10) (cwV 1 hts gX8_kindHere_X8_isWord rfl rfl rfl hvX8_isWord ⟨Nat.le_of_ble_eq_true rfl, Nat.le_of_ble_eq_true rfl⟩) (preV_of EV_ok hK hP hD (is := [0, 1, 2, 3, 4, 5, 6, 7, 8, 9, 10, 11, 12, 13, 14, 15, 16, 17, 18, 19, 20, 21, 22, 23, 24, 25]) rfl rfl rfl (ci := 8) rfl 0 rfl (e_sub EV_ok hE hS (va_free hD hS hA [0, 1, 2, 3, 4, 5, 6, 7, 8, 9, 10, 11, 12, 13, 14, 15, 16, 17, 18, 19, 20, 21, 22, 23, 24, 25] rfl))) rfl rfl hl.1 rfl (lv_room (Nat.le_of_ble_eq_true rfl)) dX8_kindHere_29 ⟨Nat.le_of_ble_eq_true rfl, Nat.le_of_ble_eq_true rfl⟩) hP hD hS hA [0, 1, 2, 3, 4, 5, 6, 7, 8, 9, 10, 11, 12, 13, 14, 15, 16, 17, 18, 19, 20, 21, 22, 23, 24, 25] [] [0, 1, 2, 3, 4, 5, 6, 7, 8, 9, 10, 11, 12, 13, 14, 15, 16, 17, 18, 19, 20, 21, 22, 23, 24, 25] rfl rfl rfl (by decide) rfl rfl (fun H locs hP hD hS => ?_)
      refine lv_if_eq (tgt := 39) hx hb dX8_kindHere_32 (by decide) (fun hc_12 => ?_) (fun hc_12 => ?_)
      · have hM := it_p hc_12 hM
        refine lv_aload_n hx hb dX8_kindHere_39 rfl (lv_at hl 0 rfl) ?_
        refine va_ldcS hx hb hown (show vk_R RX8 146 "gift" (adK 9) s from hE.2.2.1 9 (by decide)) dX8_kindHere_40 ?_
        obtain ⟨x_13, hr_14, hM⟩ := bn_some hM
        refine gv_i (r0 := x_13) (wn := (wO ct aO mO mO64)) (va_runV (As := [.ref (adK 9)]) (rest := []) ⟨hx, hb, hml, hown, hts⟩ (kX8_isWord l dC dI ct aO adK adV _ mO mO64 9 _ hr_14) (cwV 1 hts gX8_kindHere_X8_isWord rfl rfl rfl hvX8_isWord ⟨Nat.le_of_ble_eq_true rfl, Nat.le_of_ble_eq_true rfl⟩) (preV_of EV_ok hK hP hD (is := [0, 1, 2, 3, 4, 5, 6, 7, 8, 9, 10, 11, 12, 13, 14, 15, 16, 17, 18, 19, 20, 21, 22, 23, 24, 25]) rfl rfl rfl (ci := 8) rfl 0 rfl (e_sub EV_ok hE hS (va_free hD hS hA [0, 1, 2, 3, 4, 5, 6, 7, 8, 9, 10, 11, 12, 13, 14, 15, 16, 17, 18, 19, 20, 21, 22, 23, 24, 25] rfl))) rfl rfl hl.1 rfl (lv_room (Nat.le_of_ble_eq_true rfl)) dX8_kindHere_42 ⟨Nat.le_of_ble_eq_true rfl, Nat.le_of_ble_eq_true rfl⟩) hP hD hS hA [0, 1, 2, 3, 4, 5, 6, 7, 8, 9, 10, 11, 12, 13, 14, 15, 16, 17, 18, 19, 20, 21, 22, 23, 24, 25] [] [0, 1, 2, 3, 4, 5, 6, 7, 8, 9, 10, 11, 12, 13, 14, 15, 16, 17, 18, 19, 20, 21, 22, 23, 24, 25] rfl rfl rfl (by decide) rfl rfl (fun H locs hP hD hS => ?_)
        refine lv_if_eq (tgt := 52) hx hb dX8_kindHere_45 (by decide) (fun hc_16 => ?_) (fun hc_16 => ?_)
        · have hM := it_p hc_16 hM
          refine lv_aload_n hx hb dX8_kindHere_52 rfl (lv_at hl 0 rfl) ?_
          refine va_ldcS hx hb hown (show vk_R RX8 148 "purse" (adK 10) s from hE.2.2.1 10 (by decide)) dX8_kindHere_53 ?_
          obtain ⟨x_17, hr_18, hM⟩ := bn_some hM
          refine gv_i (r0 := x_17) (wn := (wO ct aO mO mO64)) (va_runV (As := [.ref (adK 10)]) (rest := []) ⟨hx, hb, hml, hown, hts⟩ (kX8_isWord l dC dI ct aO adK adV _ mO mO64 10 _ hr_18) (cwV 1 hts gX8_kindHere_X8_isWord rfl rfl rfl hvX8_isWord ⟨Nat.le_of_ble_eq_true rfl, Nat.le_of_ble_eq_true rfl⟩) (preV_of EV_ok hK hP hD (is := [0, 1, 2, 3, 4, 5, 6, 7, 8, 9, 10, 11, 12, 13, 14, 15, 16, 17, 18, 19, 20, 21, 22, 23, 24, 25]) rfl rfl rfl (ci := 8) rfl 0 rfl (e_sub EV_ok hE hS (va_free hD hS hA [0, 1, 2, 3, 4, 5, 6, 7, 8, 9, 10, 11, 12, 13, 14, 15, 16, 17, 18, 19, 20, 21, 22, 23, 24, 25] rfl))) rfl rfl hl.1 rfl (lv_room (Nat.le_of_ble_eq_true rfl)) dX8_kindHere_55 ⟨Nat.le_of_ble_eq_true rfl, Nat.le_of_ble_eq_true rfl⟩) hP hD hS hA [0, 1, 2, 3, 4, 5, 6, 7, 8, 9, 10, 11, 12, 13, 14, 15, 16, 17, 18, 19, 20, 21, 22, 23, 24, 25] [] [0, 1, 2, 3, 4, 5, 6, 7, 8, 9, 10, 11, 12, 13, 14, 15, 16, 17, 18, 19, 20, 21, 22, 23, 24, 25] rfl rfl rfl (by decide) rfl rfl (fun H locs hP hD hS => ?_)
          refine lv_if_eq (tgt := 65) hx hb dX8_kindHere_58 (by decide) (fun hc_20 => ?_) (fun hc_20 => ?_)
          · have hM := it_p hc_20 hM
            refine lv_iconst (v := -1) hx hb dX8_kindHere_65 (by decide) ?_
            have hR := som hM
            rw [hR] at hQ
            exact ret_i hQ hx hb hr hlocks hP hK hD hS dX8_kindHere_66
          · have hM := it_n hc_20 hM
            refine lv_iconst (v := 4) hx hb dX8_kindHere_61 (by decide) ?_
            refine lv_goto (tgt := 66) hx hb dX8_kindHere_62 (by decide) ?_
            have hR := som hM
            rw [hR] at hQ
            exact ret_i hQ hx hb hr hlocks hP hK hD hS dX8_kindHere_66
        · have hM := it_n hc_16 hM
          refine lv_iconst (v := 3) hx hb dX8_kindHere_48 (by decide) ?_
          refine lv_goto (tgt := 66) hx hb dX8_kindHere_49 (by decide) ?_
          have hR := som hM
          rw [hR] at hQ
          exact ret_i hQ hx hb hr hlocks hP hK hD hS dX8_kindHere_66
      · have hM := it_n hc_12 hM
        refine lv_iconst (v := 2) hx hb dX8_kindHere_35 (by decide) ?_
        refine lv_goto (tgt := 66) hx hb dX8_kindHere_36 (by decide) ?_
        have hR := som hM
        rw [hR] at hQ
        exact ret_i hQ hx hb hr hlocks hP hK hD hS dX8_kindHere_66
    · have hM := it_n hc_8 hM
      refine lv_iconst (v := 1) hx hb dX8_kindHere_22 (by decide) ?_
      refine lv_goto (tgt := 66) hx hb dX8_kindHere_23 (by decide) ?_
      have hR := som hM
      rw [hR] at hQ
      exact ret_i hQ hx hb hr hlocks hP hK hD hS dX8_kindHere_66
  · have hM := it_n hc_4 hM
    refine lv_iconst (v := 0) hx hb dX8_kindHere_9 (by decide) ?_
    refine lv_goto (tgt := 66) hx hb dX8_kindHere_10 (by decide) ?_
    have hR := som hM
    rw [hR] at hQ
    exact ret_i hQ hx hb hr hlocks hP hK hD hS dX8_kindHere_66
abbrev rmX8_isName : Room := { frames := 7, cells := 0, slots := 0, locals := 149 }
theorem iwX8_isName_X8 : ∀ w ∈ wsX80, w ∈ wsX8_isName := fun _ h => List.mem_cons_of_mem _ (List.mem_append_right _ (h))
set_option maxHeartbeats 4000000 in
set_option maxRecDepth 100000 in
theorem kX8_isName (l : Launch) (dC : Nat → ClassId) (dI : Nat → Nat → Nat) (ct : Nat → ClassId) (aO : Nat → Nat) (adK adV : Nat → Nat) (sz : Nat) (mO : Mem) (mO64 : Lem) (res : Int32) (hM : mX8_isName mO mO64 = some res) : Met l yX8_isName wsX8_isName rmX8_isName (va_Pc [.ref (aO 0)] (PB (dC, dI) ct (EV adK adV) sz (wO ct aO mO mO64))) (Qi (dC, dI) ct (va_A (wO ct aO mO mO64) sz) res (wO ct aO mO mO64)) 0 0 (va_A (wO ct aO mO mO64) sz) := by
  refine Met.ofW (cc := cX8_isName) (maxL := 1) (ret := (some .boolean)) (by decide) rfl ?_
  intro p e s m args below meth c s₁ B hml hv
  obtain ⟨hargs, hsz, hP, hK, hD0, hE⟩ := hv
  have hx := B.exec
  have hb := B.bytes
  have hr := B.returns
  have hts := atoms_spec (ws := wsX8_isName) B.pre
  have hown : s.vm.findClass RX8 = some m.cls := findClass_of_methodNamed B.named
  have hlocks := B.notSynchronized
  clear B s₁
  subst hsz
  have hD := hD0.self (sz := s.heap.size)
  clear hD0
  generalize hAe : va_A (wO ct aO mO mO64) s.heap.size = A at hD hE ⊢
  have hA : ∀ q : Nat, s.heap.size ≤ q → A q := fun q h => by rw [← hAe]; exact Or.inr h
  clear hAe
  have hS : va_S A s.heap s.heap [] := va_S.rf
  refine cutQ (fun Q hQ => ?_)
  refine entryW (vs := [.ref (aO 0)]) hargs (Nat.le_of_ble_eq_true rfl) (fun ls hl => ?_)
  replace hl : lv_has ls 1 [(0, .ref (aO 0))] := hl
  unfold mX8_isName at hM
  refine lv_aload_n hx hb dX8_isName_0 rfl (lv_at hl 0 rfl) ?_
  refine va_get (D := (dC, dI)) (ci := 8) (v := .int (mO 0 3)) (C := RX8) (T := TX8) (N := 45) hx hb hts iwX8_isName_X8 hown hK hP 0 rfl rfl 3 (by decide) (hts _ (List.mem_of_getElem? (i := 1) rfl)) (fun _ h9 => h9) rfl dX8_isName_1 ?_
  refine lv_iconst (v := 1) hx hb dX8_isName_4 (by decide) ?_
  refine lv_icmp_ne (tgt := 52) hx hb dX8_isName_5 (by decide) (fun hc_1 => ?_) (fun hc_1 => ?_)
  · have hM := it_p hc_1 hM
    refine lv_iconst (v := 0) hx hb dX8_isName_52 (by decide) ?_
    have hR := som hM
    rw [hR] at hQ
    exact ret_z hQ hx hb hr hlocks rfl hP hK hD hS dX8_isName_53
  · have hM := it_nn hc_1 hM
    refine lv_aload_n hx hb dX8_isName_8 rfl (lv_at hl 0 rfl) ?_
    refine va_get (D := (dC, dI)) (ci := 8) (v := .long (mO64 0 5)) (C := RX8) (T := TX8) (N := 45) hx hb hts iwX8_isName_X8 hown hK hP 0 rfl rfl 5 (by decide) (hts _ (List.mem_of_getElem? (i := 2) rfl)) (fun _ h9 => h9) rfl dX8_isName_9 ?_
    refine lv_lconst (v := 0) hx hb dX8_isName_12 (by decide) ?_
    refine W.lcmp hx hb dX8_isName_13 ?_
    refine lv_if_eq (tgt := 52) hx hb dX8_isName_14 (by decide) (fun hc_2 => ?_) (fun hc_2 => ?_)
    · have hM := it_p hc_2 hM
      refine lv_iconst (v := 0) hx hb dX8_isName_52 (by decide) ?_
      have hR := som hM
      rw [hR] at hQ
      exact ret_z hQ hx hb hr hlocks rfl hP hK hD hS dX8_isName_53
    · have hM := it_n hc_2 hM
      refine lv_aload_n hx hb dX8_isName_17 rfl (lv_at hl 0 rfl) ?_
      obtain ⟨x_3, hr_4, hM⟩ := bn_some hM
      refine gv_i (r0 := x_3) (wn := (wO ct aO mO mO64)) (va_runV (As := []) (rest := []) ⟨hx, hb, hml, hown, hts⟩ (kX8_kindHere l dC dI ct aO adK adV _ mO mO64 _ hr_4) (cwV 0 hts gX8_isName_X8_kindHere rfl rfl rfl hvX8_kindHere ⟨Nat.le_of_ble_eq_true rfl, Nat.le_of_ble_eq_true rfl⟩) (preV_of EV_ok hK hP hD (is := [0, 1, 2, 3, 4, 5, 6, 7, 8, 9, 10, 11, 12, 13, 14, 15, 16, 17, 18, 19, 20, 21, 22, 23, 24, 25]) rfl rfl rfl (ci := 8) rfl 0 rfl (e_sub EV_ok hE hS (va_free hD hS hA [0, 1, 2, 3, 4, 5, 6, 7, 8, 9, 10, 11, 12, 13, 14, 15, 16, 17, 18, 19, 20, 21, 22, 23, 24, 25] rfl))) rfl rfl hl.1 rfl (lv_room (Nat.le_of_ble_eq_true rfl)) dX8_isName_18 ⟨Nat.le_of_ble_eq_true rfl, Nat.le_of_ble_eq_true rfl⟩) hP hD hS hA [0, 1, 2, 3, 4, 5, 6, 7, 8, 9, 10, 11, 12, 13, 14, 15, 16, 17, 18, 19, 20, 21, 22, 23, 24, 25] [] [0, 1, 2, 3, 4, 5, 6, 7, 8, 9, 10, 11, 12, 13, 14, 15, 16, 17, 18, 19, 20, 21, 22, 23, 24, 25] rfl rfl rfl (by decide) rfl rfl (fun H locs hP hD hS => ?_)
      refine lv_iconst (v := -1) hx hb dX8_isName_21 (by decide) ?_
      refine lv_icmp_ne (tgt := 52) hx hb dX8_isName_22 (by decide) (fun hc_6 => ?_) (fun hc_6 => ?_)
      · have hM := it_p hc_6 hM
        refine lv_iconst (v := 0) hx hb dX8_isName_52 (by decide) ?_
        have hR := som hM
        rw [hR] at hQ
        exact ret_z hQ hx hb hr hlocks rfl hP hK hD hS dX8_isName_53
      · have hM := it_nn hc_6 hM
        refine lv_aload_n hx hb dX8_isName_25 rfl (lv_at hl 0 rfl) ?_
        refine va_ldcS hx hb hown (show vk_R RX8 153 "moon" (adK 0) s from hE.2.2.1 0 (by decide)) dX8_isName_26 ?_
        obtain ⟨x_7, hr_8, hM⟩ := bn_some hM
        refine gv_i (r0 := x_7) (wn := (wO ct aO mO mO64)) (va_runV (As := [.ref (adK 0)]) (rest := []) ⟨hx, hb, hml, hown, hts⟩ (kX8_isWord l dC dI ct aO adK adV _ mO mO64 0 _ hr_8) (cwV 1 hts gX8_isName_X8_isWord rfl rfl rfl hvX8_isWord ⟨Nat.le_of_ble_eq_true rfl, Nat.le_of_ble_eq_true rfl⟩) (preV_of EV_ok hK hP hD (is := [0, 1, 2, 3, 4, 5, 6, 7, 8, 9, 10, 11, 12, 13, 14, 15, 16, 17, 18, 19, 20, 21, 22, 23, 24, 25]) rfl rfl rfl (ci := 8) rfl 0 rfl (e_sub EV_ok hE hS (va_free hD hS hA [0, 1, 2, 3, 4, 5, 6, 7, 8, 9, 10, 11, 12, 13, 14, 15, 16, 17, 18, 19, 20, 21, 22, 23, 24, 25] rfl))) rfl rfl hl.1 rfl (lv_room (Nat.le_of_ble_eq_true rfl)) dX8_isName_28 ⟨Nat.le_of_ble_eq_true rfl, Nat.le_of_ble_eq_true rfl⟩) hP hD hS hA [0, 1, 2, 3, 4, 5, 6, 7, 8, 9, 10, 11, 12, 13, 14, 15, 16, 17, 18, 19, 20, 21, 22, 23, 24, 25] [] [0, 1, 2, 3, 4, 5, 6, 7, 8, 9, 10, 11, 12, 13, 14, 15, 16, 17, 18, 19, 20, 21, 22, 23, 24, 25] rfl rfl rfl (by decide) rfl rfl (fun H locs hP hD hS => ?_)
        refine lv_if_ne (tgt := 52) hx hb dX8_isName_31 (by decide) (fun hc_10 => ?_) (fun hc_10 => ?_)
        · have hM := it_p hc_10 hM
          refine lv_iconst (v := 0) hx hb dX8_isName_52 (by decide) ?_
          have hR := som hM
          rw [hR] at hQ
          exact ret_z hQ hx hb hr hlocks rfl hP hK hD hS dX8_isName_53
        · have hM := it_nn hc_10 hM
          refine lv_aload_n hx hb dX8_isName_34 rfl (lv_at hl 0 rfl) ?_
          refine va_ldcS hx hb hown (show vk_R RX8 155 "strike" (adK 1) s from hE.2.2.1 1 (by decide)) dX8_isName_35 ?_
          obtain ⟨x_11, hr_12, hM⟩ := bn_some hM
          refine gv_i (r0 := x_11) (wn := (wO ct aO mO mO64)) (va_runV (As := [.ref (adK 1)]) (rest := []) ⟨hx, hb, hml, hown, hts⟩ (kX8_isWord l dC dI ct aO adK adV _ mO mO64 1 _ hr_12) (cwV 1 hts gX8_isName_X8_isWord rfl rfl rfl hvX8_isWord ⟨Nat.le_of_ble_eq_true rfl, Nat.le_of_ble_eq_true rfl⟩) (preV_of EV_ok hK hP hD (is := [0, 1, 2, 3, 4, 5, 6, 7, 8, 9, 10, 11, 12, 13, 14, 15, 16, 17, 18, 19, 20, 21, 22, 23, 24, 25]) rfl rfl rfl (ci := 8) rfl 0 rfl (e_sub EV_ok hE hS (va_free hD hS hA [0, 1, 2, 3, 4, 5, 6, 7, 8, 9, 10, 11, 12, 13, 14, 15, 16, 17, 18, 19, 20, 21, 22, 23, 24, 25] rfl))) rfl rfl hl.1 rfl (lv_room (Nat.le_of_ble_eq_true rfl)) dX8_isName_37 ⟨Nat.le_of_ble_eq_true rfl, Nat.le_of_ble_eq_true rfl⟩) hP hD hS hA [0, 1, 2, 3, 4, 5, 6, 7, 8, 9, 10, 11, 12, 13, 14, 15, 16, 17, 18, 19, 20, 21, 22, 23, 24, 25] [] [0, 1, 2, 3, 4, 5, 6, 7, 8, 9, 10, 11, 12, 13, 14, 15, 16, 17, 18, 19, 20, 21, 22, 23, 24, 25] rfl rfl rfl (by decide) rfl rfl (fun H locs hP hD hS => ?_)
          refine lv_if_ne (tgt := 52) hx hb dX8_isName_40 (by decide) (fun hc_14 => ?_) (fun hc_14 => ?_)
          · have hM := it_p hc_14 hM
            refine lv_iconst (v := 0) hx hb dX8_isName_52 (by decide) ?_
            have hR := som hM
            rw [hR] at hQ
            exact ret_z hQ hx hb hr hlocks rfl hP hK hD hS dX8_isName_53
          · have hM := it_nn hc_14 hM
            refine lv_aload_n hx hb dX8_isName_43 rfl (lv_at hl 0 rfl) ?_
            refine va_ldcS hx hb hown (show vk_R RX8 157 "wait" (adK 2) s from hE.2.2.1 2 (by decide)) dX8_isName_44 ?_
            obtain ⟨x_15, hr_16, hM⟩ := bn_some hM
            refine gv_i (r0 := x_15) (wn := (wO ct aO mO mO64)) (va_runV (As := [.ref (adK 2)]) (rest := []) ⟨hx, hb, hml, hown, hts⟩ (kX8_isWord l dC dI ct aO adK adV _ mO mO64 2 _ hr_16) (cwV 1 hts gX8_isName_X8_isWord rfl rfl rfl hvX8_isWord ⟨Nat.le_of_ble_eq_true rfl, Nat.le_of_ble_eq_true rfl⟩) (preV_of EV_ok hK hP hD (is := [0, 1, 2, 3, 4, 5, 6, 7, 8, 9, 10, 11, 12, 13, 14, 15, 16, 17, 18, 19, 20, 21, 22, 23, 24, 25]) rfl rfl rfl (ci := 8) rfl 0 rfl (e_sub EV_ok hE hS (va_free hD hS hA [0, 1, 2, 3, 4, 5, 6, 7, 8, 9, 10, 11, 12, 13, 14, 15, 16, 17, 18, 19, 20, 21, 22, 23, 24, 25] rfl))) rfl rfl hl.1 rfl (lv_room (Nat.le_of_ble_eq_true rfl)) dX8_isName_46 ⟨Nat.le_of_ble_eq_true rfl, Nat.le_of_ble_eq_true rfl⟩) hP hD hS hA [0, 1, 2, 3, 4, 5, 6, 7, 8, 9, 10, 11, 12, 13, 14, 15, 16, 17, 18, 19, 20, 21, 22, 23, 24, 25] [] [0, 1, 2, 3, 4, 5, 6, 7, 8, 9, 10, 11, 12, 13, 14, 15, 16, 17, 18, 19, 20, 21, 22, 23, 24, 25] rfl rfl rfl (by decide) rfl rfl (fun H locs hP hD hS => ?_)
            refine lv_if_eq (tgt := 54) hx hb dX8_isName_49 (by decide) (fun hc_18 => ?_) (fun hc_18 => ?_)
            · have hM := it_p hc_18 hM
              refine lv_aload_n hx hb dX8_isName_54 rfl (lv_at hl 0 rfl) ?_
              refine va_ldcS hx hb hown (show vk_R RX8 159 "sort" (adK 3) s from hE.2.2.1 3 (by decide)) dX8_isName_55 ?_
              obtain ⟨x_19, hr_20, hM⟩ := bn_some hM
              refine gv_i (r0 := x_19) (wn := (wO ct aO mO mO64)) (va_runV (As := [.ref (adK 3)]) (rest := []) ⟨hx, hb, hml, hown, hts⟩ (kX8_isWord l dC dI ct aO adK adV _ mO mO64 3 _ hr_20) (cwV 1 hts gX8_isName_X8_isWord rfl rfl rfl hvX8_isWord ⟨Nat.le_of_ble_eq_true rfl, Nat.le_of_ble_eq_true rfl⟩) (preV_of EV_ok hK hP hD (is := [0, 1, 2, 3, 4, 5, 6, 7, 8, 9, 10, 11, 12, 13, 14, 15, 16, 17, 18, 19, 20, 21, 22, 23, 24, 25]) rfl rfl rfl (ci := 8) rfl 0 rfl (e_sub EV_ok hE hS (va_free hD hS hA [0, 1, 2, 3, 4, 5, 6, 7, 8, 9, 10, 11, 12, 13, 14, 15, 16, 17, 18, 19, 20, 21, 22, 23, 24, 25] rfl))) rfl rfl hl.1 rfl (lv_room (Nat.le_of_ble_eq_true rfl)) dX8_isName_57 ⟨Nat.le_of_ble_eq_true rfl, Nat.le_of_ble_eq_true rfl⟩) hP hD hS hA [0, 1, 2, 3, 4, 5, 6, 7, 8, 9, 10, 11, 12, 13, 14, 15, 16, 17, 18, 19, 20, 21, 22, 23, 24, 25] [] [0, 1, 2, 3, 4, 5, 6, 7, 8, 9, 10, 11, 12, 13, 14, 15, 16, 17, 18, 19, 20, 21, 22, 23, 24, 25] rfl rfl rfl (by decide) rfl rfl (fun H locs hP hD hS => ?_)
              refine lv_if_ne (tgt := 85) hx hb dX8_isName_60 (by decide) (fun hc_22 => ?_) (fun hc_22 => ?_)
              · have hM := it_p hc_22 hM
                refine lv_iconst (v := 0) hx hb dX8_isName_85 (by decide) ?_
                have hR := som hM
                rw [hR] at hQ
                exact ret_z hQ hx hb hr hlocks rfl hP hK hD hS dX8_isName_86
              · have hM := it_nn hc_22 hM
                refine lv_aload_n hx hb dX8_isName_63 rfl (lv_at hl 0 rfl) ?_
                refine va_ldcS hx hb hown (show vk_R RX8 161 "spare" (adK 4) s from hE.2.2.1 4 (by decide)) dX8_isName_64 ?_
                obtain ⟨x_23, hr_24, hM⟩ := bn_some hM
                refine gv_i (r0 := x_23) (wn := (wO ct aO mO mO64)) (va_runV (As := [.ref (adK 4)]) (rest := []) ⟨hx, hb, hml, hown, hts⟩ (kX8_isWord l dC dI ct aO adK adV _ mO mO64 4 _ hr_24) (cwV 1 hts gX8_isName_X8_isWord rfl rfl rfl hvX8_isWord ⟨Nat.le_of_ble_eq_true rfl, Nat.le_of_ble_eq_true rfl⟩) (preV_of EV_ok hK hP hD (is := [0, 1, 2, 3, 4, 5, 6, 7, 8, 9, 10, 11, 12, 13, 14, 15, 16, 17, 18, 19, 20, 21, 22, 23, 24, 25]) rfl rfl rfl (ci := 8) rfl 0 rfl (e_sub EV_ok hE hS (va_free hD hS hA [0, 1, 2, 3, 4, 5, 6, 7, 8, 9, 10, 11, 12, 13, 14, 15, 16, 17, 18, 19, 20, 21, 22, 23, 24, 25] rfl))) rfl rfl hl.1 rfl (lv_room (Nat.le_of_ble_eq_true rfl)) dX8_isName_66 ⟨Nat.le_of_ble_eq_true rfl, Nat.le_of_ble_eq_true rfl⟩) hP hD hS hA [0, 1, 2, 3, 4, 5, 6, 7, 8, 9, 10, 11, 12, 13, 14, 15, 16, 17, 18, 19, 20, 21, 22, 23, 24, 25] [] [0, 1, 2, 3, 4, 5, 6, 7, 8, 9, 10, 11, 12, 13, 14, 15, 16, 17, 18, 19, 20, 21, 22, 23, 24, 25] rfl rfl rfl (by decide) rfl rfl (fun H locs hP hD hS => ?_)
                refine lv_if_ne (tgt := 85) hx hb dX8_isName_69 (by decide) (fun hc_26 => ?_) (fun hc_26 => ?_)
                · have hM := it_p hc_26 hM
                  refine lv_iconst (v := 0) hx hb dX8_isName_85 (by decide) ?_
                  have hR := som hM
                  rw [hR] at hQ
                  exact ret_z hQ hx hb hr hlocks rfl hP hK hD hS dX8_isName_86
                · have hM := it_nn hc_26 hM
                  refine lv_aload_n hx hb dX8_isName_72 rfl (lv_at hl 0 rfl) ?_
                  refine va_ldcS hx hb hown (show vk_R RX8 163 "turn" (adK 5) s from hE.2.2.1 5 (by decide)) dX8_isName_73 ?_
                  obtain ⟨x_27, hr_28, hM⟩ := bn_some hM
                  refine gv_i (r0 := x_27) (wn := (wO ct aO mO mO64)) (va_runV (As := [.ref (adK 5)]) (rest := []) ⟨hx, hb, hml, hown, hts⟩ (kX8_isWord l dC dI ct aO adK adV _ mO mO64 5 _ hr_28) (cwV 1 hts gX8_isName_X8_isWord rfl rfl rfl hvX8_isWord ⟨Nat.le_of_ble_eq_true rfl, Nat.le_of_ble_eq_true rfl⟩) (preV_of EV_ok hK hP hD (is := [0, 1, 2, 3, 4, 5, 6, 7, 8, 9, 10, 11, 12, 13, 14, 15, 16, 17, 18, 19, 20, 21, 22, 23, 24, 25]) rfl rfl rfl (ci := 8) rfl 0 rfl (e_sub EV_ok hE hS (va_free hD hS hA [0, 1, 2, 3, 4, 5, 6, 7, 8, 9, 10, 11, 12, 13, 14, 15, 16, 17, 18, 19, 20, 21, 22, 23, 24, 25] rfl))) rfl rfl hl.1 rfl (lv_room (Nat.le_of_ble_eq_true rfl)) dX8_isName_75 ⟨Nat.le_of_ble_eq_true rfl, Nat.le_of_ble_eq_true rfl⟩) hP hD hS hA [0, 1, 2, 3, 4, 5, 6, 7, 8, 9, 10, 11, 12, 13, 14, 15, 16, 17, 18, 19, 20, 21, 22, 23, 24, 25] [] [0, 1, 2, 3, 4, 5, 6, 7, 8, 9, 10, 11, 12, 13, 14, 15, 16, 17, 18, 19, 20, 21, 22, 23, 24, 25] rfl rfl rfl (by decide) rfl rfl (fun H locs hP hD hS => ?_)
                  refine lv_if_ne (tgt := 85) hx hb dX8_isName_78 (by decide) (fun hc_30 => ?_) (fun hc_30 => ?_)
                  · have hM := it_p hc_30 hM
                    refine lv_iconst (v := 0) hx hb dX8_isName_85 (by decide) ?_
                    have hR := som hM
                    rw [hR] at hQ
                    exact ret_z hQ hx hb hr hlocks rfl hP hK hD hS dX8_isName_86
                  · have hM := it_nn hc_30 hM
                    refine lv_iconst (v := 1) hx hb dX8_isName_81 (by decide) ?_
                    refine lv_goto (tgt := 86) hx hb dX8_isName_82 (by decide) ?_
                    have hR := som hM
                    rw [hR] at hQ
                    exact ret_z hQ hx hb hr hlocks rfl hP hK hD hS dX8_isName_86
            · have hM := it_n hc_18 hM
              refine lv_iconst (v := 0) hx hb dX8_isName_52 (by decide) ?_
              have hR := som hM
              rw [hR] at hQ
              exact ret_z hQ hx hb hr hlocks rfl hP hK hD hS dX8_isName_53
abbrev rmX8_number : Room := { frames := 2, cells := 0, slots := 0, locals := 41 }
theorem iwX8_number_X8 : ∀ w ∈ wsX80, w ∈ wsX8_number := fun _ h => List.mem_cons_of_mem _ (List.mem_append_right _ (h))
set_option maxHeartbeats 4000000 in
set_option maxRecDepth 100000 in
theorem kX8_number (l : Launch) (dC : Nat → ClassId) (dI : Nat → Nat → Nat) (ct : Nat → ClassId) (aO : Nat → Nat) (sz : Nat) (mO : Mem) (mO64 : Lem) (v1 : Int32) (v2 : Int32) (res : (Int32 × Mem × Lem)) (hM : mX8_number mO mO64 v1 v2 = some res) : Met l yX8_number wsX8_number rmX8_number (va_Pc [.ref (aO 0), .int v1, .int v2] (PB (dC, dI) ct E0 sz (wO ct aO mO mO64))) (Qi (dC, dI) ct (va_A (wO ct aO mO mO64) sz) res.1 (wO ct aO res.2.1 res.2.2)) 0 0 (va_A (wO ct aO mO mO64) sz) := by
  refine Met.ofW (cc := cX8_number) (maxL := 3) (ret := (some .boolean)) (by decide) rfl ?_
  intro p e s m args below meth c s₁ B hml hv
  obtain ⟨hargs, hsz, hP, hK, hD0, hE⟩ := hv
  have hx := B.exec
  have hb := B.bytes
  have hr := B.returns
  have hts := atoms_spec (ws := wsX8_number) B.pre
  have hown : s.vm.findClass RX8 = some m.cls := findClass_of_methodNamed B.named
  have hlocks := B.notSynchronized
  clear B s₁
  subst hsz
  have hD := hD0.self (sz := s.heap.size)
  clear hD0
  generalize hAe : va_A (wO ct aO mO mO64) s.heap.size = A at hD hE ⊢
  have hA : ∀ q : Nat, s.heap.size ≤ q → A q := fun q h => by rw [← hAe]; exact Or.inr h
  clear hAe
  have hS : va_S A s.heap s.heap [] := va_S.rf
  refine cutQ (fun Q hQ => ?_)
  refine entryW (vs := [.ref (aO 0), .int v1, .int v2]) hargs (Nat.le_of_ble_eq_true rfl) (fun ls hl => ?_)
  replace hl : lv_has ls 3 [(0, .ref (aO 0)), (1, .int v1), (2, .int v2)] := hl
  unfold mX8_number at hM
  refine lv_aload_n hx hb dX8_number_0 rfl (lv_at hl 0 rfl) ?_
  refine va_get (D := (dC, dI)) (ci := 8) (v := .int (mO 0 3)) (C := RX8) (T := TX8) (N := 45) hx hb hts iwX8_number_X8 hown hK hP 0 rfl rfl 3 (by decide) (hts _ (List.mem_of_getElem? (i := 1) rfl)) (fun _ h9 => h9) rfl dX8_number_1 ?_
  refine lv_iconst (v := 2) hx hb dX8_number_4 (by decide) ?_
  refine lv_icmp_ne (tgt := 28) hx hb dX8_number_5 (by decide) (fun hc_1 => ?_) (fun hc_1 => ?_)
  · have hM := it_p hc_1 hM
    refine lv_iconst (v := 0) hx hb dX8_number_28 (by decide) ?_
    have hR := som hM
    rw [hR] at hQ
    exact ret_z hQ hx hb hr hlocks rfl hP hK hD hS dX8_number_29
  · have hM := it_nn hc_1 hM
    refine lv_aload_n hx hb dX8_number_8 rfl (lv_at hl 0 rfl) ?_
    refine va_get (D := (dC, dI)) (ci := 8) (v := .long (mO64 0 5)) (C := RX8) (T := TX8) (N := 45) hx hb hts iwX8_number_X8 hown hK hP 0 rfl rfl 5 (by decide) (hts _ (List.mem_of_getElem? (i := 2) rfl)) (fun _ h9 => h9) rfl dX8_number_9 ?_
    refine lv_iload_n hx hb dX8_number_12 rfl (lv_at hl 1 rfl) ?_
    refine lv_i2l hx hb dX8_number_13 rfl ?_
    refine W.lcmp hx hb dX8_number_14 ?_
    refine lv_if_lt (tgt := 28) hx hb dX8_number_15 (by decide) (fun hc_2 => ?_) (fun hc_2 => ?_)
    · have hM := it_p hc_2 hM
      refine lv_iconst (v := 0) hx hb dX8_number_28 (by decide) ?_
      have hR := som hM
      rw [hR] at hQ
      exact ret_z hQ hx hb hr hlocks rfl hP hK hD hS dX8_number_29
    · have hM := it_n hc_2 hM
      refine lv_aload_n hx hb dX8_number_18 rfl (lv_at hl 0 rfl) ?_
      refine va_get (D := (dC, dI)) (ci := 8) (v := .long (mO64 0 5)) (C := RX8) (T := TX8) (N := 45) hx hb hts iwX8_number_X8 hown hK hP 0 rfl rfl 5 (by decide) (hts _ (List.mem_of_getElem? (i := 2) rfl)) (fun _ h9 => h9) rfl dX8_number_19 ?_
      refine lv_iload_n hx hb dX8_number_22 rfl (lv_at hl 2 rfl) ?_
      refine lv_i2l hx hb dX8_number_23 rfl ?_
      refine W.lcmp hx hb dX8_number_24 ?_
      refine lv_if_le (tgt := 30) hx hb dX8_number_25 (by decide) (fun hc_3 => ?_) (fun hc_3 => ?_)
      · have hM := it_p hc_3 hM
        refine lv_aload_n hx hb dX8_number_30 rfl (lv_at hl 0 rfl) ?_
        refine lv_aload_n hx hb dX8_number_31 rfl (lv_at hl 0 rfl) ?_
        refine va_get (D := (dC, dI)) (ci := 8) (v := .long (mO64 0 5)) (C := RX8) (T := TX8) (N := 45) hx hb hts iwX8_number_X8 hown hK hP 0 rfl rfl 5 (by decide) (hts _ (List.mem_of_getElem? (i := 2) rfl)) (fun _ h9 => h9) rfl dX8_number_32 ?_
        refine lv_l2i hx hb dX8_number_35 rfl ?_
        refine pf_i (wf := fun z => (wO ct aO z mO64)) (m1 := upf mO 36 ((mO64 0 5).toInt32)) hx hb hts iwX8_number_X8 tyX8 tyX8_ok nmX8 hown hK hP hD hS 0 rfl rfl 36 (by decide) (hts _ (List.mem_of_getElem? (i := 3) rfl)) (fun _ h9 => h9) rfl rfl rfl (Nat.le_of_ble_eq_true rfl) dX8_number_36 rfl (fun mO_4 emO_4 H locs hP hD hS => ?_)
        have hM := nm_at emO_4 hM
        refine lv_aload_n hx hb dX8_number_39 rfl (lv_at hl 0 rfl) ?_
        obtain ⟨q_8, hr_7, hM⟩ := bn_some hM
        obtain ⟨mO_5, mO64_6⟩ := q_8
        have hM := nm_at (y := mO_5) rfl hM
        have hM := nm_at (y := mO64_6) rfl hM
        refine gv_v (wn := (wO ct aO mO_5 mO64_6)) (va_runV (As := []) (rest := []) ⟨hx, hb, hml, hown, hts⟩ (kX8_leads l dC dI ct aO _ mO_4 mO64 _ hr_7) (cwV 0 hts gX8_number_X8_leads rfl rfl rfl hvX8_leads ⟨Nat.le_of_ble_eq_true rfl, Nat.le_of_ble_eq_true rfl⟩) (preV_of E0_ok hK hP hD (is := [0, 1, 2, 3, 4, 5, 6, 7, 8, 9, 10, 11, 12, 13, 14, 15, 16, 17, 18, 19, 20, 21, 22, 23, 24, 25]) rfl rfl rfl (ci := 8) rfl 0 rfl e_0) rfl rfl hl.1 rfl (lv_room (Nat.le_of_ble_eq_true rfl)) dX8_number_40 ⟨Nat.le_of_ble_eq_true rfl, Nat.le_of_ble_eq_true rfl⟩) hP hD hS hA [0, 1, 2, 3, 4, 5, 6, 7, 8, 9, 10, 11, 12, 13, 14, 15, 16, 17, 18, 19, 20, 21, 22, 23, 24, 25] [] [0, 1, 2, 3, 4, 5, 6, 7, 8, 9, 10, 11, 12, 13, 14, 15, 16, 17, 18, 19, 20, 21, 22, 23, 24, 25] rfl rfl rfl (by decide) rfl rfl (fun H locs hP hD hS => ?_)
        refine lv_iconst (v := 1) hx hb dX8_number_43 (by decide) ?_
        have hR := som hM
        rw [hR] at hQ
        exact ret_z hQ hx hb hr hlocks rfl hP hK hD hS dX8_number_44
      · have hM := it_n hc_3 hM
        refine lv_iconst (v := 0) hx hb dX8_number_28 (by decide) ?_
        have hR := som hM
        rw [hR] at hQ
        exact ret_z hQ hx hb hr hlocks rfl hP hK hD hS dX8_number_29
abbrev rmX8_closes : Room := { frames := 2, cells := 0, slots := 0, locals := 41 }
theorem iwX8_closes_X8 : ∀ w ∈ wsX80, w ∈ wsX8_closes := fun _ h => List.mem_cons_of_mem _ (List.mem_append_right _ (h))
set_option maxHeartbeats 4000000 in
set_option maxRecDepth 100000 in
theorem kX8_closes (l : Launch) (dC : Nat → ClassId) (dI : Nat → Nat → Nat) (ct : Nat → ClassId) (aO : Nat → Nat) (sz : Nat) (mO : Mem) (mO64 : Lem) (res : (Int32 × Mem × Lem)) (hM : mX8_closes mO mO64 = some res) : Met l yX8_closes wsX8_closes rmX8_closes (va_Pc [.ref (aO 0)] (PB (dC, dI) ct E0 sz (wO ct aO mO mO64))) (Qi (dC, dI) ct (va_A (wO ct aO mO mO64) sz) res.1 (wO ct aO res.2.1 res.2.2)) 0 0 (va_A (wO ct aO mO mO64) sz) := by
  refine Met.ofW (cc := cX8_closes) (maxL := 1) (ret := (some .boolean)) (by decide) rfl ?_
  intro p e s m args below meth c s₁ B hml hv
  obtain ⟨hargs, hsz, hP, hK, hD0, hE⟩ := hv
  have hx := B.exec
  have hb := B.bytes
  have hr := B.returns
  have hts := atoms_spec (ws := wsX8_closes) B.pre
  have hown : s.vm.findClass RX8 = some m.cls := findClass_of_methodNamed B.named
  have hlocks := B.notSynchronized
  clear B s₁
  subst hsz
  have hD := hD0.self (sz := s.heap.size)
  clear hD0
  generalize hAe : va_A (wO ct aO mO mO64) s.heap.size = A at hD hE ⊢
  have hA : ∀ q : Nat, s.heap.size ≤ q → A q := fun q h => by rw [← hAe]; exact Or.inr h
  clear hAe
  have hS : va_S A s.heap s.heap [] := va_S.rf
  refine cutQ (fun Q hQ => ?_)
  refine entryW (vs := [.ref (aO 0)]) hargs (Nat.le_of_ble_eq_true rfl) (fun ls hl => ?_)
  replace hl : lv_has ls 1 [(0, .ref (aO 0))] := hl
  unfold mX8_closes at hM
  refine lv_aload_n hx hb dX8_closes_0 rfl (lv_at hl 0 rfl) ?_
  refine va_get (D := (dC, dI)) (ci := 8) (v := .int (mO 0 3)) (C := RX8) (T := TX8) (N := 45) hx hb hts iwX8_closes_X8 hown hK hP 0 rfl rfl 3 (by decide) (hts _ (List.mem_of_getElem? (i := 1) rfl)) (fun _ h9 => h9) rfl dX8_closes_1 ?_
  refine lv_iconst (v := 3) hx hb dX8_closes_4 (by decide) ?_
  refine lv_icmp_eq (tgt := 10) hx hb dX8_closes_5 (by decide) (fun hc_1 => ?_) (fun hc_1 => ?_)
  · have hM := it_p hc_1 hM
    refine lv_aload_n hx hb dX8_closes_10 rfl (lv_at hl 0 rfl) ?_
    obtain ⟨q_5, hr_4, hM⟩ := bn_some hM
    obtain ⟨mO_2, mO64_3⟩ := q_5
    have hM := nm_at (y := mO_2) rfl hM
    have hM := nm_at (y := mO64_3) rfl hM
    refine gv_v (wn := (wO ct aO mO_2 mO64_3)) (va_runV (As := []) (rest := []) ⟨hx, hb, hml, hown, hts⟩ (kX8_leads l dC dI ct aO _ mO mO64 _ hr_4) (cwV 0 hts gX8_closes_X8_leads rfl rfl rfl hvX8_leads ⟨Nat.le_of_ble_eq_true rfl, Nat.le_of_ble_eq_true rfl⟩) (preV_of E0_ok hK hP hD (is := [0, 1, 2, 3, 4, 5, 6, 7, 8, 9, 10, 11, 12, 13, 14, 15, 16, 17, 18, 19, 20, 21, 22, 23, 24, 25]) rfl rfl rfl (ci := 8) rfl 0 rfl e_0) rfl rfl hl.1 rfl (lv_room (Nat.le_of_ble_eq_true rfl)) dX8_closes_11 ⟨Nat.le_of_ble_eq_true rfl, Nat.le_of_ble_eq_true rfl⟩) hP hD hS hA [0, 1, 2, 3, 4, 5, 6, 7, 8, 9, 10, 11, 12, 13, 14, 15, 16, 17, 18, 19, 20, 21, 22, 23, 24, 25] [] [0, 1, 2, 3, 4, 5, 6, 7, 8, 9, 10, 11, 12, 13, 14, 15, 16, 17, 18, 19, 20, 21, 22, 23, 24, 25] rfl rfl rfl (by decide) rfl rfl (fun H locs hP hD hS => ?_)
    refine lv_iconst (v := 1) hx hb dX8_closes_14 (by decide) ?_
    have hR := som hM
    rw [hR] at hQ
    exact ret_z hQ hx hb hr hlocks rfl hP hK hD hS dX8_closes_15
  · have hM := it_n hc_1 hM
    refine lv_iconst (v := 0) hx hb dX8_closes_8 (by decide) ?_
    have hR := som hM
    rw [hR] at hQ
    exact ret_z hQ hx hb hr hlocks rfl hP hK hD hS dX8_closes_9
abbrev rmX8_onceLine : Room := { frames := 3, cells := 0, slots := 0, locals := 63 }
theorem iwX8_onceLine_X8 : ∀ w ∈ wsX80, w ∈ wsX8_onceLine := fun _ h => List.mem_cons_of_mem _ (List.mem_append_right _ (h))
set_option maxHeartbeats 4000000 in
set_option maxRecDepth 100000 in
theorem kX8_onceLine (l : Launch) (dC : Nat → ClassId) (dI : Nat → Nat → Nat) (ct : Nat → ClassId) (aO : Nat → Nat) (sz : Nat) (mO : Mem) (mO64 : Lem) (v1 : Int32) (v2 : Int32) (v3 : Int32) (v4 : Int32) (v5 : Int32) (res : (Int32 × Mem × Lem)) (hM : mX8_onceLine mO mO64 v1 v2 v3 v4 v5 = some res) : Met l yX8_onceLine wsX8_onceLine rmX8_onceLine (va_Pc [.ref (aO 0), .int v1, .int v2, .int v3, .int v4, .int v5] (PB (dC, dI) ct E0 sz (wO ct aO mO mO64))) (Qi (dC, dI) ct (va_A (wO ct aO mO mO64) sz) res.1 (wO ct aO res.2.1 res.2.2)) 0 0 (va_A (wO ct aO mO mO64) sz) := by
  refine Met.ofW (cc := cX8_onceLine) (maxL := 7) (ret := (some .boolean)) (by decide) rfl ?_
  intro p e s m args below meth c s₁ B hml hv
  obtain ⟨hargs, hsz, hP, hK, hD0, hE⟩ := hv
  have hx := B.exec
  have hb := B.bytes
  have hr := B.returns
  have hts := atoms_spec (ws := wsX8_onceLine) B.pre
  have hown : s.vm.findClass RX8 = some m.cls := findClass_of_methodNamed B.named
  have hlocks := B.notSynchronized
  clear B s₁
  subst hsz
  have hD := hD0.self (sz := s.heap.size)
  clear hD0
  generalize hAe : va_A (wO ct aO mO mO64) s.heap.size = A at hD hE ⊢
  have hA : ∀ q : Nat, s.heap.size ≤ q → A q := fun q h => by rw [← hAe]; exact Or.inr h
  clear hAe
  have hS : va_S A s.heap s.heap [] := va_S.rf
  refine cutQ (fun Q hQ => ?_)
  refine entryW (vs := [.ref (aO 0), .int v1, .int v2, .int v3, .int v4, .int v5]) hargs (Nat.le_of_ble_eq_true rfl) (fun ls hl => ?_)
  replace hl : lv_has ls 7 [(0, .ref (aO 0)), (1, .int v1), (2, .int v2), (3, .int v3), (4, .int v4), (5, .int v5)] := hl
  unfold mX8_onceLine at hM
  have N64 : ∀ (v1 : Int32) (v6 : Int32) (mO : Mem) (mO64 : Lem), mX8_onceLine_j64 v1 v6 mO mO64 = some res → ∀ (H : Heap) (locs : List Loc), va_P (dC, dI) vwCl (wO ct aO mO mO64) H → va_D A (wO ct aO mO mO64) → va_S A s.heap H locs → ∀ ls : Array Slot, lv_has ls 7 [(0, .ref (aO 0)), (1, .int v1), (6, .int v6)] → W p l e (headSpec wsX8_onceLine rmX8_onceLine).room s m args below meth c H locs 0 0 Q (F0 m 64 ls []) := by
    intro v1 v6 mO mO64 hM H locs hP hD hS ls hl
    unfold mX8_onceLine_j64 at hM
    refine lv_aload_n hx hb dX8_onceLine_64 rfl (lv_at hl 0 rfl) ?_
    refine va_get (D := (dC, dI)) (ci := 8) (v := .ref (aO 2)) (C := RX8) (T := TX8) (N := 45) hx hb hts iwX8_onceLine_X8 hown hK hP 0 rfl rfl 6 (by decide) (hts _ (List.mem_of_getElem? (i := 1) rfl)) (fun _ h9 => h9) rfl dX8_onceLine_65 ?_
    refine lv_iload_n hx hb dX8_onceLine_68 rfl (lv_at hl 1 rfl) ?_
    refine lv_iload hx hb dX8_onceLine_69 (lv_at hl 2 rfl) ?_
    obtain ⟨hi, hM⟩ := gi_some hM
    refine st_i (wf := fun z => (wO ct aO z mO64)) (m1 := upi mO 2 v1.toNatClampNeg v6) hx hb hK hP hD hS 2 rfl hi dX8_onceLine_71 rfl (fun mO_1 emO_1 H locs hP hD hS => ?_)
    have hM := nm_at emO_1 hM
    refine lv_aload_n hx hb dX8_onceLine_72 rfl (lv_at hl 0 rfl) ?_
    obtain ⟨q_6, hr_5, hM⟩ := bn_some hM
    obtain ⟨x_2, mO_3, mO64_4⟩ := q_6
    have hM := nm_at (y := x_2) rfl hM
    have hM := nm_at (y := mO_3) rfl hM
    have hM := nm_at (y := mO64_4) rfl hM
    refine gv_i (r0 := x_2) (wn := (wO ct aO mO_3 mO64_4)) (va_runV (As := []) (rest := []) ⟨hx, hb, hml, hown, hts⟩ (kX8_closes l dC dI ct aO _ mO_1 mO64 _ hr_5) (cwV 0 hts gX8_onceLine_X8_closes rfl rfl rfl hvX8_closes ⟨Nat.le_of_ble_eq_true rfl, Nat.le_of_ble_eq_true rfl⟩) (preV_of E0_ok hK hP hD (is := [0, 1, 2, 3, 4, 5, 6, 7, 8, 9, 10, 11, 12, 13, 14, 15, 16, 17, 18, 19, 20, 21, 22, 23, 24, 25]) rfl rfl rfl (ci := 8) rfl 0 rfl e_0) rfl rfl hl.1 rfl (lv_room (Nat.le_of_ble_eq_true rfl)) dX8_onceLine_73 ⟨Nat.le_of_ble_eq_true rfl, Nat.le_of_ble_eq_true rfl⟩) hP hD hS hA [0, 1, 2, 3, 4, 5, 6, 7, 8, 9, 10, 11, 12, 13, 14, 15, 16, 17, 18, 19, 20, 21, 22, 23, 24, 25] [] [0, 1, 2, 3, 4, 5, 6, 7, 8, 9, 10, 11, 12, 13, 14, 15, 16, 17, 18, 19, 20, 21, 22, 23, 24, 25] rfl rfl rfl (by decide) rfl rfl (fun H locs hP hD hS => ?_)
    obtain ⟨hbz, hM⟩ := gb_some hM
    have hR := som hM
    rw [hR] at hQ
    exact ret_z hQ hx hb hr hlocks hbz hP hK hD hS dX8_onceLine_76
  refine lv_aload_n hx hb dX8_onceLine_0 rfl (lv_at hl 0 rfl) ?_
  refine va_get (D := (dC, dI)) (ci := 8) (v := .ref (aO 2)) (C := RX8) (T := TX8) (N := 45) hx hb hts iwX8_onceLine_X8 hown hK hP 0 rfl rfl 6 (by decide) (hts _ (List.mem_of_getElem? (i := 1) rfl)) (fun _ h9 => h9) rfl dX8_onceLine_1 ?_
  refine lv_iload_n hx hb dX8_onceLine_4 rfl (lv_at hl 1 rfl) ?_
  obtain ⟨hi, hM⟩ := gi_some hM
  refine va_iald hx hb hK hP 2 0 rfl rfl hi dX8_onceLine_5 ?_
  refine lv_iconst (v := -1) hx hb dX8_onceLine_6 (by decide) ?_
  refine lv_icmp_eq (tgt := 12) hx hb dX8_onceLine_7 (by decide) (fun hc_7 => ?_) (fun hc_7 => ?_)
  · have hM := it_p hc_7 hM
    refine lv_aload_n hx hb dX8_onceLine_12 rfl (lv_at hl 0 rfl) ?_
    obtain ⟨q_11, hr_10, hM⟩ := bn_some hM
    obtain ⟨mO_8, mO64_9⟩ := q_11
    have hM := nm_at (y := mO_8) rfl hM
    have hM := nm_at (y := mO64_9) rfl hM
    refine gv_v (wn := (wO ct aO mO_8 mO64_9)) (va_runV (As := []) (rest := []) ⟨hx, hb, hml, hown, hts⟩ (kX8_leads l dC dI ct aO _ mO mO64 _ hr_10) (cwV 0 hts gX8_onceLine_X8_leads rfl rfl rfl hvX8_leads ⟨Nat.le_of_ble_eq_true rfl, Nat.le_of_ble_eq_true rfl⟩) (preV_of E0_ok hK hP hD (is := [0, 1, 2, 3, 4, 5, 6, 7, 8, 9, 10, 11, 12, 13, 14, 15, 16, 17, 18, 19, 20, 21, 22, 23, 24, 25]) rfl rfl rfl (ci := 8) rfl 0 rfl e_0) rfl rfl hl.1 rfl (lv_room (Nat.le_of_ble_eq_true rfl)) dX8_onceLine_13 ⟨Nat.le_of_ble_eq_true rfl, Nat.le_of_ble_eq_true rfl⟩) hP hD hS hA [0, 1, 2, 3, 4, 5, 6, 7, 8, 9, 10, 11, 12, 13, 14, 15, 16, 17, 18, 19, 20, 21, 22, 23, 24, 25] [] [0, 1, 2, 3, 4, 5, 6, 7, 8, 9, 10, 11, 12, 13, 14, 15, 16, 17, 18, 19, 20, 21, 22, 23, 24, 25] rfl rfl rfl (by decide) rfl rfl (fun H locs hP hD hS => ?_)
    refine lv_aload_n hx hb dX8_onceLine_16 rfl (lv_at hl 0 rfl) ?_
    refine lv_iload_n hx hb dX8_onceLine_17 rfl (lv_at hl 2 rfl) ?_
    refine lv_iload_n hx hb dX8_onceLine_18 rfl (lv_at hl 3 rfl) ?_
    obtain ⟨q_16, hr_15, hM⟩ := bn_some hM
    obtain ⟨x_12, mO_13, mO64_14⟩ := q_16
    have hM := nm_at (y := x_12) rfl hM
    have hM := nm_at (y := mO_13) rfl hM
    have hM := nm_at (y := mO64_14) rfl hM
    refine gv_i (r0 := x_12) (wn := (wO ct aO mO_13 mO64_14)) (va_runV (As := [.int v2, .int v3]) (rest := []) ⟨hx, hb, hml, hown, hts⟩ (kX8_number l dC dI ct aO _ mO_8 mO64_9 v2 v3 _ hr_15) (cwV 2 hts gX8_onceLine_X8_number rfl rfl rfl hvX8_number ⟨Nat.le_of_ble_eq_true rfl, Nat.le_of_ble_eq_true rfl⟩) (preV_of E0_ok hK hP hD (is := [0, 1, 2, 3, 4, 5, 6, 7, 8, 9, 10, 11, 12, 13, 14, 15, 16, 17, 18, 19, 20, 21, 22, 23, 24, 25]) rfl rfl rfl (ci := 8) rfl 0 rfl e_0) rfl rfl hl.1 rfl (lv_room (Nat.le_of_ble_eq_true rfl)) dX8_onceLine_19 ⟨Nat.le_of_ble_eq_true rfl, Nat.le_of_ble_eq_true rfl⟩) hP hD hS hA [0, 1, 2, 3, 4, 5, 6, 7, 8, 9, 10, 11, 12, 13, 14, 15, 16, 17, 18, 19, 20, 21, 22, 23, 24, 25] [] [0, 1, 2, 3, 4, 5, 6, 7, 8, 9, 10, 11, 12, 13, 14, 15, 16, 17, 18, 19, 20, 21, 22, 23, 24, 25] rfl rfl rfl (by decide) rfl rfl (fun H locs hP hD hS => ?_)
    refine lv_if_ne (tgt := 27) hx hb dX8_onceLine_22 (by decide) (fun hc_17 => ?_) (fun hc_17 => ?_)
    · have hM := it_p hc_17 hM
      refine lv_aload_n hx hb dX8_onceLine_27 rfl (lv_at hl 0 rfl) ?_
      refine va_get (D := (dC, dI)) (ci := 8) (v := .int (mO_13 0 36)) (C := RX8) (T := TX8) (N := 45) hx hb hts iwX8_onceLine_X8 hown hK hP 0 rfl rfl 36 (by decide) (hts _ (List.mem_of_getElem? (i := 2) rfl)) (fun _ h9 => h9) rfl dX8_onceLine_28 ?_
      refine lv_topi (fun x_18 ex_18 => ?_)
      have hM := nm_at ex_18 hM
      refine lv_istore (lv' := [(6, .int x_18), (0, .ref (aO 0)), (1, .int v1), (2, .int v2), (3, .int v3), (4, .int v4), (5, .int v5)]) hx hb dX8_onceLine_31 hl (by decide) rfl (fun ls hl => ?_)
      refine lv_iload hx hb dX8_onceLine_33 (lv_at hl 5 rfl) ?_
      refine lv_iconst (v := -1) hx hb dX8_onceLine_35 (by decide) ?_
      refine lv_icmp_eq (tgt := 64) hx hb dX8_onceLine_36 (by decide) (fun hc_19 => ?_) (fun hc_19 => ?_)
      · have hM := it_p hc_19 hM
        exact N64 v1 x_18 mO_13 mO64_14 hM _ _ hP hD hS _ (lv_sub hl [1, 2, 0] rfl)
      · have hM := it_n hc_19 hM
        refine lv_aload_n hx hb dX8_onceLine_39 rfl (lv_at hl 1 rfl) ?_
        refine lv_iload hx hb dX8_onceLine_40 (lv_at hl 5 rfl) ?_
        refine lv_iload hx hb dX8_onceLine_42 (lv_at hl 6 rfl) ?_
        obtain ⟨q_24, hr_23, hM⟩ := bn_some hM
        obtain ⟨x_20, mO_21, mO64_22⟩ := q_24
        have hM := nm_at (y := x_20) rfl hM
        have hM := nm_at (y := mO_21) rfl hM
        have hM := nm_at (y := mO64_22) rfl hM
        refine gv_i (r0 := x_20) (wn := (wO ct aO mO_21 mO64_22)) (va_runV (As := [.int v4, .int v5]) (rest := []) ⟨hx, hb, hml, hown, hts⟩ (kX8_number l dC dI ct aO _ mO_13 mO64_14 v4 v5 _ hr_23) (cwV 2 hts gX8_onceLine_X8_number rfl rfl rfl hvX8_number ⟨Nat.le_of_ble_eq_true rfl, Nat.le_of_ble_eq_true rfl⟩) (preV_of E0_ok hK hP hD (is := [0, 1, 2, 3, 4, 5, 6, 7, 8, 9, 10, 11, 12, 13, 14, 15, 16, 17, 18, 19, 20, 21, 22, 23, 24, 25]) rfl rfl rfl (ci := 8) rfl 0 rfl e_0) rfl rfl hl.1 rfl (lv_room (Nat.le_of_ble_eq_true rfl)) dX8_onceLine_44 ⟨Nat.le_of_ble_eq_true rfl, Nat.le_of_ble_eq_true rfl⟩) hP hD hS hA [0, 1, 2, 3, 4, 5, 6, 7, 8, 9, 10, 11, 12, 13, 14, 15, 16, 17, 18, 19, 20, 21, 22, 23, 24, 25] [] [0, 1, 2, 3, 4, 5, 6, 7, 8, 9, 10, 11, 12, 13, 14, 15, 16, 17, 18, 19, 20, 21, 22, 23, 24, 25] rfl rfl rfl (by decide) rfl rfl (fun H locs hP hD hS => ?_)
        refine lv_if_ne (tgt := 52) hx hb dX8_onceLine_47 (by decide) (fun hc_25 => ?_) (fun hc_25 => ?_)
        · have hM := it_p hc_25 hM
          refine lv_aload_n hx hb dX8_onceLine_52 rfl (lv_at hl 1 rfl) ?_
          refine va_get (D := (dC, dI)) (ci := 8) (v := .ref (aO 2)) (C := RX8) (T := TX8) (N := 45) hx hb hts iwX8_onceLine_X8 hown hK hP 0 rfl rfl 6 (by decide) (hts _ (List.mem_of_getElem? (i := 1) rfl)) (fun _ h9 => h9) rfl dX8_onceLine_53 ?_
          refine lv_iload_n hx hb dX8_onceLine_56 rfl (lv_at hl 2 rfl) ?_
          refine lv_iconst (v := 1) hx hb dX8_onceLine_57 (by decide) ?_
          refine lv_iadd hx hb dX8_onceLine_58 ?_
          refine lv_aload_n hx hb dX8_onceLine_59 rfl (lv_at hl 1 rfl) ?_
          refine va_get (D := (dC, dI)) (ci := 8) (v := .int (mO_21 0 36)) (C := RX8) (T := TX8) (N := 45) hx hb hts iwX8_onceLine_X8 hown hK hP 0 rfl rfl 36 (by decide) (hts _ (List.mem_of_getElem? (i := 2) rfl)) (fun _ h9 => h9) rfl dX8_onceLine_60 ?_
          obtain ⟨hi, hM⟩ := gi_some hM
          refine st_i (wf := fun z => (wO ct aO z mO64_22)) (m1 := upi mO_21 2 (v1 + (1 : Int32)).toNatClampNeg (mO_21 0 36)) hx hb hK hP hD hS 2 rfl hi dX8_onceLine_63 rfl (fun mO_26 emO_26 H locs hP hD hS => ?_)
          have hM := nm_at emO_26 hM
          exact N64 v1 x_18 mO_26 mO64_22 hM _ _ hP hD hS _ (lv_sub hl [1, 2, 0] rfl)
        · have hM := it_nn hc_25 hM
          refine lv_iconst (v := 0) hx hb dX8_onceLine_50 (by decide) ?_
          have hR := som hM
          rw [hR] at hQ
          exact ret_z hQ hx hb hr hlocks rfl hP hK hD hS dX8_onceLine_51
    · have hM := it_nn hc_17 hM
      refine lv_iconst (v := 0) hx hb dX8_onceLine_25 (by decide) ?_
      have hR := som hM
      rw [hR] at hQ
      exact ret_z hQ hx hb hr hlocks rfl hP hK hD hS dX8_onceLine_26
  · have hM := it_n hc_7 hM
    refine lv_iconst (v := 0) hx hb dX8_onceLine_10 (by decide) ?_
    have hR := som hM
    rw [hR] at hQ
    exact ret_z hQ hx hb hr hlocks rfl hP hK hD hS dX8_onceLine_11
abbrev rmX8_sortLine : Room := { frames := 8, cells := 0, slots := 0, locals := 169 }
theorem iwX8_sortLine_X8 : ∀ w ∈ wsX80, w ∈ wsX8_sortLine := fun _ h => List.mem_cons_of_mem _ (List.mem_append_right _ (h))
set_option maxHeartbeats 4000000 in
set_option maxRecDepth 100000 in
theorem kX8_sortLine (l : Launch) (dC : Nat → ClassId) (dI : Nat → Nat → Nat) (ct : Nat → ClassId) (aO : Nat → Nat) (adK adV : Nat → Nat) (sz : Nat) (mO : Mem) (mO64 : Lem) (res : (Int32 × Mem × Lem)) (hM : mX8_sortLine mO mO64 = some res) : Met l yX8_sortLine wsX8_sortLine rmX8_sortLine (va_Pc [.ref (aO 0)] (PB (dC, dI) ct (EV adK adV) sz (wO ct aO mO mO64))) (Qi (dC, dI) ct (va_A (wO ct aO mO mO64) sz) res.1 (wO ct aO res.2.1 res.2.2)) 0 0 (va_A (wO ct aO mO mO64) sz) := by
  refine Met.ofW (cc := cX8_sortLine) (maxL := 2) (ret := (some .boolean)) (by decide) rfl ?_
  intro p e s m args below meth c s₁ B hml hv
  obtain ⟨hargs, hsz, hP, hK, hD0, hE⟩ := hv
  have hx := B.exec
  have hb := B.bytes
  have hr := B.returns
  have hts := atoms_spec (ws := wsX8_sortLine) B.pre
  have hown : s.vm.findClass RX8 = some m.cls := findClass_of_methodNamed B.named
  have hlocks := B.notSynchronized
  clear B s₁
  subst hsz
  have hD := hD0.self (sz := s.heap.size)
  clear hD0
  generalize hAe : va_A (wO ct aO mO mO64) s.heap.size = A at hD hE ⊢
  have hA : ∀ q : Nat, s.heap.size ≤ q → A q := fun q h => by rw [← hAe]; exact Or.inr h
  clear hAe
  have hS : va_S A s.heap s.heap [] := va_S.rf
  refine cutQ (fun Q hQ => ?_)
  refine entryW (vs := [.ref (aO 0)]) hargs (Nat.le_of_ble_eq_true rfl) (fun ls hl => ?_)
  replace hl : lv_has ls 2 [(0, .ref (aO 0))] := hl
  unfold mX8_sortLine at hM
  have N75 : ∀ (v1 : Int32) (mO : Mem) (mO64 : Lem), mX8_sortLine_L75 v1 mO mO64 = some res → ∀ (H : Heap) (locs : List Loc), va_P (dC, dI) vwCl (wO ct aO mO mO64) H → va_D A (wO ct aO mO mO64) → va_S A s.heap H locs → ∀ ls : Array Slot, lv_has ls 2 [(0, .ref (aO 0)), (1, .int v1)] → W p l e (headSpec wsX8_sortLine rmX8_sortLine).room s m args below meth c H locs 0 0 Q (F0 m 75 ls []) := by
    intro v1 mO mO64 hM H locs hP hD hS ls hl
    unfold mX8_sortLine_L75 at hM
    obtain ⟨ex75, hit75, hM⟩ := bn_some hM
    have X75_0 : ∀ (mO : Mem) (mO64 : Lem), ex75 = (Sum.inl (mO, mO64)) → ∀ (H : Heap) (locs : List Loc), va_P (dC, dI) vwCl (wO ct aO mO mO64) H → va_D A (wO ct aO mO mO64) → va_S A s.heap H locs → ∀ ls : Array Slot, lv_has ls 2 [] → W p l e (headSpec wsX8_sortLine rmX8_sortLine).room s m args below meth c H locs 0 0 Q (F0 m 106 ls []) := by
      intro mO mO64 hex H locs hP hD hS ls hl
      have hM := el_l hex hM
      have hM := nm_at (y := mO) rfl hM
      have hM := nm_at (y := mO64) rfl hM
      refine lv_iconst (v := 0) hx hb dX8_sortLine_106 (by decide) ?_
      have hR := som hM
      rw [hR] at hQ
      exact ret_z hQ hx hb hr hlocks rfl hP hK hD hS dX8_sortLine_107
    have X75_1 : ∀ (mO : Mem) (mO64 : Lem), ex75 = (Sum.inr (mO, mO64)) → ∀ (H : Heap) (locs : List Loc), va_P (dC, dI) vwCl (wO ct aO mO mO64) H → va_D A (wO ct aO mO mO64) → va_S A s.heap H locs → ∀ ls : Array Slot, lv_has ls 2 [(0, .ref (aO 0))] → W p l e (headSpec wsX8_sortLine rmX8_sortLine).room s m args below meth c H locs 0 0 Q (F0 m 132 ls []) := by
      intro mO mO64 hex H locs hP hD hS ls hl
      have hM := el_r hex hM
      have hM := nm_at (y := mO) rfl hM
      have hM := nm_at (y := mO64) rfl hM
      refine lv_aload_n hx hb dX8_sortLine_132 rfl (lv_at hl 0 rfl) ?_
      refine lv_dup hx hb dX8_sortLine_133 rfl ?_
      refine va_get (D := (dC, dI)) (ci := 8) (v := .int (mO 0 7)) (C := RX8) (T := TX8) (N := 45) hx hb hts iwX8_sortLine_X8 hown hK hP 0 rfl rfl 7 (by decide) (hts _ (List.mem_of_getElem? (i := 1) rfl)) (fun _ h9 => h9) rfl dX8_sortLine_134 ?_
      refine lv_iconst (v := 1) hx hb dX8_sortLine_137 (by decide) ?_
      refine lv_iadd hx hb dX8_sortLine_138 ?_
      refine pf_i (wf := fun z => (wO ct aO z mO64)) (m1 := upf mO 7 ((mO 0 7) + (1 : Int32))) hx hb hts iwX8_sortLine_X8 tyX8 tyX8_ok nmX8 hown hK hP hD hS 0 rfl rfl 7 (by decide) (hts _ (List.mem_of_getElem? (i := 1) rfl)) (fun _ h9 => h9) rfl rfl rfl (Nat.le_of_ble_eq_true rfl) dX8_sortLine_139 rfl (fun mO_1 emO_1 H locs hP hD hS => ?_)
      have hM := nm_at emO_1 hM
      refine lv_aload_n hx hb dX8_sortLine_142 rfl (lv_at hl 0 rfl) ?_
      obtain ⟨q_6, hr_5, hM⟩ := bn_some hM
      obtain ⟨x_2, mO_3, mO64_4⟩ := q_6
      have hM := nm_at (y := x_2) rfl hM
      have hM := nm_at (y := mO_3) rfl hM
      have hM := nm_at (y := mO64_4) rfl hM
      refine gv_i (r0 := x_2) (wn := (wO ct aO mO_3 mO64_4)) (va_runV (As := []) (rest := []) ⟨hx, hb, hml, hown, hts⟩ (kX8_closes l dC dI ct aO _ mO_1 mO64 _ hr_5) (cwV 0 hts gX8_sortLine_X8_closes rfl rfl rfl hvX8_closes ⟨Nat.le_of_ble_eq_true rfl, Nat.le_of_ble_eq_true rfl⟩) (preV_of E0_ok hK hP hD (is := [0, 1, 2, 3, 4, 5, 6, 7, 8, 9, 10, 11, 12, 13, 14, 15, 16, 17, 18, 19, 20, 21, 22, 23, 24, 25]) rfl rfl rfl (ci := 8) rfl 0 rfl e_0) rfl rfl hl.1 rfl (lv_room (Nat.le_of_ble_eq_true rfl)) dX8_sortLine_143 ⟨Nat.le_of_ble_eq_true rfl, Nat.le_of_ble_eq_true rfl⟩) hP hD hS hA [0, 1, 2, 3, 4, 5, 6, 7, 8, 9, 10, 11, 12, 13, 14, 15, 16, 17, 18, 19, 20, 21, 22, 23, 24, 25] [] [0, 1, 2, 3, 4, 5, 6, 7, 8, 9, 10, 11, 12, 13, 14, 15, 16, 17, 18, 19, 20, 21, 22, 23, 24, 25] rfl rfl rfl (by decide) rfl rfl (fun H locs hP hD hS => ?_)
      obtain ⟨hbz, hM⟩ := gb_some hM
      have hR := som hM
      rw [hR] at hQ
      exact ret_z hQ hx hb hr hlocks hbz hP hK hD hS dX8_sortLine_146
    have I75 : ∀ (n : Nat) (v1 : Int32) (mO : Mem) (mO64 : Lem), itr (fun q => mX8_sortLine_s75 q.1 q.2.1 q.2.2) n (v1, mO, mO64) = some ex75 → ∀ (H : Heap) (locs : List Loc), va_P (dC, dI) vwCl (wO ct aO mO mO64) H → va_D A (wO ct aO mO mO64) → va_S A s.heap H locs → ∀ ls : Array Slot, lv_has ls 2 [(0, .ref (aO 0)), (1, .int v1)] → W p l e (headSpec wsX8_sortLine rmX8_sortLine).room s m args below meth c H locs 0 0 Q (F0 m 75 ls []) := by
      intro n
      induction n with
      | zero => intro v1 mO mO64 hit; exact (itr_zero hit).elim
      | succ n ih75 =>
        intro v1 mO mO64 hit H locs hP hD hS ls hl
        obtain ⟨o75, hM, hbk75, hex75⟩ := itr_succ hit
        replace hM : mX8_sortLine_s75 v1 mO mO64 = some o75 := hM
        have N96 : ∀ (v1 : Int32) (t1 : Int32) (mO : Mem) (mO64 : Lem), mX8_sortLine_j96 v1 t1 mO mO64 = some o75 → ∀ (H : Heap) (locs : List Loc), va_P (dC, dI) vwCl (wO ct aO mO mO64) H → va_D A (wO ct aO mO mO64) → va_S A s.heap H locs → ∀ ls : Array Slot, lv_has ls 2 [(0, .ref (aO 0)), (1, .int v1)] → W p l e (headSpec wsX8_sortLine rmX8_sortLine).room s m args below meth c H locs 0 0 Q (F0 m 96 ls [.int t1, .ref (aO 0)]) := by
          intro v1 t1 mO mO64 hM H locs hP hD hS ls hl
          unfold mX8_sortLine_j96 at hM
          refine lv_iload_n hx hb dX8_sortLine_96 rfl (lv_at hl 1 rfl) ?_
          obtain ⟨x_7, hr_8, hM⟩ := bn_some hM
          refine gv_i (r0 := x_7) (wn := (wO ct aO mO mO64)) (va_runS (As := [.int v1]) (rest := [.int t1, .ref (aO 0)]) ⟨hx, hb, hml, hown, hts⟩ (kX8_mostOf l dC dI ct _ v1 _ hr_8) (va_cwS 1 hts gX8_sortLine_X8_mostOf rfl rfl rfl hvX8_mostOf.2 ⟨Nat.le_of_ble_eq_true rfl, Nat.le_of_ble_eq_true rfl⟩) (preS_of E0_ok hK hP hD (is := []) rfl rfl e_0) rfl rfl hl.1 rfl (lv_room (Nat.le_of_ble_eq_true rfl)) dX8_sortLine_97 ⟨Nat.le_of_ble_eq_true rfl, Nat.le_of_ble_eq_true rfl⟩) hP hD hS hA [] [0, 1, 2, 3, 4, 5, 6, 7, 8, 9, 10, 11, 12, 13, 14, 15, 16, 17, 18, 19, 20, 21, 22, 23, 24, 25] [0, 1, 2, 3, 4, 5, 6, 7, 8, 9, 10, 11, 12, 13, 14, 15, 16, 17, 18, 19, 20, 21, 22, 23, 24, 25] rfl rfl rfl (by decide) rfl rfl (fun H locs hP hD hS => ?_)
          obtain ⟨q_14, hr_13, hM⟩ := bn_some hM
          obtain ⟨x_10, mO_11, mO64_12⟩ := q_14
          have hM := nm_at (y := x_10) rfl hM
          have hM := nm_at (y := mO_11) rfl hM
          have hM := nm_at (y := mO64_12) rfl hM
          refine gv_i (r0 := x_10) (wn := (wO ct aO mO_11 mO64_12)) (va_runV (As := [.int t1, .int x_7]) (rest := []) ⟨hx, hb, hml, hown, hts⟩ (kX8_number l dC dI ct aO _ mO mO64 t1 x_7 _ hr_13) (cwV 2 hts gX8_sortLine_X8_number rfl rfl rfl hvX8_number ⟨Nat.le_of_ble_eq_true rfl, Nat.le_of_ble_eq_true rfl⟩) (preV_of E0_ok hK hP hD (is := [0, 1, 2, 3, 4, 5, 6, 7, 8, 9, 10, 11, 12, 13, 14, 15, 16, 17, 18, 19, 20, 21, 22, 23, 24, 25]) rfl rfl rfl (ci := 8) rfl 0 rfl e_0) rfl rfl hl.1 rfl (lv_room (Nat.le_of_ble_eq_true rfl)) dX8_sortLine_100 ⟨Nat.le_of_ble_eq_true rfl, Nat.le_of_ble_eq_true rfl⟩) hP hD hS hA [0, 1, 2, 3, 4, 5, 6, 7, 8, 9, 10, 11, 12, 13, 14, 15, 16, 17, 18, 19, 20, 21, 22, 23, 24, 25] [] [0, 1, 2, 3, 4, 5, 6, 7, 8, 9, 10, 11, 12, 13, 14, 15, 16, 17, 18, 19, 20, 21, 22, 23, 24, 25] rfl rfl rfl (by decide) rfl rfl (fun H locs hP hD hS => ?_)
          refine lv_if_ne (tgt := 108) hx hb dX8_sortLine_103 (by decide) (fun hc_15 => ?_) (fun hc_15 => ?_)
          · have hM := it_p hc_15 hM
            refine lv_aload_n hx hb dX8_sortLine_108 rfl (lv_at hl 0 rfl) ?_
            refine va_get (D := (dC, dI)) (ci := 8) (v := .ref (aO 4)) (C := RX8) (T := TX8) (N := 45) hx hb hts iwX8_sortLine_X8 hown hK hP 0 rfl rfl 9 (by decide) (hts _ (List.mem_of_getElem? (i := 4) rfl)) (fun _ h9 => h9) rfl dX8_sortLine_109 ?_
            refine lv_bipush (v := 6) hx hb dX8_sortLine_112 (by decide) ?_
            refine lv_aload_n hx hb dX8_sortLine_114 rfl (lv_at hl 0 rfl) ?_
            refine va_get (D := (dC, dI)) (ci := 8) (v := .int (mO_11 0 7)) (C := RX8) (T := TX8) (N := 45) hx hb hts iwX8_sortLine_X8 hown hK hP 0 rfl rfl 7 (by decide) (hts _ (List.mem_of_getElem? (i := 1) rfl)) (fun _ h9 => h9) rfl dX8_sortLine_115 ?_
            refine lv_imul hx hb dX8_sortLine_118 ?_
            refine lv_iload_n hx hb dX8_sortLine_119 rfl (lv_at hl 1 rfl) ?_
            refine lv_iadd hx hb dX8_sortLine_120 ?_
            refine lv_aload_n hx hb dX8_sortLine_121 rfl (lv_at hl 0 rfl) ?_
            refine va_get (D := (dC, dI)) (ci := 8) (v := .int (mO_11 0 36)) (C := RX8) (T := TX8) (N := 45) hx hb hts iwX8_sortLine_X8 hown hK hP 0 rfl rfl 36 (by decide) (hts _ (List.mem_of_getElem? (i := 5) rfl)) (fun _ h9 => h9) rfl dX8_sortLine_122 ?_
            obtain ⟨hi, hM⟩ := gi_some hM
            refine st_i (wf := fun z => (wO ct aO z mO64_12)) (m1 := upi mO_11 4 (((6 : Int32) * (mO_11 0 7)) + v1).toNatClampNeg (mO_11 0 36)) hx hb hK hP hD hS 4 rfl hi dX8_sortLine_125 rfl (fun mO_16 emO_16 H locs hP hD hS => ?_)
            have hM := nm_at emO_16 hM
            obtain ⟨x_17, ex_17⟩ : ∃ y : Int32, y = (v1 + (1 : Int32)) := ⟨_, rfl⟩
            have hM := nm_at ex_17 hM
            refine lv_iinc (v := x_17) (lv' := [(1, .int x_17), (0, .ref (aO 0))]) hx hb dX8_sortLine_126 hl (k := 1) rfl (by rw [ex_17]; rfl) (by decide) rfl (fun ls hl => ?_)
            refine lv_goto (tgt := 75) hx hb dX8_sortLine_129 (by decide) ?_
            have hR := som hM
            exact ih75 x_17 mO_16 mO64_12 (hbk75 _ hR) _ _ hP hD hS _ (lv_sub hl [1, 0] rfl)
          · have hM := it_nn hc_15 hM
            have hR := som hM
            exact X75_0 mO_11 mO64_12 (hex75 _ hR).symm _ _ hP hD hS _ (lv_sub hl [] rfl)
        have N91 : ∀ (v1 : Int32) (mO : Mem) (mO64 : Lem), mX8_sortLine_j91 v1 mO mO64 = some o75 → ∀ (H : Heap) (locs : List Loc), va_P (dC, dI) vwCl (wO ct aO mO mO64) H → va_D A (wO ct aO mO mO64) → va_S A s.heap H locs → ∀ ls : Array Slot, lv_has ls 2 [(0, .ref (aO 0)), (1, .int v1)] → W p l e (headSpec wsX8_sortLine rmX8_sortLine).room s m args below meth c H locs 0 0 Q (F0 m 91 ls [.ref (aO 0)]) := by
          intro v1 mO mO64 hM H locs hP hD hS ls hl
          unfold mX8_sortLine_j91 at hM
          refine lv_iconst (v := 1) hx hb dX8_sortLine_91 (by decide) ?_
          refine lv_goto (tgt := 96) hx hb dX8_sortLine_92 (by decide) ?_
          exact N96 v1 (1 : Int32) mO mO64 hM _ _ hP hD hS _ (lv_sub hl [0, 1] rfl)
        unfold mX8_sortLine_s75 at hM
        refine lv_iload_n hx hb dX8_sortLine_75 rfl (lv_at hl 1 rfl) ?_
        refine lv_bipush (v := 6) hx hb dX8_sortLine_76 (by decide) ?_
        refine lv_icmp_ge (tgt := 132) hx hb dX8_sortLine_78 (by decide) (fun hc_18 => ?_) (fun hc_18 => ?_)
        · have hM := it_p hc_18 hM
          have hR := som hM
          exact X75_1 mO mO64 (hex75 _ hR).symm _ _ hP hD hS _ (lv_sub hl [0] rfl)
        · have hM := it_n hc_18 hM
          refine lv_aload_n hx hb dX8_sortLine_81 rfl (lv_at hl 0 rfl) ?_
          refine lv_iload_n hx hb dX8_sortLine_82 rfl (lv_at hl 1 rfl) ?_
          refine lv_if_eq (tgt := 91) hx hb dX8_sortLine_83 (by decide) (fun hc_19 => ?_) (fun hc_19 => ?_)
          · have hM := it_p hc_19 hM
            exact N91 v1 mO mO64 hM _ _ hP hD hS _ (lv_sub hl [0, 1] rfl)
          · have hM := it_n hc_19 hM
            refine lv_iload_n hx hb dX8_sortLine_86 rfl (lv_at hl 1 rfl) ?_
            refine lv_iconst (v := 3) hx hb dX8_sortLine_87 (by decide) ?_
            refine lv_icmp_ne (tgt := 95) hx hb dX8_sortLine_88 (by decide) (fun hc_20 => ?_) (fun hc_20 => ?_)
            · have hM := it_p hc_20 hM
              refine lv_iconst (v := 0) hx hb dX8_sortLine_95 (by decide) ?_
              exact N96 v1 (0 : Int32) mO mO64 hM _ _ hP hD hS _ (lv_sub hl [0, 1] rfl)
            · have hM := it_nn hc_20 hM
              exact N91 v1 mO mO64 hM _ _ hP hD hS _ (lv_sub hl [0, 1] rfl)
    exact I75 FU v1 mO mO64 hit75 _ _ hP hD hS _ hl
  have N26 : ∀ (v1 : Int32) (mO : Mem) (mO64 : Lem), mX8_sortLine_L26 v1 mO mO64 = some res → ∀ (H : Heap) (locs : List Loc), va_P (dC, dI) vwCl (wO ct aO mO mO64) H → va_D A (wO ct aO mO mO64) → va_S A s.heap H locs → ∀ ls : Array Slot, lv_has ls 2 [(0, .ref (aO 0)), (1, .int v1)] → W p l e (headSpec wsX8_sortLine rmX8_sortLine).room s m args below meth c H locs 0 0 Q (F0 m 26 ls []) := by
    intro v1 mO mO64 hM H locs hP hD hS ls hl
    unfold mX8_sortLine_L26 at hM
    obtain ⟨ex26, hit26, hM⟩ := bn_some hM
    have X26_0 : ex26 = (Sum.inl ()) → ∀ (H : Heap) (locs : List Loc), va_P (dC, dI) vwCl (wO ct aO mO mO64) H → va_D A (wO ct aO mO mO64) → va_S A s.heap H locs → ∀ ls : Array Slot, lv_has ls 2 [] → W p l e (headSpec wsX8_sortLine rmX8_sortLine).room s m args below meth c H locs 0 0 Q (F0 m 48 ls []) := by
      intro hex H locs hP hD hS ls hl
      have hM := el_l hex hM
      refine lv_iconst (v := 0) hx hb dX8_sortLine_48 (by decide) ?_
      have hR := som hM
      rw [hR] at hQ
      exact ret_z hQ hx hb hr hlocks rfl hP hK hD hS dX8_sortLine_49
    have X26_1 : ex26 = (Sum.inr ()) → ∀ (H : Heap) (locs : List Loc), va_P (dC, dI) vwCl (wO ct aO mO mO64) H → va_D A (wO ct aO mO mO64) → va_S A s.heap H locs → ∀ ls : Array Slot, lv_has ls 2 [(0, .ref (aO 0))] → W p l e (headSpec wsX8_sortLine rmX8_sortLine).room s m args below meth c H locs 0 0 Q (F0 m 56 ls []) := by
      intro hex H locs hP hD hS ls hl
      have hM := el_r hex hM
      refine lv_aload_n hx hb dX8_sortLine_56 rfl (lv_at hl 0 rfl) ?_
      refine va_get (D := (dC, dI)) (ci := 8) (v := .ref (aO 3)) (C := RX8) (T := TX8) (N := 45) hx hb hts iwX8_sortLine_X8 hown hK hP 0 rfl rfl 8 (by decide) (hts _ (List.mem_of_getElem? (i := 2) rfl)) (fun _ h9 => h9) rfl dX8_sortLine_57 ?_
      refine lv_aload_n hx hb dX8_sortLine_60 rfl (lv_at hl 0 rfl) ?_
      refine va_get (D := (dC, dI)) (ci := 8) (v := .int (mO 0 7)) (C := RX8) (T := TX8) (N := 45) hx hb hts iwX8_sortLine_X8 hown hK hP 0 rfl rfl 7 (by decide) (hts _ (List.mem_of_getElem? (i := 1) rfl)) (fun _ h9 => h9) rfl dX8_sortLine_61 ?_
      refine lv_aload_n hx hb dX8_sortLine_64 rfl (lv_at hl 0 rfl) ?_
      refine va_get (D := (dC, dI)) (ci := 8) (v := .long (mO64 0 5)) (C := RX8) (T := TX8) (N := 45) hx hb hts iwX8_sortLine_X8 hown hK hP 0 rfl rfl 5 (by decide) (hts _ (List.mem_of_getElem? (i := 3) rfl)) (fun _ h9 => h9) rfl dX8_sortLine_65 ?_
      obtain ⟨hi, hM⟩ := gi_some hM
      refine st_l (wf := fun z => (wO ct aO mO z)) (m1 := upiL mO64 3 (mO 0 7).toNatClampNeg (mO64 0 5)) hx hb hK hP hD hS 3 rfl hi dX8_sortLine_68 rfl (fun mO64_21 emO64_21 H locs hP hD hS => ?_)
      have hM := nm_at emO64_21 hM
      refine lv_aload_n hx hb dX8_sortLine_69 rfl (lv_at hl 0 rfl) ?_
      obtain ⟨q_25, hr_24, hM⟩ := bn_some hM
      obtain ⟨mO_22, mO64_23⟩ := q_25
      have hM := nm_at (y := mO_22) rfl hM
      have hM := nm_at (y := mO64_23) rfl hM
      refine gv_v (wn := (wO ct aO mO_22 mO64_23)) (va_runV (As := []) (rest := []) ⟨hx, hb, hml, hown, hts⟩ (kX8_leads l dC dI ct aO _ mO mO64_21 _ hr_24) (cwV 0 hts gX8_sortLine_X8_leads rfl rfl rfl hvX8_leads ⟨Nat.le_of_ble_eq_true rfl, Nat.le_of_ble_eq_true rfl⟩) (preV_of E0_ok hK hP hD (is := [0, 1, 2, 3, 4, 5, 6, 7, 8, 9, 10, 11, 12, 13, 14, 15, 16, 17, 18, 19, 20, 21, 22, 23, 24, 25]) rfl rfl rfl (ci := 8) rfl 0 rfl e_0) rfl rfl hl.1 rfl (lv_room (Nat.le_of_ble_eq_true rfl)) dX8_sortLine_70 ⟨Nat.le_of_ble_eq_true rfl, Nat.le_of_ble_eq_true rfl⟩) hP hD hS hA [0, 1, 2, 3, 4, 5, 6, 7, 8, 9, 10, 11, 12, 13, 14, 15, 16, 17, 18, 19, 20, 21, 22, 23, 24, 25] [] [0, 1, 2, 3, 4, 5, 6, 7, 8, 9, 10, 11, 12, 13, 14, 15, 16, 17, 18, 19, 20, 21, 22, 23, 24, 25] rfl rfl rfl (by decide) rfl rfl (fun H locs hP hD hS => ?_)
      refine lv_iconst (v := 0) hx hb dX8_sortLine_73 (by decide) ?_
      refine lv_istore_n (lv' := [(1, .int (0 : Int32)), (0, .ref (aO 0))]) hx hb dX8_sortLine_74 rfl hl (by decide) rfl (fun ls hl => ?_)
      exact N75 (0 : Int32) mO_22 mO64_23 hM _ _ hP hD hS _ (lv_sub hl [1, 0] rfl)
    have I26 : ∀ (n : Nat) (v1 : Int32), itr (fun q => mX8_sortLine_s26 mO mO64 q) n v1 = some ex26 → ∀ (H : Heap) (locs : List Loc), va_P (dC, dI) vwCl (wO ct aO mO mO64) H → va_D A (wO ct aO mO mO64) → va_S A s.heap H locs → ∀ ls : Array Slot, lv_has ls 2 [(0, .ref (aO 0)), (1, .int v1)] → W p l e (headSpec wsX8_sortLine rmX8_sortLine).room s m args below meth c H locs 0 0 Q (F0 m 26 ls []) := by
      intro n
      induction n with
      | zero => intro v1 hit; exact (itr_zero hit).elim
      | succ n ih26 =>
        intro v1 hit H locs hP hD hS ls hl
        obtain ⟨o26, hM, hbk26, hex26⟩ := itr_succ hit
        replace hM : mX8_sortLine_s26 mO mO64 v1 = some o26 := hM
        unfold mX8_sortLine_s26 at hM
        refine lv_iload_n hx hb dX8_sortLine_26 rfl (lv_at hl 1 rfl) ?_
        refine lv_aload_n hx hb dX8_sortLine_27 rfl (lv_at hl 0 rfl) ?_
        refine va_get (D := (dC, dI)) (ci := 8) (v := .int (mO 0 7)) (C := RX8) (T := TX8) (N := 45) hx hb hts iwX8_sortLine_X8 hown hK hP 0 rfl rfl 7 (by decide) (hts _ (List.mem_of_getElem? (i := 1) rfl)) (fun _ h9 => h9) rfl dX8_sortLine_28 ?_
        refine lv_icmp_ge (tgt := 56) hx hb dX8_sortLine_31 (by decide) (fun hc_26 => ?_) (fun hc_26 => ?_)
        · have hM := it_p hc_26 hM
          have hR := som hM
          exact X26_1 (hex26 _ hR).symm _ _ hP hD hS _ (lv_sub hl [0] rfl)
        · have hM := it_n hc_26 hM
          refine lv_aload_n hx hb dX8_sortLine_34 rfl (lv_at hl 0 rfl) ?_
          refine va_get (D := (dC, dI)) (ci := 8) (v := .ref (aO 3)) (C := RX8) (T := TX8) (N := 45) hx hb hts iwX8_sortLine_X8 hown hK hP 0 rfl rfl 8 (by decide) (hts _ (List.mem_of_getElem? (i := 2) rfl)) (fun _ h9 => h9) rfl dX8_sortLine_35 ?_
          refine lv_iload_n hx hb dX8_sortLine_38 rfl (lv_at hl 1 rfl) ?_
          obtain ⟨hi, hM⟩ := gi_some hM
          refine va_lald hx hb hK hP 3 3 rfl rfl hi dX8_sortLine_39 ?_
          refine lv_aload_n hx hb dX8_sortLine_40 rfl (lv_at hl 0 rfl) ?_
          refine va_get (D := (dC, dI)) (ci := 8) (v := .long (mO64 0 5)) (C := RX8) (T := TX8) (N := 45) hx hb hts iwX8_sortLine_X8 hown hK hP 0 rfl rfl 5 (by decide) (hts _ (List.mem_of_getElem? (i := 3) rfl)) (fun _ h9 => h9) rfl dX8_sortLine_41 ?_
          refine W.lcmp hx hb dX8_sortLine_44 ?_
          refine lv_if_ne (tgt := 50) hx hb dX8_sortLine_45 (by decide) (fun hc_27 => ?_) (fun hc_27 => ?_)
          · have hM := it_p hc_27 hM
            obtain ⟨x_28, ex_28⟩ : ∃ y : Int32, y = (v1 + (1 : Int32)) := ⟨_, rfl⟩
            have hM := nm_at ex_28 hM
            refine lv_iinc (v := x_28) (lv' := [(1, .int x_28), (0, .ref (aO 0))]) hx hb dX8_sortLine_50 hl (k := 1) rfl (by rw [ex_28]; rfl) (by decide) rfl (fun ls hl => ?_)
            refine lv_goto (tgt := 26) hx hb dX8_sortLine_53 (by decide) ?_
            have hR := som hM
            exact ih26 x_28 (hbk26 _ hR) _ _ hP hD hS _ (lv_sub hl [1, 0] rfl)
          · have hM := it_nn hc_27 hM
            have hR := som hM
            exact X26_0 (hex26 _ hR).symm _ _ hP hD hS _ (lv_sub hl [] rfl)
    exact I26 FU v1 hit26 _ _ hP hD hS _ hl
  refine lv_aload_n hx hb dX8_sortLine_0 rfl (lv_at hl 0 rfl) ?_
  refine va_get (D := (dC, dI)) (ci := 8) (v := .int (mO 0 7)) (C := RX8) (T := TX8) (N := 45) hx hb hts iwX8_sortLine_X8 hown hK hP 0 rfl rfl 7 (by decide) (hts _ (List.mem_of_getElem? (i := 1) rfl)) (fun _ h9 => h9) rfl dX8_sortLine_1 ?_
  refine lv_bipush (v := 6) hx hb dX8_sortLine_4 (by decide) ?_
  refine lv_icmp_ne (tgt := 11) hx hb dX8_sortLine_6 (by decide) (fun hc_29 => ?_) (fun hc_29 => ?_)
  · have hM := it_p hc_29 hM
    refine lv_aload_n hx hb dX8_sortLine_11 rfl (lv_at hl 0 rfl) ?_
    obtain ⟨q_33, hr_32, hM⟩ := bn_some hM
    obtain ⟨mO_30, mO64_31⟩ := q_33
    have hM := nm_at (y := mO_30) rfl hM
    have hM := nm_at (y := mO64_31) rfl hM
    refine gv_v (wn := (wO ct aO mO_30 mO64_31)) (va_runV (As := []) (rest := []) ⟨hx, hb, hml, hown, hts⟩ (kX8_leads l dC dI ct aO _ mO mO64 _ hr_32) (cwV 0 hts gX8_sortLine_X8_leads rfl rfl rfl hvX8_leads ⟨Nat.le_of_ble_eq_true rfl, Nat.le_of_ble_eq_true rfl⟩) (preV_of E0_ok hK hP hD (is := [0, 1, 2, 3, 4, 5, 6, 7, 8, 9, 10, 11, 12, 13, 14, 15, 16, 17, 18, 19, 20, 21, 22, 23, 24, 25]) rfl rfl rfl (ci := 8) rfl 0 rfl e_0) rfl rfl hl.1 rfl (lv_room (Nat.le_of_ble_eq_true rfl)) dX8_sortLine_12 ⟨Nat.le_of_ble_eq_true rfl, Nat.le_of_ble_eq_true rfl⟩) hP hD hS hA [0, 1, 2, 3, 4, 5, 6, 7, 8, 9, 10, 11, 12, 13, 14, 15, 16, 17, 18, 19, 20, 21, 22, 23, 24, 25] [] [0, 1, 2, 3, 4, 5, 6, 7, 8, 9, 10, 11, 12, 13, 14, 15, 16, 17, 18, 19, 20, 21, 22, 23, 24, 25] rfl rfl rfl (by decide) rfl rfl (fun H locs hP hD hS => ?_)
    refine lv_aload_n hx hb dX8_sortLine_15 rfl (lv_at hl 0 rfl) ?_
    obtain ⟨x_34, hr_35, hM⟩ := bn_some hM
    refine gv_i (r0 := x_34) (wn := (wO ct aO mO_30 mO64_31)) (va_runV (As := []) (rest := []) ⟨hx, hb, hml, hown, hts⟩ (kX8_isName l dC dI ct aO adK adV _ mO_30 mO64_31 _ hr_35) (cwV 0 hts gX8_sortLine_X8_isName rfl rfl rfl hvX8_isName ⟨Nat.le_of_ble_eq_true rfl, Nat.le_of_ble_eq_true rfl⟩) (preV_of EV_ok hK hP hD (is := [0, 1, 2, 3, 4, 5, 6, 7, 8, 9, 10, 11, 12, 13, 14, 15, 16, 17, 18, 19, 20, 21, 22, 23, 24, 25]) rfl rfl rfl (ci := 8) rfl 0 rfl (e_sub EV_ok hE hS (va_free hD hS hA [0, 1, 2, 3, 4, 5, 6, 7, 8, 9, 10, 11, 12, 13, 14, 15, 16, 17, 18, 19, 20, 21, 22, 23, 24, 25] rfl))) rfl rfl hl.1 rfl (lv_room (Nat.le_of_ble_eq_true rfl)) dX8_sortLine_16 ⟨Nat.le_of_ble_eq_true rfl, Nat.le_of_ble_eq_true rfl⟩) hP hD hS hA [0, 1, 2, 3, 4, 5, 6, 7, 8, 9, 10, 11, 12, 13, 14, 15, 16, 17, 18, 19, 20, 21, 22, 23, 24, 25] [] [0, 1, 2, 3, 4, 5, 6, 7, 8, 9, 10, 11, 12, 13, 14, 15, 16, 17, 18, 19, 20, 21, 22, 23, 24, 25] rfl rfl rfl (by decide) rfl rfl (fun H locs hP hD hS => ?_)
    refine lv_if_ne (tgt := 24) hx hb dX8_sortLine_19 (by decide) (fun hc_37 => ?_) (fun hc_37 => ?_)
    · have hM := it_p hc_37 hM
      refine lv_iconst (v := 0) hx hb dX8_sortLine_24 (by decide) ?_
      refine lv_istore_n (lv' := [(1, .int (0 : Int32)), (0, .ref (aO 0))]) hx hb dX8_sortLine_25 rfl hl (by decide) rfl (fun ls hl => ?_)
      exact N26 (0 : Int32) mO_30 mO64_31 hM _ _ hP hD hS _ (lv_sub hl [1, 0] rfl)
    · have hM := it_nn hc_37 hM
      refine lv_iconst (v := 0) hx hb dX8_sortLine_22 (by decide) ?_
      have hR := som hM
      rw [hR] at hQ
      exact ret_z hQ hx hb hr hlocks rfl hP hK hD hS dX8_sortLine_23
  · have hM := it_nn hc_29 hM
    refine lv_iconst (v := 0) hx hb dX8_sortLine_9 (by decide) ?_
    have hR := som hM
    rw [hR] at hQ
    exact ret_z hQ hx hb hr hlocks rfl hP hK hD hS dX8_sortLine_10
abbrev rmX8_spareLine : Room := { frames := 7, cells := 0, slots := 0, locals := 149 }
theorem iwX8_spareLine_X8 : ∀ w ∈ wsX80, w ∈ wsX8_spareLine := fun _ h => List.mem_cons_of_mem _ (List.mem_append_right _ (h))
set_option maxHeartbeats 4000000 in
set_option maxRecDepth 100000 in
theorem kX8_spareLine (l : Launch) (dC : Nat → ClassId) (dI : Nat → Nat → Nat) (ct : Nat → ClassId) (aO : Nat → Nat) (adK adV : Nat → Nat) (sz : Nat) (mO : Mem) (mO64 : Lem) (res : (Int32 × Mem × Lem)) (hM : mX8_spareLine mO mO64 = some res) : Met l yX8_spareLine wsX8_spareLine rmX8_spareLine (va_Pc [.ref (aO 0)] (PB (dC, dI) ct (EV adK adV) sz (wO ct aO mO mO64))) (Qi (dC, dI) ct (va_A (wO ct aO mO mO64) sz) res.1 (wO ct aO res.2.1 res.2.2)) 0 0 (va_A (wO ct aO mO mO64) sz) := by
  refine Met.ofW (cc := cX8_spareLine) (maxL := 2) (ret := (some .boolean)) (by decide) rfl ?_
  intro p e s m args below meth c s₁ B hml hv
  obtain ⟨hargs, hsz, hP, hK, hD0, hE⟩ := hv
  have hx := B.exec
  have hb := B.bytes
  have hr := B.returns
  have hts := atoms_spec (ws := wsX8_spareLine) B.pre
  have hown : s.vm.findClass RX8 = some m.cls := findClass_of_methodNamed B.named
  have hlocks := B.notSynchronized
  clear B s₁
  subst hsz
  have hD := hD0.self (sz := s.heap.size)
  clear hD0
  generalize hAe : va_A (wO ct aO mO mO64) s.heap.size = A at hD hE ⊢
  have hA : ∀ q : Nat, s.heap.size ≤ q → A q := fun q h => by rw [← hAe]; exact Or.inr h
  clear hAe
  have hS : va_S A s.heap s.heap [] := va_S.rf
  refine cutQ (fun Q hQ => ?_)
  refine entryW (vs := [.ref (aO 0)]) hargs (Nat.le_of_ble_eq_true rfl) (fun ls hl => ?_)
  replace hl : lv_has ls 2 [(0, .ref (aO 0))] := hl
  unfold mX8_spareLine at hM
  refine lv_aload_n hx hb dX8_spareLine_0 rfl (lv_at hl 0 rfl) ?_
  obtain ⟨q_4, hr_3, hM⟩ := bn_some hM
  obtain ⟨mO_1, mO64_2⟩ := q_4
  have hM := nm_at (y := mO_1) rfl hM
  have hM := nm_at (y := mO64_2) rfl hM
  refine gv_v (wn := (wO ct aO mO_1 mO64_2)) (va_runV (As := []) (rest := []) ⟨hx, hb, hml, hown, hts⟩ (kX8_leads l dC dI ct aO _ mO mO64 _ hr_3) (cwV 0 hts gX8_spareLine_X8_leads rfl rfl rfl hvX8_leads ⟨Nat.le_of_ble_eq_true rfl, Nat.le_of_ble_eq_true rfl⟩) (preV_of E0_ok hK hP hD (is := [0, 1, 2, 3, 4, 5, 6, 7, 8, 9, 10, 11, 12, 13, 14, 15, 16, 17, 18, 19, 20, 21, 22, 23, 24, 25]) rfl rfl rfl (ci := 8) rfl 0 rfl e_0) rfl rfl hl.1 rfl (lv_room (Nat.le_of_ble_eq_true rfl)) dX8_spareLine_1 ⟨Nat.le_of_ble_eq_true rfl, Nat.le_of_ble_eq_true rfl⟩) hP hD hS hA [0, 1, 2, 3, 4, 5, 6, 7, 8, 9, 10, 11, 12, 13, 14, 15, 16, 17, 18, 19, 20, 21, 22, 23, 24, 25] [] [0, 1, 2, 3, 4, 5, 6, 7, 8, 9, 10, 11, 12, 13, 14, 15, 16, 17, 18, 19, 20, 21, 22, 23, 24, 25] rfl rfl rfl (by decide) rfl rfl (fun H locs hP hD hS => ?_)
  refine lv_aload_n hx hb dX8_spareLine_4 rfl (lv_at hl 0 rfl) ?_
  obtain ⟨x_5, hr_6, hM⟩ := bn_some hM
  refine gv_i (r0 := x_5) (wn := (wO ct aO mO_1 mO64_2)) (va_runV (As := []) (rest := []) ⟨hx, hb, hml, hown, hts⟩ (kX8_kindHere l dC dI ct aO adK adV _ mO_1 mO64_2 _ hr_6) (cwV 0 hts gX8_spareLine_X8_kindHere rfl rfl rfl hvX8_kindHere ⟨Nat.le_of_ble_eq_true rfl, Nat.le_of_ble_eq_true rfl⟩) (preV_of EV_ok hK hP hD (is := [0, 1, 2, 3, 4, 5, 6, 7, 8, 9, 10, 11, 12, 13, 14, 15, 16, 17, 18, 19, 20, 21, 22, 23, 24, 25]) rfl rfl rfl (ci := 8) rfl 0 rfl (e_sub EV_ok hE hS (va_free hD hS hA [0, 1, 2, 3, 4, 5, 6, 7, 8, 9, 10, 11, 12, 13, 14, 15, 16, 17, 18, 19, 20, 21, 22, 23, 24, 25] rfl))) rfl rfl hl.1 rfl (lv_room (Nat.le_of_ble_eq_true rfl)) dX8_spareLine_5 ⟨Nat.le_of_ble_eq_true rfl, Nat.le_of_ble_eq_true rfl⟩) hP hD hS hA [0, 1, 2, 3, 4, 5, 6, 7, 8, 9, 10, 11, 12, 13, 14, 15, 16, 17, 18, 19, 20, 21, 22, 23, 24, 25] [] [0, 1, 2, 3, 4, 5, 6, 7, 8, 9, 10, 11, 12, 13, 14, 15, 16, 17, 18, 19, 20, 21, 22, 23, 24, 25] rfl rfl rfl (by decide) rfl rfl (fun H locs hP hD hS => ?_)
  refine lv_istore_n (lv' := [(1, .int x_5), (0, .ref (aO 0))]) hx hb dX8_spareLine_8 rfl hl (by decide) rfl (fun ls hl => ?_)
  refine lv_iload_n hx hb dX8_spareLine_9 rfl (lv_at hl 0 rfl) ?_
  refine lv_iconst (v := -1) hx hb dX8_spareLine_10 (by decide) ?_
  refine lv_icmp_eq (tgt := 26) hx hb dX8_spareLine_11 (by decide) (fun hc_8 => ?_) (fun hc_8 => ?_)
  · have hM := it_p hc_8 hM
    refine lv_iconst (v := 0) hx hb dX8_spareLine_26 (by decide) ?_
    have hR := som hM
    rw [hR] at hQ
    exact ret_z hQ hx hb hr hlocks rfl hP hK hD hS dX8_spareLine_27
  · have hM := it_n hc_8 hM
    refine lv_aload_n hx hb dX8_spareLine_14 rfl (lv_at hl 1 rfl) ?_
    refine va_get (D := (dC, dI)) (ci := 8) (v := .int (mO_1 0 10)) (C := RX8) (T := TX8) (N := 45) hx hb hts iwX8_spareLine_X8 hown hK hP 0 rfl rfl 10 (by decide) (hts _ (List.mem_of_getElem? (i := 1) rfl)) (fun _ h9 => h9) rfl dX8_spareLine_15 ?_
    refine lv_iload_n hx hb dX8_spareLine_18 rfl (lv_at hl 0 rfl) ?_
    refine lv_ishr hx hb dX8_spareLine_19 ?_
    refine lv_iconst (v := 1) hx hb dX8_spareLine_20 (by decide) ?_
    refine lv_iand hx hb dX8_spareLine_21 ?_
    refine lv_iconst (v := 1) hx hb dX8_spareLine_22 (by decide) ?_
    refine lv_icmp_ne (tgt := 28) hx hb dX8_spareLine_23 (by decide) (fun hc_9 => ?_) (fun hc_9 => ?_)
    · have hM := it_p hc_9 hM
      refine lv_aload_n hx hb dX8_spareLine_28 rfl (lv_at hl 1 rfl) ?_
      refine lv_dup hx hb dX8_spareLine_29 rfl ?_
      refine va_get (D := (dC, dI)) (ci := 8) (v := .int (mO_1 0 10)) (C := RX8) (T := TX8) (N := 45) hx hb hts iwX8_spareLine_X8 hown hK hP 0 rfl rfl 10 (by decide) (hts _ (List.mem_of_getElem? (i := 1) rfl)) (fun _ h9 => h9) rfl dX8_spareLine_30 ?_
      refine lv_iconst (v := 1) hx hb dX8_spareLine_33 (by decide) ?_
      refine lv_iload_n hx hb dX8_spareLine_34 rfl (lv_at hl 0 rfl) ?_
      refine lv_ishl hx hb dX8_spareLine_35 ?_
      refine lv_ior hx hb dX8_spareLine_36 ?_
      refine pf_i (wf := fun z => (wO ct aO z mO64_2)) (m1 := upf mO_1 10 ((mO_1 0 10) ||| ((1 : Int32) <<< (x_5 &&& 31)))) hx hb hts iwX8_spareLine_X8 tyX8 tyX8_ok nmX8 hown hK hP hD hS 0 rfl rfl 10 (by decide) (hts _ (List.mem_of_getElem? (i := 1) rfl)) (fun _ h9 => h9) rfl rfl rfl (Nat.le_of_ble_eq_true rfl) dX8_spareLine_37 rfl (fun mO_10 emO_10 H locs hP hD hS => ?_)
      have hM := nm_at emO_10 hM
      refine lv_aload_n hx hb dX8_spareLine_40 rfl (lv_at hl 1 rfl) ?_
      obtain ⟨q_14, hr_13, hM⟩ := bn_some hM
      obtain ⟨mO_11, mO64_12⟩ := q_14
      have hM := nm_at (y := mO_11) rfl hM
      have hM := nm_at (y := mO64_12) rfl hM
      refine gv_v (wn := (wO ct aO mO_11 mO64_12)) (va_runV (As := []) (rest := []) ⟨hx, hb, hml, hown, hts⟩ (kX8_leads l dC dI ct aO _ mO_10 mO64_2 _ hr_13) (cwV 0 hts gX8_spareLine_X8_leads rfl rfl rfl hvX8_leads ⟨Nat.le_of_ble_eq_true rfl, Nat.le_of_ble_eq_true rfl⟩) (preV_of E0_ok hK hP hD (is := [0, 1, 2, 3, 4, 5, 6, 7, 8, 9, 10, 11, 12, 13, 14, 15, 16, 17, 18, 19, 20, 21, 22, 23, 24, 25]) rfl rfl rfl (ci := 8) rfl 0 rfl e_0) rfl rfl hl.1 rfl (lv_room (Nat.le_of_ble_eq_true rfl)) dX8_spareLine_41 ⟨Nat.le_of_ble_eq_true rfl, Nat.le_of_ble_eq_true rfl⟩) hP hD hS hA [0, 1, 2, 3, 4, 5, 6, 7, 8, 9, 10, 11, 12, 13, 14, 15, 16, 17, 18, 19, 20, 21, 22, 23, 24, 25] [] [0, 1, 2, 3, 4, 5, 6, 7, 8, 9, 10, 11, 12, 13, 14, 15, 16, 17, 18, 19, 20, 21, 22, 23, 24, 25] rfl rfl rfl (by decide) rfl rfl (fun H locs hP hD hS => ?_)
      refine lv_aload_n hx hb dX8_spareLine_44 rfl (lv_at hl 1 rfl) ?_
      obtain ⟨q_19, hr_18, hM⟩ := bn_some hM
      obtain ⟨x_15, mO_16, mO64_17⟩ := q_19
      have hM := nm_at (y := x_15) rfl hM
      have hM := nm_at (y := mO_16) rfl hM
      have hM := nm_at (y := mO64_17) rfl hM
      refine gv_i (r0 := x_15) (wn := (wO ct aO mO_16 mO64_17)) (va_runV (As := []) (rest := []) ⟨hx, hb, hml, hown, hts⟩ (kX8_closes l dC dI ct aO _ mO_11 mO64_12 _ hr_18) (cwV 0 hts gX8_spareLine_X8_closes rfl rfl rfl hvX8_closes ⟨Nat.le_of_ble_eq_true rfl, Nat.le_of_ble_eq_true rfl⟩) (preV_of E0_ok hK hP hD (is := [0, 1, 2, 3, 4, 5, 6, 7, 8, 9, 10, 11, 12, 13, 14, 15, 16, 17, 18, 19, 20, 21, 22, 23, 24, 25]) rfl rfl rfl (ci := 8) rfl 0 rfl e_0) rfl rfl hl.1 rfl (lv_room (Nat.le_of_ble_eq_true rfl)) dX8_spareLine_45 ⟨Nat.le_of_ble_eq_true rfl, Nat.le_of_ble_eq_true rfl⟩) hP hD hS hA [0, 1, 2, 3, 4, 5, 6, 7, 8, 9, 10, 11, 12, 13, 14, 15, 16, 17, 18, 19, 20, 21, 22, 23, 24, 25] [] [0, 1, 2, 3, 4, 5, 6, 7, 8, 9, 10, 11, 12, 13, 14, 15, 16, 17, 18, 19, 20, 21, 22, 23, 24, 25] rfl rfl rfl (by decide) rfl rfl (fun H locs hP hD hS => ?_)
      obtain ⟨hbz, hM⟩ := gb_some hM
      have hR := som hM
      rw [hR] at hQ
      exact ret_z hQ hx hb hr hlocks hbz hP hK hD hS dX8_spareLine_48
    · have hM := it_nn hc_9 hM
      refine lv_iconst (v := 0) hx hb dX8_spareLine_26 (by decide) ?_
      have hR := som hM
      rw [hR] at hQ
      exact ret_z hQ hx hb hr hlocks rfl hP hK hD hS dX8_spareLine_27
abbrev rmX8_turnLine : Room := { frames := 7, cells := 0, slots := 0, locals := 149 }
theorem iwX8_turnLine_X8 : ∀ w ∈ wsX80, w ∈ wsX8_turnLine := fun _ h => List.mem_cons_of_mem _ (List.mem_append_right _ (h))
set_option maxHeartbeats 4000000 in
set_option maxRecDepth 100000 in
theorem kX8_turnLine (l : Launch) (dC : Nat → ClassId) (dI : Nat → Nat → Nat) (ct : Nat → ClassId) (aO : Nat → Nat) (adK adV : Nat → Nat) (sz : Nat) (mO : Mem) (mO64 : Lem) (res : (Int32 × Mem × Lem)) (hM : mX8_turnLine mO mO64 = some res) : Met l yX8_turnLine wsX8_turnLine rmX8_turnLine (va_Pc [.ref (aO 0)] (PB (dC, dI) ct (EV adK adV) sz (wO ct aO mO mO64))) (Qi (dC, dI) ct (va_A (wO ct aO mO mO64) sz) res.1 (wO ct aO res.2.1 res.2.2)) 0 0 (va_A (wO ct aO mO mO64) sz) := by
  refine Met.ofW (cc := cX8_turnLine) (maxL := 4) (ret := (some .boolean)) (by decide) rfl ?_
  intro p e s m args below meth c s₁ B hml hv
  obtain ⟨hargs, hsz, hP, hK, hD0, hE⟩ := hv
  have hx := B.exec
  have hb := B.bytes
  have hr := B.returns
  have hts := atoms_spec (ws := wsX8_turnLine) B.pre
  have hown : s.vm.findClass RX8 = some m.cls := findClass_of_methodNamed B.named
  have hlocks := B.notSynchronized
  clear B s₁
  subst hsz
  have hD := hD0.self (sz := s.heap.size)
  clear hD0
  generalize hAe : va_A (wO ct aO mO mO64) s.heap.size = A at hD hE ⊢
  have hA : ∀ q : Nat, s.heap.size ≤ q → A q := fun q h => by rw [← hAe]; exact Or.inr h
  clear hAe
  have hS : va_S A s.heap s.heap [] := va_S.rf
  refine cutQ (fun Q hQ => ?_)
  refine entryW (vs := [.ref (aO 0)]) hargs (Nat.le_of_ble_eq_true rfl) (fun ls hl => ?_)
  replace hl : lv_has ls 4 [(0, .ref (aO 0))] := hl
  unfold mX8_turnLine at hM
  have N50 : ∀ (v1 : Int32) (v2 : Int32) (v3 : Int32) (mO : Mem) (mO64 : Lem), mX8_turnLine_L50 v1 v2 v3 mO mO64 = some res → ∀ (H : Heap) (locs : List Loc), va_P (dC, dI) vwCl (wO ct aO mO mO64) H → va_D A (wO ct aO mO mO64) → va_S A s.heap H locs → ∀ ls : Array Slot, lv_has ls 4 [(0, .ref (aO 0)), (1, .int v1), (2, .int v2), (3, .int v3)] → W p l e (headSpec wsX8_turnLine rmX8_turnLine).room s m args below meth c H locs 0 0 Q (F0 m 50 ls []) := by
    intro v1 v2 v3 mO mO64 hM H locs hP hD hS ls hl
    unfold mX8_turnLine_L50 at hM
    obtain ⟨ex50, hit50, hM⟩ := bn_some hM
    have X50_0 : ex50 = (Sum.inl ()) → ∀ (H : Heap) (locs : List Loc), va_P (dC, dI) vwCl (wO ct aO mO mO64) H → va_D A (wO ct aO mO mO64) → va_S A s.heap H locs → ∀ ls : Array Slot, lv_has ls 4 [] → W p l e (headSpec wsX8_turnLine rmX8_turnLine).room s m args below meth c H locs 0 0 Q (F0 m 84 ls []) := by
      intro hex H locs hP hD hS ls hl
      have hM := el_l hex hM
      refine lv_iconst (v := 0) hx hb dX8_turnLine_84 (by decide) ?_
      have hR := som hM
      rw [hR] at hQ
      exact ret_z hQ hx hb hr hlocks rfl hP hK hD hS dX8_turnLine_85
    have X50_1 : ex50 = (Sum.inr ()) → ∀ (H : Heap) (locs : List Loc), va_P (dC, dI) vwCl (wO ct aO mO mO64) H → va_D A (wO ct aO mO mO64) → va_S A s.heap H locs → ∀ ls : Array Slot, lv_has ls 4 [(0, .ref (aO 0)), (1, .int v1), (2, .int v2)] → W p l e (headSpec wsX8_turnLine rmX8_turnLine).room s m args below meth c H locs 0 0 Q (F0 m 92 ls []) := by
      intro hex H locs hP hD hS ls hl
      have hM := el_r hex hM
      refine lv_aload_n hx hb dX8_turnLine_92 rfl (lv_at hl 0 rfl) ?_
      obtain ⟨q_4, hr_3, hM⟩ := bn_some hM
      obtain ⟨mO_1, mO64_2⟩ := q_4
      have hM := nm_at (y := mO_1) rfl hM
      have hM := nm_at (y := mO64_2) rfl hM
      refine gv_v (wn := (wO ct aO mO_1 mO64_2)) (va_runV (As := []) (rest := []) ⟨hx, hb, hml, hown, hts⟩ (kX8_leads l dC dI ct aO _ mO mO64 _ hr_3) (cwV 0 hts gX8_turnLine_X8_leads rfl rfl rfl hvX8_leads ⟨Nat.le_of_ble_eq_true rfl, Nat.le_of_ble_eq_true rfl⟩) (preV_of E0_ok hK hP hD (is := [0, 1, 2, 3, 4, 5, 6, 7, 8, 9, 10, 11, 12, 13, 14, 15, 16, 17, 18, 19, 20, 21, 22, 23, 24, 25]) rfl rfl rfl (ci := 8) rfl 0 rfl e_0) rfl rfl hl.1 rfl (lv_room (Nat.le_of_ble_eq_true rfl)) dX8_turnLine_93 ⟨Nat.le_of_ble_eq_true rfl, Nat.le_of_ble_eq_true rfl⟩) hP hD hS hA [0, 1, 2, 3, 4, 5, 6, 7, 8, 9, 10, 11, 12, 13, 14, 15, 16, 17, 18, 19, 20, 21, 22, 23, 24, 25] [] [0, 1, 2, 3, 4, 5, 6, 7, 8, 9, 10, 11, 12, 13, 14, 15, 16, 17, 18, 19, 20, 21, 22, 23, 24, 25] rfl rfl rfl (by decide) rfl rfl (fun H locs hP hD hS => ?_)
      refine lv_aload_n hx hb dX8_turnLine_96 rfl (lv_at hl 0 rfl) ?_
      refine lv_iconst (v := 0) hx hb dX8_turnLine_97 (by decide) ?_
      refine lv_bipush (v := 99) hx hb dX8_turnLine_98 (by decide) ?_
      obtain ⟨q_9, hr_8, hM⟩ := bn_some hM
      obtain ⟨x_5, mO_6, mO64_7⟩ := q_9
      have hM := nm_at (y := x_5) rfl hM
      have hM := nm_at (y := mO_6) rfl hM
      have hM := nm_at (y := mO64_7) rfl hM
      refine gv_i (r0 := x_5) (wn := (wO ct aO mO_6 mO64_7)) (va_runV (As := [.int (0 : Int32), .int (99 : Int32)]) (rest := []) ⟨hx, hb, hml, hown, hts⟩ (kX8_number l dC dI ct aO _ mO_1 mO64_2 (0 : Int32) (99 : Int32) _ hr_8) (cwV 2 hts gX8_turnLine_X8_number rfl rfl rfl hvX8_number ⟨Nat.le_of_ble_eq_true rfl, Nat.le_of_ble_eq_true rfl⟩) (preV_of E0_ok hK hP hD (is := [0, 1, 2, 3, 4, 5, 6, 7, 8, 9, 10, 11, 12, 13, 14, 15, 16, 17, 18, 19, 20, 21, 22, 23, 24, 25]) rfl rfl rfl (ci := 8) rfl 0 rfl e_0) rfl rfl hl.1 rfl (lv_room (Nat.le_of_ble_eq_true rfl)) dX8_turnLine_100 ⟨Nat.le_of_ble_eq_true rfl, Nat.le_of_ble_eq_true rfl⟩) hP hD hS hA [0, 1, 2, 3, 4, 5, 6, 7, 8, 9, 10, 11, 12, 13, 14, 15, 16, 17, 18, 19, 20, 21, 22, 23, 24, 25] [] [0, 1, 2, 3, 4, 5, 6, 7, 8, 9, 10, 11, 12, 13, 14, 15, 16, 17, 18, 19, 20, 21, 22, 23, 24, 25] rfl rfl rfl (by decide) rfl rfl (fun H locs hP hD hS => ?_)
      refine lv_if_ne (tgt := 108) hx hb dX8_turnLine_103 (by decide) (fun hc_10 => ?_) (fun hc_10 => ?_)
      · have hM := it_p hc_10 hM
        refine lv_aload_n hx hb dX8_turnLine_108 rfl (lv_at hl 0 rfl) ?_
        refine va_get (D := (dC, dI)) (ci := 8) (v := .ref (aO 5)) (C := RX8) (T := TX8) (N := 45) hx hb hts iwX8_turnLine_X8 hown hK hP 0 rfl rfl 12 (by decide) (hts _ (List.mem_of_getElem? (i := 2) rfl)) (fun _ h9 => h9) rfl dX8_turnLine_109 ?_
        refine lv_iconst (v := 3) hx hb dX8_turnLine_112 (by decide) ?_
        refine lv_aload_n hx hb dX8_turnLine_113 rfl (lv_at hl 0 rfl) ?_
        refine va_get (D := (dC, dI)) (ci := 8) (v := .int (mO_6 0 11)) (C := RX8) (T := TX8) (N := 45) hx hb hts iwX8_turnLine_X8 hown hK hP 0 rfl rfl 11 (by decide) (hts _ (List.mem_of_getElem? (i := 1) rfl)) (fun _ h9 => h9) rfl dX8_turnLine_114 ?_
        refine lv_imul hx hb dX8_turnLine_117 ?_
        refine lv_iload_n hx hb dX8_turnLine_118 rfl (lv_at hl 1 rfl) ?_
        obtain ⟨hi, hM⟩ := gi_some hM
        refine st_i (wf := fun z => (wO ct aO z mO64_7)) (m1 := upi mO_6 5 ((3 : Int32) * (mO_6 0 11)).toNatClampNeg v1) hx hb hK hP hD hS 5 rfl hi dX8_turnLine_119 rfl (fun mO_11 emO_11 H locs hP hD hS => ?_)
        have hM := nm_at emO_11 hM
        refine lv_aload_n hx hb dX8_turnLine_120 rfl (lv_at hl 0 rfl) ?_
        refine va_get (D := (dC, dI)) (ci := 8) (v := .ref (aO 5)) (C := RX8) (T := TX8) (N := 45) hx hb hts iwX8_turnLine_X8 hown hK hP 0 rfl rfl 12 (by decide) (hts _ (List.mem_of_getElem? (i := 2) rfl)) (fun _ h9 => h9) rfl dX8_turnLine_121 ?_
        refine lv_iconst (v := 3) hx hb dX8_turnLine_124 (by decide) ?_
        refine lv_aload_n hx hb dX8_turnLine_125 rfl (lv_at hl 0 rfl) ?_
        refine va_get (D := (dC, dI)) (ci := 8) (v := .int (mO_11 0 11)) (C := RX8) (T := TX8) (N := 45) hx hb hts iwX8_turnLine_X8 hown hK hP 0 rfl rfl 11 (by decide) (hts _ (List.mem_of_getElem? (i := 1) rfl)) (fun _ h9 => h9) rfl dX8_turnLine_126 ?_
        refine lv_imul hx hb dX8_turnLine_129 ?_
        refine lv_iconst (v := 1) hx hb dX8_turnLine_130 (by decide) ?_
        refine lv_iadd hx hb dX8_turnLine_131 ?_
        refine lv_iload_n hx hb dX8_turnLine_132 rfl (lv_at hl 2 rfl) ?_
        obtain ⟨hi, hM⟩ := gi_some hM
        refine st_i (wf := fun z => (wO ct aO z mO64_7)) (m1 := upi mO_11 5 (((3 : Int32) * (mO_11 0 11)) + (1 : Int32)).toNatClampNeg v2) hx hb hK hP hD hS 5 rfl hi dX8_turnLine_133 rfl (fun mO_12 emO_12 H locs hP hD hS => ?_)
        have hM := nm_at emO_12 hM
        refine lv_aload_n hx hb dX8_turnLine_134 rfl (lv_at hl 0 rfl) ?_
        refine va_get (D := (dC, dI)) (ci := 8) (v := .ref (aO 5)) (C := RX8) (T := TX8) (N := 45) hx hb hts iwX8_turnLine_X8 hown hK hP 0 rfl rfl 12 (by decide) (hts _ (List.mem_of_getElem? (i := 2) rfl)) (fun _ h9 => h9) rfl dX8_turnLine_135 ?_
        refine lv_iconst (v := 3) hx hb dX8_turnLine_138 (by decide) ?_
        refine lv_aload_n hx hb dX8_turnLine_139 rfl (lv_at hl 0 rfl) ?_
        refine va_get (D := (dC, dI)) (ci := 8) (v := .int (mO_12 0 11)) (C := RX8) (T := TX8) (N := 45) hx hb hts iwX8_turnLine_X8 hown hK hP 0 rfl rfl 11 (by decide) (hts _ (List.mem_of_getElem? (i := 1) rfl)) (fun _ h9 => h9) rfl dX8_turnLine_140 ?_
        refine lv_imul hx hb dX8_turnLine_143 ?_
        refine lv_iconst (v := 2) hx hb dX8_turnLine_144 (by decide) ?_
        refine lv_iadd hx hb dX8_turnLine_145 ?_
        refine lv_aload_n hx hb dX8_turnLine_146 rfl (lv_at hl 0 rfl) ?_
        refine va_get (D := (dC, dI)) (ci := 8) (v := .int (mO_12 0 36)) (C := RX8) (T := TX8) (N := 45) hx hb hts iwX8_turnLine_X8 hown hK hP 0 rfl rfl 36 (by decide) (hts _ (List.mem_of_getElem? (i := 3) rfl)) (fun _ h9 => h9) rfl dX8_turnLine_147 ?_
        obtain ⟨hi, hM⟩ := gi_some hM
        refine st_i (wf := fun z => (wO ct aO z mO64_7)) (m1 := upi mO_12 5 (((3 : Int32) * (mO_12 0 11)) + (2 : Int32)).toNatClampNeg (mO_12 0 36)) hx hb hK hP hD hS 5 rfl hi dX8_turnLine_150 rfl (fun mO_13 emO_13 H locs hP hD hS => ?_)
        have hM := nm_at emO_13 hM
        refine lv_aload_n hx hb dX8_turnLine_151 rfl (lv_at hl 0 rfl) ?_
        refine lv_dup hx hb dX8_turnLine_152 rfl ?_
        refine va_get (D := (dC, dI)) (ci := 8) (v := .int (mO_13 0 11)) (C := RX8) (T := TX8) (N := 45) hx hb hts iwX8_turnLine_X8 hown hK hP 0 rfl rfl 11 (by decide) (hts _ (List.mem_of_getElem? (i := 1) rfl)) (fun _ h9 => h9) rfl dX8_turnLine_153 ?_
        refine lv_iconst (v := 1) hx hb dX8_turnLine_156 (by decide) ?_
        refine lv_iadd hx hb dX8_turnLine_157 ?_
        refine pf_i (wf := fun z => (wO ct aO z mO64_7)) (m1 := upf mO_13 11 ((mO_13 0 11) + (1 : Int32))) hx hb hts iwX8_turnLine_X8 tyX8 tyX8_ok nmX8 hown hK hP hD hS 0 rfl rfl 11 (by decide) (hts _ (List.mem_of_getElem? (i := 1) rfl)) (fun _ h9 => h9) rfl rfl rfl (Nat.le_of_ble_eq_true rfl) dX8_turnLine_158 rfl (fun mO_14 emO_14 H locs hP hD hS => ?_)
        have hM := nm_at emO_14 hM
        refine lv_aload_n hx hb dX8_turnLine_161 rfl (lv_at hl 0 rfl) ?_
        obtain ⟨q_19, hr_18, hM⟩ := bn_some hM
        obtain ⟨x_15, mO_16, mO64_17⟩ := q_19
        have hM := nm_at (y := x_15) rfl hM
        have hM := nm_at (y := mO_16) rfl hM
        have hM := nm_at (y := mO64_17) rfl hM
        refine gv_i (r0 := x_15) (wn := (wO ct aO mO_16 mO64_17)) (va_runV (As := []) (rest := []) ⟨hx, hb, hml, hown, hts⟩ (kX8_closes l dC dI ct aO _ mO_14 mO64_7 _ hr_18) (cwV 0 hts gX8_turnLine_X8_closes rfl rfl rfl hvX8_closes ⟨Nat.le_of_ble_eq_true rfl, Nat.le_of_ble_eq_true rfl⟩) (preV_of E0_ok hK hP hD (is := [0, 1, 2, 3, 4, 5, 6, 7, 8, 9, 10, 11, 12, 13, 14, 15, 16, 17, 18, 19, 20, 21, 22, 23, 24, 25]) rfl rfl rfl (ci := 8) rfl 0 rfl e_0) rfl rfl hl.1 rfl (lv_room (Nat.le_of_ble_eq_true rfl)) dX8_turnLine_162 ⟨Nat.le_of_ble_eq_true rfl, Nat.le_of_ble_eq_true rfl⟩) hP hD hS hA [0, 1, 2, 3, 4, 5, 6, 7, 8, 9, 10, 11, 12, 13, 14, 15, 16, 17, 18, 19, 20, 21, 22, 23, 24, 25] [] [0, 1, 2, 3, 4, 5, 6, 7, 8, 9, 10, 11, 12, 13, 14, 15, 16, 17, 18, 19, 20, 21, 22, 23, 24, 25] rfl rfl rfl (by decide) rfl rfl (fun H locs hP hD hS => ?_)
        obtain ⟨hbz, hM⟩ := gb_some hM
        have hR := som hM
        rw [hR] at hQ
        exact ret_z hQ hx hb hr hlocks hbz hP hK hD hS dX8_turnLine_165
      · have hM := it_nn hc_10 hM
        refine lv_iconst (v := 0) hx hb dX8_turnLine_106 (by decide) ?_
        have hR := som hM
        rw [hR] at hQ
        exact ret_z hQ hx hb hr hlocks rfl hP hK hD hS dX8_turnLine_107
    have I50 : ∀ (n : Nat) (v3 : Int32), itr (fun q => mX8_turnLine_s50 v1 v2 mO mO64 q) n v3 = some ex50 → ∀ (H : Heap) (locs : List Loc), va_P (dC, dI) vwCl (wO ct aO mO mO64) H → va_D A (wO ct aO mO mO64) → va_S A s.heap H locs → ∀ ls : Array Slot, lv_has ls 4 [(0, .ref (aO 0)), (1, .int v1), (2, .int v2), (3, .int v3)] → W p l e (headSpec wsX8_turnLine rmX8_turnLine).room s m args below meth c H locs 0 0 Q (F0 m 50 ls []) := by
      intro n
      induction n with
      | zero => intro v3 hit; exact (itr_zero hit).elim
      | succ n ih50 =>
        intro v3 hit H locs hP hD hS ls hl
        obtain ⟨o50, hM, hbk50, hex50⟩ := itr_succ hit
        replace hM : mX8_turnLine_s50 v1 v2 mO mO64 v3 = some o50 := hM
        unfold mX8_turnLine_s50 at hM
        refine lv_iload_n hx hb dX8_turnLine_50 rfl (lv_at hl 3 rfl) ?_
        refine lv_aload_n hx hb dX8_turnLine_51 rfl (lv_at hl 0 rfl) ?_
        refine va_get (D := (dC, dI)) (ci := 8) (v := .int (mO 0 11)) (C := RX8) (T := TX8) (N := 45) hx hb hts iwX8_turnLine_X8 hown hK hP 0 rfl rfl 11 (by decide) (hts _ (List.mem_of_getElem? (i := 1) rfl)) (fun _ h9 => h9) rfl dX8_turnLine_52 ?_
        refine lv_icmp_ge (tgt := 92) hx hb dX8_turnLine_55 (by decide) (fun hc_20 => ?_) (fun hc_20 => ?_)
        · have hM := it_p hc_20 hM
          have hR := som hM
          exact X50_1 (hex50 _ hR).symm _ _ hP hD hS _ (lv_sub hl [0, 1, 2] rfl)
        · have hM := it_n hc_20 hM
          refine lv_aload_n hx hb dX8_turnLine_58 rfl (lv_at hl 0 rfl) ?_
          refine va_get (D := (dC, dI)) (ci := 8) (v := .ref (aO 5)) (C := RX8) (T := TX8) (N := 45) hx hb hts iwX8_turnLine_X8 hown hK hP 0 rfl rfl 12 (by decide) (hts _ (List.mem_of_getElem? (i := 2) rfl)) (fun _ h9 => h9) rfl dX8_turnLine_59 ?_
          refine lv_iconst (v := 3) hx hb dX8_turnLine_62 (by decide) ?_
          refine lv_iload_n hx hb dX8_turnLine_63 rfl (lv_at hl 3 rfl) ?_
          refine lv_imul hx hb dX8_turnLine_64 ?_
          obtain ⟨hi, hM⟩ := gi_some hM
          refine va_iald hx hb hK hP 5 0 rfl rfl hi dX8_turnLine_65 ?_
          refine lv_iload_n hx hb dX8_turnLine_66 rfl (lv_at hl 1 rfl) ?_
          refine lv_icmp_ne (tgt := 86) hx hb dX8_turnLine_67 (by decide) (fun hc_21 => ?_) (fun hc_21 => ?_)
          · have hM := it_p hc_21 hM
            obtain ⟨x_22, ex_22⟩ : ∃ y : Int32, y = (v3 + (1 : Int32)) := ⟨_, rfl⟩
            have hM := nm_at ex_22 hM
            refine lv_iinc (v := x_22) (lv' := [(3, .int x_22), (0, .ref (aO 0)), (1, .int v1), (2, .int v2)]) hx hb dX8_turnLine_86 hl (k := 3) rfl (by rw [ex_22]; rfl) (by decide) rfl (fun ls hl => ?_)
            refine lv_goto (tgt := 50) hx hb dX8_turnLine_89 (by decide) ?_
            have hR := som hM
            exact ih50 x_22 (hbk50 _ hR) _ _ hP hD hS _ (lv_sub hl [1, 2, 3, 0] rfl)
          · have hM := it_nn hc_21 hM
            refine lv_aload_n hx hb dX8_turnLine_70 rfl (lv_at hl 0 rfl) ?_
            refine va_get (D := (dC, dI)) (ci := 8) (v := .ref (aO 5)) (C := RX8) (T := TX8) (N := 45) hx hb hts iwX8_turnLine_X8 hown hK hP 0 rfl rfl 12 (by decide) (hts _ (List.mem_of_getElem? (i := 2) rfl)) (fun _ h9 => h9) rfl dX8_turnLine_71 ?_
            refine lv_iconst (v := 3) hx hb dX8_turnLine_74 (by decide) ?_
            refine lv_iload_n hx hb dX8_turnLine_75 rfl (lv_at hl 3 rfl) ?_
            refine lv_imul hx hb dX8_turnLine_76 ?_
            refine lv_iconst (v := 1) hx hb dX8_turnLine_77 (by decide) ?_
            refine lv_iadd hx hb dX8_turnLine_78 ?_
            obtain ⟨hi, hM⟩ := gi_some hM
            refine va_iald hx hb hK hP 5 0 rfl rfl hi dX8_turnLine_79 ?_
            refine lv_iload_n hx hb dX8_turnLine_80 rfl (lv_at hl 2 rfl) ?_
            refine lv_icmp_ne (tgt := 86) hx hb dX8_turnLine_81 (by decide) (fun hc_23 => ?_) (fun hc_23 => ?_)
            · have hM := it_p hc_23 hM
              obtain ⟨x_24, ex_24⟩ : ∃ y : Int32, y = (v3 + (1 : Int32)) := ⟨_, rfl⟩
              have hM := nm_at ex_24 hM
              refine lv_iinc (v := x_24) (lv' := [(3, .int x_24), (0, .ref (aO 0)), (1, .int v1), (2, .int v2)]) hx hb dX8_turnLine_86 hl (k := 3) rfl (by rw [ex_24]; rfl) (by decide) rfl (fun ls hl => ?_)
              refine lv_goto (tgt := 50) hx hb dX8_turnLine_89 (by decide) ?_
              have hR := som hM
              exact ih50 x_24 (hbk50 _ hR) _ _ hP hD hS _ (lv_sub hl [1, 2, 3, 0] rfl)
            · have hM := it_nn hc_23 hM
              have hR := som hM
              exact X50_0 (hex50 _ hR).symm _ _ hP hD hS _ (lv_sub hl [] rfl)
    exact I50 FU v3 hit50 _ _ hP hD hS _ hl
  refine lv_aload_n hx hb dX8_turnLine_0 rfl (lv_at hl 0 rfl) ?_
  refine va_get (D := (dC, dI)) (ci := 8) (v := .int (mO 0 11)) (C := RX8) (T := TX8) (N := 45) hx hb hts iwX8_turnLine_X8 hown hK hP 0 rfl rfl 11 (by decide) (hts _ (List.mem_of_getElem? (i := 1) rfl)) (fun _ h9 => h9) rfl dX8_turnLine_1 ?_
  refine lv_bipush (v := 12) hx hb dX8_turnLine_4 (by decide) ?_
  refine lv_icmp_ne (tgt := 11) hx hb dX8_turnLine_6 (by decide) (fun hc_25 => ?_) (fun hc_25 => ?_)
  · have hM := it_p hc_25 hM
    refine lv_aload_n hx hb dX8_turnLine_11 rfl (lv_at hl 0 rfl) ?_
    obtain ⟨q_29, hr_28, hM⟩ := bn_some hM
    obtain ⟨mO_26, mO64_27⟩ := q_29
    have hM := nm_at (y := mO_26) rfl hM
    have hM := nm_at (y := mO64_27) rfl hM
    refine gv_v (wn := (wO ct aO mO_26 mO64_27)) (va_runV (As := []) (rest := []) ⟨hx, hb, hml, hown, hts⟩ (kX8_leads l dC dI ct aO _ mO mO64 _ hr_28) (cwV 0 hts gX8_turnLine_X8_leads rfl rfl rfl hvX8_leads ⟨Nat.le_of_ble_eq_true rfl, Nat.le_of_ble_eq_true rfl⟩) (preV_of E0_ok hK hP hD (is := [0, 1, 2, 3, 4, 5, 6, 7, 8, 9, 10, 11, 12, 13, 14, 15, 16, 17, 18, 19, 20, 21, 22, 23, 24, 25]) rfl rfl rfl (ci := 8) rfl 0 rfl e_0) rfl rfl hl.1 rfl (lv_room (Nat.le_of_ble_eq_true rfl)) dX8_turnLine_12 ⟨Nat.le_of_ble_eq_true rfl, Nat.le_of_ble_eq_true rfl⟩) hP hD hS hA [0, 1, 2, 3, 4, 5, 6, 7, 8, 9, 10, 11, 12, 13, 14, 15, 16, 17, 18, 19, 20, 21, 22, 23, 24, 25] [] [0, 1, 2, 3, 4, 5, 6, 7, 8, 9, 10, 11, 12, 13, 14, 15, 16, 17, 18, 19, 20, 21, 22, 23, 24, 25] rfl rfl rfl (by decide) rfl rfl (fun H locs hP hD hS => ?_)
    refine lv_aload_n hx hb dX8_turnLine_15 rfl (lv_at hl 0 rfl) ?_
    obtain ⟨x_30, hr_31, hM⟩ := bn_some hM
    refine gv_i (r0 := x_30) (wn := (wO ct aO mO_26 mO64_27)) (va_runV (As := []) (rest := []) ⟨hx, hb, hml, hown, hts⟩ (kX8_kindHere l dC dI ct aO adK adV _ mO_26 mO64_27 _ hr_31) (cwV 0 hts gX8_turnLine_X8_kindHere rfl rfl rfl hvX8_kindHere ⟨Nat.le_of_ble_eq_true rfl, Nat.le_of_ble_eq_true rfl⟩) (preV_of EV_ok hK hP hD (is := [0, 1, 2, 3, 4, 5, 6, 7, 8, 9, 10, 11, 12, 13, 14, 15, 16, 17, 18, 19, 20, 21, 22, 23, 24, 25]) rfl rfl rfl (ci := 8) rfl 0 rfl (e_sub EV_ok hE hS (va_free hD hS hA [0, 1, 2, 3, 4, 5, 6, 7, 8, 9, 10, 11, 12, 13, 14, 15, 16, 17, 18, 19, 20, 21, 22, 23, 24, 25] rfl))) rfl rfl hl.1 rfl (lv_room (Nat.le_of_ble_eq_true rfl)) dX8_turnLine_16 ⟨Nat.le_of_ble_eq_true rfl, Nat.le_of_ble_eq_true rfl⟩) hP hD hS hA [0, 1, 2, 3, 4, 5, 6, 7, 8, 9, 10, 11, 12, 13, 14, 15, 16, 17, 18, 19, 20, 21, 22, 23, 24, 25] [] [0, 1, 2, 3, 4, 5, 6, 7, 8, 9, 10, 11, 12, 13, 14, 15, 16, 17, 18, 19, 20, 21, 22, 23, 24, 25] rfl rfl rfl (by decide) rfl rfl (fun H locs hP hD hS => ?_)
    refine lv_istore_n (lv' := [(1, .int x_30), (0, .ref (aO 0))]) hx hb dX8_turnLine_19 rfl hl (by decide) rfl (fun ls hl => ?_)
    refine lv_iload_n hx hb dX8_turnLine_20 rfl (lv_at hl 0 rfl) ?_
    refine lv_iconst (v := -1) hx hb dX8_turnLine_21 (by decide) ?_
    refine lv_icmp_ne (tgt := 27) hx hb dX8_turnLine_22 (by decide) (fun hc_33 => ?_) (fun hc_33 => ?_)
    · have hM := it_p hc_33 hM
      refine lv_aload_n hx hb dX8_turnLine_27 rfl (lv_at hl 1 rfl) ?_
      obtain ⟨q_37, hr_36, hM⟩ := bn_some hM
      obtain ⟨mO_34, mO64_35⟩ := q_37
      have hM := nm_at (y := mO_34) rfl hM
      have hM := nm_at (y := mO64_35) rfl hM
      refine gv_v (wn := (wO ct aO mO_34 mO64_35)) (va_runV (As := []) (rest := []) ⟨hx, hb, hml, hown, hts⟩ (kX8_leads l dC dI ct aO _ mO_26 mO64_27 _ hr_36) (cwV 0 hts gX8_turnLine_X8_leads rfl rfl rfl hvX8_leads ⟨Nat.le_of_ble_eq_true rfl, Nat.le_of_ble_eq_true rfl⟩) (preV_of E0_ok hK hP hD (is := [0, 1, 2, 3, 4, 5, 6, 7, 8, 9, 10, 11, 12, 13, 14, 15, 16, 17, 18, 19, 20, 21, 22, 23, 24, 25]) rfl rfl rfl (ci := 8) rfl 0 rfl e_0) rfl rfl hl.1 rfl (lv_room (Nat.le_of_ble_eq_true rfl)) dX8_turnLine_28 ⟨Nat.le_of_ble_eq_true rfl, Nat.le_of_ble_eq_true rfl⟩) hP hD hS hA [0, 1, 2, 3, 4, 5, 6, 7, 8, 9, 10, 11, 12, 13, 14, 15, 16, 17, 18, 19, 20, 21, 22, 23, 24, 25] [] [0, 1, 2, 3, 4, 5, 6, 7, 8, 9, 10, 11, 12, 13, 14, 15, 16, 17, 18, 19, 20, 21, 22, 23, 24, 25] rfl rfl rfl (by decide) rfl rfl (fun H locs hP hD hS => ?_)
      refine lv_aload_n hx hb dX8_turnLine_31 rfl (lv_at hl 1 rfl) ?_
      obtain ⟨x_38, hr_39, hM⟩ := bn_some hM
      refine gv_i (r0 := x_38) (wn := (wO ct aO mO_34 mO64_35)) (va_runV (As := []) (rest := []) ⟨hx, hb, hml, hown, hts⟩ (kX8_kindHere l dC dI ct aO adK adV _ mO_34 mO64_35 _ hr_39) (cwV 0 hts gX8_turnLine_X8_kindHere rfl rfl rfl hvX8_kindHere ⟨Nat.le_of_ble_eq_true rfl, Nat.le_of_ble_eq_true rfl⟩) (preV_of EV_ok hK hP hD (is := [0, 1, 2, 3, 4, 5, 6, 7, 8, 9, 10, 11, 12, 13, 14, 15, 16, 17, 18, 19, 20, 21, 22, 23, 24, 25]) rfl rfl rfl (ci := 8) rfl 0 rfl (e_sub EV_ok hE hS (va_free hD hS hA [0, 1, 2, 3, 4, 5, 6, 7, 8, 9, 10, 11, 12, 13, 14, 15, 16, 17, 18, 19, 20, 21, 22, 23, 24, 25] rfl))) rfl rfl hl.1 rfl (lv_room (Nat.le_of_ble_eq_true rfl)) dX8_turnLine_32 ⟨Nat.le_of_ble_eq_true rfl, Nat.le_of_ble_eq_true rfl⟩) hP hD hS hA [0, 1, 2, 3, 4, 5, 6, 7, 8, 9, 10, 11, 12, 13, 14, 15, 16, 17, 18, 19, 20, 21, 22, 23, 24, 25] [] [0, 1, 2, 3, 4, 5, 6, 7, 8, 9, 10, 11, 12, 13, 14, 15, 16, 17, 18, 19, 20, 21, 22, 23, 24, 25] rfl rfl rfl (by decide) rfl rfl (fun H locs hP hD hS => ?_)
      refine lv_istore_n (lv' := [(2, .int x_38), (1, .int x_30), (0, .ref (aO 0))]) hx hb dX8_turnLine_35 rfl hl (by decide) rfl (fun ls hl => ?_)
      refine lv_iload_n hx hb dX8_turnLine_36 rfl (lv_at hl 0 rfl) ?_
      refine lv_iconst (v := -1) hx hb dX8_turnLine_37 (by decide) ?_
      refine lv_icmp_eq (tgt := 46) hx hb dX8_turnLine_38 (by decide) (fun hc_41 => ?_) (fun hc_41 => ?_)
      · have hM := it_p hc_41 hM
        refine lv_iconst (v := 0) hx hb dX8_turnLine_46 (by decide) ?_
        have hR := som hM
        rw [hR] at hQ
        exact ret_z hQ hx hb hr hlocks rfl hP hK hD hS dX8_turnLine_47
      · have hM := it_n hc_41 hM
        refine lv_iload_n hx hb dX8_turnLine_41 rfl (lv_at hl 0 rfl) ?_
        refine lv_iload_n hx hb dX8_turnLine_42 rfl (lv_at hl 1 rfl) ?_
        refine lv_icmp_ne (tgt := 48) hx hb dX8_turnLine_43 (by decide) (fun hc_42 => ?_) (fun hc_42 => ?_)
        · have hM := it_p hc_42 hM
          refine lv_iconst (v := 0) hx hb dX8_turnLine_48 (by decide) ?_
          refine lv_istore_n (lv' := [(3, .int (0 : Int32)), (2, .int x_38), (1, .int x_30), (0, .ref (aO 0))]) hx hb dX8_turnLine_49 rfl hl (by decide) rfl (fun ls hl => ?_)
          exact N50 x_30 x_38 (0 : Int32) mO_34 mO64_35 hM _ _ hP hD hS _ (lv_sub hl [3, 2, 1, 0] rfl)
        · have hM := it_nn hc_42 hM
          refine lv_iconst (v := 0) hx hb dX8_turnLine_46 (by decide) ?_
          have hR := som hM
          rw [hR] at hQ
          exact ret_z hQ hx hb hr hlocks rfl hP hK hD hS dX8_turnLine_47
    · have hM := it_nn hc_33 hM
      refine lv_iconst (v := 0) hx hb dX8_turnLine_25 (by decide) ?_
      have hR := som hM
      rw [hR] at hQ
      exact ret_z hQ hx hb hr hlocks rfl hP hK hD hS dX8_turnLine_26
  · have hM := it_nn hc_25 hM
    refine lv_iconst (v := 0) hx hb dX8_turnLine_9 (by decide) ?_
    have hR := som hM
    rw [hR] at hQ
    exact ret_z hQ hx hb hr hlocks rfl hP hK hD hS dX8_turnLine_10
abbrev rmX8_line : Room := { frames := 9, cells := 0, slots := 0, locals := 190 }
set_option maxHeartbeats 4000000 in
set_option maxRecDepth 100000 in
theorem kX8_line (l : Launch) (dC : Nat → ClassId) (dI : Nat → Nat → Nat) (ct : Nat → ClassId) (aO : Nat → Nat) (adK adV : Nat → Nat) (sz : Nat) (mO : Mem) (mO64 : Lem) (res : (Int32 × Mem × Lem)) (hM : mX8_line mO mO64 = some res) : Met l yX8_line wsX8_line rmX8_line (va_Pc [.ref (aO 0)] (PB (dC, dI) ct (EV adK adV) sz (wO ct aO mO mO64))) (Qi (dC, dI) ct (va_A (wO ct aO mO mO64) sz) res.1 (wO ct aO res.2.1 res.2.2)) 0 0 (va_A (wO ct aO mO mO64) sz) := by
  refine Met.ofW (cc := cX8_line) (maxL := 1) (ret := (some .boolean)) (by decide) rfl ?_
  intro p e s m args below meth c s₁ B hml hv
  obtain ⟨hargs, hsz, hP, hK, hD0, hE⟩ := hv
  have hx := B.exec
  have hb := B.bytes
  have hr := B.returns
  have hts := atoms_spec (ws := wsX8_line) B.pre
  have hown : s.vm.findClass RX8 = some m.cls := findClass_of_methodNamed B.named
  have hlocks := B.notSynchronized
  clear B s₁
  subst hsz
  have hD := hD0.self (sz := s.heap.size)
  clear hD0
  generalize hAe : va_A (wO ct aO mO mO64) s.heap.size = A at hD hE ⊢
  have hA : ∀ q : Nat, s.heap.size ≤ q → A q := fun q h => by rw [← hAe]; exact Or.inr h
  clear hAe
  have hS : va_S A s.heap s.heap [] := va_S.rf
  refine cutQ (fun Q hQ => ?_)
  refine entryW (vs := [.ref (aO 0)]) hargs (Nat.le_of_ble_eq_true rfl) (fun ls hl => ?_)
  replace hl : lv_has ls 1 [(0, .ref (aO 0))] := hl
  unfold mX8_line at hM
  refine lv_aload_n hx hb dX8_line_0 rfl (lv_at hl 0 rfl) ?_
  refine va_ldcS hx hb hown (show vk_R RX8 153 "moon" (adK 0) s from hE.2.2.1 0 (by decide)) dX8_line_1 ?_
  obtain ⟨x_1, hr_2, hM⟩ := bn_some hM
  refine gv_i (r0 := x_1) (wn := (wO ct aO mO mO64)) (va_runV (As := [.ref (adK 0)]) (rest := []) ⟨hx, hb, hml, hown, hts⟩ (kX8_isWord l dC dI ct aO adK adV _ mO mO64 0 _ hr_2) (cwV 1 hts gX8_line_X8_isWord rfl rfl rfl hvX8_isWord ⟨Nat.le_of_ble_eq_true rfl, Nat.le_of_ble_eq_true rfl⟩) (preV_of EV_ok hK hP hD (is := [0, 1, 2, 3, 4, 5, 6, 7, 8, 9, 10, 11, 12, 13, 14, 15, 16, 17, 18, 19, 20, 21, 22, 23, 24, 25]) rfl rfl rfl (ci := 8) rfl 0 rfl (e_sub EV_ok hE hS (va_free hD hS hA [0, 1, 2, 3, 4, 5, 6, 7, 8, 9, 10, 11, 12, 13, 14, 15, 16, 17, 18, 19, 20, 21, 22, 23, 24, 25] rfl))) rfl rfl hl.1 rfl (lv_room (Nat.le_of_ble_eq_true rfl)) dX8_line_3 ⟨Nat.le_of_ble_eq_true rfl, Nat.le_of_ble_eq_true rfl⟩) hP hD hS hA [0, 1, 2, 3, 4, 5, 6, 7, 8, 9, 10, 11, 12, 13, 14, 15, 16, 17, 18, 19, 20, 21, 22, 23, 24, 25] [] [0, 1, 2, 3, 4, 5, 6, 7, 8, 9, 10, 11, 12, 13, 14, 15, 16, 17, 18, 19, 20, 21, 22, 23, 24, 25] rfl rfl rfl (by decide) rfl rfl (fun H locs hP hD hS => ?_)
  refine lv_if_eq (tgt := 21) hx hb dX8_line_6 (by decide) (fun hc_4 => ?_) (fun hc_4 => ?_)
  · have hM := it_p hc_4 hM
    refine lv_aload_n hx hb dX8_line_21 rfl (lv_at hl 0 rfl) ?_
    refine va_ldcS hx hb hown (show vk_R RX8 155 "strike" (adK 1) s from hE.2.2.1 1 (by decide)) dX8_line_22 ?_
    obtain ⟨x_5, hr_6, hM⟩ := bn_some hM
    refine gv_i (r0 := x_5) (wn := (wO ct aO mO mO64)) (va_runV (As := [.ref (adK 1)]) (rest := []) ⟨hx, hb, hml, hown, hts⟩ (kX8_isWord l dC dI ct aO adK adV _ mO mO64 1 _ hr_6) (cwV 1 hts gX8_line_X8_isWord rfl rfl rfl hvX8_isWord ⟨Nat.le_of_ble_eq_true rfl, Nat.le_of_ble_eq_true rfl⟩) (preV_of EV_ok hK hP hD (is := [0, 1, 2, 3, 4, 5, 6, 7, 8, 9, 10, 11, 12, 13, 14, 15, 16, 17, 18, 19, 20, 21, 22, 23, 24, 25]) rfl rfl rfl (ci := 8) rfl 0 rfl (e_sub EV_ok hE hS (va_free hD hS hA [0, 1, 2, 3, 4, 5, 6, 7, 8, 9, 10, 11, 12, 13, 14, 15, 16, 17, 18, 19, 20, 21, 22, 23, 24, 25] rfl))) rfl rfl hl.1 rfl (lv_room (Nat.le_of_ble_eq_true rfl)) dX8_line_24 ⟨Nat.le_of_ble_eq_true rfl, Nat.le_of_ble_eq_true rfl⟩) hP hD hS hA [0, 1, 2, 3, 4, 5, 6, 7, 8, 9, 10, 11, 12, 13, 14, 15, 16, 17, 18, 19, 20, 21, 22, 23, 24, 25] [] [0, 1, 2, 3, 4, 5, 6, 7, 8, 9, 10, 11, 12, 13, 14, 15, 16, 17, 18, 19, 20, 21, 22, 23, 24, 25] rfl rfl rfl (by decide) rfl rfl (fun H locs hP hD hS => ?_)
    refine lv_if_eq (tgt := 42) hx hb dX8_line_27 (by decide) (fun hc_8 => ?_) (fun hc_8 => ?_)
    · have hM := it_p hc_8 hM
      refine lv_aload_n hx hb dX8_line_42 rfl (lv_at hl 0 rfl) ?_
      refine va_ldcS hx hb hown (show vk_R RX8 157 "wait" (adK 2) s from hE.2.2.1 2 (by decide)) dX8_line_43 ?_
      obtain ⟨x_9, hr_10, hM⟩ := bn_some hM
      refine gv_i (r0 := x_9) (wn := (wO ct aO mO mO64)) (va_runV (As := [.ref (adK 2)]) (rest := []) ⟨hx, hb, hml, hown, hts⟩ (kX8_isWord l dC dI ct aO adK adV _ mO mO64 2 _ hr_10) (cwV 1 hts gX8_line_X8_isWord rfl rfl rfl hvX8_isWord ⟨Nat.le_of_ble_eq_true rfl, Nat.le_of_ble_eq_true rfl⟩) (preV_of EV_ok hK hP hD (is := [0, 1, 2, 3, 4, 5, 6, 7, 8, 9, 10, 11, 12, 13, 14, 15, 16, 17, 18, 19, 20, 21, 22, 23, 24, 25]) rfl rfl rfl (ci := 8) rfl 0 rfl (e_sub EV_ok hE hS (va_free hD hS hA [0, 1, 2, 3, 4, 5, 6, 7, 8, 9, 10, 11, 12, 13, 14, 15, 16, 17, 18, 19, 20, 21, 22, 23, 24, 25] rfl))) rfl rfl hl.1 rfl (lv_room (Nat.le_of_ble_eq_true rfl)) dX8_line_45 ⟨Nat.le_of_ble_eq_true rfl, Nat.le_of_ble_eq_true rfl⟩) hP hD hS hA [0, 1, 2, 3, 4, 5, 6, 7, 8, 9, 10, 11, 12, 13, 14, 15, 16, 17, 18, 19, 20, 21, 22, 23, 24, 25] [] [0, 1, 2, 3, 4, 5, 6, 7, 8, 9, 10, 11, 12, 13, 14, 15, 16, 17, 18, 19, 20, 21, 22, 23, 24, 25] rfl rfl rfl (by decide) rfl rfl (fun H locs hP hD hS => ?_)
      refine lv_if_eq (tgt := 62) hx hb dX8_line_48 (by decide) (fun hc_12 => ?_) (fun hc_12 => ?_)
      · have hM := it_p hc_12 hM
        refine lv_aload_n hx hb dX8_line_62 rfl (lv_at hl 0 rfl) ?_
        refine va_ldcS hx hb hown (show vk_R RX8 159 "sort" (adK 3) s from hE.2.2.1 3 (by decide)) dX8_line_63 ?_
        obtain ⟨x_13, hr_14, hM⟩ := bn_some hM
        refine gv_i (r0 := x_13) (wn := (wO ct aO mO mO64)) (va_runV (As := [.ref (adK 3)]) (rest := []) ⟨hx, hb, hml, hown, hts⟩ (kX8_isWord l dC dI ct aO adK adV _ mO mO64 3 _ hr_14) (cwV 1 hts gX8_line_X8_isWord rfl rfl rfl hvX8_isWord ⟨Nat.le_of_ble_eq_true rfl, Nat.le_of_ble_eq_true rfl⟩) (preV_of EV_ok hK hP hD (is := [0, 1, 2, 3, 4, 5, 6, 7, 8, 9, 10, 11, 12, 13, 14, 15, 16, 17, 18, 19, 20, 21, 22, 23, 24, 25]) rfl rfl rfl (ci := 8) rfl 0 rfl (e_sub EV_ok hE hS (va_free hD hS hA [0, 1, 2, 3, 4, 5, 6, 7, 8, 9, 10, 11, 12, 13, 14, 15, 16, 17, 18, 19, 20, 21, 22, 23, 24, 25] rfl))) rfl rfl hl.1 rfl (lv_room (Nat.le_of_ble_eq_true rfl)) dX8_line_65 ⟨Nat.le_of_ble_eq_true rfl, Nat.le_of_ble_eq_true rfl⟩) hP hD hS hA [0, 1, 2, 3, 4, 5, 6, 7, 8, 9, 10, 11, 12, 13, 14, 15, 16, 17, 18, 19, 20, 21, 22, 23, 24, 25] [] [0, 1, 2, 3, 4, 5, 6, 7, 8, 9, 10, 11, 12, 13, 14, 15, 16, 17, 18, 19, 20, 21, 22, 23, 24, 25] rfl rfl rfl (by decide) rfl rfl (fun H locs hP hD hS => ?_)
        refine lv_if_eq (tgt := 76) hx hb dX8_line_68 (by decide) (fun hc_16 => ?_) (fun hc_16 => ?_)
        · have hM := it_p hc_16 hM
          refine lv_aload_n hx hb dX8_line_76 rfl (lv_at hl 0 rfl) ?_
          refine va_ldcS hx hb hown (show vk_R RX8 161 "spare" (adK 4) s from hE.2.2.1 4 (by decide)) dX8_line_77 ?_
          obtain ⟨x_17, hr_18, hM⟩ := bn_some hM
          refine gv_i (r0 := x_17) (wn := (wO ct aO mO mO64)) (va_runV (As := [.ref (adK 4)]) (rest := []) ⟨hx, hb, hml, hown, hts⟩ (kX8_isWord l dC dI ct aO adK adV _ mO mO64 4 _ hr_18) (cwV 1 hts gX8_line_X8_isWord rfl rfl rfl hvX8_isWord ⟨Nat.le_of_ble_eq_true rfl, Nat.le_of_ble_eq_true rfl⟩) (preV_of EV_ok hK hP hD (is := [0, 1, 2, 3, 4, 5, 6, 7, 8, 9, 10, 11, 12, 13, 14, 15, 16, 17, 18, 19, 20, 21, 22, 23, 24, 25]) rfl rfl rfl (ci := 8) rfl 0 rfl (e_sub EV_ok hE hS (va_free hD hS hA [0, 1, 2, 3, 4, 5, 6, 7, 8, 9, 10, 11, 12, 13, 14, 15, 16, 17, 18, 19, 20, 21, 22, 23, 24, 25] rfl))) rfl rfl hl.1 rfl (lv_room (Nat.le_of_ble_eq_true rfl)) dX8_line_79 ⟨Nat.le_of_ble_eq_true rfl, Nat.le_of_ble_eq_true rfl⟩) hP hD hS hA [0, 1, 2, 3, 4, 5, 6, 7, 8, 9, 10, 11, 12, 13, 14, 15, 16, 17, 18, 19, 20, 21, 22, 23, 24, 25] [] [0, 1, 2, 3, 4, 5, 6, 7, 8, 9, 10, 11, 12, 13, 14, 15, 16, 17, 18, 19, 20, 21, 22, 23, 24, 25] rfl rfl rfl (by decide) rfl rfl (fun H locs hP hD hS => ?_)
          refine lv_if_eq (tgt := 90) hx hb dX8_line_82 (by decide) (fun hc_20 => ?_) (fun hc_20 => ?_)
          · have hM := it_p hc_20 hM
            refine lv_aload_n hx hb dX8_line_90 rfl (lv_at hl 0 rfl) ?_
            refine va_ldcS hx hb hown (show vk_R RX8 163 "turn" (adK 5) s from hE.2.2.1 5 (by decide)) dX8_line_91 ?_
            obtain ⟨x_21, hr_22, hM⟩ := bn_some hM
            refine gv_i (r0 := x_21) (wn := (wO ct aO mO mO64)) (va_runV (As := [.ref (adK 5)]) (rest := []) ⟨hx, hb, hml, hown, hts⟩ (kX8_isWord l dC dI ct aO adK adV _ mO mO64 5 _ hr_22) (cwV 1 hts gX8_line_X8_isWord rfl rfl rfl hvX8_isWord ⟨Nat.le_of_ble_eq_true rfl, Nat.le_of_ble_eq_true rfl⟩) (preV_of EV_ok hK hP hD (is := [0, 1, 2, 3, 4, 5, 6, 7, 8, 9, 10, 11, 12, 13, 14, 15, 16, 17, 18, 19, 20, 21, 22, 23, 24, 25]) rfl rfl rfl (ci := 8) rfl 0 rfl (e_sub EV_ok hE hS (va_free hD hS hA [0, 1, 2, 3, 4, 5, 6, 7, 8, 9, 10, 11, 12, 13, 14, 15, 16, 17, 18, 19, 20, 21, 22, 23, 24, 25] rfl))) rfl rfl hl.1 rfl (lv_room (Nat.le_of_ble_eq_true rfl)) dX8_line_93 ⟨Nat.le_of_ble_eq_true rfl, Nat.le_of_ble_eq_true rfl⟩) hP hD hS hA [0, 1, 2, 3, 4, 5, 6, 7, 8, 9, 10, 11, 12, 13, 14, 15, 16, 17, 18, 19, 20, 21, 22, 23, 24, 25] [] [0, 1, 2, 3, 4, 5, 6, 7, 8, 9, 10, 11, 12, 13, 14, 15, 16, 17, 18, 19, 20, 21, 22, 23, 24, 25] rfl rfl rfl (by decide) rfl rfl (fun H locs hP hD hS => ?_)
            refine lv_if_eq (tgt := 110) hx hb dX8_line_96 (by decide) (fun hc_24 => ?_) (fun hc_24 => ?_)
            · have hM := it_p hc_24 hM
              refine lv_iconst (v := 0) hx hb dX8_line_110 (by decide) ?_
              have hR := som hM
              rw [hR] at hQ
              exact ret_z hQ hx hb hr hlocks rfl hP hK hD hS dX8_line_111
            · have hM := it_n hc_24 hM
              refine lv_aload_n hx hb dX8_line_99 rfl (lv_at hl 0 rfl) ?_
              obtain ⟨q_29, hr_28, hM⟩ := bn_some hM
              obtain ⟨x_25, mO_26, mO64_27⟩ := q_29
              have hM := nm_at (y := x_25) rfl hM
              have hM := nm_at (y := mO_26) rfl hM
              have hM := nm_at (y := mO64_27) rfl hM
              refine gv_i (r0 := x_25) (wn := (wO ct aO mO_26 mO64_27)) (va_runV (As := []) (rest := []) ⟨hx, hb, hml, hown, hts⟩ (kX8_turnLine l dC dI ct aO adK adV _ mO mO64 _ hr_28) (cwV 0 hts gX8_line_X8_turnLine rfl rfl rfl hvX8_turnLine ⟨Nat.le_of_ble_eq_true rfl, Nat.le_of_ble_eq_true rfl⟩) (preV_of EV_ok hK hP hD (is := [0, 1, 2, 3, 4, 5, 6, 7, 8, 9, 10, 11, 12, 13, 14, 15, 16, 17, 18, 19, 20, 21, 22, 23, 24, 25]) rfl rfl rfl (ci := 8) rfl 0 rfl (e_sub EV_ok hE hS (va_free hD hS hA [0, 1, 2, 3, 4, 5, 6, 7, 8, 9, 10, 11, 12, 13, 14, 15, 16, 17, 18, 19, 20, 21, 22, 23, 24, 25] rfl))) rfl rfl hl.1 rfl (lv_room (Nat.le_of_ble_eq_true rfl)) dX8_line_100 ⟨Nat.le_of_ble_eq_true rfl, Nat.le_of_ble_eq_true rfl⟩) hP hD hS hA [0, 1, 2, 3, 4, 5, 6, 7, 8, 9, 10, 11, 12, 13, 14, 15, 16, 17, 18, 19, 20, 21, 22, 23, 24, 25] [] [0, 1, 2, 3, 4, 5, 6, 7, 8, 9, 10, 11, 12, 13, 14, 15, 16, 17, 18, 19, 20, 21, 22, 23, 24, 25] rfl rfl rfl (by decide) rfl rfl (fun H locs hP hD hS => ?_)
              refine lv_if_eq (tgt := 110) hx hb dX8_line_103 (by decide) (fun hc_30 => ?_) (fun hc_30 => ?_)
              · have hM := it_p hc_30 hM
                refine lv_iconst (v := 0) hx hb dX8_line_110 (by decide) ?_
                have hR := som hM
                rw [hR] at hQ
                exact ret_z hQ hx hb hr hlocks rfl hP hK hD hS dX8_line_111
              · have hM := it_n hc_30 hM
                refine lv_iconst (v := 1) hx hb dX8_line_106 (by decide) ?_
                refine lv_goto (tgt := 111) hx hb dX8_line_107 (by decide) ?_
                have hR := som hM
                rw [hR] at hQ
                exact ret_z hQ hx hb hr hlocks rfl hP hK hD hS dX8_line_111
          · have hM := it_n hc_20 hM
            refine lv_aload_n hx hb dX8_line_85 rfl (lv_at hl 0 rfl) ?_
            obtain ⟨q_35, hr_34, hM⟩ := bn_some hM
            obtain ⟨x_31, mO_32, mO64_33⟩ := q_35
            have hM := nm_at (y := x_31) rfl hM
            have hM := nm_at (y := mO_32) rfl hM
            have hM := nm_at (y := mO64_33) rfl hM
            refine gv_i (r0 := x_31) (wn := (wO ct aO mO_32 mO64_33)) (va_runV (As := []) (rest := []) ⟨hx, hb, hml, hown, hts⟩ (kX8_spareLine l dC dI ct aO adK adV _ mO mO64 _ hr_34) (cwV 0 hts gX8_line_X8_spareLine rfl rfl rfl hvX8_spareLine ⟨Nat.le_of_ble_eq_true rfl, Nat.le_of_ble_eq_true rfl⟩) (preV_of EV_ok hK hP hD (is := [0, 1, 2, 3, 4, 5, 6, 7, 8, 9, 10, 11, 12, 13, 14, 15, 16, 17, 18, 19, 20, 21, 22, 23, 24, 25]) rfl rfl rfl (ci := 8) rfl 0 rfl (e_sub EV_ok hE hS (va_free hD hS hA [0, 1, 2, 3, 4, 5, 6, 7, 8, 9, 10, 11, 12, 13, 14, 15, 16, 17, 18, 19, 20, 21, 22, 23, 24, 25] rfl))) rfl rfl hl.1 rfl (lv_room (Nat.le_of_ble_eq_true rfl)) dX8_line_86 ⟨Nat.le_of_ble_eq_true rfl, Nat.le_of_ble_eq_true rfl⟩) hP hD hS hA [0, 1, 2, 3, 4, 5, 6, 7, 8, 9, 10, 11, 12, 13, 14, 15, 16, 17, 18, 19, 20, 21, 22, 23, 24, 25] [] [0, 1, 2, 3, 4, 5, 6, 7, 8, 9, 10, 11, 12, 13, 14, 15, 16, 17, 18, 19, 20, 21, 22, 23, 24, 25] rfl rfl rfl (by decide) rfl rfl (fun H locs hP hD hS => ?_)
            obtain ⟨hbz, hM⟩ := gb_some hM
            have hR := som hM
            rw [hR] at hQ
            exact ret_z hQ hx hb hr hlocks hbz hP hK hD hS dX8_line_89
        · have hM := it_n hc_16 hM
          refine lv_aload_n hx hb dX8_line_71 rfl (lv_at hl 0 rfl) ?_
          obtain ⟨q_40, hr_39, hM⟩ := bn_some hM
          obtain ⟨x_36, mO_37, mO64_38⟩ := q_40
          have hM := nm_at (y := x_36) rfl hM
          have hM := nm_at (y := mO_37) rfl hM
          have hM := nm_at (y := mO64_38) rfl hM
          refine gv_i (r0 := x_36) (wn := (wO ct aO mO_37 mO64_38)) (va_runV (As := []) (rest := []) ⟨hx, hb, hml, hown, hts⟩ (kX8_sortLine l dC dI ct aO adK adV _ mO mO64 _ hr_39) (cwV 0 hts gX8_line_X8_sortLine rfl rfl rfl hvX8_sortLine ⟨Nat.le_of_ble_eq_true rfl, Nat.le_of_ble_eq_true rfl⟩) (preV_of EV_ok hK hP hD (is := [0, 1, 2, 3, 4, 5, 6, 7, 8, 9, 10, 11, 12, 13, 14, 15, 16, 17, 18, 19, 20, 21, 22, 23, 24, 25]) rfl rfl rfl (ci := 8) rfl 0 rfl (e_sub EV_ok hE hS (va_free hD hS hA [0, 1, 2, 3, 4, 5, 6, 7, 8, 9, 10, 11, 12, 13, 14, 15, 16, 17, 18, 19, 20, 21, 22, 23, 24, 25] rfl))) rfl rfl hl.1 rfl (lv_room (Nat.le_of_ble_eq_true rfl)) dX8_line_72 ⟨Nat.le_of_ble_eq_true rfl, Nat.le_of_ble_eq_true rfl⟩) hP hD hS hA [0, 1, 2, 3, 4, 5, 6, 7, 8, 9, 10, 11, 12, 13, 14, 15, 16, 17, 18, 19, 20, 21, 22, 23, 24, 25] [] [0, 1, 2, 3, 4, 5, 6, 7, 8, 9, 10, 11, 12, 13, 14, 15, 16, 17, 18, 19, 20, 21, 22, 23, 24, 25] rfl rfl rfl (by decide) rfl rfl (fun H locs hP hD hS => ?_)
          obtain ⟨hbz, hM⟩ := gb_some hM
          have hR := som hM
          rw [hR] at hQ
          exact ret_z hQ hx hb hr hlocks hbz hP hK hD hS dX8_line_75
      · have hM := it_n hc_12 hM
        refine lv_aload_n hx hb dX8_line_51 rfl (lv_at hl 0 rfl) ?_
        refine lv_iconst (v := 4) hx hb dX8_line_52 (by decide) ?_
        refine lv_iconst (v := 0) hx hb dX8_line_53 (by decide) ?_
        refine lv_bipush (v := 50) hx hb dX8_line_54 (by decide) ?_
        refine lv_iconst (v := -1) hx hb dX8_line_56 (by decide) ?_
        refine lv_iconst (v := 0) hx hb dX8_line_57 (by decide) ?_
        obtain ⟨q_45, hr_44, hM⟩ := bn_some hM
        obtain ⟨x_41, mO_42, mO64_43⟩ := q_45
        have hM := nm_at (y := x_41) rfl hM
        have hM := nm_at (y := mO_42) rfl hM
        have hM := nm_at (y := mO64_43) rfl hM
        refine gv_i (r0 := x_41) (wn := (wO ct aO mO_42 mO64_43)) (va_runV (As := [.int (4 : Int32), .int (0 : Int32), .int (50 : Int32), .int (-1 : Int32), .int (0 : Int32)]) (rest := []) ⟨hx, hb, hml, hown, hts⟩ (kX8_onceLine l dC dI ct aO _ mO mO64 (4 : Int32) (0 : Int32) (50 : Int32) (-1 : Int32) (0 : Int32) _ hr_44) (cwV 5 hts gX8_line_X8_onceLine rfl rfl rfl hvX8_onceLine ⟨Nat.le_of_ble_eq_true rfl, Nat.le_of_ble_eq_true rfl⟩) (preV_of E0_ok hK hP hD (is := [0, 1, 2, 3, 4, 5, 6, 7, 8, 9, 10, 11, 12, 13, 14, 15, 16, 17, 18, 19, 20, 21, 22, 23, 24, 25]) rfl rfl rfl (ci := 8) rfl 0 rfl e_0) rfl rfl hl.1 rfl (lv_room (Nat.le_of_ble_eq_true rfl)) dX8_line_58 ⟨Nat.le_of_ble_eq_true rfl, Nat.le_of_ble_eq_true rfl⟩) hP hD hS hA [0, 1, 2, 3, 4, 5, 6, 7, 8, 9, 10, 11, 12, 13, 14, 15, 16, 17, 18, 19, 20, 21, 22, 23, 24, 25] [] [0, 1, 2, 3, 4, 5, 6, 7, 8, 9, 10, 11, 12, 13, 14, 15, 16, 17, 18, 19, 20, 21, 22, 23, 24, 25] rfl rfl rfl (by decide) rfl rfl (fun H locs hP hD hS => ?_)
        obtain ⟨hbz, hM⟩ := gb_some hM
        have hR := som hM
        rw [hR] at hQ
        exact ret_z hQ hx hb hr hlocks hbz hP hK hD hS dX8_line_61
    · have hM := it_n hc_8 hM
      refine lv_aload_n hx hb dX8_line_30 rfl (lv_at hl 0 rfl) ?_
      refine lv_iconst (v := 2) hx hb dX8_line_31 (by decide) ?_
      refine lv_iconst (v := 0) hx hb dX8_line_32 (by decide) ?_
      refine lv_bipush (v := 16) hx hb dX8_line_33 (by decide) ?_
      refine lv_iconst (v := 1) hx hb dX8_line_35 (by decide) ?_
      refine lv_bipush (v := 9) hx hb dX8_line_36 (by decide) ?_
      obtain ⟨q_50, hr_49, hM⟩ := bn_some hM
      obtain ⟨x_46, mO_47, mO64_48⟩ := q_50
      have hM := nm_at (y := x_46) rfl hM
      have hM := nm_at (y := mO_47) rfl hM
      have hM := nm_at (y := mO64_48) rfl hM
      refine gv_i (r0 := x_46) (wn := (wO ct aO mO_47 mO64_48)) (va_runV (As := [.int (2 : Int32), .int (0 : Int32), .int (16 : Int32), .int (1 : Int32), .int (9 : Int32)]) (rest := []) ⟨hx, hb, hml, hown, hts⟩ (kX8_onceLine l dC dI ct aO _ mO mO64 (2 : Int32) (0 : Int32) (16 : Int32) (1 : Int32) (9 : Int32) _ hr_49) (cwV 5 hts gX8_line_X8_onceLine rfl rfl rfl hvX8_onceLine ⟨Nat.le_of_ble_eq_true rfl, Nat.le_of_ble_eq_true rfl⟩) (preV_of E0_ok hK hP hD (is := [0, 1, 2, 3, 4, 5, 6, 7, 8, 9, 10, 11, 12, 13, 14, 15, 16, 17, 18, 19, 20, 21, 22, 23, 24, 25]) rfl rfl rfl (ci := 8) rfl 0 rfl e_0) rfl rfl hl.1 rfl (lv_room (Nat.le_of_ble_eq_true rfl)) dX8_line_38 ⟨Nat.le_of_ble_eq_true rfl, Nat.le_of_ble_eq_true rfl⟩) hP hD hS hA [0, 1, 2, 3, 4, 5, 6, 7, 8, 9, 10, 11, 12, 13, 14, 15, 16, 17, 18, 19, 20, 21, 22, 23, 24, 25] [] [0, 1, 2, 3, 4, 5, 6, 7, 8, 9, 10, 11, 12, 13, 14, 15, 16, 17, 18, 19, 20, 21, 22, 23, 24, 25] rfl rfl rfl (by decide) rfl rfl (fun H locs hP hD hS => ?_)
      obtain ⟨hbz, hM⟩ := gb_some hM
      have hR := som hM
      rw [hR] at hQ
      exact ret_z hQ hx hb hr hlocks hbz hP hK hD hS dX8_line_41
  · have hM := it_n hc_4 hM
    refine lv_aload_n hx hb dX8_line_9 rfl (lv_at hl 0 rfl) ?_
    refine lv_iconst (v := 0) hx hb dX8_line_10 (by decide) ?_
    refine lv_iconst (v := 5) hx hb dX8_line_11 (by decide) ?_
    refine lv_bipush (v := 30) hx hb dX8_line_12 (by decide) ?_
    refine lv_iconst (v := 0) hx hb dX8_line_14 (by decide) ?_
    refine lv_bipush (v := 15) hx hb dX8_line_15 (by decide) ?_
    obtain ⟨q_55, hr_54, hM⟩ := bn_some hM
    obtain ⟨x_51, mO_52, mO64_53⟩ := q_55
    have hM := nm_at (y := x_51) rfl hM
    have hM := nm_at (y := mO_52) rfl hM
    have hM := nm_at (y := mO64_53) rfl hM
    refine gv_i (r0 := x_51) (wn := (wO ct aO mO_52 mO64_53)) (va_runV (As := [.int (0 : Int32), .int (5 : Int32), .int (30 : Int32), .int (0 : Int32), .int (15 : Int32)]) (rest := []) ⟨hx, hb, hml, hown, hts⟩ (kX8_onceLine l dC dI ct aO _ mO mO64 (0 : Int32) (5 : Int32) (30 : Int32) (0 : Int32) (15 : Int32) _ hr_54) (cwV 5 hts gX8_line_X8_onceLine rfl rfl rfl hvX8_onceLine ⟨Nat.le_of_ble_eq_true rfl, Nat.le_of_ble_eq_true rfl⟩) (preV_of E0_ok hK hP hD (is := [0, 1, 2, 3, 4, 5, 6, 7, 8, 9, 10, 11, 12, 13, 14, 15, 16, 17, 18, 19, 20, 21, 22, 23, 24, 25]) rfl rfl rfl (ci := 8) rfl 0 rfl e_0) rfl rfl hl.1 rfl (lv_room (Nat.le_of_ble_eq_true rfl)) dX8_line_17 ⟨Nat.le_of_ble_eq_true rfl, Nat.le_of_ble_eq_true rfl⟩) hP hD hS hA [0, 1, 2, 3, 4, 5, 6, 7, 8, 9, 10, 11, 12, 13, 14, 15, 16, 17, 18, 19, 20, 21, 22, 23, 24, 25] [] [0, 1, 2, 3, 4, 5, 6, 7, 8, 9, 10, 11, 12, 13, 14, 15, 16, 17, 18, 19, 20, 21, 22, 23, 24, 25] rfl rfl rfl (by decide) rfl rfl (fun H locs hP hD hS => ?_)
    obtain ⟨hbz, hM⟩ := gb_some hM
    have hR := som hM
    rw [hR] at hQ
    exact ret_z hQ hx hb hr hlocks hbz hP hK hD hS dX8_line_20
abbrev rmX8_fault : Room := { frames := 10, cells := 0, slots := 0, locals := 210 }
theorem iwX8_fault_X8 : ∀ w ∈ wsX80, w ∈ wsX8_fault := fun _ h => List.mem_cons_of_mem _ (List.mem_append_right _ (h))
set_option maxHeartbeats 4000000 in
set_option maxRecDepth 100000 in
theorem kX8_fault (l : Launch) (dC : Nat → ClassId) (dI : Nat → Nat → Nat) (ct : Nat → ClassId) (aO : Nat → Nat) (adK adV : Nat → Nat) (sz : Nat) (mO : Mem) (mO64 : Lem) (res : (Int32 × Mem × Lem)) (hM : mX8_fault mO mO64 = some res) : Met l yX8_fault wsX8_fault rmX8_fault (va_Pc [.ref (aO 0)] (PB (dC, dI) ct (EV adK adV) sz (wO ct aO mO mO64))) (Qi (dC, dI) ct (va_A (wO ct aO mO mO64) sz) res.1 (wO ct aO res.2.1 res.2.2)) 0 0 (va_A (wO ct aO mO mO64) sz) := by
  refine Met.ofW (cc := cX8_fault) (maxL := 2) (ret := (some .int)) (by decide) rfl ?_
  intro p e s m args below meth c s₁ B hml hv
  obtain ⟨hargs, hsz, hP, hK, hD0, hE⟩ := hv
  have hx := B.exec
  have hb := B.bytes
  have hr := B.returns
  have hts := atoms_spec (ws := wsX8_fault) B.pre
  have hown : s.vm.findClass RX8 = some m.cls := findClass_of_methodNamed B.named
  have hlocks := B.notSynchronized
  clear B s₁
  subst hsz
  have hD := hD0.self (sz := s.heap.size)
  clear hD0
  generalize hAe : va_A (wO ct aO mO mO64) s.heap.size = A at hD hE ⊢
  have hA : ∀ q : Nat, s.heap.size ≤ q → A q := fun q h => by rw [← hAe]; exact Or.inr h
  clear hAe
  have hS : va_S A s.heap s.heap [] := va_S.rf
  refine cutQ (fun Q hQ => ?_)
  refine entryW (vs := [.ref (aO 0)]) hargs (Nat.le_of_ble_eq_true rfl) (fun ls hl => ?_)
  replace hl : lv_has ls 2 [(0, .ref (aO 0))] := hl
  unfold mX8_fault at hM
  have N44 : ∀ (mO : Mem) (mO64 : Lem), mX8_fault_L44 mO mO64 = some res → ∀ (H : Heap) (locs : List Loc), va_P (dC, dI) vwCl (wO ct aO mO mO64) H → va_D A (wO ct aO mO mO64) → va_S A s.heap H locs → ∀ ls : Array Slot, lv_has ls 2 [(0, .ref (aO 0))] → W p l e (headSpec wsX8_fault rmX8_fault).room s m args below meth c H locs 0 0 Q (F0 m 44 ls []) := by
    intro mO mO64 hM H locs hP hD hS ls hl
    unfold mX8_fault_L44 at hM
    obtain ⟨ex44, hit44, hM⟩ := bn_some hM
    have X44_0 : ∀ (mO : Mem) (mO64 : Lem), ex44 = (Sum.inl (mO, mO64)) → ∀ (H : Heap) (locs : List Loc), va_P (dC, dI) vwCl (wO ct aO mO mO64) H → va_D A (wO ct aO mO mO64) → va_S A s.heap H locs → ∀ ls : Array Slot, lv_has ls 2 [(0, .ref (aO 0))] → W p l e (headSpec wsX8_fault rmX8_fault).room s m args below meth c H locs 0 0 Q (F0 m 58 ls []) := by
      intro mO mO64 hex H locs hP hD hS ls hl
      have hM := el_l hex hM
      have hM := nm_at (y := mO) rfl hM
      have hM := nm_at (y := mO64) rfl hM
      refine lv_aload_n hx hb dX8_fault_58 rfl (lv_at hl 0 rfl) ?_
      refine va_get (D := (dC, dI)) (ci := 8) (v := .int (mO 0 4)) (C := RX8) (T := TX8) (N := 45) hx hb hts iwX8_fault_X8 hown hK hP 0 rfl rfl 4 (by decide) (hts _ (List.mem_of_getElem? (i := 7) rfl)) (fun _ h9 => h9) rfl dX8_fault_59 ?_
      refine lv_topi (fun x_1 ex_1 => ?_)
      have hM := nm_at ex_1 hM
      have hR := som hM
      rw [hR] at hQ
      exact ret_i hQ hx hb hr hlocks hP hK hD hS dX8_fault_62
    have X44_1 : ∀ (mO : Mem) (mO64 : Lem), ex44 = (Sum.inr (mO, mO64)) → ∀ (H : Heap) (locs : List Loc), va_P (dC, dI) vwCl (wO ct aO mO mO64) H → va_D A (wO ct aO mO mO64) → va_S A s.heap H locs → ∀ ls : Array Slot, lv_has ls 2 [(0, .ref (aO 0))] → W p l e (headSpec wsX8_fault rmX8_fault).room s m args below meth c H locs 0 0 Q (F0 m 63 ls []) := by
      intro mO mO64 hex H locs hP hD hS ls hl
      have hM := el_r hex hM
      have hM := nm_at (y := mO) rfl hM
      have hM := nm_at (y := mO64) rfl hM
      refine lv_aload_n hx hb dX8_fault_63 rfl (lv_at hl 0 rfl) ?_
      refine va_get (D := (dC, dI)) (ci := 8) (v := .ref (aO 2)) (C := RX8) (T := TX8) (N := 45) hx hb hts iwX8_fault_X8 hown hK hP 0 rfl rfl 6 (by decide) (hts _ (List.mem_of_getElem? (i := 1) rfl)) (fun _ h9 => h9) rfl dX8_fault_64 ?_
      refine lv_iconst (v := 0) hx hb dX8_fault_67 (by decide) ?_
      obtain ⟨hi, hM⟩ := gi_some hM
      refine va_iald hx hb hK hP 2 0 rfl rfl hi dX8_fault_68 ?_
      refine lv_iconst (v := -1) hx hb dX8_fault_69 (by decide) ?_
      refine lv_icmp_eq (tgt := 80) hx hb dX8_fault_70 (by decide) (fun hc_2 => ?_) (fun hc_2 => ?_)
      · have hM := it_p hc_2 hM
        refine lv_aload_n hx hb dX8_fault_80 rfl (lv_at hl 0 rfl) ?_
        refine va_get (D := (dC, dI)) (ci := 8) (v := .int (mO 0 4)) (C := RX8) (T := TX8) (N := 45) hx hb hts iwX8_fault_X8 hown hK hP 0 rfl rfl 4 (by decide) (hts _ (List.mem_of_getElem? (i := 7) rfl)) (fun _ h9 => h9) rfl dX8_fault_81 ?_
        refine lv_goto (tgt := 88) hx hb dX8_fault_84 (by decide) ?_
        refine lv_topi (fun x_3 ex_3 => ?_)
        have hM := nm_at ex_3 hM
        have hR := som hM
        rw [hR] at hQ
        exact ret_i hQ hx hb hr hlocks hP hK hD hS dX8_fault_88
      · have hM := it_n hc_2 hM
        refine lv_aload_n hx hb dX8_fault_73 rfl (lv_at hl 0 rfl) ?_
        refine va_get (D := (dC, dI)) (ci := 8) (v := .int (mO 0 7)) (C := RX8) (T := TX8) (N := 45) hx hb hts iwX8_fault_X8 hown hK hP 0 rfl rfl 7 (by decide) (hts _ (List.mem_of_getElem? (i := 2) rfl)) (fun _ h9 => h9) rfl dX8_fault_74 ?_
        refine lv_if_ne (tgt := 87) hx hb dX8_fault_77 (by decide) (fun hc_4 => ?_) (fun hc_4 => ?_)
        · have hM := it_p hc_4 hM
          refine lv_iconst (v := -1) hx hb dX8_fault_87 (by decide) ?_
          have hR := som hM
          rw [hR] at hQ
          exact ret_i hQ hx hb hr hlocks hP hK hD hS dX8_fault_88
        · have hM := it_nn hc_4 hM
          refine lv_aload_n hx hb dX8_fault_80 rfl (lv_at hl 0 rfl) ?_
          refine va_get (D := (dC, dI)) (ci := 8) (v := .int (mO 0 4)) (C := RX8) (T := TX8) (N := 45) hx hb hts iwX8_fault_X8 hown hK hP 0 rfl rfl 4 (by decide) (hts _ (List.mem_of_getElem? (i := 7) rfl)) (fun _ h9 => h9) rfl dX8_fault_81 ?_
          refine lv_goto (tgt := 88) hx hb dX8_fault_84 (by decide) ?_
          refine lv_topi (fun x_5 ex_5 => ?_)
          have hM := nm_at ex_5 hM
          have hR := som hM
          rw [hR] at hQ
          exact ret_i hQ hx hb hr hlocks hP hK hD hS dX8_fault_88
    have I44 : ∀ (n : Nat) (mO : Mem) (mO64 : Lem), itr (fun q => mX8_fault_s44 q.1 q.2) n (mO, mO64) = some ex44 → ∀ (H : Heap) (locs : List Loc), va_P (dC, dI) vwCl (wO ct aO mO mO64) H → va_D A (wO ct aO mO mO64) → va_S A s.heap H locs → ∀ ls : Array Slot, lv_has ls 2 [(0, .ref (aO 0))] → W p l e (headSpec wsX8_fault rmX8_fault).room s m args below meth c H locs 0 0 Q (F0 m 44 ls []) := by
      intro n
      induction n with
      | zero => intro mO mO64 hit; exact (itr_zero hit).elim
      | succ n ih44 =>
        intro mO mO64 hit H locs hP hD hS ls hl
        obtain ⟨o44, hM, hbk44, hex44⟩ := itr_succ hit
        replace hM : mX8_fault_s44 mO mO64 = some o44 := hM
        unfold mX8_fault_s44 at hM
        refine lv_aload_n hx hb dX8_fault_44 rfl (lv_at hl 0 rfl) ?_
        refine va_get (D := (dC, dI)) (ci := 8) (v := .int (mO 0 3)) (C := RX8) (T := TX8) (N := 45) hx hb hts iwX8_fault_X8 hown hK hP 0 rfl rfl 3 (by decide) (hts _ (List.mem_of_getElem? (i := 6) rfl)) (fun _ h9 => h9) rfl dX8_fault_45 ?_
        refine lv_if_eq (tgt := 63) hx hb dX8_fault_48 (by decide) (fun hc_6 => ?_) (fun hc_6 => ?_)
        · have hM := it_p hc_6 hM
          have hR := som hM
          exact X44_1 mO mO64 (hex44 _ hR).symm _ _ hP hD hS _ (lv_sub hl [0] rfl)
        · have hM := it_n hc_6 hM
          refine lv_aload_n hx hb dX8_fault_51 rfl (lv_at hl 0 rfl) ?_
          obtain ⟨q_11, hr_10, hM⟩ := bn_some hM
          obtain ⟨x_7, mO_8, mO64_9⟩ := q_11
          have hM := nm_at (y := x_7) rfl hM
          have hM := nm_at (y := mO_8) rfl hM
          have hM := nm_at (y := mO64_9) rfl hM
          refine gv_i (r0 := x_7) (wn := (wO ct aO mO_8 mO64_9)) (va_runV (As := []) (rest := []) ⟨hx, hb, hml, hown, hts⟩ (kX8_line l dC dI ct aO adK adV _ mO mO64 _ hr_10) (cwV 0 hts gX8_fault_X8_line rfl rfl rfl hvX8_line ⟨Nat.le_of_ble_eq_true rfl, Nat.le_of_ble_eq_true rfl⟩) (preV_of EV_ok hK hP hD (is := [0, 1, 2, 3, 4, 5, 6, 7, 8, 9, 10, 11, 12, 13, 14, 15, 16, 17, 18, 19, 20, 21, 22, 23, 24, 25]) rfl rfl rfl (ci := 8) rfl 0 rfl (e_sub EV_ok hE hS (va_free hD hS hA [0, 1, 2, 3, 4, 5, 6, 7, 8, 9, 10, 11, 12, 13, 14, 15, 16, 17, 18, 19, 20, 21, 22, 23, 24, 25] rfl))) rfl rfl hl.1 rfl (lv_room (Nat.le_of_ble_eq_true rfl)) dX8_fault_52 ⟨Nat.le_of_ble_eq_true rfl, Nat.le_of_ble_eq_true rfl⟩) hP hD hS hA [0, 1, 2, 3, 4, 5, 6, 7, 8, 9, 10, 11, 12, 13, 14, 15, 16, 17, 18, 19, 20, 21, 22, 23, 24, 25] [] [0, 1, 2, 3, 4, 5, 6, 7, 8, 9, 10, 11, 12, 13, 14, 15, 16, 17, 18, 19, 20, 21, 22, 23, 24, 25] rfl rfl rfl (by decide) rfl rfl (fun H locs hP hD hS => ?_)
          refine lv_if_ne (tgt := 44) hx hb dX8_fault_55 (by decide) (fun hc_12 => ?_) (fun hc_12 => ?_)
          · have hM := it_p hc_12 hM
            have hR := som hM
            exact ih44 mO_8 mO64_9 (hbk44 _ hR) _ _ hP hD hS _ (lv_sub hl [0] rfl)
          · have hM := it_nn hc_12 hM
            have hR := som hM
            exact X44_0 mO_8 mO64_9 (hex44 _ hR).symm _ _ hP hD hS _ (lv_sub hl [0] rfl)
    exact I44 FU mO mO64 hit44 _ _ hP hD hS _ hl
  have N2 : ∀ (v1 : Int32) (mO : Mem) (mO64 : Lem), mX8_fault_L2 v1 mO mO64 = some res → ∀ (H : Heap) (locs : List Loc), va_P (dC, dI) vwCl (wO ct aO mO mO64) H → va_D A (wO ct aO mO mO64) → va_S A s.heap H locs → ∀ ls : Array Slot, lv_has ls 2 [(0, .ref (aO 0)), (1, .int v1)] → W p l e (headSpec wsX8_fault rmX8_fault).room s m args below meth c H locs 0 0 Q (F0 m 2 ls []) := by
    intro v1 mO mO64 hM H locs hP hD hS ls hl
    unfold mX8_fault_L2 at hM
    obtain ⟨ex2, hit2, hM⟩ := bn_some hM
    have X2_0 : ∀ (mO : Mem), ex2 = mO → ∀ (H : Heap) (locs : List Loc), va_P (dC, dI) vwCl (wO ct aO mO mO64) H → va_D A (wO ct aO mO mO64) → va_S A s.heap H locs → ∀ ls : Array Slot, lv_has ls 2 [(0, .ref (aO 0))] → W p l e (headSpec wsX8_fault rmX8_fault).room s m args below meth c H locs 0 0 Q (F0 m 20 ls []) := by
      intro mO hex H locs hP hD hS ls hl
      rw [hex] at hM
      have hM := nm_at (y := mO) rfl hM
      refine lv_aload_n hx hb dX8_fault_20 rfl (lv_at hl 0 rfl) ?_
      refine lv_iconst (v := 0) hx hb dX8_fault_21 (by decide) ?_
      refine pf_i (wf := fun z => (wO ct aO z mO64)) (m1 := upf mO 7 (0 : Int32)) hx hb hts iwX8_fault_X8 tyX8 tyX8_ok nmX8 hown hK hP hD hS 0 rfl rfl 7 (by decide) (hts _ (List.mem_of_getElem? (i := 2) rfl)) (fun _ h9 => h9) rfl rfl rfl (Nat.le_of_ble_eq_true rfl) dX8_fault_22 rfl (fun mO_13 emO_13 H locs hP hD hS => ?_)
      have hM := nm_at emO_13 hM
      refine lv_aload_n hx hb dX8_fault_25 rfl (lv_at hl 0 rfl) ?_
      refine lv_iconst (v := 0) hx hb dX8_fault_26 (by decide) ?_
      refine pf_i (wf := fun z => (wO ct aO z mO64)) (m1 := upf mO_13 10 (0 : Int32)) hx hb hts iwX8_fault_X8 tyX8 tyX8_ok nmX8 hown hK hP hD hS 0 rfl rfl 10 (by decide) (hts _ (List.mem_of_getElem? (i := 3) rfl)) (fun _ h9 => h9) rfl rfl rfl (Nat.le_of_ble_eq_true rfl) dX8_fault_27 rfl (fun mO_14 emO_14 H locs hP hD hS => ?_)
      have hM := nm_at emO_14 hM
      refine lv_aload_n hx hb dX8_fault_30 rfl (lv_at hl 0 rfl) ?_
      refine lv_iconst (v := 0) hx hb dX8_fault_31 (by decide) ?_
      refine pf_i (wf := fun z => (wO ct aO z mO64)) (m1 := upf mO_14 11 (0 : Int32)) hx hb hts iwX8_fault_X8 tyX8 tyX8_ok nmX8 hown hK hP hD hS 0 rfl rfl 11 (by decide) (hts _ (List.mem_of_getElem? (i := 4) rfl)) (fun _ h9 => h9) rfl rfl rfl (Nat.le_of_ble_eq_true rfl) dX8_fault_32 rfl (fun mO_15 emO_15 H locs hP hD hS => ?_)
      have hM := nm_at emO_15 hM
      refine lv_aload_n hx hb dX8_fault_35 rfl (lv_at hl 0 rfl) ?_
      refine lv_iconst (v := 0) hx hb dX8_fault_36 (by decide) ?_
      refine pf_i (wf := fun z => (wO ct aO z mO64)) (m1 := upf mO_15 2 (0 : Int32)) hx hb hts iwX8_fault_X8 tyX8 tyX8_ok nmX8 hown hK hP hD hS 0 rfl rfl 2 (by decide) (hts _ (List.mem_of_getElem? (i := 5) rfl)) (fun _ h9 => h9) rfl rfl rfl (Nat.le_of_ble_eq_true rfl) dX8_fault_37 rfl (fun mO_16 emO_16 H locs hP hD hS => ?_)
      have hM := nm_at emO_16 hM
      refine lv_aload_n hx hb dX8_fault_40 rfl (lv_at hl 0 rfl) ?_
      obtain ⟨q_20, hr_19, hM⟩ := bn_some hM
      obtain ⟨mO_17, mO64_18⟩ := q_20
      have hM := nm_at (y := mO_17) rfl hM
      have hM := nm_at (y := mO64_18) rfl hM
      refine gv_v (wn := (wO ct aO mO_17 mO64_18)) (va_runV (As := []) (rest := []) ⟨hx, hb, hml, hown, hts⟩ (kX8_leads l dC dI ct aO _ mO_16 mO64 _ hr_19) (cwV 0 hts gX8_fault_X8_leads rfl rfl rfl hvX8_leads ⟨Nat.le_of_ble_eq_true rfl, Nat.le_of_ble_eq_true rfl⟩) (preV_of E0_ok hK hP hD (is := [0, 1, 2, 3, 4, 5, 6, 7, 8, 9, 10, 11, 12, 13, 14, 15, 16, 17, 18, 19, 20, 21, 22, 23, 24, 25]) rfl rfl rfl (ci := 8) rfl 0 rfl e_0) rfl rfl hl.1 rfl (lv_room (Nat.le_of_ble_eq_true rfl)) dX8_fault_41 ⟨Nat.le_of_ble_eq_true rfl, Nat.le_of_ble_eq_true rfl⟩) hP hD hS hA [0, 1, 2, 3, 4, 5, 6, 7, 8, 9, 10, 11, 12, 13, 14, 15, 16, 17, 18, 19, 20, 21, 22, 23, 24, 25] [] [0, 1, 2, 3, 4, 5, 6, 7, 8, 9, 10, 11, 12, 13, 14, 15, 16, 17, 18, 19, 20, 21, 22, 23, 24, 25] rfl rfl rfl (by decide) rfl rfl (fun H locs hP hD hS => ?_)
      exact N44 mO_17 mO64_18 hM _ _ hP hD hS _ (lv_sub hl [0] rfl)
    have I2 : ∀ (n : Nat) (v1 : Int32) (mO : Mem), itr (fun q => mX8_fault_s2 mO64 q.1 q.2) n (v1, mO) = some ex2 → ∀ (H : Heap) (locs : List Loc), va_P (dC, dI) vwCl (wO ct aO mO mO64) H → va_D A (wO ct aO mO mO64) → va_S A s.heap H locs → ∀ ls : Array Slot, lv_has ls 2 [(0, .ref (aO 0)), (1, .int v1)] → W p l e (headSpec wsX8_fault rmX8_fault).room s m args below meth c H locs 0 0 Q (F0 m 2 ls []) := by
      intro n
      induction n with
      | zero => intro v1 mO hit; exact (itr_zero hit).elim
      | succ n ih2 =>
        intro v1 mO hit H locs hP hD hS ls hl
        obtain ⟨o2, hM, hbk2, hex2⟩ := itr_succ hit
        replace hM : mX8_fault_s2 mO64 v1 mO = some o2 := hM
        unfold mX8_fault_s2 at hM
        refine lv_iload_n hx hb dX8_fault_2 rfl (lv_at hl 1 rfl) ?_
        refine lv_iconst (v := 5) hx hb dX8_fault_3 (by decide) ?_
        refine lv_icmp_ge (tgt := 20) hx hb dX8_fault_4 (by decide) (fun hc_21 => ?_) (fun hc_21 => ?_)
        · have hM := it_p hc_21 hM
          have hR := som hM
          exact X2_0 mO (hex2 _ hR).symm _ _ hP hD hS _ (lv_sub hl [0] rfl)
        · have hM := it_n hc_21 hM
          refine lv_aload_n hx hb dX8_fault_7 rfl (lv_at hl 0 rfl) ?_
          refine va_get (D := (dC, dI)) (ci := 8) (v := .ref (aO 2)) (C := RX8) (T := TX8) (N := 45) hx hb hts iwX8_fault_X8 hown hK hP 0 rfl rfl 6 (by decide) (hts _ (List.mem_of_getElem? (i := 1) rfl)) (fun _ h9 => h9) rfl dX8_fault_8 ?_
          refine lv_iload_n hx hb dX8_fault_11 rfl (lv_at hl 1 rfl) ?_
          refine lv_iconst (v := -1) hx hb dX8_fault_12 (by decide) ?_
          obtain ⟨hi, hM⟩ := gi_some hM
          refine st_i (wf := fun z => (wO ct aO z mO64)) (m1 := upi mO 2 v1.toNatClampNeg (-1 : Int32)) hx hb hK hP hD hS 2 rfl hi dX8_fault_13 rfl (fun mO_22 emO_22 H locs hP hD hS => ?_)
          have hM := nm_at emO_22 hM
          obtain ⟨x_23, ex_23⟩ : ∃ y : Int32, y = (v1 + (1 : Int32)) := ⟨_, rfl⟩
          have hM := nm_at ex_23 hM
          refine lv_iinc (v := x_23) (lv' := [(1, .int x_23), (0, .ref (aO 0))]) hx hb dX8_fault_14 hl (k := 1) rfl (by rw [ex_23]; rfl) (by decide) rfl (fun ls hl => ?_)
          refine lv_goto (tgt := 2) hx hb dX8_fault_17 (by decide) ?_
          have hR := som hM
          exact ih2 x_23 mO_22 (hbk2 _ hR) _ _ hP hD hS _ (lv_sub hl [1, 0] rfl)
    exact I2 FU v1 mO hit2 _ _ hP hD hS _ hl
  refine lv_iconst (v := 0) hx hb dX8_fault_0 (by decide) ?_
  refine lv_istore_n (lv' := [(1, .int (0 : Int32)), (0, .ref (aO 0))]) hx hb dX8_fault_1 rfl hl (by decide) rfl (fun ls hl => ?_)
  exact N2 (0 : Int32) mO mO64 hM _ _ hP hD hS _ (lv_sub hl [1, 0] rfl)
abbrev rmX8_of : Room := { frames := 0, cells := 0, slots := 0, locals := 0 }
theorem iwX8_of_X8 : ∀ w ∈ wsX80, w ∈ wsX8_of := fun _ h => List.mem_cons_of_mem _ (List.mem_append_right _ (h))
set_option maxHeartbeats 4000000 in
set_option maxRecDepth 100000 in
theorem kX8_of (l : Launch) (dC : Nat → ClassId) (dI : Nat → Nat → Nat) (ct : Nat → ClassId) (aO : Nat → Nat) (sz : Nat) (mO : Mem) (mO64 : Lem) (v1 : Int32) (v2 : Int32) (res : Int32) (hM : mX8_of mO mO64 v1 v2 = some res) : Met l yX8_of wsX8_of rmX8_of (va_Pc [.ref (aO 0), .int v1, .int v2] (PB (dC, dI) ct E0 sz (wO ct aO mO mO64))) (Qi (dC, dI) ct (va_A (wO ct aO mO mO64) sz) res (wO ct aO mO mO64)) 0 0 (va_A (wO ct aO mO mO64) sz) := by
  refine Met.ofW (cc := cX8_of) (maxL := 3) (ret := (some .int)) (by decide) rfl ?_
  intro p e s m args below meth c s₁ B hml hv
  obtain ⟨hargs, hsz, hP, hK, hD0, hE⟩ := hv
  have hx := B.exec
  have hb := B.bytes
  have hr := B.returns
  have hts := atoms_spec (ws := wsX8_of) B.pre
  have hown : s.vm.findClass RX8 = some m.cls := findClass_of_methodNamed B.named
  have hlocks := B.notSynchronized
  clear B s₁
  subst hsz
  have hD := hD0.self (sz := s.heap.size)
  clear hD0
  generalize hAe : va_A (wO ct aO mO mO64) s.heap.size = A at hD hE ⊢
  have hA : ∀ q : Nat, s.heap.size ≤ q → A q := fun q h => by rw [← hAe]; exact Or.inr h
  clear hAe
  have hS : va_S A s.heap s.heap [] := va_S.rf
  refine cutQ (fun Q hQ => ?_)
  refine entryW (vs := [.ref (aO 0), .int v1, .int v2]) hargs (Nat.le_of_ble_eq_true rfl) (fun ls hl => ?_)
  replace hl : lv_has ls 3 [(0, .ref (aO 0)), (1, .int v1), (2, .int v2)] := hl
  unfold mX8_of at hM
  refine lv_aload_n hx hb dX8_of_0 rfl (lv_at hl 0 rfl) ?_
  refine va_get (D := (dC, dI)) (ci := 8) (v := .ref (aO 6)) (C := RX8) (T := TX8) (N := 45) hx hb hts iwX8_of_X8 hown hK hP 0 rfl rfl 19 (by decide) (hts _ (List.mem_of_getElem? (i := 1) rfl)) (fun _ h9 => h9) rfl dX8_of_1 ?_
  refine lv_bipush (v := 6) hx hb dX8_of_4 (by decide) ?_
  refine lv_iload_n hx hb dX8_of_6 rfl (lv_at hl 1 rfl) ?_
  refine lv_imul hx hb dX8_of_7 ?_
  refine lv_iload_n hx hb dX8_of_8 rfl (lv_at hl 2 rfl) ?_
  refine lv_iadd hx hb dX8_of_9 ?_
  obtain ⟨hi, hM⟩ := gi_some hM
  refine va_iald hx hb hK hP 6 0 rfl rfl hi dX8_of_10 ?_
  refine lv_topi (fun x_1 ex_1 => ?_)
  have hM := nm_at ex_1 hM
  have hR := som hM
  rw [hR] at hQ
  exact ret_i hQ hx hb hr hlocks hP hK hD hS dX8_of_11
abbrev rmX8_begins : Room := { frames := 1, cells := 0, slots := 0, locals := 22 }
theorem iwX8_begins_X8 : ∀ w ∈ wsX80, w ∈ wsX8_begins := fun _ h => List.mem_cons_of_mem _ (List.mem_append_right _ (h))
set_option maxHeartbeats 4000000 in
set_option maxRecDepth 100000 in
theorem kX8_begins (l : Launch) (dC : Nat → ClassId) (dI : Nat → Nat → Nat) (ct : Nat → ClassId) (aO : Nat → Nat) (sz : Nat) (mO : Mem) (mO64 : Lem) (res : Mem) (hM : mX8_begins mO mO64 = some res) : Met l yX8_begins wsX8_begins rmX8_begins (va_Pc [.ref (aO 0)] (PB (dC, dI) ct E0 sz (wO ct aO mO mO64))) (Qv (dC, dI) ct (va_A (wO ct aO mO mO64) sz) (wO ct aO res mO64)) 0 0 (va_A (wO ct aO mO mO64) sz) := by
  refine Met.ofW (cc := cX8_begins) (maxL := 2) (ret := none) (by decide) rfl ?_
  intro p e s m args below meth c s₁ B hml hv
  obtain ⟨hargs, hsz, hP, hK, hD0, hE⟩ := hv
  have hx := B.exec
  have hb := B.bytes
  have hr := B.returns
  have hts := atoms_spec (ws := wsX8_begins) B.pre
  have hown : s.vm.findClass RX8 = some m.cls := findClass_of_methodNamed B.named
  have hlocks := B.notSynchronized
  clear B s₁
  subst hsz
  have hD := hD0.self (sz := s.heap.size)
  clear hD0
  generalize hAe : va_A (wO ct aO mO mO64) s.heap.size = A at hD hE ⊢
  have hA : ∀ q : Nat, s.heap.size ≤ q → A q := fun q h => by rw [← hAe]; exact Or.inr h
  clear hAe
  have hS : va_S A s.heap s.heap [] := va_S.rf
  refine cutQ (fun Q hQ => ?_)
  refine entryW (vs := [.ref (aO 0)]) hargs (Nat.le_of_ble_eq_true rfl) (fun ls hl => ?_)
  replace hl : lv_has ls 2 [(0, .ref (aO 0))] := hl
  unfold mX8_begins at hM
  have N59 : ∀ (v1 : Int32) (mO : Mem), mX8_begins_L59 v1 mO mO64 = some res → ∀ (H : Heap) (locs : List Loc), va_P (dC, dI) vwCl (wO ct aO mO mO64) H → va_D A (wO ct aO mO mO64) → va_S A s.heap H locs → ∀ ls : Array Slot, lv_has ls 2 [(0, .ref (aO 0)), (1, .int v1)] → W p l e (headSpec wsX8_begins rmX8_begins).room s m args below meth c H locs 0 0 Q (F0 m 59 ls []) := by
    intro v1 mO hM H locs hP hD hS ls hl
    unfold mX8_begins_L59 at hM
    obtain ⟨ex59, hit59, hM⟩ := bn_some hM
    have X59_0 : ∀ (mO : Mem), ex59 = mO → ∀ (H : Heap) (locs : List Loc), va_P (dC, dI) vwCl (wO ct aO mO mO64) H → va_D A (wO ct aO mO mO64) → va_S A s.heap H locs → ∀ ls : Array Slot, lv_has ls 2 [] → W p l e (headSpec wsX8_begins rmX8_begins).room s m args below meth c H locs 0 0 Q (F0 m 83 ls []) := by
      intro mO hex H locs hP hD hS ls hl
      rw [hex] at hM
      have hM := nm_at (y := mO) rfl hM
      have hR := som hM
      rw [hR] at hQ
      exact ret_v hQ hx hb hr hlocks hP hK hD hS dX8_begins_83
    have I59 : ∀ (n : Nat) (v1 : Int32) (mO : Mem), itr (fun q => mX8_begins_s59 mO64 q.1 q.2) n (v1, mO) = some ex59 → ∀ (H : Heap) (locs : List Loc), va_P (dC, dI) vwCl (wO ct aO mO mO64) H → va_D A (wO ct aO mO mO64) → va_S A s.heap H locs → ∀ ls : Array Slot, lv_has ls 2 [(0, .ref (aO 0)), (1, .int v1)] → W p l e (headSpec wsX8_begins rmX8_begins).room s m args below meth c H locs 0 0 Q (F0 m 59 ls []) := by
      intro n
      induction n with
      | zero => intro v1 mO hit; exact (itr_zero hit).elim
      | succ n ih59 =>
        intro v1 mO hit H locs hP hD hS ls hl
        obtain ⟨o59, hM, hbk59, hex59⟩ := itr_succ hit
        replace hM : mX8_begins_s59 mO64 v1 mO = some o59 := hM
        unfold mX8_begins_s59 at hM
        refine lv_iload_n hx hb dX8_begins_59 rfl (lv_at hl 1 rfl) ?_
        refine lv_bipush (v := 40) hx hb dX8_begins_60 (by decide) ?_
        refine lv_icmp_ge (tgt := 83) hx hb dX8_begins_62 (by decide) (fun hc_1 => ?_) (fun hc_1 => ?_)
        · have hM := it_p hc_1 hM
          have hR := som hM
          exact X59_0 mO (hex59 _ hR).symm _ _ hP hD hS _ (lv_sub hl [] rfl)
        · have hM := it_n hc_1 hM
          refine lv_aload_n hx hb dX8_begins_65 rfl (lv_at hl 0 rfl) ?_
          refine va_get (D := (dC, dI)) (ci := 8) (v := .ref (aO 10)) (C := RX8) (T := TX8) (N := 45) hx hb hts iwX8_begins_X8 hown hK hP 0 rfl rfl 26 (by decide) (hts _ (List.mem_of_getElem? (i := 5) rfl)) (fun _ h9 => h9) rfl dX8_begins_66 ?_
          refine lv_bipush (v := 6) hx hb dX8_begins_69 (by decide) ?_
          refine lv_iload_n hx hb dX8_begins_71 rfl (lv_at hl 1 rfl) ?_
          refine lv_imul hx hb dX8_begins_72 ?_
          refine lv_iconst (v := 3) hx hb dX8_begins_73 (by decide) ?_
          refine lv_iadd hx hb dX8_begins_74 ?_
          refine lv_iconst (v := 0) hx hb dX8_begins_75 (by decide) ?_
          obtain ⟨hi, hM⟩ := gi_some hM
          refine st_i (wf := fun z => (wO ct aO z mO64)) (m1 := upi mO 10 (((6 : Int32) * v1) + (3 : Int32)).toNatClampNeg (0 : Int32)) hx hb hK hP hD hS 10 rfl hi dX8_begins_76 rfl (fun mO_2 emO_2 H locs hP hD hS => ?_)
          have hM := nm_at emO_2 hM
          obtain ⟨x_3, ex_3⟩ : ∃ y : Int32, y = (v1 + (1 : Int32)) := ⟨_, rfl⟩
          have hM := nm_at ex_3 hM
          refine lv_iinc (v := x_3) (lv' := [(1, .int x_3), (0, .ref (aO 0))]) hx hb dX8_begins_77 hl (k := 1) rfl (by rw [ex_3]; rfl) (by decide) rfl (fun ls hl => ?_)
          refine lv_goto (tgt := 59) hx hb dX8_begins_80 (by decide) ?_
          have hR := som hM
          exact ih59 x_3 mO_2 (hbk59 _ hR) _ _ hP hD hS _ (lv_sub hl [1, 0] rfl)
    exact I59 FU v1 mO hit59 _ _ hP hD hS _ hl
  have N7 : ∀ (v1 : Int32) (mO : Mem), mX8_begins_L7 v1 mO mO64 = some res → ∀ (H : Heap) (locs : List Loc), va_P (dC, dI) vwCl (wO ct aO mO mO64) H → va_D A (wO ct aO mO mO64) → va_S A s.heap H locs → ∀ ls : Array Slot, lv_has ls 2 [(0, .ref (aO 0)), (1, .int v1)] → W p l e (headSpec wsX8_begins rmX8_begins).room s m args below meth c H locs 0 0 Q (F0 m 7 ls []) := by
    intro v1 mO hM H locs hP hD hS ls hl
    unfold mX8_begins_L7 at hM
    obtain ⟨ex7, hit7, hM⟩ := bn_some hM
    have X7_0 : ∀ (mO : Mem), ex7 = mO → ∀ (H : Heap) (locs : List Loc), va_P (dC, dI) vwCl (wO ct aO mO mO64) H → va_D A (wO ct aO mO mO64) → va_S A s.heap H locs → ∀ ls : Array Slot, lv_has ls 2 [(0, .ref (aO 0))] → W p l e (headSpec wsX8_begins rmX8_begins).room s m args below meth c H locs 0 0 Q (F0 m 57 ls []) := by
      intro mO hex H locs hP hD hS ls hl
      rw [hex] at hM
      have hM := nm_at (y := mO) rfl hM
      refine lv_iconst (v := 0) hx hb dX8_begins_57 (by decide) ?_
      refine lv_istore_n (lv' := [(1, .int (0 : Int32)), (0, .ref (aO 0))]) hx hb dX8_begins_58 rfl hl (by decide) rfl (fun ls hl => ?_)
      exact N59 (0 : Int32) mO hM _ _ hP hD hS _ (lv_sub hl [1, 0] rfl)
    have I7 : ∀ (n : Nat) (v1 : Int32) (mO : Mem), itr (fun q => mX8_begins_s7 mO64 q.1 q.2) n (v1, mO) = some ex7 → ∀ (H : Heap) (locs : List Loc), va_P (dC, dI) vwCl (wO ct aO mO mO64) H → va_D A (wO ct aO mO mO64) → va_S A s.heap H locs → ∀ ls : Array Slot, lv_has ls 2 [(0, .ref (aO 0)), (1, .int v1)] → W p l e (headSpec wsX8_begins rmX8_begins).room s m args below meth c H locs 0 0 Q (F0 m 7 ls []) := by
      intro n
      induction n with
      | zero => intro v1 mO hit; exact (itr_zero hit).elim
      | succ n ih7 =>
        intro v1 mO hit H locs hP hD hS ls hl
        obtain ⟨o7, hM, hbk7, hex7⟩ := itr_succ hit
        replace hM : mX8_begins_s7 mO64 v1 mO = some o7 := hM
        have N43 : ∀ (v1 : Int32) (t1 : Int32) (t2 : Int32) (mO : Mem), mX8_begins_j43 v1 t1 t2 mO mO64 = some o7 → ∀ (H : Heap) (locs : List Loc), va_P (dC, dI) vwCl (wO ct aO mO mO64) H → va_D A (wO ct aO mO mO64) → va_S A s.heap H locs → ∀ ls : Array Slot, lv_has ls 2 [(0, .ref (aO 0)), (1, .int v1)] → W p l e (headSpec wsX8_begins rmX8_begins).room s m args below meth c H locs 0 0 Q (F0 m 43 ls [.int t2, .int t1, .ref (aO 8)]) := by
          intro v1 t1 t2 mO hM H locs hP hD hS ls hl
          unfold mX8_begins_j43 at hM
          obtain ⟨hi, hM⟩ := gi_some hM
          refine st_i (wf := fun z => (wO ct aO z mO64)) (m1 := upi mO 8 t1.toNatClampNeg t2) hx hb hK hP hD hS 8 rfl hi dX8_begins_43 rfl (fun mO_4 emO_4 H locs hP hD hS => ?_)
          have hM := nm_at emO_4 hM
          refine lv_aload_n hx hb dX8_begins_44 rfl (lv_at hl 0 rfl) ?_
          refine va_get (D := (dC, dI)) (ci := 8) (v := .ref (aO 9)) (C := RX8) (T := TX8) (N := 45) hx hb hts iwX8_begins_X8 hown hK hP 0 rfl rfl 25 (by decide) (hts _ (List.mem_of_getElem? (i := 4) rfl)) (fun _ h9 => h9) rfl dX8_begins_45 ?_
          refine lv_iload_n hx hb dX8_begins_48 rfl (lv_at hl 1 rfl) ?_
          refine lv_iconst (v := 0) hx hb dX8_begins_49 (by decide) ?_
          obtain ⟨hi, hM⟩ := gi_some hM
          refine st_i (wf := fun z => (wO ct aO z mO64)) (m1 := upi mO_4 9 v1.toNatClampNeg (0 : Int32)) hx hb hK hP hD hS 9 rfl hi dX8_begins_50 rfl (fun mO_5 emO_5 H locs hP hD hS => ?_)
          have hM := nm_at emO_5 hM
          obtain ⟨x_6, ex_6⟩ : ∃ y : Int32, y = (v1 + (1 : Int32)) := ⟨_, rfl⟩
          have hM := nm_at ex_6 hM
          refine lv_iinc (v := x_6) (lv' := [(1, .int x_6), (0, .ref (aO 0))]) hx hb dX8_begins_51 hl (k := 1) rfl (by rw [ex_6]; rfl) (by decide) rfl (fun ls hl => ?_)
          refine lv_goto (tgt := 7) hx hb dX8_begins_54 (by decide) ?_
          have hR := som hM
          exact ih7 x_6 mO_5 (hbk7 _ hR) _ _ hP hD hS _ (lv_sub hl [1, 0] rfl)
        unfold mX8_begins_s7 at hM
        refine lv_iload_n hx hb dX8_begins_7 rfl (lv_at hl 1 rfl) ?_
        refine lv_bipush (v := 6) hx hb dX8_begins_8 (by decide) ?_
        refine lv_icmp_ge (tgt := 57) hx hb dX8_begins_10 (by decide) (fun hc_7 => ?_) (fun hc_7 => ?_)
        · have hM := it_p hc_7 hM
          have hR := som hM
          exact X7_0 mO (hex7 _ hR).symm _ _ hP hD hS _ (lv_sub hl [0] rfl)
        · have hM := it_n hc_7 hM
          refine lv_aload_n hx hb dX8_begins_13 rfl (lv_at hl 0 rfl) ?_
          refine va_get (D := (dC, dI)) (ci := 8) (v := .ref (aO 8)) (C := RX8) (T := TX8) (N := 45) hx hb hts iwX8_begins_X8 hown hK hP 0 rfl rfl 24 (by decide) (hts _ (List.mem_of_getElem? (i := 2) rfl)) (fun _ h9 => h9) rfl dX8_begins_14 ?_
          refine lv_iload_n hx hb dX8_begins_17 rfl (lv_at hl 1 rfl) ?_
          refine lv_iload_n hx hb dX8_begins_18 rfl (lv_at hl 1 rfl) ?_
          refine lv_aload_n hx hb dX8_begins_19 rfl (lv_at hl 0 rfl) ?_
          refine va_get (D := (dC, dI)) (ci := 8) (v := .int (mO 0 18)) (C := RX8) (T := TX8) (N := 45) hx hb hts iwX8_begins_X8 hown hK hP 0 rfl rfl 18 (by decide) (hts _ (List.mem_of_getElem? (i := 3) rfl)) (fun _ h9 => h9) rfl dX8_begins_20 ?_
          refine lv_icmp_ge (tgt := 42) hx hb dX8_begins_23 (by decide) (fun hc_8 => ?_) (fun hc_8 => ?_)
          · have hM := it_p hc_8 hM
            refine lv_iconst (v := 0) hx hb dX8_begins_42 (by decide) ?_
            exact N43 v1 v1 (0 : Int32) mO hM _ _ hP hD hS _ (lv_sub hl [0, 1] rfl)
          · have hM := it_n hc_8 hM
            refine lv_aload_n hx hb dX8_begins_26 rfl (lv_at hl 0 rfl) ?_
            refine lv_iload_n hx hb dX8_begins_27 rfl (lv_at hl 1 rfl) ?_
            refine lv_iconst (v := 0) hx hb dX8_begins_28 (by decide) ?_
            obtain ⟨x_9, hr_10, hM⟩ := bn_some hM
            refine gv_i (r0 := x_9) (wn := (wO ct aO mO mO64)) (va_runV (As := [.int v1, .int (0 : Int32)]) (rest := [.int v1, .ref (aO 8)]) ⟨hx, hb, hml, hown, hts⟩ (kX8_of l dC dI ct aO _ mO mO64 v1 (0 : Int32) _ hr_10) (cwV 2 hts gX8_begins_X8_of rfl rfl rfl hvX8_of ⟨Nat.le_of_ble_eq_true rfl, Nat.le_of_ble_eq_true rfl⟩) (preV_of E0_ok hK hP hD (is := [0, 1, 2, 3, 4, 5, 6, 7, 8, 9, 10, 11, 12, 13, 14, 15, 16, 17, 18, 19, 20, 21, 22, 23, 24, 25]) rfl rfl rfl (ci := 8) rfl 0 rfl e_0) rfl rfl hl.1 rfl (lv_room (Nat.le_of_ble_eq_true rfl)) dX8_begins_29 ⟨Nat.le_of_ble_eq_true rfl, Nat.le_of_ble_eq_true rfl⟩) hP hD hS hA [0, 1, 2, 3, 4, 5, 6, 7, 8, 9, 10, 11, 12, 13, 14, 15, 16, 17, 18, 19, 20, 21, 22, 23, 24, 25] [] [0, 1, 2, 3, 4, 5, 6, 7, 8, 9, 10, 11, 12, 13, 14, 15, 16, 17, 18, 19, 20, 21, 22, 23, 24, 25] rfl rfl rfl (by decide) rfl rfl (fun H locs hP hD hS => ?_)
            refine lv_aload_n hx hb dX8_begins_32 rfl (lv_at hl 0 rfl) ?_
            refine lv_iload_n hx hb dX8_begins_33 rfl (lv_at hl 1 rfl) ?_
            refine lv_iconst (v := 1) hx hb dX8_begins_34 (by decide) ?_
            obtain ⟨x_12, hr_13, hM⟩ := bn_some hM
            refine gv_i (r0 := x_12) (wn := (wO ct aO mO mO64)) (va_runV (As := [.int v1, .int (1 : Int32)]) (rest := [.int x_9, .int v1, .ref (aO 8)]) ⟨hx, hb, hml, hown, hts⟩ (kX8_of l dC dI ct aO _ mO mO64 v1 (1 : Int32) _ hr_13) (cwV 2 hts gX8_begins_X8_of rfl rfl rfl hvX8_of ⟨Nat.le_of_ble_eq_true rfl, Nat.le_of_ble_eq_true rfl⟩) (preV_of E0_ok hK hP hD (is := [0, 1, 2, 3, 4, 5, 6, 7, 8, 9, 10, 11, 12, 13, 14, 15, 16, 17, 18, 19, 20, 21, 22, 23, 24, 25]) rfl rfl rfl (ci := 8) rfl 0 rfl e_0) rfl rfl hl.1 rfl (lv_room (Nat.le_of_ble_eq_true rfl)) dX8_begins_35 ⟨Nat.le_of_ble_eq_true rfl, Nat.le_of_ble_eq_true rfl⟩) hP hD hS hA [0, 1, 2, 3, 4, 5, 6, 7, 8, 9, 10, 11, 12, 13, 14, 15, 16, 17, 18, 19, 20, 21, 22, 23, 24, 25] [] [0, 1, 2, 3, 4, 5, 6, 7, 8, 9, 10, 11, 12, 13, 14, 15, 16, 17, 18, 19, 20, 21, 22, 23, 24, 25] rfl rfl rfl (by decide) rfl rfl (fun H locs hP hD hS => ?_)
            refine lv_imul hx hb dX8_begins_38 ?_
            refine lv_goto (tgt := 43) hx hb dX8_begins_39 (by decide) ?_
            exact N43 v1 v1 (x_9 * x_12) mO hM _ _ hP hD hS _ (lv_sub hl [0, 1] rfl)
    exact I7 FU v1 mO hit7 _ _ hP hD hS _ hl
  refine lv_aload_n hx hb dX8_begins_0 rfl (lv_at hl 0 rfl) ?_
  refine lv_iconst (v := 0) hx hb dX8_begins_1 (by decide) ?_
  refine pf_i (wf := fun z => (wO ct aO z mO64)) (m1 := upf mO 23 (0 : Int32)) hx hb hts iwX8_begins_X8 tyX8 tyX8_ok nmX8 hown hK hP hD hS 0 rfl rfl 23 (by decide) (hts _ (List.mem_of_getElem? (i := 1) rfl)) (fun _ h9 => h9) rfl rfl rfl (Nat.le_of_ble_eq_true rfl) dX8_begins_2 rfl (fun mO_15 emO_15 H locs hP hD hS => ?_)
  have hM := nm_at emO_15 hM
  refine lv_iconst (v := 0) hx hb dX8_begins_5 (by decide) ?_
  refine lv_istore_n (lv' := [(1, .int (0 : Int32)), (0, .ref (aO 0))]) hx hb dX8_begins_6 rfl hl (by decide) rfl (fun ls hl => ?_)
  exact N7 (0 : Int32) mO_15 hM _ _ hP hD hS _ (lv_sub hl [1, 0] rfl)
abbrev rmX8_land : Room := { frames := 11, cells := 0, slots := 0, locals := 231 }
theorem iwX8_land_X8 : ∀ w ∈ wsX80, w ∈ wsX8_land := fun _ h => List.mem_cons_of_mem _ (List.mem_append_right _ (h))
set_option maxHeartbeats 4000000 in
set_option maxRecDepth 100000 in
theorem kX8_land (l : Launch) (dC : Nat → ClassId) (dI : Nat → Nat → Nat) (ct : Nat → ClassId) (aO : Nat → Nat) (adK adV : Nat → Nat) (sz : Nat) (mO : Mem) (mO64 : Lem) (res : (Int32 × Mem × Lem)) (hM : mX8_land mO mO64 = some res) : Met l yX8_land wsX8_land rmX8_land (va_Pc [.ref (aO 0)] (PB (dC, dI) ct (EV adK adV) sz (wO ct aO mO mO64))) (Qi (dC, dI) ct (va_A (wO ct aO mO mO64) sz) res.1 (wO ct aO res.2.1 res.2.2)) 0 0 (va_A (wO ct aO mO mO64) sz) := by
  refine Met.ofW (cc := cX8_land) (maxL := 2) (ret := (some .int)) (by decide) rfl ?_
  intro p e s m args below meth c s₁ B hml hv
  obtain ⟨hargs, hsz, hP, hK, hD0, hE⟩ := hv
  have hx := B.exec
  have hb := B.bytes
  have hr := B.returns
  have hts := atoms_spec (ws := wsX8_land) B.pre
  have hown : s.vm.findClass RX8 = some m.cls := findClass_of_methodNamed B.named
  have hlocks := B.notSynchronized
  clear B s₁
  subst hsz
  have hD := hD0.self (sz := s.heap.size)
  clear hD0
  generalize hAe : va_A (wO ct aO mO mO64) s.heap.size = A at hD hE ⊢
  have hA : ∀ q : Nat, s.heap.size ≤ q → A q := fun q h => by rw [← hAe]; exact Or.inr h
  clear hAe
  have hS : va_S A s.heap s.heap [] := va_S.rf
  refine cutQ (fun Q hQ => ?_)
  refine entryW (vs := [.ref (aO 0)]) hargs (Nat.le_of_ble_eq_true rfl) (fun ls hl => ?_)
  replace hl : lv_has ls 2 [(0, .ref (aO 0))] := hl
  unfold mX8_land at hM
  have N195 : ∀ (v1 : Int32) (mO : Mem) (mO64 : Lem), mX8_land_L195 v1 mO mO64 = some res → ∀ (H : Heap) (locs : List Loc), va_P (dC, dI) vwCl (wO ct aO mO mO64) H → va_D A (wO ct aO mO mO64) → va_S A s.heap H locs → ∀ ls : Array Slot, lv_has ls 2 [(0, .ref (aO 0)), (1, .int v1)] → W p l e (headSpec wsX8_land rmX8_land).room s m args below meth c H locs 0 0 Q (F0 m 195 ls []) := by
    intro v1 mO mO64 hM H locs hP hD hS ls hl
    unfold mX8_land_L195 at hM
    obtain ⟨ex195, hit195, hM⟩ := bn_some hM
    have X195_0 : ∀ (mO : Mem), ex195 = mO → ∀ (H : Heap) (locs : List Loc), va_P (dC, dI) vwCl (wO ct aO mO mO64) H → va_D A (wO ct aO mO mO64) → va_S A s.heap H locs → ∀ ls : Array Slot, lv_has ls 2 [(0, .ref (aO 0))] → W p l e (headSpec wsX8_land rmX8_land).room s m args below meth c H locs 0 0 Q (F0 m 213 ls []) := by
      intro mO hex H locs hP hD hS ls hl
      rw [hex] at hM
      have hM := nm_at (y := mO) rfl hM
      refine lv_aload_n hx hb dX8_land_213 rfl (lv_at hl 0 rfl) ?_
      refine lv_iconst (v := 0) hx hb dX8_land_214 (by decide) ?_
      refine pf_i (wf := fun z => (wO ct aO z mO64)) (m1 := upf mO 1 (0 : Int32)) hx hb hts iwX8_land_X8 tyX8 tyX8_ok nmX8 hown hK hP hD hS 0 rfl rfl 1 (by decide) (hts _ (List.mem_of_getElem? (i := 20) rfl)) (fun _ h9 => h9) rfl rfl rfl (Nat.le_of_ble_eq_true rfl) dX8_land_215 rfl (fun mO_1 emO_1 H locs hP hD hS => ?_)
      have hM := nm_at emO_1 hM
      refine lv_aload_n hx hb dX8_land_218 rfl (lv_at hl 0 rfl) ?_
      refine va_get (D := (dC, dI)) (ci := 8) (v := .int (mO_1 0 18)) (C := RX8) (T := TX8) (N := 45) hx hb hts iwX8_land_X8 hown hK hP 0 rfl rfl 18 (by decide) (hts _ (List.mem_of_getElem? (i := 8) rfl)) (fun _ h9 => h9) rfl dX8_land_219 ?_
      refine lv_topi (fun x_2 ex_2 => ?_)
      have hM := nm_at ex_2 hM
      have hR := som hM
      rw [hR] at hQ
      exact ret_i hQ hx hb hr hlocks hP hK hD hS dX8_land_222
    have I195 : ∀ (n : Nat) (v1 : Int32) (mO : Mem), itr (fun q => mX8_land_s195 mO64 q.1 q.2) n (v1, mO) = some ex195 → ∀ (H : Heap) (locs : List Loc), va_P (dC, dI) vwCl (wO ct aO mO mO64) H → va_D A (wO ct aO mO mO64) → va_S A s.heap H locs → ∀ ls : Array Slot, lv_has ls 2 [(0, .ref (aO 0)), (1, .int v1)] → W p l e (headSpec wsX8_land rmX8_land).room s m args below meth c H locs 0 0 Q (F0 m 195 ls []) := by
      intro n
      induction n with
      | zero => intro v1 mO hit; exact (itr_zero hit).elim
      | succ n ih195 =>
        intro v1 mO hit H locs hP hD hS ls hl
        obtain ⟨o195, hM, hbk195, hex195⟩ := itr_succ hit
        replace hM : mX8_land_s195 mO64 v1 mO = some o195 := hM
        unfold mX8_land_s195 at hM
        refine lv_iload_n hx hb dX8_land_195 rfl (lv_at hl 1 rfl) ?_
        refine lv_iconst (v := 3) hx hb dX8_land_196 (by decide) ?_
        refine lv_icmp_ge (tgt := 213) hx hb dX8_land_197 (by decide) (fun hc_3 => ?_) (fun hc_3 => ?_)
        · have hM := it_p hc_3 hM
          have hR := som hM
          exact X195_0 mO (hex195 _ hR).symm _ _ hP hD hS _ (lv_sub hl [0] rfl)
        · have hM := it_n hc_3 hM
          refine lv_aload_n hx hb dX8_land_200 rfl (lv_at hl 0 rfl) ?_
          refine va_get (D := (dC, dI)) (ci := 8) (v := .ref (aO 12)) (C := RX8) (T := TX8) (N := 45) hx hb hts iwX8_land_X8 hown hK hP 0 rfl rfl 30 (by decide) (hts _ (List.mem_of_getElem? (i := 19) rfl)) (fun _ h9 => h9) rfl dX8_land_201 ?_
          refine lv_iload_n hx hb dX8_land_204 rfl (lv_at hl 1 rfl) ?_
          refine lv_iconst (v := 0) hx hb dX8_land_205 (by decide) ?_
          obtain ⟨hi, hM⟩ := gi_some hM
          refine st_z (wf := fun z => (wO ct aO z mO64)) (m1 := upi mO 12 v1.toNatClampNeg (0 : Int32)) hx hb hK hP hD hS 12 rfl hi dX8_land_206 rfl (fun mO_4 emO_4 H locs hP hD hS => ?_)
          have hM := nm_at emO_4 hM
          obtain ⟨x_5, ex_5⟩ : ∃ y : Int32, y = (v1 + (1 : Int32)) := ⟨_, rfl⟩
          have hM := nm_at ex_5 hM
          refine lv_iinc (v := x_5) (lv' := [(1, .int x_5), (0, .ref (aO 0))]) hx hb dX8_land_207 hl (k := 1) rfl (by rw [ex_5]; rfl) (by decide) rfl (fun ls hl => ?_)
          refine lv_goto (tgt := 195) hx hb dX8_land_210 (by decide) ?_
          have hR := som hM
          exact ih195 x_5 mO_4 (hbk195 _ hR) _ _ hP hD hS _ (lv_sub hl [1, 0] rfl)
    exact I195 FU v1 mO hit195 _ _ hP hD hS _ hl
  have N155 : ∀ (v1 : Int32) (mO : Mem) (mO64 : Lem), mX8_land_L155 v1 mO mO64 = some res → ∀ (H : Heap) (locs : List Loc), va_P (dC, dI) vwCl (wO ct aO mO mO64) H → va_D A (wO ct aO mO mO64) → va_S A s.heap H locs → ∀ ls : Array Slot, lv_has ls 2 [(0, .ref (aO 0)), (1, .int v1)] → W p l e (headSpec wsX8_land rmX8_land).room s m args below meth c H locs 0 0 Q (F0 m 155 ls []) := by
    intro v1 mO mO64 hM H locs hP hD hS ls hl
    unfold mX8_land_L155 at hM
    obtain ⟨ex155, hit155, hM⟩ := bn_some hM
    have X155_0 : ∀ (mO : Mem), ex155 = mO → ∀ (H : Heap) (locs : List Loc), va_P (dC, dI) vwCl (wO ct aO mO mO64) H → va_D A (wO ct aO mO mO64) → va_S A s.heap H locs → ∀ ls : Array Slot, lv_has ls 2 [(0, .ref (aO 0))] → W p l e (headSpec wsX8_land rmX8_land).room s m args below meth c H locs 0 0 Q (F0 m 179 ls []) := by
      intro mO hex H locs hP hD hS ls hl
      rw [hex] at hM
      have hM := nm_at (y := mO) rfl hM
      refine lv_aload_n hx hb dX8_land_179 rfl (lv_at hl 0 rfl) ?_
      obtain ⟨mO_6, hr_7, hM⟩ := bn_some hM
      refine gv_v (wn := (wO ct aO mO_6 mO64)) (va_runV (As := []) (rest := []) ⟨hx, hb, hml, hown, hts⟩ (kX8_begins l dC dI ct aO _ mO mO64 _ hr_7) (cwV 0 hts gX8_land_X8_begins rfl rfl rfl hvX8_begins ⟨Nat.le_of_ble_eq_true rfl, Nat.le_of_ble_eq_true rfl⟩) (preV_of E0_ok hK hP hD (is := [0, 1, 2, 3, 4, 5, 6, 7, 8, 9, 10, 11, 12, 13, 14, 15, 16, 17, 18, 19, 20, 21, 22, 23, 24, 25]) rfl rfl rfl (ci := 8) rfl 0 rfl e_0) rfl rfl hl.1 rfl (lv_room (Nat.le_of_ble_eq_true rfl)) dX8_land_180 ⟨Nat.le_of_ble_eq_true rfl, Nat.le_of_ble_eq_true rfl⟩) hP hD hS hA [0, 1, 2, 3, 4, 5, 6, 7, 8, 9, 10, 11, 12, 13, 14, 15, 16, 17, 18, 19, 20, 21, 22, 23, 24, 25] [] [0, 1, 2, 3, 4, 5, 6, 7, 8, 9, 10, 11, 12, 13, 14, 15, 16, 17, 18, 19, 20, 21, 22, 23, 24, 25] rfl rfl rfl (by decide) rfl rfl (fun H locs hP hD hS => ?_)
      refine lv_aload_n hx hb dX8_land_183 rfl (lv_at hl 0 rfl) ?_
      refine lv_lconst (v := 0) hx hb dX8_land_184 (by decide) ?_
      refine pf_i (wf := fun z => (wO ct aO mO_6 z)) (m1 := upfL mO64 27 (0 : Int64)) hx hb hts iwX8_land_X8 tyX8 tyX8_ok nmX8 hown hK hP hD hS 0 rfl rfl 27 (by decide) (hts _ (List.mem_of_getElem? (i := 17) rfl)) (fun _ h9 => h9) rfl rfl rfl (Nat.le_of_ble_eq_true rfl) dX8_land_185 rfl (fun mO64_9 emO64_9 H locs hP hD hS => ?_)
      have hM := nm_at emO64_9 hM
      refine lv_aload_n hx hb dX8_land_188 rfl (lv_at hl 0 rfl) ?_
      refine lv_iconst (v := 0) hx hb dX8_land_189 (by decide) ?_
      refine pf_i (wf := fun z => (wO ct aO z mO64_9)) (m1 := upf mO_6 28 (0 : Int32)) hx hb hts iwX8_land_X8 tyX8 tyX8_ok nmX8 hown hK hP hD hS 0 rfl rfl 28 (by decide) (hts _ (List.mem_of_getElem? (i := 18) rfl)) (fun _ h9 => h9) rfl rfl rfl (Nat.le_of_ble_eq_true rfl) dX8_land_190 rfl (fun mO_10 emO_10 H locs hP hD hS => ?_)
      have hM := nm_at emO_10 hM
      refine lv_iconst (v := 0) hx hb dX8_land_193 (by decide) ?_
      refine lv_istore_n (lv' := [(1, .int (0 : Int32)), (0, .ref (aO 0))]) hx hb dX8_land_194 rfl hl (by decide) rfl (fun ls hl => ?_)
      exact N195 (0 : Int32) mO_10 mO64_9 hM _ _ hP hD hS _ (lv_sub hl [1, 0] rfl)
    have I155 : ∀ (n : Nat) (v1 : Int32) (mO : Mem), itr (fun q => mX8_land_s155 mO64 q.1 q.2) n (v1, mO) = some ex155 → ∀ (H : Heap) (locs : List Loc), va_P (dC, dI) vwCl (wO ct aO mO mO64) H → va_D A (wO ct aO mO mO64) → va_S A s.heap H locs → ∀ ls : Array Slot, lv_has ls 2 [(0, .ref (aO 0)), (1, .int v1)] → W p l e (headSpec wsX8_land rmX8_land).room s m args below meth c H locs 0 0 Q (F0 m 155 ls []) := by
      intro n
      induction n with
      | zero => intro v1 mO hit; exact (itr_zero hit).elim
      | succ n ih155 =>
        intro v1 mO hit H locs hP hD hS ls hl
        obtain ⟨o155, hM, hbk155, hex155⟩ := itr_succ hit
        replace hM : mX8_land_s155 mO64 v1 mO = some o155 := hM
        unfold mX8_land_s155 at hM
        refine lv_iload_n hx hb dX8_land_155 rfl (lv_at hl 1 rfl) ?_
        refine lv_bipush (v := 36) hx hb dX8_land_156 (by decide) ?_
        refine lv_icmp_ge (tgt := 179) hx hb dX8_land_158 (by decide) (fun hc_11 => ?_) (fun hc_11 => ?_)
        · have hM := it_p hc_11 hM
          have hR := som hM
          exact X155_0 mO (hex155 _ hR).symm _ _ hP hD hS _ (lv_sub hl [0] rfl)
        · have hM := it_n hc_11 hM
          refine lv_aload_n hx hb dX8_land_161 rfl (lv_at hl 0 rfl) ?_
          refine va_get (D := (dC, dI)) (ci := 8) (v := .ref (aO 7)) (C := RX8) (T := TX8) (N := 45) hx hb hts iwX8_land_X8 hown hK hP 0 rfl rfl 22 (by decide) (hts _ (List.mem_of_getElem? (i := 15) rfl)) (fun _ h9 => h9) rfl dX8_land_162 ?_
          refine lv_iload_n hx hb dX8_land_165 rfl (lv_at hl 1 rfl) ?_
          refine lv_aload_n hx hb dX8_land_166 rfl (lv_at hl 0 rfl) ?_
          refine va_get (D := (dC, dI)) (ci := 8) (v := .ref (aO 5)) (C := RX8) (T := TX8) (N := 45) hx hb hts iwX8_land_X8 hown hK hP 0 rfl rfl 12 (by decide) (hts _ (List.mem_of_getElem? (i := 16) rfl)) (fun _ h9 => h9) rfl dX8_land_167 ?_
          refine lv_iload_n hx hb dX8_land_170 rfl (lv_at hl 1 rfl) ?_
          obtain ⟨hi, hM⟩ := gi_some hM
          refine va_iald hx hb hK hP 5 0 rfl rfl hi dX8_land_171 ?_
          obtain ⟨hi, hM⟩ := gi_some hM
          refine st_i (wf := fun z => (wO ct aO z mO64)) (m1 := upi mO 7 v1.toNatClampNeg (mO 5 v1.toNatClampNeg)) hx hb hK hP hD hS 7 rfl hi dX8_land_172 rfl (fun mO_12 emO_12 H locs hP hD hS => ?_)
          have hM := nm_at emO_12 hM
          obtain ⟨x_13, ex_13⟩ : ∃ y : Int32, y = (v1 + (1 : Int32)) := ⟨_, rfl⟩
          have hM := nm_at ex_13 hM
          refine lv_iinc (v := x_13) (lv' := [(1, .int x_13), (0, .ref (aO 0))]) hx hb dX8_land_173 hl (k := 1) rfl (by rw [ex_13]; rfl) (by decide) rfl (fun ls hl => ?_)
          refine lv_goto (tgt := 155) hx hb dX8_land_176 (by decide) ?_
          have hR := som hM
          exact ih155 x_13 mO_12 (hbk155 _ hR) _ _ hP hD hS _ (lv_sub hl [1, 0] rfl)
    exact I155 FU v1 mO hit155 _ _ hP hD hS _ hl
  have N113 : ∀ (v1 : Int32) (mO : Mem) (mO64 : Lem), mX8_land_L113 v1 mO mO64 = some res → ∀ (H : Heap) (locs : List Loc), va_P (dC, dI) vwCl (wO ct aO mO mO64) H → va_D A (wO ct aO mO mO64) → va_S A s.heap H locs → ∀ ls : Array Slot, lv_has ls 2 [(0, .ref (aO 0)), (1, .int v1)] → W p l e (headSpec wsX8_land rmX8_land).room s m args below meth c H locs 0 0 Q (F0 m 113 ls []) := by
    intro v1 mO mO64 hM H locs hP hD hS ls hl
    unfold mX8_land_L113 at hM
    obtain ⟨ex113, hit113, hM⟩ := bn_some hM
    have X113_0 : ∀ (mO : Mem), ex113 = mO → ∀ (H : Heap) (locs : List Loc), va_P (dC, dI) vwCl (wO ct aO mO mO64) H → va_D A (wO ct aO mO mO64) → va_S A s.heap H locs → ∀ ls : Array Slot, lv_has ls 2 [(0, .ref (aO 0))] → W p l e (headSpec wsX8_land rmX8_land).room s m args below meth c H locs 0 0 Q (F0 m 137 ls []) := by
      intro mO hex H locs hP hD hS ls hl
      rw [hex] at hM
      have hM := nm_at (y := mO) rfl hM
      refine lv_aload_n hx hb dX8_land_137 rfl (lv_at hl 0 rfl) ?_
      refine lv_aload_n hx hb dX8_land_138 rfl (lv_at hl 0 rfl) ?_
      refine va_get (D := (dC, dI)) (ci := 8) (v := .int (mO 0 10)) (C := RX8) (T := TX8) (N := 45) hx hb hts iwX8_land_X8 hown hK hP 0 rfl rfl 10 (by decide) (hts _ (List.mem_of_getElem? (i := 11) rfl)) (fun _ h9 => h9) rfl dX8_land_139 ?_
      refine pf_i (wf := fun z => (wO ct aO z mO64)) (m1 := upf mO 20 (mO 0 10)) hx hb hts iwX8_land_X8 tyX8 tyX8_ok nmX8 hown hK hP hD hS 0 rfl rfl 20 (by decide) (hts _ (List.mem_of_getElem? (i := 12) rfl)) (fun _ h9 => h9) rfl rfl rfl (Nat.le_of_ble_eq_true rfl) dX8_land_142 rfl (fun mO_14 emO_14 H locs hP hD hS => ?_)
      have hM := nm_at emO_14 hM
      refine lv_aload_n hx hb dX8_land_145 rfl (lv_at hl 0 rfl) ?_
      refine lv_aload_n hx hb dX8_land_146 rfl (lv_at hl 0 rfl) ?_
      refine va_get (D := (dC, dI)) (ci := 8) (v := .int (mO_14 0 11)) (C := RX8) (T := TX8) (N := 45) hx hb hts iwX8_land_X8 hown hK hP 0 rfl rfl 11 (by decide) (hts _ (List.mem_of_getElem? (i := 13) rfl)) (fun _ h9 => h9) rfl dX8_land_147 ?_
      refine pf_i (wf := fun z => (wO ct aO z mO64)) (m1 := upf mO_14 21 (mO_14 0 11)) hx hb hts iwX8_land_X8 tyX8 tyX8_ok nmX8 hown hK hP hD hS 0 rfl rfl 21 (by decide) (hts _ (List.mem_of_getElem? (i := 14) rfl)) (fun _ h9 => h9) rfl rfl rfl (Nat.le_of_ble_eq_true rfl) dX8_land_150 rfl (fun mO_15 emO_15 H locs hP hD hS => ?_)
      have hM := nm_at emO_15 hM
      refine lv_iconst (v := 0) hx hb dX8_land_153 (by decide) ?_
      refine lv_istore_n (lv' := [(1, .int (0 : Int32)), (0, .ref (aO 0))]) hx hb dX8_land_154 rfl hl (by decide) rfl (fun ls hl => ?_)
      exact N155 (0 : Int32) mO_15 mO64 hM _ _ hP hD hS _ (lv_sub hl [1, 0] rfl)
    have I113 : ∀ (n : Nat) (v1 : Int32) (mO : Mem), itr (fun q => mX8_land_s113 mO64 q.1 q.2) n (v1, mO) = some ex113 → ∀ (H : Heap) (locs : List Loc), va_P (dC, dI) vwCl (wO ct aO mO mO64) H → va_D A (wO ct aO mO mO64) → va_S A s.heap H locs → ∀ ls : Array Slot, lv_has ls 2 [(0, .ref (aO 0)), (1, .int v1)] → W p l e (headSpec wsX8_land rmX8_land).room s m args below meth c H locs 0 0 Q (F0 m 113 ls []) := by
      intro n
      induction n with
      | zero => intro v1 mO hit; exact (itr_zero hit).elim
      | succ n ih113 =>
        intro v1 mO hit H locs hP hD hS ls hl
        obtain ⟨o113, hM, hbk113, hex113⟩ := itr_succ hit
        replace hM : mX8_land_s113 mO64 v1 mO = some o113 := hM
        unfold mX8_land_s113 at hM
        refine lv_iload_n hx hb dX8_land_113 rfl (lv_at hl 1 rfl) ?_
        refine lv_bipush (v := 36) hx hb dX8_land_114 (by decide) ?_
        refine lv_icmp_ge (tgt := 137) hx hb dX8_land_116 (by decide) (fun hc_16 => ?_) (fun hc_16 => ?_)
        · have hM := it_p hc_16 hM
          have hR := som hM
          exact X113_0 mO (hex113 _ hR).symm _ _ hP hD hS _ (lv_sub hl [0] rfl)
        · have hM := it_n hc_16 hM
          refine lv_aload_n hx hb dX8_land_119 rfl (lv_at hl 0 rfl) ?_
          refine va_get (D := (dC, dI)) (ci := 8) (v := .ref (aO 6)) (C := RX8) (T := TX8) (N := 45) hx hb hts iwX8_land_X8 hown hK hP 0 rfl rfl 19 (by decide) (hts _ (List.mem_of_getElem? (i := 9) rfl)) (fun _ h9 => h9) rfl dX8_land_120 ?_
          refine lv_iload_n hx hb dX8_land_123 rfl (lv_at hl 1 rfl) ?_
          refine lv_aload_n hx hb dX8_land_124 rfl (lv_at hl 0 rfl) ?_
          refine va_get (D := (dC, dI)) (ci := 8) (v := .ref (aO 4)) (C := RX8) (T := TX8) (N := 45) hx hb hts iwX8_land_X8 hown hK hP 0 rfl rfl 9 (by decide) (hts _ (List.mem_of_getElem? (i := 10) rfl)) (fun _ h9 => h9) rfl dX8_land_125 ?_
          refine lv_iload_n hx hb dX8_land_128 rfl (lv_at hl 1 rfl) ?_
          obtain ⟨hi, hM⟩ := gi_some hM
          refine va_iald hx hb hK hP 4 0 rfl rfl hi dX8_land_129 ?_
          obtain ⟨hi, hM⟩ := gi_some hM
          refine st_i (wf := fun z => (wO ct aO z mO64)) (m1 := upi mO 6 v1.toNatClampNeg (mO 4 v1.toNatClampNeg)) hx hb hK hP hD hS 6 rfl hi dX8_land_130 rfl (fun mO_17 emO_17 H locs hP hD hS => ?_)
          have hM := nm_at emO_17 hM
          obtain ⟨x_18, ex_18⟩ : ∃ y : Int32, y = (v1 + (1 : Int32)) := ⟨_, rfl⟩
          have hM := nm_at ex_18 hM
          refine lv_iinc (v := x_18) (lv' := [(1, .int x_18), (0, .ref (aO 0))]) hx hb dX8_land_131 hl (k := 1) rfl (by rw [ex_18]; rfl) (by decide) rfl (fun ls hl => ?_)
          refine lv_goto (tgt := 113) hx hb dX8_land_134 (by decide) ?_
          have hR := som hM
          exact ih113 x_18 mO_17 (hbk113 _ hR) _ _ hP hD hS _ (lv_sub hl [1, 0] rfl)
    exact I113 FU v1 mO hit113 _ _ hP hD hS _ hl
  have N100 : ∀ (t1 : Int32) (mO : Mem) (mO64 : Lem), mX8_land_j100 t1 mO mO64 = some res → ∀ (H : Heap) (locs : List Loc), va_P (dC, dI) vwCl (wO ct aO mO mO64) H → va_D A (wO ct aO mO mO64) → va_S A s.heap H locs → ∀ ls : Array Slot, lv_has ls 2 [(0, .ref (aO 0))] → W p l e (headSpec wsX8_land rmX8_land).room s m args below meth c H locs 0 0 Q (F0 m 100 ls [.int t1, .ref (aO 0)]) := by
    intro t1 mO mO64 hM H locs hP hD hS ls hl
    unfold mX8_land_j100 at hM
    refine pf_i (wf := fun z => (wO ct aO z mO64)) (m1 := upf mO 17 t1) hx hb hts iwX8_land_X8 tyX8 tyX8_ok nmX8 hown hK hP hD hS 0 rfl rfl 17 (by decide) (hts _ (List.mem_of_getElem? (i := 6) rfl)) (fun _ h9 => h9) rfl rfl rfl (Nat.le_of_ble_eq_true rfl) dX8_land_100 rfl (fun mO_19 emO_19 H locs hP hD hS => ?_)
    have hM := nm_at emO_19 hM
    refine lv_aload_n hx hb dX8_land_103 rfl (lv_at hl 0 rfl) ?_
    refine lv_aload_n hx hb dX8_land_104 rfl (lv_at hl 0 rfl) ?_
    refine va_get (D := (dC, dI)) (ci := 8) (v := .int (mO_19 0 7)) (C := RX8) (T := TX8) (N := 45) hx hb hts iwX8_land_X8 hown hK hP 0 rfl rfl 7 (by decide) (hts _ (List.mem_of_getElem? (i := 7) rfl)) (fun _ h9 => h9) rfl dX8_land_105 ?_
    refine pf_i (wf := fun z => (wO ct aO z mO64)) (m1 := upf mO_19 18 (mO_19 0 7)) hx hb hts iwX8_land_X8 tyX8 tyX8_ok nmX8 hown hK hP hD hS 0 rfl rfl 18 (by decide) (hts _ (List.mem_of_getElem? (i := 8) rfl)) (fun _ h9 => h9) rfl rfl rfl (Nat.le_of_ble_eq_true rfl) dX8_land_108 rfl (fun mO_20 emO_20 H locs hP hD hS => ?_)
    have hM := nm_at emO_20 hM
    refine lv_iconst (v := 0) hx hb dX8_land_111 (by decide) ?_
    refine lv_istore_n (lv' := [(1, .int (0 : Int32)), (0, .ref (aO 0))]) hx hb dX8_land_112 rfl hl (by decide) rfl (fun ls hl => ?_)
    exact N113 (0 : Int32) mO_20 mO64 hM _ _ hP hD hS _ (lv_sub hl [1, 0] rfl)
  have N76 : ∀ (t1 : Int32) (mO : Mem) (mO64 : Lem), mX8_land_j76 t1 mO mO64 = some res → ∀ (H : Heap) (locs : List Loc), va_P (dC, dI) vwCl (wO ct aO mO mO64) H → va_D A (wO ct aO mO mO64) → va_S A s.heap H locs → ∀ ls : Array Slot, lv_has ls 2 [(0, .ref (aO 0))] → W p l e (headSpec wsX8_land rmX8_land).room s m args below meth c H locs 0 0 Q (F0 m 76 ls [.int t1, .ref (aO 0)]) := by
    intro t1 mO mO64 hM H locs hP hD hS ls hl
    unfold mX8_land_j76 at hM
    refine pf_i (wf := fun z => (wO ct aO z mO64)) (m1 := upf mO 16 t1) hx hb hts iwX8_land_X8 tyX8 tyX8_ok nmX8 hown hK hP hD hS 0 rfl rfl 16 (by decide) (hts _ (List.mem_of_getElem? (i := 5) rfl)) (fun _ h9 => h9) rfl rfl rfl (Nat.le_of_ble_eq_true rfl) dX8_land_76 rfl (fun mO_21 emO_21 H locs hP hD hS => ?_)
    have hM := nm_at emO_21 hM
    refine lv_aload_n hx hb dX8_land_79 rfl (lv_at hl 0 rfl) ?_
    refine lv_aload_n hx hb dX8_land_80 rfl (lv_at hl 0 rfl) ?_
    refine va_get (D := (dC, dI)) (ci := 8) (v := .ref (aO 2)) (C := RX8) (T := TX8) (N := 45) hx hb hts iwX8_land_X8 hown hK hP 0 rfl rfl 6 (by decide) (hts _ (List.mem_of_getElem? (i := 1) rfl)) (fun _ h9 => h9) rfl dX8_land_81 ?_
    refine lv_iconst (v := 4) hx hb dX8_land_84 (by decide) ?_
    obtain ⟨hi, hM⟩ := gi_some hM
    refine va_iald hx hb hK hP 2 0 rfl rfl hi dX8_land_85 ?_
    refine lv_iconst (v := -1) hx hb dX8_land_86 (by decide) ?_
    refine lv_icmp_ne (tgt := 94) hx hb dX8_land_87 (by decide) (fun hc_22 => ?_) (fun hc_22 => ?_)
    · have hM := it_p hc_22 hM
      refine lv_aload_n hx hb dX8_land_94 rfl (lv_at hl 0 rfl) ?_
      refine va_get (D := (dC, dI)) (ci := 8) (v := .ref (aO 2)) (C := RX8) (T := TX8) (N := 45) hx hb hts iwX8_land_X8 hown hK hP 0 rfl rfl 6 (by decide) (hts _ (List.mem_of_getElem? (i := 1) rfl)) (fun _ h9 => h9) rfl dX8_land_95 ?_
      refine lv_iconst (v := 4) hx hb dX8_land_98 (by decide) ?_
      obtain ⟨hi, hM⟩ := gi_some hM
      refine va_iald hx hb hK hP 2 0 rfl rfl hi dX8_land_99 ?_
      exact N100 (mO_21 2 (4 : Int32).toNatClampNeg) mO_21 mO64 hM _ _ hP hD hS _ (lv_sub hl [0] rfl)
    · have hM := it_nn hc_22 hM
      refine lv_iconst (v := 0) hx hb dX8_land_90 (by decide) ?_
      refine lv_goto (tgt := 100) hx hb dX8_land_91 (by decide) ?_
      exact N100 (0 : Int32) mO_21 mO64 hM _ _ hP hD hS _ (lv_sub hl [0] rfl)
  have N52 : ∀ (t1 : Int32) (mO : Mem) (mO64 : Lem), mX8_land_j52 t1 mO mO64 = some res → ∀ (H : Heap) (locs : List Loc), va_P (dC, dI) vwCl (wO ct aO mO mO64) H → va_D A (wO ct aO mO mO64) → va_S A s.heap H locs → ∀ ls : Array Slot, lv_has ls 2 [(0, .ref (aO 0))] → W p l e (headSpec wsX8_land rmX8_land).room s m args below meth c H locs 0 0 Q (F0 m 52 ls [.int t1, .ref (aO 0)]) := by
    intro t1 mO mO64 hM H locs hP hD hS ls hl
    unfold mX8_land_j52 at hM
    refine pf_i (wf := fun z => (wO ct aO z mO64)) (m1 := upf mO 15 t1) hx hb hts iwX8_land_X8 tyX8 tyX8_ok nmX8 hown hK hP hD hS 0 rfl rfl 15 (by decide) (hts _ (List.mem_of_getElem? (i := 4) rfl)) (fun _ h9 => h9) rfl rfl rfl (Nat.le_of_ble_eq_true rfl) dX8_land_52 rfl (fun mO_23 emO_23 H locs hP hD hS => ?_)
    have hM := nm_at emO_23 hM
    refine lv_aload_n hx hb dX8_land_55 rfl (lv_at hl 0 rfl) ?_
    refine lv_aload_n hx hb dX8_land_56 rfl (lv_at hl 0 rfl) ?_
    refine va_get (D := (dC, dI)) (ci := 8) (v := .ref (aO 2)) (C := RX8) (T := TX8) (N := 45) hx hb hts iwX8_land_X8 hown hK hP 0 rfl rfl 6 (by decide) (hts _ (List.mem_of_getElem? (i := 1) rfl)) (fun _ h9 => h9) rfl dX8_land_57 ?_
    refine lv_iconst (v := 2) hx hb dX8_land_60 (by decide) ?_
    obtain ⟨hi, hM⟩ := gi_some hM
    refine va_iald hx hb hK hP 2 0 rfl rfl hi dX8_land_61 ?_
    refine lv_iconst (v := -1) hx hb dX8_land_62 (by decide) ?_
    refine lv_icmp_ne (tgt := 70) hx hb dX8_land_63 (by decide) (fun hc_24 => ?_) (fun hc_24 => ?_)
    · have hM := it_p hc_24 hM
      refine lv_aload_n hx hb dX8_land_70 rfl (lv_at hl 0 rfl) ?_
      refine va_get (D := (dC, dI)) (ci := 8) (v := .ref (aO 2)) (C := RX8) (T := TX8) (N := 45) hx hb hts iwX8_land_X8 hown hK hP 0 rfl rfl 6 (by decide) (hts _ (List.mem_of_getElem? (i := 1) rfl)) (fun _ h9 => h9) rfl dX8_land_71 ?_
      refine lv_iconst (v := 3) hx hb dX8_land_74 (by decide) ?_
      obtain ⟨hi, hM⟩ := gi_some hM
      refine va_iald hx hb hK hP 2 0 rfl rfl hi dX8_land_75 ?_
      exact N76 (mO_23 2 (3 : Int32).toNatClampNeg) mO_23 mO64 hM _ _ hP hD hS _ (lv_sub hl [0] rfl)
    · have hM := it_nn hc_24 hM
      refine lv_iconst (v := 1) hx hb dX8_land_66 (by decide) ?_
      refine lv_goto (tgt := 76) hx hb dX8_land_67 (by decide) ?_
      exact N76 (1 : Int32) mO_23 mO64 hM _ _ hP hD hS _ (lv_sub hl [0] rfl)
  refine lv_aload_n hx hb dX8_land_0 rfl (lv_at hl 0 rfl) ?_
  obtain ⟨q_29, hr_28, hM⟩ := bn_some hM
  obtain ⟨x_25, mO_26, mO64_27⟩ := q_29
  have hM := nm_at (y := x_25) rfl hM
  have hM := nm_at (y := mO_26) rfl hM
  have hM := nm_at (y := mO64_27) rfl hM
  refine gv_i (r0 := x_25) (wn := (wO ct aO mO_26 mO64_27)) (va_runV (As := []) (rest := []) ⟨hx, hb, hml, hown, hts⟩ (kX8_fault l dC dI ct aO adK adV _ mO mO64 _ hr_28) (cwV 0 hts gX8_land_X8_fault rfl rfl rfl hvX8_fault ⟨Nat.le_of_ble_eq_true rfl, Nat.le_of_ble_eq_true rfl⟩) (preV_of EV_ok hK hP hD (is := [0, 1, 2, 3, 4, 5, 6, 7, 8, 9, 10, 11, 12, 13, 14, 15, 16, 17, 18, 19, 20, 21, 22, 23, 24, 25]) rfl rfl rfl (ci := 8) rfl 0 rfl (e_sub EV_ok hE hS (va_free hD hS hA [0, 1, 2, 3, 4, 5, 6, 7, 8, 9, 10, 11, 12, 13, 14, 15, 16, 17, 18, 19, 20, 21, 22, 23, 24, 25] rfl))) rfl rfl hl.1 rfl (lv_room (Nat.le_of_ble_eq_true rfl)) dX8_land_1 ⟨Nat.le_of_ble_eq_true rfl, Nat.le_of_ble_eq_true rfl⟩) hP hD hS hA [0, 1, 2, 3, 4, 5, 6, 7, 8, 9, 10, 11, 12, 13, 14, 15, 16, 17, 18, 19, 20, 21, 22, 23, 24, 25] [] [0, 1, 2, 3, 4, 5, 6, 7, 8, 9, 10, 11, 12, 13, 14, 15, 16, 17, 18, 19, 20, 21, 22, 23, 24, 25] rfl rfl rfl (by decide) rfl rfl (fun H locs hP hD hS => ?_)
  refine lv_iconst (v := -1) hx hb dX8_land_4 (by decide) ?_
  refine lv_icmp_eq (tgt := 10) hx hb dX8_land_5 (by decide) (fun hc_30 => ?_) (fun hc_30 => ?_)
  · have hM := it_p hc_30 hM
    refine lv_aload_n hx hb dX8_land_10 rfl (lv_at hl 0 rfl) ?_
    refine lv_aload_n hx hb dX8_land_11 rfl (lv_at hl 0 rfl) ?_
    refine va_get (D := (dC, dI)) (ci := 8) (v := .ref (aO 2)) (C := RX8) (T := TX8) (N := 45) hx hb hts iwX8_land_X8 hown hK hP 0 rfl rfl 6 (by decide) (hts _ (List.mem_of_getElem? (i := 1) rfl)) (fun _ h9 => h9) rfl dX8_land_12 ?_
    refine lv_iconst (v := 0) hx hb dX8_land_15 (by decide) ?_
    obtain ⟨hi, hM⟩ := gi_some hM
    refine va_iald hx hb hK hP 2 0 rfl rfl hi dX8_land_16 ?_
    refine pf_i (wf := fun z => (wO ct aO z mO64_27)) (m1 := upf mO_26 13 (mO_26 2 (0 : Int32).toNatClampNeg)) hx hb hts iwX8_land_X8 tyX8 tyX8_ok nmX8 hown hK hP hD hS 0 rfl rfl 13 (by decide) (hts _ (List.mem_of_getElem? (i := 2) rfl)) (fun _ h9 => h9) rfl rfl rfl (Nat.le_of_ble_eq_true rfl) dX8_land_17 rfl (fun mO_31 emO_31 H locs hP hD hS => ?_)
    have hM := nm_at emO_31 hM
    refine lv_aload_n hx hb dX8_land_20 rfl (lv_at hl 0 rfl) ?_
    refine lv_aload_n hx hb dX8_land_21 rfl (lv_at hl 0 rfl) ?_
    refine va_get (D := (dC, dI)) (ci := 8) (v := .ref (aO 2)) (C := RX8) (T := TX8) (N := 45) hx hb hts iwX8_land_X8 hown hK hP 0 rfl rfl 6 (by decide) (hts _ (List.mem_of_getElem? (i := 1) rfl)) (fun _ h9 => h9) rfl dX8_land_22 ?_
    refine lv_iconst (v := 1) hx hb dX8_land_25 (by decide) ?_
    obtain ⟨hi, hM⟩ := gi_some hM
    refine va_iald hx hb hK hP 2 0 rfl rfl hi dX8_land_26 ?_
    refine pf_i (wf := fun z => (wO ct aO z mO64_27)) (m1 := upf mO_31 14 (mO_31 2 (1 : Int32).toNatClampNeg)) hx hb hts iwX8_land_X8 tyX8 tyX8_ok nmX8 hown hK hP hD hS 0 rfl rfl 14 (by decide) (hts _ (List.mem_of_getElem? (i := 3) rfl)) (fun _ h9 => h9) rfl rfl rfl (Nat.le_of_ble_eq_true rfl) dX8_land_27 rfl (fun mO_32 emO_32 H locs hP hD hS => ?_)
    have hM := nm_at emO_32 hM
    refine lv_aload_n hx hb dX8_land_30 rfl (lv_at hl 0 rfl) ?_
    refine lv_aload_n hx hb dX8_land_31 rfl (lv_at hl 0 rfl) ?_
    refine va_get (D := (dC, dI)) (ci := 8) (v := .ref (aO 2)) (C := RX8) (T := TX8) (N := 45) hx hb hts iwX8_land_X8 hown hK hP 0 rfl rfl 6 (by decide) (hts _ (List.mem_of_getElem? (i := 1) rfl)) (fun _ h9 => h9) rfl dX8_land_32 ?_
    refine lv_iconst (v := 2) hx hb dX8_land_35 (by decide) ?_
    obtain ⟨hi, hM⟩ := gi_some hM
    refine va_iald hx hb hK hP 2 0 rfl rfl hi dX8_land_36 ?_
    refine lv_iconst (v := -1) hx hb dX8_land_37 (by decide) ?_
    refine lv_icmp_ne (tgt := 46) hx hb dX8_land_38 (by decide) (fun hc_33 => ?_) (fun hc_33 => ?_)
    · have hM := it_p hc_33 hM
      refine lv_aload_n hx hb dX8_land_46 rfl (lv_at hl 0 rfl) ?_
      refine va_get (D := (dC, dI)) (ci := 8) (v := .ref (aO 2)) (C := RX8) (T := TX8) (N := 45) hx hb hts iwX8_land_X8 hown hK hP 0 rfl rfl 6 (by decide) (hts _ (List.mem_of_getElem? (i := 1) rfl)) (fun _ h9 => h9) rfl dX8_land_47 ?_
      refine lv_iconst (v := 2) hx hb dX8_land_50 (by decide) ?_
      obtain ⟨hi, hM⟩ := gi_some hM
      refine va_iald hx hb hK hP 2 0 rfl rfl hi dX8_land_51 ?_
      exact N52 (mO_32 2 (2 : Int32).toNatClampNeg) mO_32 mO64_27 hM _ _ hP hD hS _ (lv_sub hl [0] rfl)
    · have hM := it_nn hc_33 hM
      refine lv_bipush (v := 16) hx hb dX8_land_41 (by decide) ?_
      refine lv_goto (tgt := 52) hx hb dX8_land_43 (by decide) ?_
      exact N52 (16 : Int32) mO_32 mO64_27 hM _ _ hP hD hS _ (lv_sub hl [0] rfl)
  · have hM := it_n hc_30 hM
    refine lv_iconst (v := -1) hx hb dX8_land_8 (by decide) ?_
    have hR := som hM
    rw [hR] at hQ
    exact ret_i hQ hx hb hr hlocks hP hK hD hS dX8_land_9
