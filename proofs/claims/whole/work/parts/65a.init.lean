/-! constructors: nest links, new rows, new objects -/
def EN : EnvP := fun _ U _ => va_Nw (.methodLinkNest RX7 9 yX5_init RX7) U ∧ va_Nw (.methodLinkNest RX7 18 yX4_init RX7) U ∧ va_Nw (.methodLinkNest RX7 25 yX2_init RX7) U ∧ va_Nw (.methodLinkNest RX7 32 yX0_init RX7) U ∧ va_Nw (.methodLinkNest RX7 39 yX6_init RX7) U ∧ va_Nw (.methodLinkNest RX7 54 yX1_init RX7) U ∧ va_Nw (.methodLinkNest RX0 33 yX2_init RX7) U ∧ va_AO RX2 U
theorem EN_ok : EOk EN := by
  refine ⟨fun A B s U H H1 h _ hW _ => ?_, fun A U V H hv h => ?_⟩
  · obtain ⟨h1, h2, h3, h4, h5, h6, h7, h8⟩ := h
    exact ⟨h1.warmM hW, h2.warmM hW, h3.warmM hW, h4.warmM hW, h5.warmM hW, h6.warmM hW, h7.warmM hW, h8.moved hW.alike⟩
  · obtain ⟨h1, h2, h3, h4, h5, h6, h7, h8⟩ := h
    exact ⟨h1.same rfl hv.symm, h2.same rfl hv.symm, h3.same rfl hv.symm, h4.same rfl hv.symm, h5.same rfl hv.symm, h6.same rfl hv.symm, h7.same rfl hv.symm, va_AO.moved (by rw [hv]; exact Vm.Alike.refl _) h8⟩
def z0 : Mem := fun _ _ => 0
def z0L : Lem := fun _ _ => 0
section CI
variable {p : Program} {l : Launch} {e : Env} {R : Room} {s : State} {m : MethodId} {args : Array Value} {below : List Frame} {meth : Method} {c : Code} {H : Heap} {locs : List Loc} {cells slots : Nat} {Q : State → Prop}
variable {cc : ByteArray} {pc : Nat} {ls : Array Slot} {rest : List Value} {D : va_G} {ct : Nat → ClassId} {A : Nat → Prop} {a : Nat} {ws wc : va_W} {H0 : Heap}
theorem nw_a (hx : p.tables.exec = Jvm.exec) (hb : c.code = cc) {atype : ArrayType} (harr : (Cond.arrayClass (newarray.typeOf atype)).before args s = true) {ty : FieldType} (hty : newarray.typeOf atype = ty) (hK : va_K D vwCl (Ty ct) s) (hP : va_P D vwCl ws H) (hD : va_D A ws) (hS : va_S A H0 H locs) (hA : ∀ q, H0.size ≤ q → A q) (t0 : Nat) {cT : ClassId} (ht : (Ty ct)[t0]? = some (cT, ty)) (hno : ∀ C, ty ≠ .object C)
    {n : Int32} {N' : Nat} {a0 : vp_A} (ha : ∀ cA : ClassId, vp_cell cA a0 = arrV cA N' (fun _ => defaultValue ty)) (hn : ¬ n < 0) (hN : n.toNatClampNeg = N') (hbytes : N' * componentBytes ty ≤ 536870912) (hcells : cells + 1 ≤ R.cells) (hslots : slots + N' ≤ R.slots) (hdg : decode cc pc = .ok (.newarray atype, 2))
    (kk : ∀ (q : Nat) (H1 : Heap), va_P D vwCl (ws ++ [(q, .inl (cT, a0))]) H1 → va_D A (ws ++ [(q, .inl (cT, a0))]) → va_S A H0 H1 locs → W p l e R s m args below meth c H1 locs (cells + 1) (slots + N') Q (F0 m (pc + 2) ls (.ref q :: rest))) : W p l e R s m args below meth c H locs cells slots Q (F0 m pc ls (.int n :: rest)) := by
  refine va_newa hx hb harr hty hK hP hD hS hA ha hn hN hbytes hcells hslots hdg (fun q cA H1 hK1 h1 h2 h3 => ?_)
  have g1 : va_RA s cA ty := (hK1.2 5 (cA, ty) rfl).2
  have g2 : va_RA s cT ty := (hK.2 t0 _ ht).2
  have e1 : cA = cT := by
    cases ty <;> first | exact absurd rfl (hno _) | exact Option.some.inj (Eq.trans (Eq.symm g1) g2)
  subst e1
  exact kk q H1 h1 h2 h3
theorem nw_q (hx : p.tables.exec = Jvm.exec) (hb : c.code = cc) {own C : String} {index : Nat} (hown : s.vm.findClass own = some m.cls) (hclink : (Cond.classLink own index C).before args s = true) (hover : va_AO C s) (hK : va_K D vwCl (Ty ct) s) (hP : va_P D vwCl ws H) (hD : va_D A ws) (hS : va_S A H0 H locs) (hA : ∀ q, H0.size ≤ q → A q) (t0 : Nat) {cT : ClassId} (ht : (Ty ct)[t0]? = some (cT, .object C))
    {n : Int32} {N' : Nat} (hn : ¬ n < 0) (hN : n.toNatClampNeg = N') (hbytes : N' * 4 ≤ 536870912) (hcells : cells + 1 ≤ R.cells) (hslots : slots + N' ≤ R.slots) (hdg : decode cc pc = .ok (.anewarray index, 3))
    (kk : ∀ (q : Nat) (H1 : Heap), va_P D vwCl (ws ++ [(q, .inl (cT, N', .inr (.inr (.inr (.inr (fun _ => none))))))]) H1 → va_D A (ws ++ [(q, .inl (cT, N', .inr (.inr (.inr (.inr (fun _ => none))))))]) → va_S A H0 H1 locs → W p l e R s m args below meth c H1 locs (cells + 1) (slots + N') Q (F0 m (pc + 3) ls (.ref q :: rest))) : W p l e R s m args below meth c H locs cells slots Q (F0 m pc ls (.int n :: rest)) := by
  refine va_newq hx hb hown hclink hover hK hP hD hS hA hn hN hbytes hcells hslots hdg (fun q cA H1 hK1 h1 h2 h3 => ?_)
  obtain ⟨-, kA, comp, -, -, -, g1⟩ := hK1.2 5 (cA, .object C) rfl
  obtain ⟨-, kA', comp', -, -, -, g2⟩ := hK.2 t0 _ ht
  have e1 : cA = cT := Option.some.inj (Eq.trans (Eq.symm g1) g2)
  subst e1
  exact kk q H1 h1 h2 h3
theorem gv_n {mc ms : Nat} {st0 : List Value} {av : Array Value} {post : (Nat → Nat) → Prop} {wf wn : (Nat → Nat) → va_W} (hr : va_Run p l e R s m args below meth c H locs cells slots mc ms (F0 m pc ls st0) rest (va_Qv post (fun u => QB D ct (va_A wc H.size) (wf u)) (va_A wc H.size) av) (va_A wc H.size)) (hP : va_P D vwCl ws H) (hD : va_D A ws) (hS : va_S A s.heap H locs) (hA : ∀ q, s.heap.size ≤ q → A q) (isC isR is : List Nat) (hC : isC.map (fun i => ws[i]?) = wc.map some) (hR : isR.map (fun i => ws[i]?) = (isR.filterMap (fun i => ws[i]?)).map some) (hn : va_nd isR = true) (hdis : ∀ i ∈ isR, i ∉ isC) (hs : ∀ u, is.map (fun i => (isR.filterMap (fun i => ws[i]?) ++ wf u)[i]?) = (wn u).map some) (hnd : va_nd is = true)
    (kk : ∀ u : Nat → Nat, post u → ∀ (H1 : Heap) (locs1 : List Loc), va_P D vwCl (wn u) H1 → va_D A (wn u) → va_S A s.heap H1 locs1 → W p l e R s m args below meth c H1 locs1 (cells + mc) (slots + ms) Q (F0 m (pc + 3) ls rest)) : W p l e R s m args below meth c H locs cells slots Q (F0 m pc ls st0) := by
  have hF := va_free hD hS hA isC hC
  refine va_callv hr hS (fun q _ h => hF q h) hF (fun u t H1 locs1 ht hvm hw hB hz hk hS1 => ?_)
  obtain ⟨hP1, hK1, hD1⟩ := hB
  rw [ht] at hP1
  obtain ⟨hP2, hD2⟩ := jn hP hD isC isR hC hR hn hdis hk hF hP1 hD1 is (hs u) hnd
  exact kk u hw H1 locs1 hP2 hD2 hS1
end CI
abbrev rmX5_init : Room := { frames := 1, cells := 1, slots := 500, locals := 12 }
theorem iwX5_init_X5 : ∀ w ∈ wsX50, w ∈ wsX5_init := fun _ h => List.mem_cons_of_mem _ (List.mem_append_right _ (h))
theorem dfX5 : ∀ j, j < 2 → defaultValue (tyX5 j) = vp_V [.null, .int 0] j := fun j hj => match j, hj with
  | 0, _ => rfl
  | 1, _ => rfl
  | j + 2, h => absurd h (by omega)
set_option maxHeartbeats 4000000 in
set_option maxRecDepth 100000 in
theorem kX5_init (l : Launch) (dC : Nat → ClassId) (dI : Nat → Nat → Nat) (ct : Nat → ClassId) (h0 sz : Nat) : Met l yX5_init wsX5_init rmX5_init (va_Pc [.ref h0] (PB (dC, dI) ct E0 sz ([(h0, .inr (5, [.null, .int 0]))]))) (va_Qv (fun a : Nat → Nat => a 0 = h0) (fun a => QB (dC, dI) ct (va_A ([(h0, .inr (5, [.null, .int 0]))]) sz) (wT ct a z0)) (va_A ([(h0, .inr (5, [.null, .int 0]))]) sz)) 1 500 (va_A ([(h0, .inr (5, [.null, .int 0]))]) sz) := by
  refine Met.ofW (cc := cX5_init) (maxL := 1) (ret := none) (by decide) rfl ?_
  intro p e s m args below meth c s₁ B hml hv
  obtain ⟨hargs, hsz, hP, hK, hD0, hE⟩ := hv
  have hx := B.exec
  have hb := B.bytes
  have hr := B.returns
  have hts := atoms_spec (ws := wsX5_init) B.pre
  have hown : s.vm.findClass RX5 = some m.cls := findClass_of_methodNamed B.named
  have hlocks := B.notSynchronized
  have hin : meth.name = "<init>" := (name_of_methodNamed B.named B.method).1
  clear B s₁
  subst hsz
  have hD := hD0.self (sz := s.heap.size)
  clear hD0
  generalize hAe : va_A ([(h0, .inr (5, [.null, .int 0]))]) s.heap.size = A at hD hE ⊢
  have hA : ∀ q : Nat, s.heap.size ≤ q → A q := fun q h => by rw [← hAe]; exact Or.inr h
  clear hAe
  have hS : va_S A s.heap s.heap [] := va_S.rf
  refine entryW (vs := [.ref h0]) hargs (Nat.le_of_ble_eq_true rfl) (fun ls hl => ?_)
  replace hl : lv_has ls 1 [(0, .ref h0)] := hl
  refine lv_aload_n hx hb dX5_init_0 rfl (lv_at hl 0 rfl) ?_
  refine W.objInit hx hb hown (hts _ (List.mem_of_getElem? (i := 1) rfl)) (hts _ (List.mem_of_getElem? (i := 2) rfl)) (hts _ (List.mem_of_getElem? (i := 3) rfl)) rfl (by rw [hml]; exact hl.1) rfl dX5_init_1 (Nat.le_of_ble_eq_true rfl) (Nat.le_of_ble_eq_true rfl) ?_
  refine W.eq (g2 := F0 m 4 ls []) rfl ?_
  refine lv_aload_n hx hb dX5_init_4 rfl (lv_at hl 0 rfl) ?_
  refine lv_sipush (v := 500) hx hb dX5_init_5 (by decide) ?_
  refine nw_a (a0 := (500, .inl (fun _ => 0))) (ty := .byte) hx hb (hts _ (List.mem_of_getElem? (i := 4) rfl)) rfl hK hP hD hS hA 1 rfl (fun _ h => by cases h) (fun _ => rfl) (by decide) (by decide) (by decide) (Nat.le_of_ble_eq_true rfl) (Nat.le_of_ble_eq_true rfl) dX5_init_8 (fun q1 H hP hD hS => ?_)
  have hP : va_P (dC, dI) vwCl ([(h0, .inr (5, [.null, .int 0])), (q1, .inl (ct 1, (500, .inl (fun _ => 0))))]) H := hP
  have hD : va_D A ([(h0, .inr (5, [.null, .int 0])), (q1, .inl (ct 1, (500, .inl (fun _ => 0))))]) := hD
  refine W.widen (k := 1) (n := 500) (by decide) (by decide) ?_
  refine va_putF (D := (dC, dI)) (ci := 5) (v := .ref q1) (ty := tyX5 0) (C := RX5) (T := TX5) (N := 2) hx hb hts iwX5_init_X5 tyX5 tyX5_ok nmX5 hown hK hP hD hS 0 rfl rfl 0 (by decide) (hts _ (List.mem_of_getElem? (i := 5) rfl)) (fun _ h9 => h9) rfl hin rfl (tyX5_ok 0 (by decide)) rfl rfl (Nat.le_of_ble_eq_true rfl) dX5_init_10 (fun H locs hP hD hS => ?_)
  have hP : va_P (dC, dI) vwCl ([(h0, .inr (5, [.ref q1, .int 0])), (q1, .inl (ct 1, (500, .inl (fun _ => 0))))]) H := hP
  have hD : va_D A ([(h0, .inr (5, [.ref q1, .int 0])), (q1, .inl (ct 1, (500, .inl (fun _ => 0))))]) := hD
  refine lv_aload_n hx hb dX5_init_13 rfl (lv_at hl 0 rfl) ?_
  refine lv_iconst (v := 0) hx hb dX5_init_14 (by decide) ?_
  refine va_put (D := (dC, dI)) (ci := 5) (v := .int 0) (ty := tyX5 1) (C := RX5) (T := TX5) (N := 2) hx hb hts iwX5_init_X5 tyX5 tyX5_ok nmX5 hown hK hP hD hS 0 rfl rfl 1 (by decide) (hts _ (List.mem_of_getElem? (i := 6) rfl)) (fun _ h9 => h9) rfl (tyX5_ok 1 (by decide)) rfl rfl (Nat.le_of_ble_eq_true rfl) dX5_init_15 (fun H locs hP hD hS => ?_)
  have hP : va_P (dC, dI) vwCl ([(h0, .inr (5, [.ref q1, .int 0])), (q1, .inl (ct 1, (500, .inl (fun _ => 0))))]) H := hP
  have hD : va_D A ([(h0, .inr (5, [.ref q1, .int 0])), (q1, .inl (ct 1, (500, .inl (fun _ => 0))))]) := hD
  have hP9 := hP.sub (ws' := (wT ct (fun k => [h0, q1].getD k 0) z0)) [0, 1] rfl
  have hD9 := hD.sub (ws' := (wT ct (fun k => [h0, q1].getD k 0) z0)) [0, 1] rfl rfl
  exact W.vret hx hb hr (fun t ht hW => ⟨⟨(fun k => [h0, q1].getD k 0), rfl, rfl, by rw [ht]; exact hP9, va_K.moved hW.alike hK, hD9⟩, hS.F ht⟩) hS.2.2 dX5_init_18
abbrev rmX4_init : Room := { frames := 1, cells := 3, slots := 18, locals := 12 }
theorem iwX4_init_X4 : ∀ w ∈ wsX40, w ∈ wsX4_init := fun _ h => List.mem_cons_of_mem _ (List.mem_append_right _ (h))
theorem dfX4 : ∀ j, j < 8 → defaultValue (tyX4 j) = vp_V [.null, .null, .int 0, .int 0, .int 0, .int 0, .int 0, .null] j := fun j hj => match j, hj with
  | 0, _ => rfl
  | 1, _ => rfl
  | 2, _ => rfl
  | 3, _ => rfl
  | 4, _ => rfl
  | 5, _ => rfl
  | 6, _ => rfl
  | 7, _ => rfl
  | j + 8, h => absurd h (by omega)
set_option maxHeartbeats 4000000 in
set_option maxRecDepth 100000 in
theorem kX4_init (l : Launch) (dC : Nat → ClassId) (dI : Nat → Nat → Nat) (ct : Nat → ClassId) (h0 sz : Nat) : Met l yX4_init wsX4_init rmX4_init (va_Pc [.ref h0] (PB (dC, dI) ct E0 sz ([(h0, .inr (4, [.null, .null, .int 0, .int 0, .int 0, .int 0, .int 0, .null]))]))) (va_Qv (fun a : Nat → Nat => a 0 = h0) (fun a => QB (dC, dI) ct (va_A ([(h0, .inr (4, [.null, .null, .int 0, .int 0, .int 0, .int 0, .int 0, .null]))]) sz) (wS ct a (upf z0 6 (-1)))) (va_A ([(h0, .inr (4, [.null, .null, .int 0, .int 0, .int 0, .int 0, .int 0, .null]))]) sz)) 3 18 (va_A ([(h0, .inr (4, [.null, .null, .int 0, .int 0, .int 0, .int 0, .int 0, .null]))]) sz) := by
  refine Met.ofW (cc := cX4_init) (maxL := 1) (ret := none) (by decide) rfl ?_
  intro p e s m args below meth c s₁ B hml hv
  obtain ⟨hargs, hsz, hP, hK, hD0, hE⟩ := hv
  have hx := B.exec
  have hb := B.bytes
  have hr := B.returns
  have hts := atoms_spec (ws := wsX4_init) B.pre
  have hown : s.vm.findClass RX4 = some m.cls := findClass_of_methodNamed B.named
  have hlocks := B.notSynchronized
  have hin : meth.name = "<init>" := (name_of_methodNamed B.named B.method).1
  clear B s₁
  subst hsz
  have hD := hD0.self (sz := s.heap.size)
  clear hD0
  generalize hAe : va_A ([(h0, .inr (4, [.null, .null, .int 0, .int 0, .int 0, .int 0, .int 0, .null]))]) s.heap.size = A at hD hE ⊢
  have hA : ∀ q : Nat, s.heap.size ≤ q → A q := fun q h => by rw [← hAe]; exact Or.inr h
  clear hAe
  have hS : va_S A s.heap s.heap [] := va_S.rf
  refine entryW (vs := [.ref h0]) hargs (Nat.le_of_ble_eq_true rfl) (fun ls hl => ?_)
  replace hl : lv_has ls 1 [(0, .ref h0)] := hl
  refine lv_aload_n hx hb dX4_init_0 rfl (lv_at hl 0 rfl) ?_
  refine W.objInit hx hb hown (hts _ (List.mem_of_getElem? (i := 1) rfl)) (hts _ (List.mem_of_getElem? (i := 2) rfl)) (hts _ (List.mem_of_getElem? (i := 3) rfl)) rfl (by rw [hml]; exact hl.1) rfl dX4_init_1 (Nat.le_of_ble_eq_true rfl) (Nat.le_of_ble_eq_true rfl) ?_
  refine W.eq (g2 := F0 m 4 ls []) rfl ?_
  refine lv_aload_n hx hb dX4_init_4 rfl (lv_at hl 0 rfl) ?_
  refine lv_bipush (v := 6) hx hb dX4_init_5 (by decide) ?_
  refine nw_a (a0 := (6, .inl (fun _ => 0))) (ty := .int) hx hb (hts _ (List.mem_of_getElem? (i := 4) rfl)) rfl hK hP hD hS hA 0 rfl (fun _ h => by cases h) (fun _ => rfl) (by decide) (by decide) (by decide) (Nat.le_of_ble_eq_true rfl) (Nat.le_of_ble_eq_true rfl) dX4_init_7 (fun q1 H hP hD hS => ?_)
  have hP : va_P (dC, dI) vwCl ([(h0, .inr (4, [.null, .null, .int 0, .int 0, .int 0, .int 0, .int 0, .null])), (q1, .inl (ct 0, (6, .inl (fun _ => 0))))]) H := hP
  have hD : va_D A ([(h0, .inr (4, [.null, .null, .int 0, .int 0, .int 0, .int 0, .int 0, .null])), (q1, .inl (ct 0, (6, .inl (fun _ => 0))))]) := hD
  refine W.widen (k := 1) (n := 6) (by decide) (by decide) ?_
  refine va_putF (D := (dC, dI)) (ci := 4) (v := .ref q1) (ty := tyX4 0) (C := RX4) (T := TX4) (N := 8) hx hb hts iwX4_init_X4 tyX4 tyX4_ok nmX4 hown hK hP hD hS 0 rfl rfl 0 (by decide) (hts _ (List.mem_of_getElem? (i := 5) rfl)) (fun _ h9 => h9) rfl hin rfl (tyX4_ok 0 (by decide)) rfl rfl (Nat.le_of_ble_eq_true rfl) dX4_init_9 (fun H locs hP hD hS => ?_)
  have hP : va_P (dC, dI) vwCl ([(h0, .inr (4, [.ref q1, .null, .int 0, .int 0, .int 0, .int 0, .int 0, .null])), (q1, .inl (ct 0, (6, .inl (fun _ => 0))))]) H := hP
  have hD : va_D A ([(h0, .inr (4, [.ref q1, .null, .int 0, .int 0, .int 0, .int 0, .int 0, .null])), (q1, .inl (ct 0, (6, .inl (fun _ => 0))))]) := hD
  refine lv_aload_n hx hb dX4_init_12 rfl (lv_at hl 0 rfl) ?_
  refine lv_bipush (v := 6) hx hb dX4_init_13 (by decide) ?_
  refine nw_a (a0 := (6, .inl (fun _ => 0))) (ty := .int) hx hb (hts _ (List.mem_of_getElem? (i := 4) rfl)) rfl hK hP hD hS hA 0 rfl (fun _ h => by cases h) (fun _ => rfl) (by decide) (by decide) (by decide) (Nat.le_of_ble_eq_true rfl) (Nat.le_of_ble_eq_true rfl) dX4_init_15 (fun q2 H hP hD hS => ?_)
  have hP : va_P (dC, dI) vwCl ([(h0, .inr (4, [.ref q1, .null, .int 0, .int 0, .int 0, .int 0, .int 0, .null])), (q1, .inl (ct 0, (6, .inl (fun _ => 0)))), (q2, .inl (ct 0, (6, .inl (fun _ => 0))))]) H := hP
  have hD : va_D A ([(h0, .inr (4, [.ref q1, .null, .int 0, .int 0, .int 0, .int 0, .int 0, .null])), (q1, .inl (ct 0, (6, .inl (fun _ => 0)))), (q2, .inl (ct 0, (6, .inl (fun _ => 0))))]) := hD
  refine W.widen (k := 2) (n := 12) (by decide) (by decide) ?_
  refine va_putF (D := (dC, dI)) (ci := 4) (v := .ref q2) (ty := tyX4 1) (C := RX4) (T := TX4) (N := 8) hx hb hts iwX4_init_X4 tyX4 tyX4_ok nmX4 hown hK hP hD hS 0 rfl rfl 1 (by decide) (hts _ (List.mem_of_getElem? (i := 6) rfl)) (fun _ h9 => h9) rfl hin rfl (tyX4_ok 1 (by decide)) rfl rfl (Nat.le_of_ble_eq_true rfl) dX4_init_17 (fun H locs hP hD hS => ?_)
  have hP : va_P (dC, dI) vwCl ([(h0, .inr (4, [.ref q1, .ref q2, .int 0, .int 0, .int 0, .int 0, .int 0, .null])), (q1, .inl (ct 0, (6, .inl (fun _ => 0)))), (q2, .inl (ct 0, (6, .inl (fun _ => 0))))]) H := hP
  have hD : va_D A ([(h0, .inr (4, [.ref q1, .ref q2, .int 0, .int 0, .int 0, .int 0, .int 0, .null])), (q1, .inl (ct 0, (6, .inl (fun _ => 0)))), (q2, .inl (ct 0, (6, .inl (fun _ => 0))))]) := hD
  refine lv_aload_n hx hb dX4_init_20 rfl (lv_at hl 0 rfl) ?_
  refine lv_iconst (v := 0) hx hb dX4_init_21 (by decide) ?_
  refine va_put (D := (dC, dI)) (ci := 4) (v := .int 0) (ty := tyX4 2) (C := RX4) (T := TX4) (N := 8) hx hb hts iwX4_init_X4 tyX4 tyX4_ok nmX4 hown hK hP hD hS 0 rfl rfl 2 (by decide) (hts _ (List.mem_of_getElem? (i := 7) rfl)) (fun _ h9 => h9) rfl (tyX4_ok 2 (by decide)) rfl rfl (Nat.le_of_ble_eq_true rfl) dX4_init_22 (fun H locs hP hD hS => ?_)
  have hP : va_P (dC, dI) vwCl ([(h0, .inr (4, [.ref q1, .ref q2, .int 0, .int 0, .int 0, .int 0, .int 0, .null])), (q1, .inl (ct 0, (6, .inl (fun _ => 0)))), (q2, .inl (ct 0, (6, .inl (fun _ => 0))))]) H := hP
  have hD : va_D A ([(h0, .inr (4, [.ref q1, .ref q2, .int 0, .int 0, .int 0, .int 0, .int 0, .null])), (q1, .inl (ct 0, (6, .inl (fun _ => 0)))), (q2, .inl (ct 0, (6, .inl (fun _ => 0))))]) := hD
  refine lv_aload_n hx hb dX4_init_25 rfl (lv_at hl 0 rfl) ?_
  refine lv_iconst (v := 0) hx hb dX4_init_26 (by decide) ?_
  refine va_put (D := (dC, dI)) (ci := 4) (v := .int 0) (ty := tyX4 3) (C := RX4) (T := TX4) (N := 8) hx hb hts iwX4_init_X4 tyX4 tyX4_ok nmX4 hown hK hP hD hS 0 rfl rfl 3 (by decide) (hts _ (List.mem_of_getElem? (i := 8) rfl)) (fun _ h9 => h9) rfl (tyX4_ok 3 (by decide)) rfl rfl (Nat.le_of_ble_eq_true rfl) dX4_init_27 (fun H locs hP hD hS => ?_)
  have hP : va_P (dC, dI) vwCl ([(h0, .inr (4, [.ref q1, .ref q2, .int 0, .int 0, .int 0, .int 0, .int 0, .null])), (q1, .inl (ct 0, (6, .inl (fun _ => 0)))), (q2, .inl (ct 0, (6, .inl (fun _ => 0))))]) H := hP
  have hD : va_D A ([(h0, .inr (4, [.ref q1, .ref q2, .int 0, .int 0, .int 0, .int 0, .int 0, .null])), (q1, .inl (ct 0, (6, .inl (fun _ => 0)))), (q2, .inl (ct 0, (6, .inl (fun _ => 0))))]) := hD
  refine lv_aload_n hx hb dX4_init_30 rfl (lv_at hl 0 rfl) ?_
  refine lv_iconst (v := 0) hx hb dX4_init_31 (by decide) ?_
  refine va_put (D := (dC, dI)) (ci := 4) (v := .int 0) (ty := tyX4 4) (C := RX4) (T := TX4) (N := 8) hx hb hts iwX4_init_X4 tyX4 tyX4_ok nmX4 hown hK hP hD hS 0 rfl rfl 4 (by decide) (hts _ (List.mem_of_getElem? (i := 9) rfl)) (fun _ h9 => h9) rfl (tyX4_ok 4 (by decide)) rfl rfl (Nat.le_of_ble_eq_true rfl) dX4_init_32 (fun H locs hP hD hS => ?_)
  have hP : va_P (dC, dI) vwCl ([(h0, .inr (4, [.ref q1, .ref q2, .int 0, .int 0, .int 0, .int 0, .int 0, .null])), (q1, .inl (ct 0, (6, .inl (fun _ => 0)))), (q2, .inl (ct 0, (6, .inl (fun _ => 0))))]) H := hP
  have hD : va_D A ([(h0, .inr (4, [.ref q1, .ref q2, .int 0, .int 0, .int 0, .int 0, .int 0, .null])), (q1, .inl (ct 0, (6, .inl (fun _ => 0)))), (q2, .inl (ct 0, (6, .inl (fun _ => 0))))]) := hD
  refine lv_aload_n hx hb dX4_init_35 rfl (lv_at hl 0 rfl) ?_
  refine lv_iconst (v := 0) hx hb dX4_init_36 (by decide) ?_
  refine va_put (D := (dC, dI)) (ci := 4) (v := .int 0) (ty := tyX4 5) (C := RX4) (T := TX4) (N := 8) hx hb hts iwX4_init_X4 tyX4 tyX4_ok nmX4 hown hK hP hD hS 0 rfl rfl 5 (by decide) (hts _ (List.mem_of_getElem? (i := 10) rfl)) (fun _ h9 => h9) rfl (tyX4_ok 5 (by decide)) rfl rfl (Nat.le_of_ble_eq_true rfl) dX4_init_37 (fun H locs hP hD hS => ?_)
  have hP : va_P (dC, dI) vwCl ([(h0, .inr (4, [.ref q1, .ref q2, .int 0, .int 0, .int 0, .int 0, .int 0, .null])), (q1, .inl (ct 0, (6, .inl (fun _ => 0)))), (q2, .inl (ct 0, (6, .inl (fun _ => 0))))]) H := hP
  have hD : va_D A ([(h0, .inr (4, [.ref q1, .ref q2, .int 0, .int 0, .int 0, .int 0, .int 0, .null])), (q1, .inl (ct 0, (6, .inl (fun _ => 0)))), (q2, .inl (ct 0, (6, .inl (fun _ => 0))))]) := hD
  refine lv_aload_n hx hb dX4_init_40 rfl (lv_at hl 0 rfl) ?_
  refine lv_iconst (v := (-1)) hx hb dX4_init_41 (by decide) ?_
  refine va_put (D := (dC, dI)) (ci := 4) (v := .int (-1)) (ty := tyX4 6) (C := RX4) (T := TX4) (N := 8) hx hb hts iwX4_init_X4 tyX4 tyX4_ok nmX4 hown hK hP hD hS 0 rfl rfl 6 (by decide) (hts _ (List.mem_of_getElem? (i := 11) rfl)) (fun _ h9 => h9) rfl (tyX4_ok 6 (by decide)) rfl rfl (Nat.le_of_ble_eq_true rfl) dX4_init_42 (fun H locs hP hD hS => ?_)
  have hP : va_P (dC, dI) vwCl ([(h0, .inr (4, [.ref q1, .ref q2, .int 0, .int 0, .int 0, .int 0, .int (-1), .null])), (q1, .inl (ct 0, (6, .inl (fun _ => 0)))), (q2, .inl (ct 0, (6, .inl (fun _ => 0))))]) H := hP
  have hD : va_D A ([(h0, .inr (4, [.ref q1, .ref q2, .int 0, .int 0, .int 0, .int 0, .int (-1), .null])), (q1, .inl (ct 0, (6, .inl (fun _ => 0)))), (q2, .inl (ct 0, (6, .inl (fun _ => 0))))]) := hD
  refine lv_aload_n hx hb dX4_init_45 rfl (lv_at hl 0 rfl) ?_
  refine lv_bipush (v := 6) hx hb dX4_init_46 (by decide) ?_
  refine nw_a (a0 := (6, .inl (fun _ => 0))) (ty := .int) hx hb (hts _ (List.mem_of_getElem? (i := 4) rfl)) rfl hK hP hD hS hA 0 rfl (fun _ h => by cases h) (fun _ => rfl) (by decide) (by decide) (by decide) (Nat.le_of_ble_eq_true rfl) (Nat.le_of_ble_eq_true rfl) dX4_init_48 (fun q3 H hP hD hS => ?_)
  have hP : va_P (dC, dI) vwCl ([(h0, .inr (4, [.ref q1, .ref q2, .int 0, .int 0, .int 0, .int 0, .int (-1), .null])), (q1, .inl (ct 0, (6, .inl (fun _ => 0)))), (q2, .inl (ct 0, (6, .inl (fun _ => 0)))), (q3, .inl (ct 0, (6, .inl (fun _ => 0))))]) H := hP
  have hD : va_D A ([(h0, .inr (4, [.ref q1, .ref q2, .int 0, .int 0, .int 0, .int 0, .int (-1), .null])), (q1, .inl (ct 0, (6, .inl (fun _ => 0)))), (q2, .inl (ct 0, (6, .inl (fun _ => 0)))), (q3, .inl (ct 0, (6, .inl (fun _ => 0))))]) := hD
  refine W.widen (k := 3) (n := 18) (by decide) (by decide) ?_
  refine va_putF (D := (dC, dI)) (ci := 4) (v := .ref q3) (ty := tyX4 7) (C := RX4) (T := TX4) (N := 8) hx hb hts iwX4_init_X4 tyX4 tyX4_ok nmX4 hown hK hP hD hS 0 rfl rfl 7 (by decide) (hts _ (List.mem_of_getElem? (i := 12) rfl)) (fun _ h9 => h9) rfl hin rfl (tyX4_ok 7 (by decide)) rfl rfl (Nat.le_of_ble_eq_true rfl) dX4_init_50 (fun H locs hP hD hS => ?_)
  have hP : va_P (dC, dI) vwCl ([(h0, .inr (4, [.ref q1, .ref q2, .int 0, .int 0, .int 0, .int 0, .int (-1), .ref q3])), (q1, .inl (ct 0, (6, .inl (fun _ => 0)))), (q2, .inl (ct 0, (6, .inl (fun _ => 0)))), (q3, .inl (ct 0, (6, .inl (fun _ => 0))))]) H := hP
  have hD : va_D A ([(h0, .inr (4, [.ref q1, .ref q2, .int 0, .int 0, .int 0, .int 0, .int (-1), .ref q3])), (q1, .inl (ct 0, (6, .inl (fun _ => 0)))), (q2, .inl (ct 0, (6, .inl (fun _ => 0)))), (q3, .inl (ct 0, (6, .inl (fun _ => 0))))]) := hD
  have hP9 := hP.sub (ws' := (wS ct (fun k => [h0, q1, q2, q3].getD k 0) (upf z0 6 (-1)))) [0, 1, 2, 3] rfl
  have hD9 := hD.sub (ws' := (wS ct (fun k => [h0, q1, q2, q3].getD k 0) (upf z0 6 (-1)))) [0, 1, 2, 3] rfl rfl
  exact W.vret hx hb hr (fun t ht hW => ⟨⟨(fun k => [h0, q1, q2, q3].getD k 0), rfl, rfl, by rw [ht]; exact hP9, va_K.moved hW.alike hK, hD9⟩, hS.F ht⟩) hS.2.2 dX4_init_53
abbrev rmX2_init : Room := { frames := 1, cells := 8, slots := 252, locals := 12 }
theorem iwX2_init_X2 : ∀ w ∈ wsX20, w ∈ wsX2_init := fun _ h => List.mem_cons_of_mem _ (List.mem_append_right _ (h))
theorem dfX2 : ∀ j, j < 10 → defaultValue (tyX2 j) = vp_V [.int 0, .int 0, .null, .null, .null, .null, .null, .null, .null, .null] j := fun j hj => match j, hj with
  | 0, _ => rfl
  | 1, _ => rfl
  | 2, _ => rfl
  | 3, _ => rfl
  | 4, _ => rfl
  | 5, _ => rfl
  | 6, _ => rfl
  | 7, _ => rfl
  | 8, _ => rfl
  | 9, _ => rfl
  | j + 10, h => absurd h (by omega)
set_option maxHeartbeats 4000000 in
set_option maxRecDepth 100000 in
theorem kX2_init (l : Launch) (dC : Nat → ClassId) (dI : Nat → Nat → Nat) (ct : Nat → ClassId) (h0 sz : Nat) : Met l yX2_init wsX2_init rmX2_init (va_Pc [.ref h0] (PB (dC, dI) ct E0 sz ([(h0, .inr (2, [.int 0, .int 0, .null, .null, .null, .null, .null, .null, .null, .null]))]))) (va_Qv (fun a : Nat → Nat => a 0 = h0) (fun a => QB (dC, dI) ct (va_A ([(h0, .inr (2, [.int 0, .int 0, .null, .null, .null, .null, .null, .null, .null, .null]))]) sz) (wM ct a z0)) (va_A ([(h0, .inr (2, [.int 0, .int 0, .null, .null, .null, .null, .null, .null, .null, .null]))]) sz)) 8 252 (va_A ([(h0, .inr (2, [.int 0, .int 0, .null, .null, .null, .null, .null, .null, .null, .null]))]) sz) := by
  refine Met.ofW (cc := cX2_init) (maxL := 1) (ret := none) (by decide) rfl ?_
  intro p e s m args below meth c s₁ B hml hv
  obtain ⟨hargs, hsz, hP, hK, hD0, hE⟩ := hv
  have hx := B.exec
  have hb := B.bytes
  have hr := B.returns
  have hts := atoms_spec (ws := wsX2_init) B.pre
  have hown : s.vm.findClass RX2 = some m.cls := findClass_of_methodNamed B.named
  have hlocks := B.notSynchronized
  have hin : meth.name = "<init>" := (name_of_methodNamed B.named B.method).1
  clear B s₁
  subst hsz
  have hD := hD0.self (sz := s.heap.size)
  clear hD0
  generalize hAe : va_A ([(h0, .inr (2, [.int 0, .int 0, .null, .null, .null, .null, .null, .null, .null, .null]))]) s.heap.size = A at hD hE ⊢
  have hA : ∀ q : Nat, s.heap.size ≤ q → A q := fun q h => by rw [← hAe]; exact Or.inr h
  clear hAe
  have hS : va_S A s.heap s.heap [] := va_S.rf
  refine entryW (vs := [.ref h0]) hargs (Nat.le_of_ble_eq_true rfl) (fun ls hl => ?_)
  replace hl : lv_has ls 1 [(0, .ref h0)] := hl
  refine lv_aload_n hx hb dX2_init_0 rfl (lv_at hl 0 rfl) ?_
  refine W.objInit hx hb hown (hts _ (List.mem_of_getElem? (i := 1) rfl)) (hts _ (List.mem_of_getElem? (i := 2) rfl)) (hts _ (List.mem_of_getElem? (i := 3) rfl)) rfl (by rw [hml]; exact hl.1) rfl dX2_init_1 (Nat.le_of_ble_eq_true rfl) (Nat.le_of_ble_eq_true rfl) ?_
  refine W.eq (g2 := F0 m 4 ls []) rfl ?_
  refine lv_aload_n hx hb dX2_init_4 rfl (lv_at hl 0 rfl) ?_
  refine lv_iconst (v := 0) hx hb dX2_init_5 (by decide) ?_
  refine va_put (D := (dC, dI)) (ci := 2) (v := .int 0) (ty := tyX2 0) (C := RX2) (T := TX2) (N := 10) hx hb hts iwX2_init_X2 tyX2 tyX2_ok nmX2 hown hK hP hD hS 0 rfl rfl 0 (by decide) (hts _ (List.mem_of_getElem? (i := 4) rfl)) (fun _ h9 => h9) rfl (tyX2_ok 0 (by decide)) rfl rfl (Nat.le_of_ble_eq_true rfl) dX2_init_6 (fun H locs hP hD hS => ?_)
  have hP : va_P (dC, dI) vwCl ([(h0, .inr (2, [.int 0, .int 0, .null, .null, .null, .null, .null, .null, .null, .null]))]) H := hP
  have hD : va_D A ([(h0, .inr (2, [.int 0, .int 0, .null, .null, .null, .null, .null, .null, .null, .null]))]) := hD
  refine lv_aload_n hx hb dX2_init_9 rfl (lv_at hl 0 rfl) ?_
  refine lv_iconst (v := 0) hx hb dX2_init_10 (by decide) ?_
  refine va_put (D := (dC, dI)) (ci := 2) (v := .int 0) (ty := tyX2 1) (C := RX2) (T := TX2) (N := 10) hx hb hts iwX2_init_X2 tyX2 tyX2_ok nmX2 hown hK hP hD hS 0 rfl rfl 1 (by decide) (hts _ (List.mem_of_getElem? (i := 5) rfl)) (fun _ h9 => h9) rfl (tyX2_ok 1 (by decide)) rfl rfl (Nat.le_of_ble_eq_true rfl) dX2_init_11 (fun H locs hP hD hS => ?_)
  have hP : va_P (dC, dI) vwCl ([(h0, .inr (2, [.int 0, .int 0, .null, .null, .null, .null, .null, .null, .null, .null]))]) H := hP
  have hD : va_D A ([(h0, .inr (2, [.int 0, .int 0, .null, .null, .null, .null, .null, .null, .null, .null]))]) := hD
  refine lv_aload_n hx hb dX2_init_14 rfl (lv_at hl 0 rfl) ?_
  refine lv_bipush (v := 6) hx hb dX2_init_15 (by decide) ?_
  refine nw_a (a0 := (6, .inl (fun _ => 0))) (ty := .int) hx hb (hts _ (List.mem_of_getElem? (i := 6) rfl)) rfl hK hP hD hS hA 0 rfl (fun _ h => by cases h) (fun _ => rfl) (by decide) (by decide) (by decide) (Nat.le_of_ble_eq_true rfl) (Nat.le_of_ble_eq_true rfl) dX2_init_17 (fun q1 H hP hD hS => ?_)
  have hP : va_P (dC, dI) vwCl ([(h0, .inr (2, [.int 0, .int 0, .null, .null, .null, .null, .null, .null, .null, .null])), (q1, .inl (ct 0, (6, .inl (fun _ => 0))))]) H := hP
  have hD : va_D A ([(h0, .inr (2, [.int 0, .int 0, .null, .null, .null, .null, .null, .null, .null, .null])), (q1, .inl (ct 0, (6, .inl (fun _ => 0))))]) := hD
  refine W.widen (k := 1) (n := 6) (by decide) (by decide) ?_
  refine va_putF (D := (dC, dI)) (ci := 2) (v := .ref q1) (ty := tyX2 2) (C := RX2) (T := TX2) (N := 10) hx hb hts iwX2_init_X2 tyX2 tyX2_ok nmX2 hown hK hP hD hS 0 rfl rfl 2 (by decide) (hts _ (List.mem_of_getElem? (i := 7) rfl)) (fun _ h9 => h9) rfl hin rfl (tyX2_ok 2 (by decide)) rfl rfl (Nat.le_of_ble_eq_true rfl) dX2_init_19 (fun H locs hP hD hS => ?_)
  have hP : va_P (dC, dI) vwCl ([(h0, .inr (2, [.int 0, .int 0, .ref q1, .null, .null, .null, .null, .null, .null, .null])), (q1, .inl (ct 0, (6, .inl (fun _ => 0))))]) H := hP
  have hD : va_D A ([(h0, .inr (2, [.int 0, .int 0, .ref q1, .null, .null, .null, .null, .null, .null, .null])), (q1, .inl (ct 0, (6, .inl (fun _ => 0))))]) := hD
  refine lv_aload_n hx hb dX2_init_22 rfl (lv_at hl 0 rfl) ?_
  refine lv_bipush (v := 6) hx hb dX2_init_23 (by decide) ?_
  refine nw_a (a0 := (6, .inl (fun _ => 0))) (ty := .int) hx hb (hts _ (List.mem_of_getElem? (i := 6) rfl)) rfl hK hP hD hS hA 0 rfl (fun _ h => by cases h) (fun _ => rfl) (by decide) (by decide) (by decide) (Nat.le_of_ble_eq_true rfl) (Nat.le_of_ble_eq_true rfl) dX2_init_25 (fun q2 H hP hD hS => ?_)
  have hP : va_P (dC, dI) vwCl ([(h0, .inr (2, [.int 0, .int 0, .ref q1, .null, .null, .null, .null, .null, .null, .null])), (q1, .inl (ct 0, (6, .inl (fun _ => 0)))), (q2, .inl (ct 0, (6, .inl (fun _ => 0))))]) H := hP
  have hD : va_D A ([(h0, .inr (2, [.int 0, .int 0, .ref q1, .null, .null, .null, .null, .null, .null, .null])), (q1, .inl (ct 0, (6, .inl (fun _ => 0)))), (q2, .inl (ct 0, (6, .inl (fun _ => 0))))]) := hD
  refine W.widen (k := 2) (n := 12) (by decide) (by decide) ?_
  refine va_putF (D := (dC, dI)) (ci := 2) (v := .ref q2) (ty := tyX2 3) (C := RX2) (T := TX2) (N := 10) hx hb hts iwX2_init_X2 tyX2 tyX2_ok nmX2 hown hK hP hD hS 0 rfl rfl 3 (by decide) (hts _ (List.mem_of_getElem? (i := 8) rfl)) (fun _ h9 => h9) rfl hin rfl (tyX2_ok 3 (by decide)) rfl rfl (Nat.le_of_ble_eq_true rfl) dX2_init_27 (fun H locs hP hD hS => ?_)
  have hP : va_P (dC, dI) vwCl ([(h0, .inr (2, [.int 0, .int 0, .ref q1, .ref q2, .null, .null, .null, .null, .null, .null])), (q1, .inl (ct 0, (6, .inl (fun _ => 0)))), (q2, .inl (ct 0, (6, .inl (fun _ => 0))))]) H := hP
  have hD : va_D A ([(h0, .inr (2, [.int 0, .int 0, .ref q1, .ref q2, .null, .null, .null, .null, .null, .null])), (q1, .inl (ct 0, (6, .inl (fun _ => 0)))), (q2, .inl (ct 0, (6, .inl (fun _ => 0))))]) := hD
  refine lv_aload_n hx hb dX2_init_30 rfl (lv_at hl 0 rfl) ?_
  refine lv_bipush (v := 40) hx hb dX2_init_31 (by decide) ?_
  refine nw_a (a0 := (40, .inl (fun _ => 0))) (ty := .int) hx hb (hts _ (List.mem_of_getElem? (i := 6) rfl)) rfl hK hP hD hS hA 0 rfl (fun _ h => by cases h) (fun _ => rfl) (by decide) (by decide) (by decide) (Nat.le_of_ble_eq_true rfl) (Nat.le_of_ble_eq_true rfl) dX2_init_33 (fun q3 H hP hD hS => ?_)
  have hP : va_P (dC, dI) vwCl ([(h0, .inr (2, [.int 0, .int 0, .ref q1, .ref q2, .null, .null, .null, .null, .null, .null])), (q1, .inl (ct 0, (6, .inl (fun _ => 0)))), (q2, .inl (ct 0, (6, .inl (fun _ => 0)))), (q3, .inl (ct 0, (40, .inl (fun _ => 0))))]) H := hP
  have hD : va_D A ([(h0, .inr (2, [.int 0, .int 0, .ref q1, .ref q2, .null, .null, .null, .null, .null, .null])), (q1, .inl (ct 0, (6, .inl (fun _ => 0)))), (q2, .inl (ct 0, (6, .inl (fun _ => 0)))), (q3, .inl (ct 0, (40, .inl (fun _ => 0))))]) := hD
  refine W.widen (k := 3) (n := 52) (by decide) (by decide) ?_
  refine va_putF (D := (dC, dI)) (ci := 2) (v := .ref q3) (ty := tyX2 4) (C := RX2) (T := TX2) (N := 10) hx hb hts iwX2_init_X2 tyX2 tyX2_ok nmX2 hown hK hP hD hS 0 rfl rfl 4 (by decide) (hts _ (List.mem_of_getElem? (i := 9) rfl)) (fun _ h9 => h9) rfl hin rfl (tyX2_ok 4 (by decide)) rfl rfl (Nat.le_of_ble_eq_true rfl) dX2_init_35 (fun H locs hP hD hS => ?_)
  have hP : va_P (dC, dI) vwCl ([(h0, .inr (2, [.int 0, .int 0, .ref q1, .ref q2, .ref q3, .null, .null, .null, .null, .null])), (q1, .inl (ct 0, (6, .inl (fun _ => 0)))), (q2, .inl (ct 0, (6, .inl (fun _ => 0)))), (q3, .inl (ct 0, (40, .inl (fun _ => 0))))]) H := hP
  have hD : va_D A ([(h0, .inr (2, [.int 0, .int 0, .ref q1, .ref q2, .ref q3, .null, .null, .null, .null, .null])), (q1, .inl (ct 0, (6, .inl (fun _ => 0)))), (q2, .inl (ct 0, (6, .inl (fun _ => 0)))), (q3, .inl (ct 0, (40, .inl (fun _ => 0))))]) := hD
  refine lv_aload_n hx hb dX2_init_38 rfl (lv_at hl 0 rfl) ?_
  refine lv_bipush (v := 40) hx hb dX2_init_39 (by decide) ?_
  refine nw_a (a0 := (40, .inl (fun _ => 0))) (ty := .int) hx hb (hts _ (List.mem_of_getElem? (i := 6) rfl)) rfl hK hP hD hS hA 0 rfl (fun _ h => by cases h) (fun _ => rfl) (by decide) (by decide) (by decide) (Nat.le_of_ble_eq_true rfl) (Nat.le_of_ble_eq_true rfl) dX2_init_41 (fun q4 H hP hD hS => ?_)
  have hP : va_P (dC, dI) vwCl ([(h0, .inr (2, [.int 0, .int 0, .ref q1, .ref q2, .ref q3, .null, .null, .null, .null, .null])), (q1, .inl (ct 0, (6, .inl (fun _ => 0)))), (q2, .inl (ct 0, (6, .inl (fun _ => 0)))), (q3, .inl (ct 0, (40, .inl (fun _ => 0)))), (q4, .inl (ct 0, (40, .inl (fun _ => 0))))]) H := hP
  have hD : va_D A ([(h0, .inr (2, [.int 0, .int 0, .ref q1, .ref q2, .ref q3, .null, .null, .null, .null, .null])), (q1, .inl (ct 0, (6, .inl (fun _ => 0)))), (q2, .inl (ct 0, (6, .inl (fun _ => 0)))), (q3, .inl (ct 0, (40, .inl (fun _ => 0)))), (q4, .inl (ct 0, (40, .inl (fun _ => 0))))]) := hD
  refine W.widen (k := 4) (n := 92) (by decide) (by decide) ?_
  refine va_putF (D := (dC, dI)) (ci := 2) (v := .ref q4) (ty := tyX2 5) (C := RX2) (T := TX2) (N := 10) hx hb hts iwX2_init_X2 tyX2 tyX2_ok nmX2 hown hK hP hD hS 0 rfl rfl 5 (by decide) (hts _ (List.mem_of_getElem? (i := 10) rfl)) (fun _ h9 => h9) rfl hin rfl (tyX2_ok 5 (by decide)) rfl rfl (Nat.le_of_ble_eq_true rfl) dX2_init_43 (fun H locs hP hD hS => ?_)
  have hP : va_P (dC, dI) vwCl ([(h0, .inr (2, [.int 0, .int 0, .ref q1, .ref q2, .ref q3, .ref q4, .null, .null, .null, .null])), (q1, .inl (ct 0, (6, .inl (fun _ => 0)))), (q2, .inl (ct 0, (6, .inl (fun _ => 0)))), (q3, .inl (ct 0, (40, .inl (fun _ => 0)))), (q4, .inl (ct 0, (40, .inl (fun _ => 0))))]) H := hP
  have hD : va_D A ([(h0, .inr (2, [.int 0, .int 0, .ref q1, .ref q2, .ref q3, .ref q4, .null, .null, .null, .null])), (q1, .inl (ct 0, (6, .inl (fun _ => 0)))), (q2, .inl (ct 0, (6, .inl (fun _ => 0)))), (q3, .inl (ct 0, (40, .inl (fun _ => 0)))), (q4, .inl (ct 0, (40, .inl (fun _ => 0))))]) := hD
  refine lv_aload_n hx hb dX2_init_46 rfl (lv_at hl 0 rfl) ?_
  refine lv_bipush (v := 40) hx hb dX2_init_47 (by decide) ?_
  refine nw_a (a0 := (40, .inl (fun _ => 0))) (ty := .int) hx hb (hts _ (List.mem_of_getElem? (i := 6) rfl)) rfl hK hP hD hS hA 0 rfl (fun _ h => by cases h) (fun _ => rfl) (by decide) (by decide) (by decide) (Nat.le_of_ble_eq_true rfl) (Nat.le_of_ble_eq_true rfl) dX2_init_49 (fun q5 H hP hD hS => ?_)
  have hP : va_P (dC, dI) vwCl ([(h0, .inr (2, [.int 0, .int 0, .ref q1, .ref q2, .ref q3, .ref q4, .null, .null, .null, .null])), (q1, .inl (ct 0, (6, .inl (fun _ => 0)))), (q2, .inl (ct 0, (6, .inl (fun _ => 0)))), (q3, .inl (ct 0, (40, .inl (fun _ => 0)))), (q4, .inl (ct 0, (40, .inl (fun _ => 0)))), (q5, .inl (ct 0, (40, .inl (fun _ => 0))))]) H := hP
  have hD : va_D A ([(h0, .inr (2, [.int 0, .int 0, .ref q1, .ref q2, .ref q3, .ref q4, .null, .null, .null, .null])), (q1, .inl (ct 0, (6, .inl (fun _ => 0)))), (q2, .inl (ct 0, (6, .inl (fun _ => 0)))), (q3, .inl (ct 0, (40, .inl (fun _ => 0)))), (q4, .inl (ct 0, (40, .inl (fun _ => 0)))), (q5, .inl (ct 0, (40, .inl (fun _ => 0))))]) := hD
  refine W.widen (k := 5) (n := 132) (by decide) (by decide) ?_
  refine va_putF (D := (dC, dI)) (ci := 2) (v := .ref q5) (ty := tyX2 6) (C := RX2) (T := TX2) (N := 10) hx hb hts iwX2_init_X2 tyX2 tyX2_ok nmX2 hown hK hP hD hS 0 rfl rfl 6 (by decide) (hts _ (List.mem_of_getElem? (i := 11) rfl)) (fun _ h9 => h9) rfl hin rfl (tyX2_ok 6 (by decide)) rfl rfl (Nat.le_of_ble_eq_true rfl) dX2_init_51 (fun H locs hP hD hS => ?_)
  have hP : va_P (dC, dI) vwCl ([(h0, .inr (2, [.int 0, .int 0, .ref q1, .ref q2, .ref q3, .ref q4, .ref q5, .null, .null, .null])), (q1, .inl (ct 0, (6, .inl (fun _ => 0)))), (q2, .inl (ct 0, (6, .inl (fun _ => 0)))), (q3, .inl (ct 0, (40, .inl (fun _ => 0)))), (q4, .inl (ct 0, (40, .inl (fun _ => 0)))), (q5, .inl (ct 0, (40, .inl (fun _ => 0))))]) H := hP
  have hD : va_D A ([(h0, .inr (2, [.int 0, .int 0, .ref q1, .ref q2, .ref q3, .ref q4, .ref q5, .null, .null, .null])), (q1, .inl (ct 0, (6, .inl (fun _ => 0)))), (q2, .inl (ct 0, (6, .inl (fun _ => 0)))), (q3, .inl (ct 0, (40, .inl (fun _ => 0)))), (q4, .inl (ct 0, (40, .inl (fun _ => 0)))), (q5, .inl (ct 0, (40, .inl (fun _ => 0))))]) := hD
  refine lv_aload_n hx hb dX2_init_54 rfl (lv_at hl 0 rfl) ?_
  refine lv_bipush (v := 40) hx hb dX2_init_55 (by decide) ?_
  refine nw_a (a0 := (40, .inl (fun _ => 0))) (ty := .int) hx hb (hts _ (List.mem_of_getElem? (i := 6) rfl)) rfl hK hP hD hS hA 0 rfl (fun _ h => by cases h) (fun _ => rfl) (by decide) (by decide) (by decide) (Nat.le_of_ble_eq_true rfl) (Nat.le_of_ble_eq_true rfl) dX2_init_57 (fun q6 H hP hD hS => ?_)
  have hP : va_P (dC, dI) vwCl ([(h0, .inr (2, [.int 0, .int 0, .ref q1, .ref q2, .ref q3, .ref q4, .ref q5, .null, .null, .null])), (q1, .inl (ct 0, (6, .inl (fun _ => 0)))), (q2, .inl (ct 0, (6, .inl (fun _ => 0)))), (q3, .inl (ct 0, (40, .inl (fun _ => 0)))), (q4, .inl (ct 0, (40, .inl (fun _ => 0)))), (q5, .inl (ct 0, (40, .inl (fun _ => 0)))), (q6, .inl (ct 0, (40, .inl (fun _ => 0))))]) H := hP
  have hD : va_D A ([(h0, .inr (2, [.int 0, .int 0, .ref q1, .ref q2, .ref q3, .ref q4, .ref q5, .null, .null, .null])), (q1, .inl (ct 0, (6, .inl (fun _ => 0)))), (q2, .inl (ct 0, (6, .inl (fun _ => 0)))), (q3, .inl (ct 0, (40, .inl (fun _ => 0)))), (q4, .inl (ct 0, (40, .inl (fun _ => 0)))), (q5, .inl (ct 0, (40, .inl (fun _ => 0)))), (q6, .inl (ct 0, (40, .inl (fun _ => 0))))]) := hD
  refine W.widen (k := 6) (n := 172) (by decide) (by decide) ?_
  refine va_putF (D := (dC, dI)) (ci := 2) (v := .ref q6) (ty := tyX2 7) (C := RX2) (T := TX2) (N := 10) hx hb hts iwX2_init_X2 tyX2 tyX2_ok nmX2 hown hK hP hD hS 0 rfl rfl 7 (by decide) (hts _ (List.mem_of_getElem? (i := 12) rfl)) (fun _ h9 => h9) rfl hin rfl (tyX2_ok 7 (by decide)) rfl rfl (Nat.le_of_ble_eq_true rfl) dX2_init_59 (fun H locs hP hD hS => ?_)
  have hP : va_P (dC, dI) vwCl ([(h0, .inr (2, [.int 0, .int 0, .ref q1, .ref q2, .ref q3, .ref q4, .ref q5, .ref q6, .null, .null])), (q1, .inl (ct 0, (6, .inl (fun _ => 0)))), (q2, .inl (ct 0, (6, .inl (fun _ => 0)))), (q3, .inl (ct 0, (40, .inl (fun _ => 0)))), (q4, .inl (ct 0, (40, .inl (fun _ => 0)))), (q5, .inl (ct 0, (40, .inl (fun _ => 0)))), (q6, .inl (ct 0, (40, .inl (fun _ => 0))))]) H := hP
  have hD : va_D A ([(h0, .inr (2, [.int 0, .int 0, .ref q1, .ref q2, .ref q3, .ref q4, .ref q5, .ref q6, .null, .null])), (q1, .inl (ct 0, (6, .inl (fun _ => 0)))), (q2, .inl (ct 0, (6, .inl (fun _ => 0)))), (q3, .inl (ct 0, (40, .inl (fun _ => 0)))), (q4, .inl (ct 0, (40, .inl (fun _ => 0)))), (q5, .inl (ct 0, (40, .inl (fun _ => 0)))), (q6, .inl (ct 0, (40, .inl (fun _ => 0))))]) := hD
  refine lv_aload_n hx hb dX2_init_62 rfl (lv_at hl 0 rfl) ?_
  refine lv_bipush (v := 40) hx hb dX2_init_63 (by decide) ?_
  refine nw_a (a0 := (40, .inl (fun _ => 0))) (ty := .int) hx hb (hts _ (List.mem_of_getElem? (i := 6) rfl)) rfl hK hP hD hS hA 0 rfl (fun _ h => by cases h) (fun _ => rfl) (by decide) (by decide) (by decide) (Nat.le_of_ble_eq_true rfl) (Nat.le_of_ble_eq_true rfl) dX2_init_65 (fun q7 H hP hD hS => ?_)
  have hP : va_P (dC, dI) vwCl ([(h0, .inr (2, [.int 0, .int 0, .ref q1, .ref q2, .ref q3, .ref q4, .ref q5, .ref q6, .null, .null])), (q1, .inl (ct 0, (6, .inl (fun _ => 0)))), (q2, .inl (ct 0, (6, .inl (fun _ => 0)))), (q3, .inl (ct 0, (40, .inl (fun _ => 0)))), (q4, .inl (ct 0, (40, .inl (fun _ => 0)))), (q5, .inl (ct 0, (40, .inl (fun _ => 0)))), (q6, .inl (ct 0, (40, .inl (fun _ => 0)))), (q7, .inl (ct 0, (40, .inl (fun _ => 0))))]) H := hP
  have hD : va_D A ([(h0, .inr (2, [.int 0, .int 0, .ref q1, .ref q2, .ref q3, .ref q4, .ref q5, .ref q6, .null, .null])), (q1, .inl (ct 0, (6, .inl (fun _ => 0)))), (q2, .inl (ct 0, (6, .inl (fun _ => 0)))), (q3, .inl (ct 0, (40, .inl (fun _ => 0)))), (q4, .inl (ct 0, (40, .inl (fun _ => 0)))), (q5, .inl (ct 0, (40, .inl (fun _ => 0)))), (q6, .inl (ct 0, (40, .inl (fun _ => 0)))), (q7, .inl (ct 0, (40, .inl (fun _ => 0))))]) := hD
  refine W.widen (k := 7) (n := 212) (by decide) (by decide) ?_
  refine va_putF (D := (dC, dI)) (ci := 2) (v := .ref q7) (ty := tyX2 8) (C := RX2) (T := TX2) (N := 10) hx hb hts iwX2_init_X2 tyX2 tyX2_ok nmX2 hown hK hP hD hS 0 rfl rfl 8 (by decide) (hts _ (List.mem_of_getElem? (i := 13) rfl)) (fun _ h9 => h9) rfl hin rfl (tyX2_ok 8 (by decide)) rfl rfl (Nat.le_of_ble_eq_true rfl) dX2_init_67 (fun H locs hP hD hS => ?_)
  have hP : va_P (dC, dI) vwCl ([(h0, .inr (2, [.int 0, .int 0, .ref q1, .ref q2, .ref q3, .ref q4, .ref q5, .ref q6, .ref q7, .null])), (q1, .inl (ct 0, (6, .inl (fun _ => 0)))), (q2, .inl (ct 0, (6, .inl (fun _ => 0)))), (q3, .inl (ct 0, (40, .inl (fun _ => 0)))), (q4, .inl (ct 0, (40, .inl (fun _ => 0)))), (q5, .inl (ct 0, (40, .inl (fun _ => 0)))), (q6, .inl (ct 0, (40, .inl (fun _ => 0)))), (q7, .inl (ct 0, (40, .inl (fun _ => 0))))]) H := hP
  have hD : va_D A ([(h0, .inr (2, [.int 0, .int 0, .ref q1, .ref q2, .ref q3, .ref q4, .ref q5, .ref q6, .ref q7, .null])), (q1, .inl (ct 0, (6, .inl (fun _ => 0)))), (q2, .inl (ct 0, (6, .inl (fun _ => 0)))), (q3, .inl (ct 0, (40, .inl (fun _ => 0)))), (q4, .inl (ct 0, (40, .inl (fun _ => 0)))), (q5, .inl (ct 0, (40, .inl (fun _ => 0)))), (q6, .inl (ct 0, (40, .inl (fun _ => 0)))), (q7, .inl (ct 0, (40, .inl (fun _ => 0))))]) := hD
  refine lv_aload_n hx hb dX2_init_70 rfl (lv_at hl 0 rfl) ?_
  refine lv_bipush (v := 40) hx hb dX2_init_71 (by decide) ?_
  refine nw_a (a0 := (40, .inl (fun _ => 0))) (ty := .int) hx hb (hts _ (List.mem_of_getElem? (i := 6) rfl)) rfl hK hP hD hS hA 0 rfl (fun _ h => by cases h) (fun _ => rfl) (by decide) (by decide) (by decide) (Nat.le_of_ble_eq_true rfl) (Nat.le_of_ble_eq_true rfl) dX2_init_73 (fun q8 H hP hD hS => ?_)
  have hP : va_P (dC, dI) vwCl ([(h0, .inr (2, [.int 0, .int 0, .ref q1, .ref q2, .ref q3, .ref q4, .ref q5, .ref q6, .ref q7, .null])), (q1, .inl (ct 0, (6, .inl (fun _ => 0)))), (q2, .inl (ct 0, (6, .inl (fun _ => 0)))), (q3, .inl (ct 0, (40, .inl (fun _ => 0)))), (q4, .inl (ct 0, (40, .inl (fun _ => 0)))), (q5, .inl (ct 0, (40, .inl (fun _ => 0)))), (q6, .inl (ct 0, (40, .inl (fun _ => 0)))), (q7, .inl (ct 0, (40, .inl (fun _ => 0)))), (q8, .inl (ct 0, (40, .inl (fun _ => 0))))]) H := hP
  have hD : va_D A ([(h0, .inr (2, [.int 0, .int 0, .ref q1, .ref q2, .ref q3, .ref q4, .ref q5, .ref q6, .ref q7, .null])), (q1, .inl (ct 0, (6, .inl (fun _ => 0)))), (q2, .inl (ct 0, (6, .inl (fun _ => 0)))), (q3, .inl (ct 0, (40, .inl (fun _ => 0)))), (q4, .inl (ct 0, (40, .inl (fun _ => 0)))), (q5, .inl (ct 0, (40, .inl (fun _ => 0)))), (q6, .inl (ct 0, (40, .inl (fun _ => 0)))), (q7, .inl (ct 0, (40, .inl (fun _ => 0)))), (q8, .inl (ct 0, (40, .inl (fun _ => 0))))]) := hD
  refine W.widen (k := 8) (n := 252) (by decide) (by decide) ?_
  refine va_putF (D := (dC, dI)) (ci := 2) (v := .ref q8) (ty := tyX2 9) (C := RX2) (T := TX2) (N := 10) hx hb hts iwX2_init_X2 tyX2 tyX2_ok nmX2 hown hK hP hD hS 0 rfl rfl 9 (by decide) (hts _ (List.mem_of_getElem? (i := 14) rfl)) (fun _ h9 => h9) rfl hin rfl (tyX2_ok 9 (by decide)) rfl rfl (Nat.le_of_ble_eq_true rfl) dX2_init_75 (fun H locs hP hD hS => ?_)
  have hP : va_P (dC, dI) vwCl ([(h0, .inr (2, [.int 0, .int 0, .ref q1, .ref q2, .ref q3, .ref q4, .ref q5, .ref q6, .ref q7, .ref q8])), (q1, .inl (ct 0, (6, .inl (fun _ => 0)))), (q2, .inl (ct 0, (6, .inl (fun _ => 0)))), (q3, .inl (ct 0, (40, .inl (fun _ => 0)))), (q4, .inl (ct 0, (40, .inl (fun _ => 0)))), (q5, .inl (ct 0, (40, .inl (fun _ => 0)))), (q6, .inl (ct 0, (40, .inl (fun _ => 0)))), (q7, .inl (ct 0, (40, .inl (fun _ => 0)))), (q8, .inl (ct 0, (40, .inl (fun _ => 0))))]) H := hP
  have hD : va_D A ([(h0, .inr (2, [.int 0, .int 0, .ref q1, .ref q2, .ref q3, .ref q4, .ref q5, .ref q6, .ref q7, .ref q8])), (q1, .inl (ct 0, (6, .inl (fun _ => 0)))), (q2, .inl (ct 0, (6, .inl (fun _ => 0)))), (q3, .inl (ct 0, (40, .inl (fun _ => 0)))), (q4, .inl (ct 0, (40, .inl (fun _ => 0)))), (q5, .inl (ct 0, (40, .inl (fun _ => 0)))), (q6, .inl (ct 0, (40, .inl (fun _ => 0)))), (q7, .inl (ct 0, (40, .inl (fun _ => 0)))), (q8, .inl (ct 0, (40, .inl (fun _ => 0))))]) := hD
  have hP9 := hP.sub (ws' := (wM ct (fun k => [h0, q1, q2, q3, q4, q5, q6, q7, q8].getD k 0) z0)) [0, 1, 2, 3, 4, 5, 6, 7, 8] rfl
  have hD9 := hD.sub (ws' := (wM ct (fun k => [h0, q1, q2, q3, q4, q5, q6, q7, q8].getD k 0) z0)) [0, 1, 2, 3, 4, 5, 6, 7, 8] rfl rfl
  exact W.vret hx hb hr (fun t ht hW => ⟨⟨(fun k => [h0, q1, q2, q3, q4, q5, q6, q7, q8].getD k 0), rfl, rfl, by rw [ht]; exact hP9, va_K.moved hW.alike hK, hD9⟩, hS.F ht⟩) hS.2.2 dX2_init_78
abbrev rmX0_init : Room := { frames := 2, cells := 14, slots := 382, locals := 32 }
theorem iwX0_init_X0 : ∀ w ∈ wsX00, w ∈ wsX0_init := fun _ h => List.mem_cons_of_mem _ (List.mem_append_left _ (List.mem_append_right _ (h)))
theorem iwX0_init_X2 : ∀ w ∈ wsX20, w ∈ wsX0_init := fun _ h => List.mem_cons_of_mem _ (List.mem_append_right _ (h))
theorem dfX0 : ∀ j, j < 7 → defaultValue (tyX0 j) = vp_V [.int 0, .null, .null, .null, .null, .null, .null] j := fun j hj => match j, hj with
  | 0, _ => rfl
  | 1, _ => rfl
  | 2, _ => rfl
  | 3, _ => rfl
  | 4, _ => rfl
  | 5, _ => rfl
  | 6, _ => rfl
  | j + 7, h => absurd h (by omega)
set_option maxHeartbeats 4000000 in
set_option maxRecDepth 100000 in
theorem kX0_init (l : Launch) (dC : Nat → ClassId) (dI : Nat → Nat → Nat) (ct : Nat → ClassId) (h0 sz : Nat) : Met l yX0_init wsX0_init rmX0_init (va_Pc [.ref h0] (PB (dC, dI) ct EN sz ([(h0, .inr (0, [.int 0, .null, .null, .null, .null, .null, .null]))]))) (va_Qv (fun a : Nat → Nat => a 0 = h0) (fun a => QB (dC, dI) ct (va_A ([(h0, .inr (0, [.int 0, .null, .null, .null, .null, .null, .null]))]) sz) (wB ct a (a 6) z0 ++ wM ct (fun k => a (k + 6)) z0)) (va_A ([(h0, .inr (0, [.int 0, .null, .null, .null, .null, .null, .null]))]) sz)) 14 382 (va_A ([(h0, .inr (0, [.int 0, .null, .null, .null, .null, .null, .null]))]) sz) := by
  refine Met.ofW (cc := cX0_init) (maxL := 1) (ret := none) (by decide) rfl ?_
  intro p e s m args below meth c s₁ B hml hv
  obtain ⟨hargs, hsz, hP, hK, hD0, hE⟩ := hv
  have hx := B.exec
  have hb := B.bytes
  have hr := B.returns
  have hts := atoms_spec (ws := wsX0_init) B.pre
  have hown : s.vm.findClass RX0 = some m.cls := findClass_of_methodNamed B.named
  have hlocks := B.notSynchronized
  have hin : meth.name = "<init>" := (name_of_methodNamed B.named B.method).1
  clear B s₁
  subst hsz
  have hD := hD0.self (sz := s.heap.size)
  clear hD0
  generalize hAe : va_A ([(h0, .inr (0, [.int 0, .null, .null, .null, .null, .null, .null]))]) s.heap.size = A at hD hE ⊢
  have hA : ∀ q : Nat, s.heap.size ≤ q → A q := fun q h => by rw [← hAe]; exact Or.inr h
  clear hAe
  have hS : va_S A s.heap s.heap [] := va_S.rf
  refine entryW (vs := [.ref h0]) hargs (Nat.le_of_ble_eq_true rfl) (fun ls hl => ?_)
  replace hl : lv_has ls 1 [(0, .ref h0)] := hl
  refine lv_aload_n hx hb dX0_init_0 rfl (lv_at hl 0 rfl) ?_
  refine W.objInit hx hb hown (hts _ (List.mem_of_getElem? (i := 1) rfl)) (hts _ (List.mem_of_getElem? (i := 2) rfl)) (hts _ (List.mem_of_getElem? (i := 3) rfl)) rfl (by rw [hml]; exact hl.1) rfl dX0_init_1 (Nat.le_of_ble_eq_true rfl) (Nat.le_of_ble_eq_true rfl) ?_
  refine W.eq (g2 := F0 m 4 ls []) rfl ?_
  refine lv_aload_n hx hb dX0_init_4 rfl (lv_at hl 0 rfl) ?_
  refine lv_iconst (v := 0) hx hb dX0_init_5 (by decide) ?_
  refine va_put (D := (dC, dI)) (ci := 0) (v := .int 0) (ty := tyX0 0) (C := RX0) (T := TX0) (N := 7) hx hb hts iwX0_init_X0 tyX0 tyX0_ok nmX0 hown hK hP hD hS 0 rfl rfl 0 (by decide) (hts _ (List.mem_of_getElem? (i := 4) rfl)) (fun _ h9 => h9) rfl (tyX0_ok 0 (by decide)) rfl rfl (Nat.le_of_ble_eq_true rfl) dX0_init_6 (fun H locs hP hD hS => ?_)
  have hP : va_P (dC, dI) vwCl ([(h0, .inr (0, [.int 0, .null, .null, .null, .null, .null, .null]))]) H := hP
  have hD : va_D A ([(h0, .inr (0, [.int 0, .null, .null, .null, .null, .null, .null]))]) := hD
  refine lv_aload_n hx hb dX0_init_9 rfl (lv_at hl 0 rfl) ?_
  refine lv_bipush (v := 20) hx hb dX0_init_10 (by decide) ?_
  refine nw_a (a0 := (20, .inl (fun _ => 0))) (ty := .int) hx hb (hts _ (List.mem_of_getElem? (i := 5) rfl)) rfl hK hP hD hS hA 0 rfl (fun _ h => by cases h) (fun _ => rfl) (by decide) (by decide) (by decide) (Nat.le_of_ble_eq_true rfl) (Nat.le_of_ble_eq_true rfl) dX0_init_12 (fun q1 H hP hD hS => ?_)
  have hP : va_P (dC, dI) vwCl ([(h0, .inr (0, [.int 0, .null, .null, .null, .null, .null, .null])), (q1, .inl (ct 0, (20, .inl (fun _ => 0))))]) H := hP
  have hD : va_D A ([(h0, .inr (0, [.int 0, .null, .null, .null, .null, .null, .null])), (q1, .inl (ct 0, (20, .inl (fun _ => 0))))]) := hD
  refine W.widen (k := 1) (n := 20) (by decide) (by decide) ?_
  refine va_putF (D := (dC, dI)) (ci := 0) (v := .ref q1) (ty := tyX0 1) (C := RX0) (T := TX0) (N := 7) hx hb hts iwX0_init_X0 tyX0 tyX0_ok nmX0 hown hK hP hD hS 0 rfl rfl 1 (by decide) (hts _ (List.mem_of_getElem? (i := 6) rfl)) (fun _ h9 => h9) rfl hin rfl (tyX0_ok 1 (by decide)) rfl rfl (Nat.le_of_ble_eq_true rfl) dX0_init_14 (fun H locs hP hD hS => ?_)
  have hP : va_P (dC, dI) vwCl ([(h0, .inr (0, [.int 0, .ref q1, .null, .null, .null, .null, .null])), (q1, .inl (ct 0, (20, .inl (fun _ => 0))))]) H := hP
  have hD : va_D A ([(h0, .inr (0, [.int 0, .ref q1, .null, .null, .null, .null, .null])), (q1, .inl (ct 0, (20, .inl (fun _ => 0))))]) := hD
  refine lv_aload_n hx hb dX0_init_17 rfl (lv_at hl 0 rfl) ?_
  refine lv_bipush (v := 20) hx hb dX0_init_18 (by decide) ?_
  refine nw_a (a0 := (20, .inl (fun _ => 0))) (ty := .int) hx hb (hts _ (List.mem_of_getElem? (i := 5) rfl)) rfl hK hP hD hS hA 0 rfl (fun _ h => by cases h) (fun _ => rfl) (by decide) (by decide) (by decide) (Nat.le_of_ble_eq_true rfl) (Nat.le_of_ble_eq_true rfl) dX0_init_20 (fun q2 H hP hD hS => ?_)
  have hP : va_P (dC, dI) vwCl ([(h0, .inr (0, [.int 0, .ref q1, .null, .null, .null, .null, .null])), (q1, .inl (ct 0, (20, .inl (fun _ => 0)))), (q2, .inl (ct 0, (20, .inl (fun _ => 0))))]) H := hP
  have hD : va_D A ([(h0, .inr (0, [.int 0, .ref q1, .null, .null, .null, .null, .null])), (q1, .inl (ct 0, (20, .inl (fun _ => 0)))), (q2, .inl (ct 0, (20, .inl (fun _ => 0))))]) := hD
  refine W.widen (k := 2) (n := 40) (by decide) (by decide) ?_
  refine va_putF (D := (dC, dI)) (ci := 0) (v := .ref q2) (ty := tyX0 2) (C := RX0) (T := TX0) (N := 7) hx hb hts iwX0_init_X0 tyX0 tyX0_ok nmX0 hown hK hP hD hS 0 rfl rfl 2 (by decide) (hts _ (List.mem_of_getElem? (i := 7) rfl)) (fun _ h9 => h9) rfl hin rfl (tyX0_ok 2 (by decide)) rfl rfl (Nat.le_of_ble_eq_true rfl) dX0_init_22 (fun H locs hP hD hS => ?_)
  have hP : va_P (dC, dI) vwCl ([(h0, .inr (0, [.int 0, .ref q1, .ref q2, .null, .null, .null, .null])), (q1, .inl (ct 0, (20, .inl (fun _ => 0)))), (q2, .inl (ct 0, (20, .inl (fun _ => 0))))]) H := hP
  have hD : va_D A ([(h0, .inr (0, [.int 0, .ref q1, .ref q2, .null, .null, .null, .null])), (q1, .inl (ct 0, (20, .inl (fun _ => 0)))), (q2, .inl (ct 0, (20, .inl (fun _ => 0))))]) := hD
  refine lv_aload_n hx hb dX0_init_25 rfl (lv_at hl 0 rfl) ?_
  refine lv_bipush (v := 20) hx hb dX0_init_26 (by decide) ?_
  refine nw_a (a0 := (20, .inl (fun _ => 0))) (ty := .int) hx hb (hts _ (List.mem_of_getElem? (i := 5) rfl)) rfl hK hP hD hS hA 0 rfl (fun _ h => by cases h) (fun _ => rfl) (by decide) (by decide) (by decide) (Nat.le_of_ble_eq_true rfl) (Nat.le_of_ble_eq_true rfl) dX0_init_28 (fun q3 H hP hD hS => ?_)
  have hP : va_P (dC, dI) vwCl ([(h0, .inr (0, [.int 0, .ref q1, .ref q2, .null, .null, .null, .null])), (q1, .inl (ct 0, (20, .inl (fun _ => 0)))), (q2, .inl (ct 0, (20, .inl (fun _ => 0)))), (q3, .inl (ct 0, (20, .inl (fun _ => 0))))]) H := hP
  have hD : va_D A ([(h0, .inr (0, [.int 0, .ref q1, .ref q2, .null, .null, .null, .null])), (q1, .inl (ct 0, (20, .inl (fun _ => 0)))), (q2, .inl (ct 0, (20, .inl (fun _ => 0)))), (q3, .inl (ct 0, (20, .inl (fun _ => 0))))]) := hD
  refine W.widen (k := 3) (n := 60) (by decide) (by decide) ?_
  refine va_putF (D := (dC, dI)) (ci := 0) (v := .ref q3) (ty := tyX0 3) (C := RX0) (T := TX0) (N := 7) hx hb hts iwX0_init_X0 tyX0 tyX0_ok nmX0 hown hK hP hD hS 0 rfl rfl 3 (by decide) (hts _ (List.mem_of_getElem? (i := 8) rfl)) (fun _ h9 => h9) rfl hin rfl (tyX0_ok 3 (by decide)) rfl rfl (Nat.le_of_ble_eq_true rfl) dX0_init_30 (fun H locs hP hD hS => ?_)
  have hP : va_P (dC, dI) vwCl ([(h0, .inr (0, [.int 0, .ref q1, .ref q2, .ref q3, .null, .null, .null])), (q1, .inl (ct 0, (20, .inl (fun _ => 0)))), (q2, .inl (ct 0, (20, .inl (fun _ => 0)))), (q3, .inl (ct 0, (20, .inl (fun _ => 0))))]) H := hP
  have hD : va_D A ([(h0, .inr (0, [.int 0, .ref q1, .ref q2, .ref q3, .null, .null, .null])), (q1, .inl (ct 0, (20, .inl (fun _ => 0)))), (q2, .inl (ct 0, (20, .inl (fun _ => 0)))), (q3, .inl (ct 0, (20, .inl (fun _ => 0))))]) := hD
  refine lv_aload_n hx hb dX0_init_33 rfl (lv_at hl 0 rfl) ?_
  refine lv_bipush (v := 20) hx hb dX0_init_34 (by decide) ?_
  refine nw_a (a0 := (20, .inl (fun _ => 0))) (ty := .int) hx hb (hts _ (List.mem_of_getElem? (i := 5) rfl)) rfl hK hP hD hS hA 0 rfl (fun _ h => by cases h) (fun _ => rfl) (by decide) (by decide) (by decide) (Nat.le_of_ble_eq_true rfl) (Nat.le_of_ble_eq_true rfl) dX0_init_36 (fun q4 H hP hD hS => ?_)
  have hP : va_P (dC, dI) vwCl ([(h0, .inr (0, [.int 0, .ref q1, .ref q2, .ref q3, .null, .null, .null])), (q1, .inl (ct 0, (20, .inl (fun _ => 0)))), (q2, .inl (ct 0, (20, .inl (fun _ => 0)))), (q3, .inl (ct 0, (20, .inl (fun _ => 0)))), (q4, .inl (ct 0, (20, .inl (fun _ => 0))))]) H := hP
  have hD : va_D A ([(h0, .inr (0, [.int 0, .ref q1, .ref q2, .ref q3, .null, .null, .null])), (q1, .inl (ct 0, (20, .inl (fun _ => 0)))), (q2, .inl (ct 0, (20, .inl (fun _ => 0)))), (q3, .inl (ct 0, (20, .inl (fun _ => 0)))), (q4, .inl (ct 0, (20, .inl (fun _ => 0))))]) := hD
  refine W.widen (k := 4) (n := 80) (by decide) (by decide) ?_
  refine va_putF (D := (dC, dI)) (ci := 0) (v := .ref q4) (ty := tyX0 4) (C := RX0) (T := TX0) (N := 7) hx hb hts iwX0_init_X0 tyX0 tyX0_ok nmX0 hown hK hP hD hS 0 rfl rfl 4 (by decide) (hts _ (List.mem_of_getElem? (i := 9) rfl)) (fun _ h9 => h9) rfl hin rfl (tyX0_ok 4 (by decide)) rfl rfl (Nat.le_of_ble_eq_true rfl) dX0_init_38 (fun H locs hP hD hS => ?_)
  have hP : va_P (dC, dI) vwCl ([(h0, .inr (0, [.int 0, .ref q1, .ref q2, .ref q3, .ref q4, .null, .null])), (q1, .inl (ct 0, (20, .inl (fun _ => 0)))), (q2, .inl (ct 0, (20, .inl (fun _ => 0)))), (q3, .inl (ct 0, (20, .inl (fun _ => 0)))), (q4, .inl (ct 0, (20, .inl (fun _ => 0))))]) H := hP
  have hD : va_D A ([(h0, .inr (0, [.int 0, .ref q1, .ref q2, .ref q3, .ref q4, .null, .null])), (q1, .inl (ct 0, (20, .inl (fun _ => 0)))), (q2, .inl (ct 0, (20, .inl (fun _ => 0)))), (q3, .inl (ct 0, (20, .inl (fun _ => 0)))), (q4, .inl (ct 0, (20, .inl (fun _ => 0))))]) := hD
  refine lv_aload_n hx hb dX0_init_41 rfl (lv_at hl 0 rfl) ?_
  refine lv_bipush (v := 40) hx hb dX0_init_42 (by decide) ?_
  refine nw_a (a0 := (40, .inl (fun _ => 0))) (ty := .int) hx hb (hts _ (List.mem_of_getElem? (i := 5) rfl)) rfl hK hP hD hS hA 0 rfl (fun _ h => by cases h) (fun _ => rfl) (by decide) (by decide) (by decide) (Nat.le_of_ble_eq_true rfl) (Nat.le_of_ble_eq_true rfl) dX0_init_44 (fun q5 H hP hD hS => ?_)
  have hP : va_P (dC, dI) vwCl ([(h0, .inr (0, [.int 0, .ref q1, .ref q2, .ref q3, .ref q4, .null, .null])), (q1, .inl (ct 0, (20, .inl (fun _ => 0)))), (q2, .inl (ct 0, (20, .inl (fun _ => 0)))), (q3, .inl (ct 0, (20, .inl (fun _ => 0)))), (q4, .inl (ct 0, (20, .inl (fun _ => 0)))), (q5, .inl (ct 0, (40, .inl (fun _ => 0))))]) H := hP
  have hD : va_D A ([(h0, .inr (0, [.int 0, .ref q1, .ref q2, .ref q3, .ref q4, .null, .null])), (q1, .inl (ct 0, (20, .inl (fun _ => 0)))), (q2, .inl (ct 0, (20, .inl (fun _ => 0)))), (q3, .inl (ct 0, (20, .inl (fun _ => 0)))), (q4, .inl (ct 0, (20, .inl (fun _ => 0)))), (q5, .inl (ct 0, (40, .inl (fun _ => 0))))]) := hD
  refine W.widen (k := 5) (n := 120) (by decide) (by decide) ?_
  refine va_putF (D := (dC, dI)) (ci := 0) (v := .ref q5) (ty := tyX0 5) (C := RX0) (T := TX0) (N := 7) hx hb hts iwX0_init_X0 tyX0 tyX0_ok nmX0 hown hK hP hD hS 0 rfl rfl 5 (by decide) (hts _ (List.mem_of_getElem? (i := 10) rfl)) (fun _ h9 => h9) rfl hin rfl (tyX0_ok 5 (by decide)) rfl rfl (Nat.le_of_ble_eq_true rfl) dX0_init_46 (fun H locs hP hD hS => ?_)
  have hP : va_P (dC, dI) vwCl ([(h0, .inr (0, [.int 0, .ref q1, .ref q2, .ref q3, .ref q4, .ref q5, .null])), (q1, .inl (ct 0, (20, .inl (fun _ => 0)))), (q2, .inl (ct 0, (20, .inl (fun _ => 0)))), (q3, .inl (ct 0, (20, .inl (fun _ => 0)))), (q4, .inl (ct 0, (20, .inl (fun _ => 0)))), (q5, .inl (ct 0, (40, .inl (fun _ => 0))))]) H := hP
  have hD : va_D A ([(h0, .inr (0, [.int 0, .ref q1, .ref q2, .ref q3, .ref q4, .ref q5, .null])), (q1, .inl (ct 0, (20, .inl (fun _ => 0)))), (q2, .inl (ct 0, (20, .inl (fun _ => 0)))), (q3, .inl (ct 0, (20, .inl (fun _ => 0)))), (q4, .inl (ct 0, (20, .inl (fun _ => 0)))), (q5, .inl (ct 0, (40, .inl (fun _ => 0))))]) := hD
  refine lv_aload_n hx hb dX0_init_49 rfl (lv_at hl 0 rfl) ?_
  refine va_new (ci := 2) (fs := [.int 0, .int 0, .null, .null, .null, .null, .null, .null, .null, .null]) (C := RX2) (T := TX2) (N := 10) hx hb hts iwX0_init_X2 tyX2 tyX2_ok hown (hts _ (List.mem_of_getElem? (i := 11) rfl)) (hts _ (List.mem_of_getElem? (i := 12) rfl)) (hts _ (List.mem_of_getElem? (i := 13) rfl)) hK hP hD hS hA rfl dfX2 (Nat.le_of_ble_eq_true rfl) (Nat.le_of_ble_eq_true rfl) dX0_init_50 (fun q6 H hP hD hS => ?_)
  have hP : va_P (dC, dI) vwCl ([(h0, .inr (0, [.int 0, .ref q1, .ref q2, .ref q3, .ref q4, .ref q5, .null])), (q1, .inl (ct 0, (20, .inl (fun _ => 0)))), (q2, .inl (ct 0, (20, .inl (fun _ => 0)))), (q3, .inl (ct 0, (20, .inl (fun _ => 0)))), (q4, .inl (ct 0, (20, .inl (fun _ => 0)))), (q5, .inl (ct 0, (40, .inl (fun _ => 0)))), (q6, .inr (2, [.int 0, .int 0, .null, .null, .null, .null, .null, .null, .null, .null]))]) H := hP
  have hD : va_D A ([(h0, .inr (0, [.int 0, .ref q1, .ref q2, .ref q3, .ref q4, .ref q5, .null])), (q1, .inl (ct 0, (20, .inl (fun _ => 0)))), (q2, .inl (ct 0, (20, .inl (fun _ => 0)))), (q3, .inl (ct 0, (20, .inl (fun _ => 0)))), (q4, .inl (ct 0, (20, .inl (fun _ => 0)))), (q5, .inl (ct 0, (40, .inl (fun _ => 0)))), (q6, .inr (2, [.int 0, .int 0, .null, .null, .null, .null, .null, .null, .null, .null]))]) := hD
  refine W.widen (k := 6) (n := 130) (by decide) (by decide) ?_
  refine lv_dup hx hb dX0_init_53 rfl ?_
  have hPs := pm_P (ws' := ([(q6, .inr (2, [.int 0, .int 0, .null, .null, .null, .null, .null, .null, .null, .null]))]) ++ ([(h0, .inr (0, [.int 0, .ref q1, .ref q2, .ref q3, .ref q4, .ref q5, .null])), (q1, .inl (ct 0, (20, .inl (fun _ => 0)))), (q2, .inl (ct 0, (20, .inl (fun _ => 0)))), (q3, .inl (ct 0, (20, .inl (fun _ => 0)))), (q4, .inl (ct 0, (20, .inl (fun _ => 0)))), (q5, .inl (ct 0, (40, .inl (fun _ => 0))))])) [([(h0, .inr (0, [.int 0, .ref q1, .ref q2, .ref q3, .ref q4, .ref q5, .null])), (q1, .inl (ct 0, (20, .inl (fun _ => 0)))), (q2, .inl (ct 0, (20, .inl (fun _ => 0)))), (q3, .inl (ct 0, (20, .inl (fun _ => 0)))), (q4, .inl (ct 0, (20, .inl (fun _ => 0)))), (q5, .inl (ct 0, (40, .inl (fun _ => 0))))]), ([(q6, .inr (2, [.int 0, .int 0, .null, .null, .null, .null, .null, .null, .null, .null]))])] [1, 0] (show List.Perm [1, 0] (List.range 2) from by decide) (by simp only [List.flatten_cons, List.flatten_nil, List.append_nil, List.append_assoc, List.cons_append, List.nil_append]) (by show List.flatten ([([(q6, .inr (2, [.int 0, .int 0, .null, .null, .null, .null, .null, .null, .null, .null]))]), ([(h0, .inr (0, [.int 0, .ref q1, .ref q2, .ref q3, .ref q4, .ref q5, .null])), (q1, .inl (ct 0, (20, .inl (fun _ => 0)))), (q2, .inl (ct 0, (20, .inl (fun _ => 0)))), (q3, .inl (ct 0, (20, .inl (fun _ => 0)))), (q4, .inl (ct 0, (20, .inl (fun _ => 0)))), (q5, .inl (ct 0, (40, .inl (fun _ => 0))))])] : List va_W) = _; simp only [List.flatten_cons, List.flatten_nil, List.append_nil, List.append_assoc, List.cons_append, List.nil_append]) hP
  have hDs := pm_D (ws' := ([(q6, .inr (2, [.int 0, .int 0, .null, .null, .null, .null, .null, .null, .null, .null]))]) ++ ([(h0, .inr (0, [.int 0, .ref q1, .ref q2, .ref q3, .ref q4, .ref q5, .null])), (q1, .inl (ct 0, (20, .inl (fun _ => 0)))), (q2, .inl (ct 0, (20, .inl (fun _ => 0)))), (q3, .inl (ct 0, (20, .inl (fun _ => 0)))), (q4, .inl (ct 0, (20, .inl (fun _ => 0)))), (q5, .inl (ct 0, (40, .inl (fun _ => 0))))])) [([(h0, .inr (0, [.int 0, .ref q1, .ref q2, .ref q3, .ref q4, .ref q5, .null])), (q1, .inl (ct 0, (20, .inl (fun _ => 0)))), (q2, .inl (ct 0, (20, .inl (fun _ => 0)))), (q3, .inl (ct 0, (20, .inl (fun _ => 0)))), (q4, .inl (ct 0, (20, .inl (fun _ => 0)))), (q5, .inl (ct 0, (40, .inl (fun _ => 0))))]), ([(q6, .inr (2, [.int 0, .int 0, .null, .null, .null, .null, .null, .null, .null, .null]))])] [1, 0] (show List.Perm [1, 0] (List.range 2) from by decide) (by simp only [List.flatten_cons, List.flatten_nil, List.append_nil, List.append_assoc, List.cons_append, List.nil_append]) (by show List.flatten ([([(q6, .inr (2, [.int 0, .int 0, .null, .null, .null, .null, .null, .null, .null, .null]))]), ([(h0, .inr (0, [.int 0, .ref q1, .ref q2, .ref q3, .ref q4, .ref q5, .null])), (q1, .inl (ct 0, (20, .inl (fun _ => 0)))), (q2, .inl (ct 0, (20, .inl (fun _ => 0)))), (q3, .inl (ct 0, (20, .inl (fun _ => 0)))), (q4, .inl (ct 0, (20, .inl (fun _ => 0)))), (q5, .inl (ct 0, (40, .inl (fun _ => 0))))])] : List va_W) = _; simp only [List.flatten_cons, List.flatten_nil, List.append_nil, List.append_assoc, List.cons_append, List.nil_append]) hD
  clear hP hD
  refine sp_n (wr := ([(h0, .inr (0, [.int 0, .ref q1, .ref q2, .ref q3, .ref q4, .ref q5, .null])), (q1, .inl (ct 0, (20, .inl (fun _ => 0)))), (q2, .inl (ct 0, (20, .inl (fun _ => 0)))), (q3, .inl (ct 0, (20, .inl (fun _ => 0)))), (q4, .inl (ct 0, (20, .inl (fun _ => 0)))), (q5, .inl (ct 0, (40, .inl (fun _ => 0))))])) (va_runIN (As := []) (rest := [.ref q6, .ref h0]) ⟨hx, hb, hml, hown, hts⟩ (kX2_init l dC dI ct q6 _) ⟨va_cnB 0 hts gX0_init_X2_init_n33 rfl rfl rfl hE.2.2.2.2.2.2.1 (hts _ (List.mem_of_getElem? (i := 13) rfl)) hvX2_init.2 ⟨Nat.le_of_ble_eq_true rfl, Nat.le_of_ble_eq_true rfl⟩, rfl, (hts _ (List.mem_of_getElem? (i := 15) rfl))⟩ (sp_preS E0_ok hK hPs hDs e_0) rfl rfl hl.1 rfl (lv_room (Nat.le_of_ble_eq_true rfl)) dX0_init_54 ⟨Nat.le_of_ble_eq_true rfl, Nat.le_of_ble_eq_true rfl⟩) hPs hDs hS hA (fun a7 ea7 H locs hPt hDt hS => ?_)
  subst ea7
  clear hPs hDs
  replace hPt : va_P (dC, dI) vwCl (((wM ct a7 z0)) ++ ([(h0, .inr (0, [.int 0, .ref q1, .ref q2, .ref q3, .ref q4, .ref q5, .null])), (q1, .inl (ct 0, (20, .inl (fun _ => 0)))), (q2, .inl (ct 0, (20, .inl (fun _ => 0)))), (q3, .inl (ct 0, (20, .inl (fun _ => 0)))), (q4, .inl (ct 0, (20, .inl (fun _ => 0)))), (q5, .inl (ct 0, (40, .inl (fun _ => 0))))])) H := hPt
  replace hDt : va_D A (((wM ct a7 z0)) ++ ([(h0, .inr (0, [.int 0, .ref q1, .ref q2, .ref q3, .ref q4, .ref q5, .null])), (q1, .inl (ct 0, (20, .inl (fun _ => 0)))), (q2, .inl (ct 0, (20, .inl (fun _ => 0)))), (q3, .inl (ct 0, (20, .inl (fun _ => 0)))), (q4, .inl (ct 0, (20, .inl (fun _ => 0)))), (q5, .inl (ct 0, (40, .inl (fun _ => 0))))])) := hDt
  have hP := pm_P (ws' := ([(h0, .inr (0, [.int 0, .ref q1, .ref q2, .ref q3, .ref q4, .ref q5, .null])), (q1, .inl (ct 0, (20, .inl (fun _ => 0)))), (q2, .inl (ct 0, (20, .inl (fun _ => 0)))), (q3, .inl (ct 0, (20, .inl (fun _ => 0)))), (q4, .inl (ct 0, (20, .inl (fun _ => 0)))), (q5, .inl (ct 0, (40, .inl (fun _ => 0))))]) ++ ((wM ct a7 z0))) [((wM ct a7 z0)), ([(h0, .inr (0, [.int 0, .ref q1, .ref q2, .ref q3, .ref q4, .ref q5, .null])), (q1, .inl (ct 0, (20, .inl (fun _ => 0)))), (q2, .inl (ct 0, (20, .inl (fun _ => 0)))), (q3, .inl (ct 0, (20, .inl (fun _ => 0)))), (q4, .inl (ct 0, (20, .inl (fun _ => 0)))), (q5, .inl (ct 0, (40, .inl (fun _ => 0))))])] [1, 0] (show List.Perm [1, 0] (List.range 2) from by decide) (by simp only [List.flatten_cons, List.flatten_nil, List.append_nil, List.append_assoc, List.cons_append, List.nil_append]) (by show List.flatten ([([(h0, .inr (0, [.int 0, .ref q1, .ref q2, .ref q3, .ref q4, .ref q5, .null])), (q1, .inl (ct 0, (20, .inl (fun _ => 0)))), (q2, .inl (ct 0, (20, .inl (fun _ => 0)))), (q3, .inl (ct 0, (20, .inl (fun _ => 0)))), (q4, .inl (ct 0, (20, .inl (fun _ => 0)))), (q5, .inl (ct 0, (40, .inl (fun _ => 0))))]), ((wM ct a7 z0))] : List va_W) = _; simp only [List.flatten_cons, List.flatten_nil, List.append_nil, List.append_assoc, List.cons_append, List.nil_append]) hPt
  have hD := pm_D (ws' := ([(h0, .inr (0, [.int 0, .ref q1, .ref q2, .ref q3, .ref q4, .ref q5, .null])), (q1, .inl (ct 0, (20, .inl (fun _ => 0)))), (q2, .inl (ct 0, (20, .inl (fun _ => 0)))), (q3, .inl (ct 0, (20, .inl (fun _ => 0)))), (q4, .inl (ct 0, (20, .inl (fun _ => 0)))), (q5, .inl (ct 0, (40, .inl (fun _ => 0))))]) ++ ((wM ct a7 z0))) [((wM ct a7 z0)), ([(h0, .inr (0, [.int 0, .ref q1, .ref q2, .ref q3, .ref q4, .ref q5, .null])), (q1, .inl (ct 0, (20, .inl (fun _ => 0)))), (q2, .inl (ct 0, (20, .inl (fun _ => 0)))), (q3, .inl (ct 0, (20, .inl (fun _ => 0)))), (q4, .inl (ct 0, (20, .inl (fun _ => 0)))), (q5, .inl (ct 0, (40, .inl (fun _ => 0))))])] [1, 0] (show List.Perm [1, 0] (List.range 2) from by decide) (by simp only [List.flatten_cons, List.flatten_nil, List.append_nil, List.append_assoc, List.cons_append, List.nil_append]) (by show List.flatten ([([(h0, .inr (0, [.int 0, .ref q1, .ref q2, .ref q3, .ref q4, .ref q5, .null])), (q1, .inl (ct 0, (20, .inl (fun _ => 0)))), (q2, .inl (ct 0, (20, .inl (fun _ => 0)))), (q3, .inl (ct 0, (20, .inl (fun _ => 0)))), (q4, .inl (ct 0, (20, .inl (fun _ => 0)))), (q5, .inl (ct 0, (40, .inl (fun _ => 0))))]), ((wM ct a7 z0))] : List va_W) = _; simp only [List.flatten_cons, List.flatten_nil, List.append_nil, List.append_assoc, List.cons_append, List.nil_append]) hDt
  clear hPt hDt
  simp only [List.append_assoc, List.cons_append, List.nil_append] at hP hD
  have hP : va_P (dC, dI) vwCl ([(h0, .inr (0, [.int 0, .ref q1, .ref q2, .ref q3, .ref q4, .ref q5, .null])), (q1, .inl (ct 0, (20, .inl (fun _ => 0)))), (q2, .inl (ct 0, (20, .inl (fun _ => 0)))), (q3, .inl (ct 0, (20, .inl (fun _ => 0)))), (q4, .inl (ct 0, (20, .inl (fun _ => 0)))), (q5, .inl (ct 0, (40, .inl (fun _ => 0))))] ++ (wM ct a7 z0)) H := hP
  have hD : va_D A ([(h0, .inr (0, [.int 0, .ref q1, .ref q2, .ref q3, .ref q4, .ref q5, .null])), (q1, .inl (ct 0, (20, .inl (fun _ => 0)))), (q2, .inl (ct 0, (20, .inl (fun _ => 0)))), (q3, .inl (ct 0, (20, .inl (fun _ => 0)))), (q4, .inl (ct 0, (20, .inl (fun _ => 0)))), (q5, .inl (ct 0, (40, .inl (fun _ => 0))))] ++ (wM ct a7 z0)) := hD
  refine W.widen (k := 14) (n := 382) (by decide) (by decide) ?_
  refine va_putF (D := (dC, dI)) (ci := 0) (v := .ref (a7 0)) (ty := tyX0 6) (C := RX0) (T := TX0) (N := 7) hx hb hts iwX0_init_X0 tyX0 tyX0_ok nmX0 hown hK hP hD hS 0 rfl rfl 6 (by decide) (hts _ (List.mem_of_getElem? (i := 14) rfl)) (fun _ h9 => h9) rfl hin rfl (tyX0_ok 6 (by decide)) rfl rfl (Nat.le_of_ble_eq_true rfl) dX0_init_57 (fun H locs hP hD hS => ?_)
  simp only [List.append_assoc, List.cons_append, List.nil_append] at hP hD
  have hP : va_P (dC, dI) vwCl ([(h0, .inr (0, [.int 0, .ref q1, .ref q2, .ref q3, .ref q4, .ref q5, .ref (a7 0)])), (q1, .inl (ct 0, (20, .inl (fun _ => 0)))), (q2, .inl (ct 0, (20, .inl (fun _ => 0)))), (q3, .inl (ct 0, (20, .inl (fun _ => 0)))), (q4, .inl (ct 0, (20, .inl (fun _ => 0)))), (q5, .inl (ct 0, (40, .inl (fun _ => 0))))] ++ (wM ct a7 z0)) H := hP
  have hD : va_D A ([(h0, .inr (0, [.int 0, .ref q1, .ref q2, .ref q3, .ref q4, .ref q5, .ref (a7 0)])), (q1, .inl (ct 0, (20, .inl (fun _ => 0)))), (q2, .inl (ct 0, (20, .inl (fun _ => 0)))), (q3, .inl (ct 0, (20, .inl (fun _ => 0)))), (q4, .inl (ct 0, (20, .inl (fun _ => 0)))), (q5, .inl (ct 0, (40, .inl (fun _ => 0))))] ++ (wM ct a7 z0)) := hD
  have hP9 := hP.sub (ws' := (wB ct (fun k => [h0, q1, q2, q3, q4, q5, (a7 0), (a7 1), (a7 2), (a7 3), (a7 4), (a7 5), (a7 6), (a7 7), (a7 8)].getD k 0) ((fun k => [h0, q1, q2, q3, q4, q5, (a7 0), (a7 1), (a7 2), (a7 3), (a7 4), (a7 5), (a7 6), (a7 7), (a7 8)].getD k 0) 6) z0 ++ wM ct (fun k => (fun k => [h0, q1, q2, q3, q4, q5, (a7 0), (a7 1), (a7 2), (a7 3), (a7 4), (a7 5), (a7 6), (a7 7), (a7 8)].getD k 0) (k + 6)) z0)) [0, 1, 2, 3, 4, 5, 6, 7, 8, 9, 10, 11, 12, 13, 14] rfl
  have hD9 := hD.sub (ws' := (wB ct (fun k => [h0, q1, q2, q3, q4, q5, (a7 0), (a7 1), (a7 2), (a7 3), (a7 4), (a7 5), (a7 6), (a7 7), (a7 8)].getD k 0) ((fun k => [h0, q1, q2, q3, q4, q5, (a7 0), (a7 1), (a7 2), (a7 3), (a7 4), (a7 5), (a7 6), (a7 7), (a7 8)].getD k 0) 6) z0 ++ wM ct (fun k => (fun k => [h0, q1, q2, q3, q4, q5, (a7 0), (a7 1), (a7 2), (a7 3), (a7 4), (a7 5), (a7 6), (a7 7), (a7 8)].getD k 0) (k + 6)) z0)) [0, 1, 2, 3, 4, 5, 6, 7, 8, 9, 10, 11, 12, 13, 14] rfl rfl
  exact W.vret hx hb hr (fun t ht hW => ⟨⟨(fun k => [h0, q1, q2, q3, q4, q5, (a7 0), (a7 1), (a7 2), (a7 3), (a7 4), (a7 5), (a7 6), (a7 7), (a7 8)].getD k 0), rfl, rfl, by rw [ht]; exact hP9, va_K.moved hW.alike hK, hD9⟩, hS.F ht⟩) hS.2.2 dX0_init_60
abbrev rmX6_init : Room := { frames := 1, cells := 2, slots := 10, locals := 12 }
theorem iwX6_init_X6 : ∀ w ∈ wsX60, w ∈ wsX6_init := fun _ h => List.mem_cons_of_mem _ (List.mem_append_right _ (h))
theorem dfX6 : ∀ j, j < 2 → defaultValue (tyX6 j) = vp_V [.null, .null] j := fun j hj => match j, hj with
  | 0, _ => rfl
  | 1, _ => rfl
  | j + 2, h => absurd h (by omega)
set_option maxHeartbeats 4000000 in
set_option maxRecDepth 100000 in
theorem kX6_init (l : Launch) (dC : Nat → ClassId) (dI : Nat → Nat → Nat) (ct : Nat → ClassId) (h0 sz : Nat) : Met l yX6_init wsX6_init rmX6_init (va_Pc [.ref h0] (PB (dC, dI) ct E0 sz ([(h0, .inr (6, [.null, .null]))]))) (va_Qv (fun a : Nat → Nat => a 0 = h0) (fun a => QB (dC, dI) ct (va_A ([(h0, .inr (6, [.null, .null]))]) sz) (wY ct a z0)) (va_A ([(h0, .inr (6, [.null, .null]))]) sz)) 2 10 (va_A ([(h0, .inr (6, [.null, .null]))]) sz) := by
  refine Met.ofW (cc := cX6_init) (maxL := 1) (ret := none) (by decide) rfl ?_
  intro p e s m args below meth c s₁ B hml hv
  obtain ⟨hargs, hsz, hP, hK, hD0, hE⟩ := hv
  have hx := B.exec
  have hb := B.bytes
  have hr := B.returns
  have hts := atoms_spec (ws := wsX6_init) B.pre
  have hown : s.vm.findClass RX6 = some m.cls := findClass_of_methodNamed B.named
  have hlocks := B.notSynchronized
  have hin : meth.name = "<init>" := (name_of_methodNamed B.named B.method).1
  clear B s₁
  subst hsz
  have hD := hD0.self (sz := s.heap.size)
  clear hD0
  generalize hAe : va_A ([(h0, .inr (6, [.null, .null]))]) s.heap.size = A at hD hE ⊢
  have hA : ∀ q : Nat, s.heap.size ≤ q → A q := fun q h => by rw [← hAe]; exact Or.inr h
  clear hAe
  have hS : va_S A s.heap s.heap [] := va_S.rf
  refine entryW (vs := [.ref h0]) hargs (Nat.le_of_ble_eq_true rfl) (fun ls hl => ?_)
  replace hl : lv_has ls 1 [(0, .ref h0)] := hl
  refine lv_aload_n hx hb dX6_init_0 rfl (lv_at hl 0 rfl) ?_
  refine W.objInit hx hb hown (hts _ (List.mem_of_getElem? (i := 1) rfl)) (hts _ (List.mem_of_getElem? (i := 2) rfl)) (hts _ (List.mem_of_getElem? (i := 3) rfl)) rfl (by rw [hml]; exact hl.1) rfl dX6_init_1 (Nat.le_of_ble_eq_true rfl) (Nat.le_of_ble_eq_true rfl) ?_
  refine W.eq (g2 := F0 m 4 ls []) rfl ?_
  refine lv_aload_n hx hb dX6_init_4 rfl (lv_at hl 0 rfl) ?_
  refine lv_iconst (v := 5) hx hb dX6_init_5 (by decide) ?_
  refine nw_a (a0 := (5, .inl (fun _ => 0))) (ty := .int) hx hb (hts _ (List.mem_of_getElem? (i := 4) rfl)) rfl hK hP hD hS hA 0 rfl (fun _ h => by cases h) (fun _ => rfl) (by decide) (by decide) (by decide) (Nat.le_of_ble_eq_true rfl) (Nat.le_of_ble_eq_true rfl) dX6_init_6 (fun q1 H hP hD hS => ?_)
  have hP : va_P (dC, dI) vwCl ([(h0, .inr (6, [.null, .null])), (q1, .inl (ct 0, (5, .inl (fun _ => 0))))]) H := hP
  have hD : va_D A ([(h0, .inr (6, [.null, .null])), (q1, .inl (ct 0, (5, .inl (fun _ => 0))))]) := hD
  refine W.widen (k := 1) (n := 5) (by decide) (by decide) ?_
  refine va_putF (D := (dC, dI)) (ci := 6) (v := .ref q1) (ty := tyX6 0) (C := RX6) (T := TX6) (N := 2) hx hb hts iwX6_init_X6 tyX6 tyX6_ok nmX6 hown hK hP hD hS 0 rfl rfl 0 (by decide) (hts _ (List.mem_of_getElem? (i := 5) rfl)) (fun _ h9 => h9) rfl hin rfl (tyX6_ok 0 (by decide)) rfl rfl (Nat.le_of_ble_eq_true rfl) dX6_init_8 (fun H locs hP hD hS => ?_)
  have hP : va_P (dC, dI) vwCl ([(h0, .inr (6, [.ref q1, .null])), (q1, .inl (ct 0, (5, .inl (fun _ => 0))))]) H := hP
  have hD : va_D A ([(h0, .inr (6, [.ref q1, .null])), (q1, .inl (ct 0, (5, .inl (fun _ => 0))))]) := hD
  refine lv_aload_n hx hb dX6_init_11 rfl (lv_at hl 0 rfl) ?_
  refine lv_iconst (v := 5) hx hb dX6_init_12 (by decide) ?_
  refine nw_a (a0 := (5, .inl (fun _ => 0))) (ty := .int) hx hb (hts _ (List.mem_of_getElem? (i := 4) rfl)) rfl hK hP hD hS hA 0 rfl (fun _ h => by cases h) (fun _ => rfl) (by decide) (by decide) (by decide) (Nat.le_of_ble_eq_true rfl) (Nat.le_of_ble_eq_true rfl) dX6_init_13 (fun q2 H hP hD hS => ?_)
  have hP : va_P (dC, dI) vwCl ([(h0, .inr (6, [.ref q1, .null])), (q1, .inl (ct 0, (5, .inl (fun _ => 0)))), (q2, .inl (ct 0, (5, .inl (fun _ => 0))))]) H := hP
  have hD : va_D A ([(h0, .inr (6, [.ref q1, .null])), (q1, .inl (ct 0, (5, .inl (fun _ => 0)))), (q2, .inl (ct 0, (5, .inl (fun _ => 0))))]) := hD
  refine W.widen (k := 2) (n := 10) (by decide) (by decide) ?_
  refine va_putF (D := (dC, dI)) (ci := 6) (v := .ref q2) (ty := tyX6 1) (C := RX6) (T := TX6) (N := 2) hx hb hts iwX6_init_X6 tyX6 tyX6_ok nmX6 hown hK hP hD hS 0 rfl rfl 1 (by decide) (hts _ (List.mem_of_getElem? (i := 6) rfl)) (fun _ h9 => h9) rfl hin rfl (tyX6_ok 1 (by decide)) rfl rfl (Nat.le_of_ble_eq_true rfl) dX6_init_15 (fun H locs hP hD hS => ?_)
  have hP : va_P (dC, dI) vwCl ([(h0, .inr (6, [.ref q1, .ref q2])), (q1, .inl (ct 0, (5, .inl (fun _ => 0)))), (q2, .inl (ct 0, (5, .inl (fun _ => 0))))]) H := hP
  have hD : va_D A ([(h0, .inr (6, [.ref q1, .ref q2])), (q1, .inl (ct 0, (5, .inl (fun _ => 0)))), (q2, .inl (ct 0, (5, .inl (fun _ => 0))))]) := hD
  have hP9 := hP.sub (ws' := (wY ct (fun k => [h0, q1, q2].getD k 0) z0)) [0, 1, 2] rfl
  have hD9 := hD.sub (ws' := (wY ct (fun k => [h0, q1, q2].getD k 0) z0)) [0, 1, 2] rfl rfl
  exact W.vret hx hb hr (fun t ht hW => ⟨⟨(fun k => [h0, q1, q2].getD k 0), rfl, rfl, by rw [ht]; exact hP9, va_K.moved hW.alike hK, hD9⟩, hS.F ht⟩) hS.2.2 dX6_init_18
abbrev rmX1_init : Room := { frames := 1, cells := 9, slots := 72, locals := 12 }
theorem iwX1_init_X1 : ∀ w ∈ wsX10, w ∈ wsX1_init := fun _ h => List.mem_cons_of_mem _ (List.mem_append_right _ (h))
theorem dfX1 : ∀ j, j < 17 → defaultValue (tyX1 j) = vp_V [.int 0, .int 0, .int 0, .int 0, .int 0, .int 0, .null, .null, .null, .null, .null, .null, .int 0, .int 0, .null, .null, .null] j := fun j hj => match j, hj with
  | 0, _ => rfl
  | 1, _ => rfl
  | 2, _ => rfl
  | 3, _ => rfl
  | 4, _ => rfl
  | 5, _ => rfl
  | 6, _ => rfl
  | 7, _ => rfl
  | 8, _ => rfl
  | 9, _ => rfl
  | 10, _ => rfl
  | 11, _ => rfl
  | 12, _ => rfl
  | 13, _ => rfl
  | 14, _ => rfl
  | 15, _ => rfl
  | 16, _ => rfl
  | j + 17, h => absurd h (by omega)
set_option maxHeartbeats 4000000 in
set_option maxRecDepth 100000 in
theorem kX1_init (l : Launch) (dC : Nat → ClassId) (dI : Nat → Nat → Nat) (ct : Nat → ClassId) (h0 sz : Nat) : Met l yX1_init wsX1_init rmX1_init (va_Pc [.ref h0] (PB (dC, dI) ct E0 sz ([(h0, .inr (1, [.int 0, .int 0, .int 0, .int 0, .int 0, .int 0, .null, .null, .null, .null, .null, .null, .int 0, .int 0, .null, .null, .null]))]))) (va_Qv (fun a : Nat → Nat => a 0 = h0) (fun a => QB (dC, dI) ct (va_A ([(h0, .inr (1, [.int 0, .int 0, .int 0, .int 0, .int 0, .int 0, .null, .null, .null, .null, .null, .null, .int 0, .int 0, .null, .null, .null]))]) sz) (wL ct a z0)) (va_A ([(h0, .inr (1, [.int 0, .int 0, .int 0, .int 0, .int 0, .int 0, .null, .null, .null, .null, .null, .null, .int 0, .int 0, .null, .null, .null]))]) sz)) 9 72 (va_A ([(h0, .inr (1, [.int 0, .int 0, .int 0, .int 0, .int 0, .int 0, .null, .null, .null, .null, .null, .null, .int 0, .int 0, .null, .null, .null]))]) sz) := by
  refine Met.ofW (cc := cX1_init) (maxL := 1) (ret := none) (by decide) rfl ?_
  intro p e s m args below meth c s₁ B hml hv
  obtain ⟨hargs, hsz, hP, hK, hD0, hE⟩ := hv
  have hx := B.exec
  have hb := B.bytes
  have hr := B.returns
  have hts := atoms_spec (ws := wsX1_init) B.pre
  have hown : s.vm.findClass RX1 = some m.cls := findClass_of_methodNamed B.named
  have hlocks := B.notSynchronized
  have hin : meth.name = "<init>" := (name_of_methodNamed B.named B.method).1
  clear B s₁
  subst hsz
  have hD := hD0.self (sz := s.heap.size)
  clear hD0
  generalize hAe : va_A ([(h0, .inr (1, [.int 0, .int 0, .int 0, .int 0, .int 0, .int 0, .null, .null, .null, .null, .null, .null, .int 0, .int 0, .null, .null, .null]))]) s.heap.size = A at hD hE ⊢
  have hA : ∀ q : Nat, s.heap.size ≤ q → A q := fun q h => by rw [← hAe]; exact Or.inr h
  clear hAe
  have hS : va_S A s.heap s.heap [] := va_S.rf
  refine entryW (vs := [.ref h0]) hargs (Nat.le_of_ble_eq_true rfl) (fun ls hl => ?_)
  replace hl : lv_has ls 1 [(0, .ref h0)] := hl
  refine lv_aload_n hx hb dX1_init_0 rfl (lv_at hl 0 rfl) ?_
  refine W.objInit hx hb hown (hts _ (List.mem_of_getElem? (i := 1) rfl)) (hts _ (List.mem_of_getElem? (i := 2) rfl)) (hts _ (List.mem_of_getElem? (i := 3) rfl)) rfl (by rw [hml]; exact hl.1) rfl dX1_init_1 (Nat.le_of_ble_eq_true rfl) (Nat.le_of_ble_eq_true rfl) ?_
  refine W.eq (g2 := F0 m 4 ls []) rfl ?_
  refine lv_aload_n hx hb dX1_init_4 rfl (lv_at hl 0 rfl) ?_
  refine lv_iconst (v := 0) hx hb dX1_init_5 (by decide) ?_
  refine va_put (D := (dC, dI)) (ci := 1) (v := .int 0) (ty := tyX1 0) (C := RX1) (T := TX1) (N := 17) hx hb hts iwX1_init_X1 tyX1 tyX1_ok nmX1 hown hK hP hD hS 0 rfl rfl 0 (by decide) (hts _ (List.mem_of_getElem? (i := 4) rfl)) (fun _ h9 => h9) rfl (tyX1_ok 0 (by decide)) rfl rfl (Nat.le_of_ble_eq_true rfl) dX1_init_6 (fun H locs hP hD hS => ?_)
  have hP : va_P (dC, dI) vwCl ([(h0, .inr (1, [.int 0, .int 0, .int 0, .int 0, .int 0, .int 0, .null, .null, .null, .null, .null, .null, .int 0, .int 0, .null, .null, .null]))]) H := hP
  have hD : va_D A ([(h0, .inr (1, [.int 0, .int 0, .int 0, .int 0, .int 0, .int 0, .null, .null, .null, .null, .null, .null, .int 0, .int 0, .null, .null, .null]))]) := hD
  refine lv_aload_n hx hb dX1_init_9 rfl (lv_at hl 0 rfl) ?_
  refine lv_iconst (v := 0) hx hb dX1_init_10 (by decide) ?_
  refine va_put (D := (dC, dI)) (ci := 1) (v := .int 0) (ty := tyX1 1) (C := RX1) (T := TX1) (N := 17) hx hb hts iwX1_init_X1 tyX1 tyX1_ok nmX1 hown hK hP hD hS 0 rfl rfl 1 (by decide) (hts _ (List.mem_of_getElem? (i := 5) rfl)) (fun _ h9 => h9) rfl (tyX1_ok 1 (by decide)) rfl rfl (Nat.le_of_ble_eq_true rfl) dX1_init_11 (fun H locs hP hD hS => ?_)
  have hP : va_P (dC, dI) vwCl ([(h0, .inr (1, [.int 0, .int 0, .int 0, .int 0, .int 0, .int 0, .null, .null, .null, .null, .null, .null, .int 0, .int 0, .null, .null, .null]))]) H := hP
  have hD : va_D A ([(h0, .inr (1, [.int 0, .int 0, .int 0, .int 0, .int 0, .int 0, .null, .null, .null, .null, .null, .null, .int 0, .int 0, .null, .null, .null]))]) := hD
  refine lv_aload_n hx hb dX1_init_14 rfl (lv_at hl 0 rfl) ?_
  refine lv_iconst (v := 0) hx hb dX1_init_15 (by decide) ?_
  refine va_put (D := (dC, dI)) (ci := 1) (v := .int 0) (ty := tyX1 2) (C := RX1) (T := TX1) (N := 17) hx hb hts iwX1_init_X1 tyX1 tyX1_ok nmX1 hown hK hP hD hS 0 rfl rfl 2 (by decide) (hts _ (List.mem_of_getElem? (i := 6) rfl)) (fun _ h9 => h9) rfl (tyX1_ok 2 (by decide)) rfl rfl (Nat.le_of_ble_eq_true rfl) dX1_init_16 (fun H locs hP hD hS => ?_)
  have hP : va_P (dC, dI) vwCl ([(h0, .inr (1, [.int 0, .int 0, .int 0, .int 0, .int 0, .int 0, .null, .null, .null, .null, .null, .null, .int 0, .int 0, .null, .null, .null]))]) H := hP
  have hD : va_D A ([(h0, .inr (1, [.int 0, .int 0, .int 0, .int 0, .int 0, .int 0, .null, .null, .null, .null, .null, .null, .int 0, .int 0, .null, .null, .null]))]) := hD
  refine lv_aload_n hx hb dX1_init_19 rfl (lv_at hl 0 rfl) ?_
  refine lv_iconst (v := 0) hx hb dX1_init_20 (by decide) ?_
  refine va_put (D := (dC, dI)) (ci := 1) (v := .int 0) (ty := tyX1 3) (C := RX1) (T := TX1) (N := 17) hx hb hts iwX1_init_X1 tyX1 tyX1_ok nmX1 hown hK hP hD hS 0 rfl rfl 3 (by decide) (hts _ (List.mem_of_getElem? (i := 7) rfl)) (fun _ h9 => h9) rfl (tyX1_ok 3 (by decide)) rfl rfl (Nat.le_of_ble_eq_true rfl) dX1_init_21 (fun H locs hP hD hS => ?_)
  have hP : va_P (dC, dI) vwCl ([(h0, .inr (1, [.int 0, .int 0, .int 0, .int 0, .int 0, .int 0, .null, .null, .null, .null, .null, .null, .int 0, .int 0, .null, .null, .null]))]) H := hP
  have hD : va_D A ([(h0, .inr (1, [.int 0, .int 0, .int 0, .int 0, .int 0, .int 0, .null, .null, .null, .null, .null, .null, .int 0, .int 0, .null, .null, .null]))]) := hD
  refine lv_aload_n hx hb dX1_init_24 rfl (lv_at hl 0 rfl) ?_
  refine lv_iconst (v := 0) hx hb dX1_init_25 (by decide) ?_
  refine va_put (D := (dC, dI)) (ci := 1) (v := .int 0) (ty := tyX1 4) (C := RX1) (T := TX1) (N := 17) hx hb hts iwX1_init_X1 tyX1 tyX1_ok nmX1 hown hK hP hD hS 0 rfl rfl 4 (by decide) (hts _ (List.mem_of_getElem? (i := 8) rfl)) (fun _ h9 => h9) rfl (tyX1_ok 4 (by decide)) rfl rfl (Nat.le_of_ble_eq_true rfl) dX1_init_26 (fun H locs hP hD hS => ?_)
  have hP : va_P (dC, dI) vwCl ([(h0, .inr (1, [.int 0, .int 0, .int 0, .int 0, .int 0, .int 0, .null, .null, .null, .null, .null, .null, .int 0, .int 0, .null, .null, .null]))]) H := hP
  have hD : va_D A ([(h0, .inr (1, [.int 0, .int 0, .int 0, .int 0, .int 0, .int 0, .null, .null, .null, .null, .null, .null, .int 0, .int 0, .null, .null, .null]))]) := hD
  refine lv_aload_n hx hb dX1_init_29 rfl (lv_at hl 0 rfl) ?_
  refine lv_iconst (v := 0) hx hb dX1_init_30 (by decide) ?_
  refine va_put (D := (dC, dI)) (ci := 1) (v := .int 0) (ty := tyX1 5) (C := RX1) (T := TX1) (N := 17) hx hb hts iwX1_init_X1 tyX1 tyX1_ok nmX1 hown hK hP hD hS 0 rfl rfl 5 (by decide) (hts _ (List.mem_of_getElem? (i := 9) rfl)) (fun _ h9 => h9) rfl (tyX1_ok 5 (by decide)) rfl rfl (Nat.le_of_ble_eq_true rfl) dX1_init_31 (fun H locs hP hD hS => ?_)
  have hP : va_P (dC, dI) vwCl ([(h0, .inr (1, [.int 0, .int 0, .int 0, .int 0, .int 0, .int 0, .null, .null, .null, .null, .null, .null, .int 0, .int 0, .null, .null, .null]))]) H := hP
  have hD : va_D A ([(h0, .inr (1, [.int 0, .int 0, .int 0, .int 0, .int 0, .int 0, .null, .null, .null, .null, .null, .null, .int 0, .int 0, .null, .null, .null]))]) := hD
  refine lv_aload_n hx hb dX1_init_34 rfl (lv_at hl 0 rfl) ?_
  refine lv_bipush (v := 6) hx hb dX1_init_35 (by decide) ?_
  refine nw_a (a0 := (6, .inl (fun _ => 0))) (ty := .int) hx hb (hts _ (List.mem_of_getElem? (i := 10) rfl)) rfl hK hP hD hS hA 0 rfl (fun _ h => by cases h) (fun _ => rfl) (by decide) (by decide) (by decide) (Nat.le_of_ble_eq_true rfl) (Nat.le_of_ble_eq_true rfl) dX1_init_37 (fun q1 H hP hD hS => ?_)
  have hP : va_P (dC, dI) vwCl ([(h0, .inr (1, [.int 0, .int 0, .int 0, .int 0, .int 0, .int 0, .null, .null, .null, .null, .null, .null, .int 0, .int 0, .null, .null, .null])), (q1, .inl (ct 0, (6, .inl (fun _ => 0))))]) H := hP
  have hD : va_D A ([(h0, .inr (1, [.int 0, .int 0, .int 0, .int 0, .int 0, .int 0, .null, .null, .null, .null, .null, .null, .int 0, .int 0, .null, .null, .null])), (q1, .inl (ct 0, (6, .inl (fun _ => 0))))]) := hD
  refine W.widen (k := 1) (n := 6) (by decide) (by decide) ?_
  refine va_putF (D := (dC, dI)) (ci := 1) (v := .ref q1) (ty := tyX1 6) (C := RX1) (T := TX1) (N := 17) hx hb hts iwX1_init_X1 tyX1 tyX1_ok nmX1 hown hK hP hD hS 0 rfl rfl 6 (by decide) (hts _ (List.mem_of_getElem? (i := 11) rfl)) (fun _ h9 => h9) rfl hin rfl (tyX1_ok 6 (by decide)) rfl rfl (Nat.le_of_ble_eq_true rfl) dX1_init_39 (fun H locs hP hD hS => ?_)
  have hP : va_P (dC, dI) vwCl ([(h0, .inr (1, [.int 0, .int 0, .int 0, .int 0, .int 0, .int 0, .ref q1, .null, .null, .null, .null, .null, .int 0, .int 0, .null, .null, .null])), (q1, .inl (ct 0, (6, .inl (fun _ => 0))))]) H := hP
  have hD : va_D A ([(h0, .inr (1, [.int 0, .int 0, .int 0, .int 0, .int 0, .int 0, .ref q1, .null, .null, .null, .null, .null, .int 0, .int 0, .null, .null, .null])), (q1, .inl (ct 0, (6, .inl (fun _ => 0))))]) := hD
  refine lv_aload_n hx hb dX1_init_42 rfl (lv_at hl 0 rfl) ?_
  refine lv_bipush (v := 6) hx hb dX1_init_43 (by decide) ?_
  refine nw_a (a0 := (6, .inl (fun _ => 0))) (ty := .int) hx hb (hts _ (List.mem_of_getElem? (i := 10) rfl)) rfl hK hP hD hS hA 0 rfl (fun _ h => by cases h) (fun _ => rfl) (by decide) (by decide) (by decide) (Nat.le_of_ble_eq_true rfl) (Nat.le_of_ble_eq_true rfl) dX1_init_45 (fun q2 H hP hD hS => ?_)
  have hP : va_P (dC, dI) vwCl ([(h0, .inr (1, [.int 0, .int 0, .int 0, .int 0, .int 0, .int 0, .ref q1, .null, .null, .null, .null, .null, .int 0, .int 0, .null, .null, .null])), (q1, .inl (ct 0, (6, .inl (fun _ => 0)))), (q2, .inl (ct 0, (6, .inl (fun _ => 0))))]) H := hP
  have hD : va_D A ([(h0, .inr (1, [.int 0, .int 0, .int 0, .int 0, .int 0, .int 0, .ref q1, .null, .null, .null, .null, .null, .int 0, .int 0, .null, .null, .null])), (q1, .inl (ct 0, (6, .inl (fun _ => 0)))), (q2, .inl (ct 0, (6, .inl (fun _ => 0))))]) := hD
  refine W.widen (k := 2) (n := 12) (by decide) (by decide) ?_
  refine va_putF (D := (dC, dI)) (ci := 1) (v := .ref q2) (ty := tyX1 7) (C := RX1) (T := TX1) (N := 17) hx hb hts iwX1_init_X1 tyX1 tyX1_ok nmX1 hown hK hP hD hS 0 rfl rfl 7 (by decide) (hts _ (List.mem_of_getElem? (i := 12) rfl)) (fun _ h9 => h9) rfl hin rfl (tyX1_ok 7 (by decide)) rfl rfl (Nat.le_of_ble_eq_true rfl) dX1_init_47 (fun H locs hP hD hS => ?_)
  have hP : va_P (dC, dI) vwCl ([(h0, .inr (1, [.int 0, .int 0, .int 0, .int 0, .int 0, .int 0, .ref q1, .ref q2, .null, .null, .null, .null, .int 0, .int 0, .null, .null, .null])), (q1, .inl (ct 0, (6, .inl (fun _ => 0)))), (q2, .inl (ct 0, (6, .inl (fun _ => 0))))]) H := hP
  have hD : va_D A ([(h0, .inr (1, [.int 0, .int 0, .int 0, .int 0, .int 0, .int 0, .ref q1, .ref q2, .null, .null, .null, .null, .int 0, .int 0, .null, .null, .null])), (q1, .inl (ct 0, (6, .inl (fun _ => 0)))), (q2, .inl (ct 0, (6, .inl (fun _ => 0))))]) := hD
  refine lv_aload_n hx hb dX1_init_50 rfl (lv_at hl 0 rfl) ?_
  refine lv_bipush (v := 6) hx hb dX1_init_51 (by decide) ?_
  refine nw_a (a0 := (6, .inl (fun _ => 0))) (ty := .int) hx hb (hts _ (List.mem_of_getElem? (i := 10) rfl)) rfl hK hP hD hS hA 0 rfl (fun _ h => by cases h) (fun _ => rfl) (by decide) (by decide) (by decide) (Nat.le_of_ble_eq_true rfl) (Nat.le_of_ble_eq_true rfl) dX1_init_53 (fun q3 H hP hD hS => ?_)
  have hP : va_P (dC, dI) vwCl ([(h0, .inr (1, [.int 0, .int 0, .int 0, .int 0, .int 0, .int 0, .ref q1, .ref q2, .null, .null, .null, .null, .int 0, .int 0, .null, .null, .null])), (q1, .inl (ct 0, (6, .inl (fun _ => 0)))), (q2, .inl (ct 0, (6, .inl (fun _ => 0)))), (q3, .inl (ct 0, (6, .inl (fun _ => 0))))]) H := hP
  have hD : va_D A ([(h0, .inr (1, [.int 0, .int 0, .int 0, .int 0, .int 0, .int 0, .ref q1, .ref q2, .null, .null, .null, .null, .int 0, .int 0, .null, .null, .null])), (q1, .inl (ct 0, (6, .inl (fun _ => 0)))), (q2, .inl (ct 0, (6, .inl (fun _ => 0)))), (q3, .inl (ct 0, (6, .inl (fun _ => 0))))]) := hD
  refine W.widen (k := 3) (n := 18) (by decide) (by decide) ?_
  refine va_putF (D := (dC, dI)) (ci := 1) (v := .ref q3) (ty := tyX1 8) (C := RX1) (T := TX1) (N := 17) hx hb hts iwX1_init_X1 tyX1 tyX1_ok nmX1 hown hK hP hD hS 0 rfl rfl 8 (by decide) (hts _ (List.mem_of_getElem? (i := 13) rfl)) (fun _ h9 => h9) rfl hin rfl (tyX1_ok 8 (by decide)) rfl rfl (Nat.le_of_ble_eq_true rfl) dX1_init_55 (fun H locs hP hD hS => ?_)
  have hP : va_P (dC, dI) vwCl ([(h0, .inr (1, [.int 0, .int 0, .int 0, .int 0, .int 0, .int 0, .ref q1, .ref q2, .ref q3, .null, .null, .null, .int 0, .int 0, .null, .null, .null])), (q1, .inl (ct 0, (6, .inl (fun _ => 0)))), (q2, .inl (ct 0, (6, .inl (fun _ => 0)))), (q3, .inl (ct 0, (6, .inl (fun _ => 0))))]) H := hP
  have hD : va_D A ([(h0, .inr (1, [.int 0, .int 0, .int 0, .int 0, .int 0, .int 0, .ref q1, .ref q2, .ref q3, .null, .null, .null, .int 0, .int 0, .null, .null, .null])), (q1, .inl (ct 0, (6, .inl (fun _ => 0)))), (q2, .inl (ct 0, (6, .inl (fun _ => 0)))), (q3, .inl (ct 0, (6, .inl (fun _ => 0))))]) := hD
  refine lv_aload_n hx hb dX1_init_58 rfl (lv_at hl 0 rfl) ?_
  refine lv_bipush (v := 6) hx hb dX1_init_59 (by decide) ?_
  refine nw_a (a0 := (6, .inl (fun _ => 0))) (ty := .int) hx hb (hts _ (List.mem_of_getElem? (i := 10) rfl)) rfl hK hP hD hS hA 0 rfl (fun _ h => by cases h) (fun _ => rfl) (by decide) (by decide) (by decide) (Nat.le_of_ble_eq_true rfl) (Nat.le_of_ble_eq_true rfl) dX1_init_61 (fun q4 H hP hD hS => ?_)
  have hP : va_P (dC, dI) vwCl ([(h0, .inr (1, [.int 0, .int 0, .int 0, .int 0, .int 0, .int 0, .ref q1, .ref q2, .ref q3, .null, .null, .null, .int 0, .int 0, .null, .null, .null])), (q1, .inl (ct 0, (6, .inl (fun _ => 0)))), (q2, .inl (ct 0, (6, .inl (fun _ => 0)))), (q3, .inl (ct 0, (6, .inl (fun _ => 0)))), (q4, .inl (ct 0, (6, .inl (fun _ => 0))))]) H := hP
  have hD : va_D A ([(h0, .inr (1, [.int 0, .int 0, .int 0, .int 0, .int 0, .int 0, .ref q1, .ref q2, .ref q3, .null, .null, .null, .int 0, .int 0, .null, .null, .null])), (q1, .inl (ct 0, (6, .inl (fun _ => 0)))), (q2, .inl (ct 0, (6, .inl (fun _ => 0)))), (q3, .inl (ct 0, (6, .inl (fun _ => 0)))), (q4, .inl (ct 0, (6, .inl (fun _ => 0))))]) := hD
  refine W.widen (k := 4) (n := 24) (by decide) (by decide) ?_
  refine va_putF (D := (dC, dI)) (ci := 1) (v := .ref q4) (ty := tyX1 9) (C := RX1) (T := TX1) (N := 17) hx hb hts iwX1_init_X1 tyX1 tyX1_ok nmX1 hown hK hP hD hS 0 rfl rfl 9 (by decide) (hts _ (List.mem_of_getElem? (i := 14) rfl)) (fun _ h9 => h9) rfl hin rfl (tyX1_ok 9 (by decide)) rfl rfl (Nat.le_of_ble_eq_true rfl) dX1_init_63 (fun H locs hP hD hS => ?_)
  have hP : va_P (dC, dI) vwCl ([(h0, .inr (1, [.int 0, .int 0, .int 0, .int 0, .int 0, .int 0, .ref q1, .ref q2, .ref q3, .ref q4, .null, .null, .int 0, .int 0, .null, .null, .null])), (q1, .inl (ct 0, (6, .inl (fun _ => 0)))), (q2, .inl (ct 0, (6, .inl (fun _ => 0)))), (q3, .inl (ct 0, (6, .inl (fun _ => 0)))), (q4, .inl (ct 0, (6, .inl (fun _ => 0))))]) H := hP
  have hD : va_D A ([(h0, .inr (1, [.int 0, .int 0, .int 0, .int 0, .int 0, .int 0, .ref q1, .ref q2, .ref q3, .ref q4, .null, .null, .int 0, .int 0, .null, .null, .null])), (q1, .inl (ct 0, (6, .inl (fun _ => 0)))), (q2, .inl (ct 0, (6, .inl (fun _ => 0)))), (q3, .inl (ct 0, (6, .inl (fun _ => 0)))), (q4, .inl (ct 0, (6, .inl (fun _ => 0))))]) := hD
  refine lv_aload_n hx hb dX1_init_66 rfl (lv_at hl 0 rfl) ?_
  refine lv_bipush (v := 6) hx hb dX1_init_67 (by decide) ?_
  refine nw_a (a0 := (6, .inl (fun _ => 0))) (ty := .int) hx hb (hts _ (List.mem_of_getElem? (i := 10) rfl)) rfl hK hP hD hS hA 0 rfl (fun _ h => by cases h) (fun _ => rfl) (by decide) (by decide) (by decide) (Nat.le_of_ble_eq_true rfl) (Nat.le_of_ble_eq_true rfl) dX1_init_69 (fun q5 H hP hD hS => ?_)
  have hP : va_P (dC, dI) vwCl ([(h0, .inr (1, [.int 0, .int 0, .int 0, .int 0, .int 0, .int 0, .ref q1, .ref q2, .ref q3, .ref q4, .null, .null, .int 0, .int 0, .null, .null, .null])), (q1, .inl (ct 0, (6, .inl (fun _ => 0)))), (q2, .inl (ct 0, (6, .inl (fun _ => 0)))), (q3, .inl (ct 0, (6, .inl (fun _ => 0)))), (q4, .inl (ct 0, (6, .inl (fun _ => 0)))), (q5, .inl (ct 0, (6, .inl (fun _ => 0))))]) H := hP
  have hD : va_D A ([(h0, .inr (1, [.int 0, .int 0, .int 0, .int 0, .int 0, .int 0, .ref q1, .ref q2, .ref q3, .ref q4, .null, .null, .int 0, .int 0, .null, .null, .null])), (q1, .inl (ct 0, (6, .inl (fun _ => 0)))), (q2, .inl (ct 0, (6, .inl (fun _ => 0)))), (q3, .inl (ct 0, (6, .inl (fun _ => 0)))), (q4, .inl (ct 0, (6, .inl (fun _ => 0)))), (q5, .inl (ct 0, (6, .inl (fun _ => 0))))]) := hD
  refine W.widen (k := 5) (n := 30) (by decide) (by decide) ?_
  refine va_putF (D := (dC, dI)) (ci := 1) (v := .ref q5) (ty := tyX1 10) (C := RX1) (T := TX1) (N := 17) hx hb hts iwX1_init_X1 tyX1 tyX1_ok nmX1 hown hK hP hD hS 0 rfl rfl 10 (by decide) (hts _ (List.mem_of_getElem? (i := 15) rfl)) (fun _ h9 => h9) rfl hin rfl (tyX1_ok 10 (by decide)) rfl rfl (Nat.le_of_ble_eq_true rfl) dX1_init_71 (fun H locs hP hD hS => ?_)
  have hP : va_P (dC, dI) vwCl ([(h0, .inr (1, [.int 0, .int 0, .int 0, .int 0, .int 0, .int 0, .ref q1, .ref q2, .ref q3, .ref q4, .ref q5, .null, .int 0, .int 0, .null, .null, .null])), (q1, .inl (ct 0, (6, .inl (fun _ => 0)))), (q2, .inl (ct 0, (6, .inl (fun _ => 0)))), (q3, .inl (ct 0, (6, .inl (fun _ => 0)))), (q4, .inl (ct 0, (6, .inl (fun _ => 0)))), (q5, .inl (ct 0, (6, .inl (fun _ => 0))))]) H := hP
  have hD : va_D A ([(h0, .inr (1, [.int 0, .int 0, .int 0, .int 0, .int 0, .int 0, .ref q1, .ref q2, .ref q3, .ref q4, .ref q5, .null, .int 0, .int 0, .null, .null, .null])), (q1, .inl (ct 0, (6, .inl (fun _ => 0)))), (q2, .inl (ct 0, (6, .inl (fun _ => 0)))), (q3, .inl (ct 0, (6, .inl (fun _ => 0)))), (q4, .inl (ct 0, (6, .inl (fun _ => 0)))), (q5, .inl (ct 0, (6, .inl (fun _ => 0))))]) := hD
  refine lv_aload_n hx hb dX1_init_74 rfl (lv_at hl 0 rfl) ?_
  refine lv_bipush (v := 6) hx hb dX1_init_75 (by decide) ?_
  refine nw_a (a0 := (6, .inl (fun _ => 0))) (ty := .int) hx hb (hts _ (List.mem_of_getElem? (i := 10) rfl)) rfl hK hP hD hS hA 0 rfl (fun _ h => by cases h) (fun _ => rfl) (by decide) (by decide) (by decide) (Nat.le_of_ble_eq_true rfl) (Nat.le_of_ble_eq_true rfl) dX1_init_77 (fun q6 H hP hD hS => ?_)
  have hP : va_P (dC, dI) vwCl ([(h0, .inr (1, [.int 0, .int 0, .int 0, .int 0, .int 0, .int 0, .ref q1, .ref q2, .ref q3, .ref q4, .ref q5, .null, .int 0, .int 0, .null, .null, .null])), (q1, .inl (ct 0, (6, .inl (fun _ => 0)))), (q2, .inl (ct 0, (6, .inl (fun _ => 0)))), (q3, .inl (ct 0, (6, .inl (fun _ => 0)))), (q4, .inl (ct 0, (6, .inl (fun _ => 0)))), (q5, .inl (ct 0, (6, .inl (fun _ => 0)))), (q6, .inl (ct 0, (6, .inl (fun _ => 0))))]) H := hP
  have hD : va_D A ([(h0, .inr (1, [.int 0, .int 0, .int 0, .int 0, .int 0, .int 0, .ref q1, .ref q2, .ref q3, .ref q4, .ref q5, .null, .int 0, .int 0, .null, .null, .null])), (q1, .inl (ct 0, (6, .inl (fun _ => 0)))), (q2, .inl (ct 0, (6, .inl (fun _ => 0)))), (q3, .inl (ct 0, (6, .inl (fun _ => 0)))), (q4, .inl (ct 0, (6, .inl (fun _ => 0)))), (q5, .inl (ct 0, (6, .inl (fun _ => 0)))), (q6, .inl (ct 0, (6, .inl (fun _ => 0))))]) := hD
  refine W.widen (k := 6) (n := 36) (by decide) (by decide) ?_
  refine va_putF (D := (dC, dI)) (ci := 1) (v := .ref q6) (ty := tyX1 11) (C := RX1) (T := TX1) (N := 17) hx hb hts iwX1_init_X1 tyX1 tyX1_ok nmX1 hown hK hP hD hS 0 rfl rfl 11 (by decide) (hts _ (List.mem_of_getElem? (i := 16) rfl)) (fun _ h9 => h9) rfl hin rfl (tyX1_ok 11 (by decide)) rfl rfl (Nat.le_of_ble_eq_true rfl) dX1_init_79 (fun H locs hP hD hS => ?_)
  have hP : va_P (dC, dI) vwCl ([(h0, .inr (1, [.int 0, .int 0, .int 0, .int 0, .int 0, .int 0, .ref q1, .ref q2, .ref q3, .ref q4, .ref q5, .ref q6, .int 0, .int 0, .null, .null, .null])), (q1, .inl (ct 0, (6, .inl (fun _ => 0)))), (q2, .inl (ct 0, (6, .inl (fun _ => 0)))), (q3, .inl (ct 0, (6, .inl (fun _ => 0)))), (q4, .inl (ct 0, (6, .inl (fun _ => 0)))), (q5, .inl (ct 0, (6, .inl (fun _ => 0)))), (q6, .inl (ct 0, (6, .inl (fun _ => 0))))]) H := hP
  have hD : va_D A ([(h0, .inr (1, [.int 0, .int 0, .int 0, .int 0, .int 0, .int 0, .ref q1, .ref q2, .ref q3, .ref q4, .ref q5, .ref q6, .int 0, .int 0, .null, .null, .null])), (q1, .inl (ct 0, (6, .inl (fun _ => 0)))), (q2, .inl (ct 0, (6, .inl (fun _ => 0)))), (q3, .inl (ct 0, (6, .inl (fun _ => 0)))), (q4, .inl (ct 0, (6, .inl (fun _ => 0)))), (q5, .inl (ct 0, (6, .inl (fun _ => 0)))), (q6, .inl (ct 0, (6, .inl (fun _ => 0))))]) := hD
  refine lv_aload_n hx hb dX1_init_82 rfl (lv_at hl 0 rfl) ?_
  refine lv_iconst (v := 0) hx hb dX1_init_83 (by decide) ?_
  refine va_put (D := (dC, dI)) (ci := 1) (v := .int 0) (ty := tyX1 12) (C := RX1) (T := TX1) (N := 17) hx hb hts iwX1_init_X1 tyX1 tyX1_ok nmX1 hown hK hP hD hS 0 rfl rfl 12 (by decide) (hts _ (List.mem_of_getElem? (i := 17) rfl)) (fun _ h9 => h9) rfl (tyX1_ok 12 (by decide)) rfl rfl (Nat.le_of_ble_eq_true rfl) dX1_init_84 (fun H locs hP hD hS => ?_)
  have hP : va_P (dC, dI) vwCl ([(h0, .inr (1, [.int 0, .int 0, .int 0, .int 0, .int 0, .int 0, .ref q1, .ref q2, .ref q3, .ref q4, .ref q5, .ref q6, .int 0, .int 0, .null, .null, .null])), (q1, .inl (ct 0, (6, .inl (fun _ => 0)))), (q2, .inl (ct 0, (6, .inl (fun _ => 0)))), (q3, .inl (ct 0, (6, .inl (fun _ => 0)))), (q4, .inl (ct 0, (6, .inl (fun _ => 0)))), (q5, .inl (ct 0, (6, .inl (fun _ => 0)))), (q6, .inl (ct 0, (6, .inl (fun _ => 0))))]) H := hP
  have hD : va_D A ([(h0, .inr (1, [.int 0, .int 0, .int 0, .int 0, .int 0, .int 0, .ref q1, .ref q2, .ref q3, .ref q4, .ref q5, .ref q6, .int 0, .int 0, .null, .null, .null])), (q1, .inl (ct 0, (6, .inl (fun _ => 0)))), (q2, .inl (ct 0, (6, .inl (fun _ => 0)))), (q3, .inl (ct 0, (6, .inl (fun _ => 0)))), (q4, .inl (ct 0, (6, .inl (fun _ => 0)))), (q5, .inl (ct 0, (6, .inl (fun _ => 0)))), (q6, .inl (ct 0, (6, .inl (fun _ => 0))))]) := hD
  refine lv_aload_n hx hb dX1_init_87 rfl (lv_at hl 0 rfl) ?_
  refine lv_iconst (v := 0) hx hb dX1_init_88 (by decide) ?_
  refine va_put (D := (dC, dI)) (ci := 1) (v := .int 0) (ty := tyX1 13) (C := RX1) (T := TX1) (N := 17) hx hb hts iwX1_init_X1 tyX1 tyX1_ok nmX1 hown hK hP hD hS 0 rfl rfl 13 (by decide) (hts _ (List.mem_of_getElem? (i := 18) rfl)) (fun _ h9 => h9) rfl (tyX1_ok 13 (by decide)) rfl rfl (Nat.le_of_ble_eq_true rfl) dX1_init_89 (fun H locs hP hD hS => ?_)
  have hP : va_P (dC, dI) vwCl ([(h0, .inr (1, [.int 0, .int 0, .int 0, .int 0, .int 0, .int 0, .ref q1, .ref q2, .ref q3, .ref q4, .ref q5, .ref q6, .int 0, .int 0, .null, .null, .null])), (q1, .inl (ct 0, (6, .inl (fun _ => 0)))), (q2, .inl (ct 0, (6, .inl (fun _ => 0)))), (q3, .inl (ct 0, (6, .inl (fun _ => 0)))), (q4, .inl (ct 0, (6, .inl (fun _ => 0)))), (q5, .inl (ct 0, (6, .inl (fun _ => 0)))), (q6, .inl (ct 0, (6, .inl (fun _ => 0))))]) H := hP
  have hD : va_D A ([(h0, .inr (1, [.int 0, .int 0, .int 0, .int 0, .int 0, .int 0, .ref q1, .ref q2, .ref q3, .ref q4, .ref q5, .ref q6, .int 0, .int 0, .null, .null, .null])), (q1, .inl (ct 0, (6, .inl (fun _ => 0)))), (q2, .inl (ct 0, (6, .inl (fun _ => 0)))), (q3, .inl (ct 0, (6, .inl (fun _ => 0)))), (q4, .inl (ct 0, (6, .inl (fun _ => 0)))), (q5, .inl (ct 0, (6, .inl (fun _ => 0)))), (q6, .inl (ct 0, (6, .inl (fun _ => 0))))]) := hD
  refine lv_aload_n hx hb dX1_init_92 rfl (lv_at hl 0 rfl) ?_
  refine lv_bipush (v := 12) hx hb dX1_init_93 (by decide) ?_
  refine nw_a (a0 := (12, .inl (fun _ => 0))) (ty := .int) hx hb (hts _ (List.mem_of_getElem? (i := 10) rfl)) rfl hK hP hD hS hA 0 rfl (fun _ h => by cases h) (fun _ => rfl) (by decide) (by decide) (by decide) (Nat.le_of_ble_eq_true rfl) (Nat.le_of_ble_eq_true rfl) dX1_init_95 (fun q7 H hP hD hS => ?_)
  have hP : va_P (dC, dI) vwCl ([(h0, .inr (1, [.int 0, .int 0, .int 0, .int 0, .int 0, .int 0, .ref q1, .ref q2, .ref q3, .ref q4, .ref q5, .ref q6, .int 0, .int 0, .null, .null, .null])), (q1, .inl (ct 0, (6, .inl (fun _ => 0)))), (q2, .inl (ct 0, (6, .inl (fun _ => 0)))), (q3, .inl (ct 0, (6, .inl (fun _ => 0)))), (q4, .inl (ct 0, (6, .inl (fun _ => 0)))), (q5, .inl (ct 0, (6, .inl (fun _ => 0)))), (q6, .inl (ct 0, (6, .inl (fun _ => 0)))), (q7, .inl (ct 0, (12, .inl (fun _ => 0))))]) H := hP
  have hD : va_D A ([(h0, .inr (1, [.int 0, .int 0, .int 0, .int 0, .int 0, .int 0, .ref q1, .ref q2, .ref q3, .ref q4, .ref q5, .ref q6, .int 0, .int 0, .null, .null, .null])), (q1, .inl (ct 0, (6, .inl (fun _ => 0)))), (q2, .inl (ct 0, (6, .inl (fun _ => 0)))), (q3, .inl (ct 0, (6, .inl (fun _ => 0)))), (q4, .inl (ct 0, (6, .inl (fun _ => 0)))), (q5, .inl (ct 0, (6, .inl (fun _ => 0)))), (q6, .inl (ct 0, (6, .inl (fun _ => 0)))), (q7, .inl (ct 0, (12, .inl (fun _ => 0))))]) := hD
  refine W.widen (k := 7) (n := 48) (by decide) (by decide) ?_
  refine va_putF (D := (dC, dI)) (ci := 1) (v := .ref q7) (ty := tyX1 14) (C := RX1) (T := TX1) (N := 17) hx hb hts iwX1_init_X1 tyX1 tyX1_ok nmX1 hown hK hP hD hS 0 rfl rfl 14 (by decide) (hts _ (List.mem_of_getElem? (i := 19) rfl)) (fun _ h9 => h9) rfl hin rfl (tyX1_ok 14 (by decide)) rfl rfl (Nat.le_of_ble_eq_true rfl) dX1_init_97 (fun H locs hP hD hS => ?_)
  have hP : va_P (dC, dI) vwCl ([(h0, .inr (1, [.int 0, .int 0, .int 0, .int 0, .int 0, .int 0, .ref q1, .ref q2, .ref q3, .ref q4, .ref q5, .ref q6, .int 0, .int 0, .ref q7, .null, .null])), (q1, .inl (ct 0, (6, .inl (fun _ => 0)))), (q2, .inl (ct 0, (6, .inl (fun _ => 0)))), (q3, .inl (ct 0, (6, .inl (fun _ => 0)))), (q4, .inl (ct 0, (6, .inl (fun _ => 0)))), (q5, .inl (ct 0, (6, .inl (fun _ => 0)))), (q6, .inl (ct 0, (6, .inl (fun _ => 0)))), (q7, .inl (ct 0, (12, .inl (fun _ => 0))))]) H := hP
  have hD : va_D A ([(h0, .inr (1, [.int 0, .int 0, .int 0, .int 0, .int 0, .int 0, .ref q1, .ref q2, .ref q3, .ref q4, .ref q5, .ref q6, .int 0, .int 0, .ref q7, .null, .null])), (q1, .inl (ct 0, (6, .inl (fun _ => 0)))), (q2, .inl (ct 0, (6, .inl (fun _ => 0)))), (q3, .inl (ct 0, (6, .inl (fun _ => 0)))), (q4, .inl (ct 0, (6, .inl (fun _ => 0)))), (q5, .inl (ct 0, (6, .inl (fun _ => 0)))), (q6, .inl (ct 0, (6, .inl (fun _ => 0)))), (q7, .inl (ct 0, (12, .inl (fun _ => 0))))]) := hD
  refine lv_aload_n hx hb dX1_init_100 rfl (lv_at hl 0 rfl) ?_
  refine lv_bipush (v := 12) hx hb dX1_init_101 (by decide) ?_
  refine nw_a (a0 := (12, .inl (fun _ => 0))) (ty := .int) hx hb (hts _ (List.mem_of_getElem? (i := 10) rfl)) rfl hK hP hD hS hA 0 rfl (fun _ h => by cases h) (fun _ => rfl) (by decide) (by decide) (by decide) (Nat.le_of_ble_eq_true rfl) (Nat.le_of_ble_eq_true rfl) dX1_init_103 (fun q8 H hP hD hS => ?_)
  have hP : va_P (dC, dI) vwCl ([(h0, .inr (1, [.int 0, .int 0, .int 0, .int 0, .int 0, .int 0, .ref q1, .ref q2, .ref q3, .ref q4, .ref q5, .ref q6, .int 0, .int 0, .ref q7, .null, .null])), (q1, .inl (ct 0, (6, .inl (fun _ => 0)))), (q2, .inl (ct 0, (6, .inl (fun _ => 0)))), (q3, .inl (ct 0, (6, .inl (fun _ => 0)))), (q4, .inl (ct 0, (6, .inl (fun _ => 0)))), (q5, .inl (ct 0, (6, .inl (fun _ => 0)))), (q6, .inl (ct 0, (6, .inl (fun _ => 0)))), (q7, .inl (ct 0, (12, .inl (fun _ => 0)))), (q8, .inl (ct 0, (12, .inl (fun _ => 0))))]) H := hP
  have hD : va_D A ([(h0, .inr (1, [.int 0, .int 0, .int 0, .int 0, .int 0, .int 0, .ref q1, .ref q2, .ref q3, .ref q4, .ref q5, .ref q6, .int 0, .int 0, .ref q7, .null, .null])), (q1, .inl (ct 0, (6, .inl (fun _ => 0)))), (q2, .inl (ct 0, (6, .inl (fun _ => 0)))), (q3, .inl (ct 0, (6, .inl (fun _ => 0)))), (q4, .inl (ct 0, (6, .inl (fun _ => 0)))), (q5, .inl (ct 0, (6, .inl (fun _ => 0)))), (q6, .inl (ct 0, (6, .inl (fun _ => 0)))), (q7, .inl (ct 0, (12, .inl (fun _ => 0)))), (q8, .inl (ct 0, (12, .inl (fun _ => 0))))]) := hD
  refine W.widen (k := 8) (n := 60) (by decide) (by decide) ?_
  refine va_putF (D := (dC, dI)) (ci := 1) (v := .ref q8) (ty := tyX1 15) (C := RX1) (T := TX1) (N := 17) hx hb hts iwX1_init_X1 tyX1 tyX1_ok nmX1 hown hK hP hD hS 0 rfl rfl 15 (by decide) (hts _ (List.mem_of_getElem? (i := 20) rfl)) (fun _ h9 => h9) rfl hin rfl (tyX1_ok 15 (by decide)) rfl rfl (Nat.le_of_ble_eq_true rfl) dX1_init_105 (fun H locs hP hD hS => ?_)
  have hP : va_P (dC, dI) vwCl ([(h0, .inr (1, [.int 0, .int 0, .int 0, .int 0, .int 0, .int 0, .ref q1, .ref q2, .ref q3, .ref q4, .ref q5, .ref q6, .int 0, .int 0, .ref q7, .ref q8, .null])), (q1, .inl (ct 0, (6, .inl (fun _ => 0)))), (q2, .inl (ct 0, (6, .inl (fun _ => 0)))), (q3, .inl (ct 0, (6, .inl (fun _ => 0)))), (q4, .inl (ct 0, (6, .inl (fun _ => 0)))), (q5, .inl (ct 0, (6, .inl (fun _ => 0)))), (q6, .inl (ct 0, (6, .inl (fun _ => 0)))), (q7, .inl (ct 0, (12, .inl (fun _ => 0)))), (q8, .inl (ct 0, (12, .inl (fun _ => 0))))]) H := hP
  have hD : va_D A ([(h0, .inr (1, [.int 0, .int 0, .int 0, .int 0, .int 0, .int 0, .ref q1, .ref q2, .ref q3, .ref q4, .ref q5, .ref q6, .int 0, .int 0, .ref q7, .ref q8, .null])), (q1, .inl (ct 0, (6, .inl (fun _ => 0)))), (q2, .inl (ct 0, (6, .inl (fun _ => 0)))), (q3, .inl (ct 0, (6, .inl (fun _ => 0)))), (q4, .inl (ct 0, (6, .inl (fun _ => 0)))), (q5, .inl (ct 0, (6, .inl (fun _ => 0)))), (q6, .inl (ct 0, (6, .inl (fun _ => 0)))), (q7, .inl (ct 0, (12, .inl (fun _ => 0)))), (q8, .inl (ct 0, (12, .inl (fun _ => 0))))]) := hD
  refine lv_aload_n hx hb dX1_init_108 rfl (lv_at hl 0 rfl) ?_
  refine lv_bipush (v := 12) hx hb dX1_init_109 (by decide) ?_
  refine nw_a (a0 := (12, .inl (fun _ => 0))) (ty := .int) hx hb (hts _ (List.mem_of_getElem? (i := 10) rfl)) rfl hK hP hD hS hA 0 rfl (fun _ h => by cases h) (fun _ => rfl) (by decide) (by decide) (by decide) (Nat.le_of_ble_eq_true rfl) (Nat.le_of_ble_eq_true rfl) dX1_init_111 (fun q9 H hP hD hS => ?_)
  have hP : va_P (dC, dI) vwCl ([(h0, .inr (1, [.int 0, .int 0, .int 0, .int 0, .int 0, .int 0, .ref q1, .ref q2, .ref q3, .ref q4, .ref q5, .ref q6, .int 0, .int 0, .ref q7, .ref q8, .null])), (q1, .inl (ct 0, (6, .inl (fun _ => 0)))), (q2, .inl (ct 0, (6, .inl (fun _ => 0)))), (q3, .inl (ct 0, (6, .inl (fun _ => 0)))), (q4, .inl (ct 0, (6, .inl (fun _ => 0)))), (q5, .inl (ct 0, (6, .inl (fun _ => 0)))), (q6, .inl (ct 0, (6, .inl (fun _ => 0)))), (q7, .inl (ct 0, (12, .inl (fun _ => 0)))), (q8, .inl (ct 0, (12, .inl (fun _ => 0)))), (q9, .inl (ct 0, (12, .inl (fun _ => 0))))]) H := hP
  have hD : va_D A ([(h0, .inr (1, [.int 0, .int 0, .int 0, .int 0, .int 0, .int 0, .ref q1, .ref q2, .ref q3, .ref q4, .ref q5, .ref q6, .int 0, .int 0, .ref q7, .ref q8, .null])), (q1, .inl (ct 0, (6, .inl (fun _ => 0)))), (q2, .inl (ct 0, (6, .inl (fun _ => 0)))), (q3, .inl (ct 0, (6, .inl (fun _ => 0)))), (q4, .inl (ct 0, (6, .inl (fun _ => 0)))), (q5, .inl (ct 0, (6, .inl (fun _ => 0)))), (q6, .inl (ct 0, (6, .inl (fun _ => 0)))), (q7, .inl (ct 0, (12, .inl (fun _ => 0)))), (q8, .inl (ct 0, (12, .inl (fun _ => 0)))), (q9, .inl (ct 0, (12, .inl (fun _ => 0))))]) := hD
  refine W.widen (k := 9) (n := 72) (by decide) (by decide) ?_
  refine va_putF (D := (dC, dI)) (ci := 1) (v := .ref q9) (ty := tyX1 16) (C := RX1) (T := TX1) (N := 17) hx hb hts iwX1_init_X1 tyX1 tyX1_ok nmX1 hown hK hP hD hS 0 rfl rfl 16 (by decide) (hts _ (List.mem_of_getElem? (i := 21) rfl)) (fun _ h9 => h9) rfl hin rfl (tyX1_ok 16 (by decide)) rfl rfl (Nat.le_of_ble_eq_true rfl) dX1_init_113 (fun H locs hP hD hS => ?_)
  have hP : va_P (dC, dI) vwCl ([(h0, .inr (1, [.int 0, .int 0, .int 0, .int 0, .int 0, .int 0, .ref q1, .ref q2, .ref q3, .ref q4, .ref q5, .ref q6, .int 0, .int 0, .ref q7, .ref q8, .ref q9])), (q1, .inl (ct 0, (6, .inl (fun _ => 0)))), (q2, .inl (ct 0, (6, .inl (fun _ => 0)))), (q3, .inl (ct 0, (6, .inl (fun _ => 0)))), (q4, .inl (ct 0, (6, .inl (fun _ => 0)))), (q5, .inl (ct 0, (6, .inl (fun _ => 0)))), (q6, .inl (ct 0, (6, .inl (fun _ => 0)))), (q7, .inl (ct 0, (12, .inl (fun _ => 0)))), (q8, .inl (ct 0, (12, .inl (fun _ => 0)))), (q9, .inl (ct 0, (12, .inl (fun _ => 0))))]) H := hP
  have hD : va_D A ([(h0, .inr (1, [.int 0, .int 0, .int 0, .int 0, .int 0, .int 0, .ref q1, .ref q2, .ref q3, .ref q4, .ref q5, .ref q6, .int 0, .int 0, .ref q7, .ref q8, .ref q9])), (q1, .inl (ct 0, (6, .inl (fun _ => 0)))), (q2, .inl (ct 0, (6, .inl (fun _ => 0)))), (q3, .inl (ct 0, (6, .inl (fun _ => 0)))), (q4, .inl (ct 0, (6, .inl (fun _ => 0)))), (q5, .inl (ct 0, (6, .inl (fun _ => 0)))), (q6, .inl (ct 0, (6, .inl (fun _ => 0)))), (q7, .inl (ct 0, (12, .inl (fun _ => 0)))), (q8, .inl (ct 0, (12, .inl (fun _ => 0)))), (q9, .inl (ct 0, (12, .inl (fun _ => 0))))]) := hD
  have hP9 := hP.sub (ws' := (wL ct (fun k => [h0, q1, q2, q3, q4, q5, q6, q7, q8, q9].getD k 0) z0)) [0, 1, 2, 3, 4, 5, 6, 7, 8, 9] rfl
  have hD9 := hD.sub (ws' := (wL ct (fun k => [h0, q1, q2, q3, q4, q5, q6, q7, q8, q9].getD k 0) z0)) [0, 1, 2, 3, 4, 5, 6, 7, 8, 9] rfl rfl
  exact W.vret hx hb hr (fun t ht hW => ⟨⟨(fun k => [h0, q1, q2, q3, q4, q5, q6, q7, q8, q9].getD k 0), rfl, rfl, by rw [ht]; exact hP9, va_K.moved hW.alike hK, hD9⟩, hS.F ht⟩) hS.2.2 dX1_init_116
abbrev rmX3_init : Room := { frames := 1, cells := 3, slots := 18, locals := 12 }
theorem iwX3_init_X3 : ∀ w ∈ wsX30, w ∈ wsX3_init := fun _ h => List.mem_cons_of_mem _ (List.mem_append_right _ (h))
theorem dfX3 : ∀ j, j < 13 → defaultValue (tyX3 j) = vp_V [.null, .null, .null, .null, .null, .int 0, .int 0, .int 0, .int 0, .int 0, .int 0, .int 0, .int 0] j := fun j hj => match j, hj with
  | 0, _ => rfl
  | 1, _ => rfl
  | 2, _ => rfl
  | 3, _ => rfl
  | 4, _ => rfl
  | 5, _ => rfl
  | 6, _ => rfl
  | 7, _ => rfl
  | 8, _ => rfl
  | 9, _ => rfl
  | 10, _ => rfl
  | 11, _ => rfl
  | 12, _ => rfl
  | j + 13, h => absurd h (by omega)
set_option maxHeartbeats 4000000 in
set_option maxRecDepth 100000 in
theorem kX3_init (l : Launch) (dC : Nat → ClassId) (dI : Nat → Nat → Nat) (ct : Nat → ClassId) (h0 r1 r2 sz : Nat) : Met l yX3_init wsX3_init rmX3_init (va_Pc [.ref h0, .ref r1, .ref r2] (PB (dC, dI) ct E0 sz ([(h0, .inr (3, [.null, .null, .null, .null, .null, .int 0, .int 0, .int 0, .int 0, .int 0, .int 0, .int 0, .int 0]))]))) (va_Qv (fun a : Nat → Nat => a 0 = h0) (fun a => QB (dC, dI) ct (va_A ([(h0, .inr (3, [.null, .null, .null, .null, .null, .int 0, .int 0, .int 0, .int 0, .int 0, .int 0, .int 0, .int 0]))]) sz) (wR ct a r1 r2 z0)) (va_A ([(h0, .inr (3, [.null, .null, .null, .null, .null, .int 0, .int 0, .int 0, .int 0, .int 0, .int 0, .int 0, .int 0]))]) sz)) 3 18 (va_A ([(h0, .inr (3, [.null, .null, .null, .null, .null, .int 0, .int 0, .int 0, .int 0, .int 0, .int 0, .int 0, .int 0]))]) sz) := by
  refine Met.ofW (cc := cX3_init) (maxL := 3) (ret := none) (by decide) rfl ?_
  intro p e s m args below meth c s₁ B hml hv
  obtain ⟨hargs, hsz, hP, hK, hD0, hE⟩ := hv
  have hx := B.exec
  have hb := B.bytes
  have hr := B.returns
  have hts := atoms_spec (ws := wsX3_init) B.pre
  have hown : s.vm.findClass RX3 = some m.cls := findClass_of_methodNamed B.named
  have hlocks := B.notSynchronized
  have hin : meth.name = "<init>" := (name_of_methodNamed B.named B.method).1
  clear B s₁
  subst hsz
  have hD := hD0.self (sz := s.heap.size)
  clear hD0
  generalize hAe : va_A ([(h0, .inr (3, [.null, .null, .null, .null, .null, .int 0, .int 0, .int 0, .int 0, .int 0, .int 0, .int 0, .int 0]))]) s.heap.size = A at hD hE ⊢
  have hA : ∀ q : Nat, s.heap.size ≤ q → A q := fun q h => by rw [← hAe]; exact Or.inr h
  clear hAe
  have hS : va_S A s.heap s.heap [] := va_S.rf
  refine entryW (vs := [.ref h0, .ref r1, .ref r2]) hargs (Nat.le_of_ble_eq_true rfl) (fun ls hl => ?_)
  replace hl : lv_has ls 3 [(0, .ref h0), (1, .ref r1), (2, .ref r2)] := hl
  refine lv_aload_n hx hb dX3_init_0 rfl (lv_at hl 0 rfl) ?_
  refine W.objInit hx hb hown (hts _ (List.mem_of_getElem? (i := 1) rfl)) (hts _ (List.mem_of_getElem? (i := 2) rfl)) (hts _ (List.mem_of_getElem? (i := 3) rfl)) rfl (by rw [hml]; exact hl.1) rfl dX3_init_1 (Nat.le_of_ble_eq_true rfl) (Nat.le_of_ble_eq_true rfl) ?_
  refine W.eq (g2 := F0 m 4 ls []) rfl ?_
  refine lv_aload_n hx hb dX3_init_4 rfl (lv_at hl 0 rfl) ?_
  refine lv_bipush (v := 6) hx hb dX3_init_5 (by decide) ?_
  refine nw_a (a0 := (6, .inl (fun _ => 0))) (ty := .int) hx hb (hts _ (List.mem_of_getElem? (i := 4) rfl)) rfl hK hP hD hS hA 0 rfl (fun _ h => by cases h) (fun _ => rfl) (by decide) (by decide) (by decide) (Nat.le_of_ble_eq_true rfl) (Nat.le_of_ble_eq_true rfl) dX3_init_7 (fun q1 H hP hD hS => ?_)
  have hP : va_P (dC, dI) vwCl ([(h0, .inr (3, [.null, .null, .null, .null, .null, .int 0, .int 0, .int 0, .int 0, .int 0, .int 0, .int 0, .int 0])), (q1, .inl (ct 0, (6, .inl (fun _ => 0))))]) H := hP
  have hD : va_D A ([(h0, .inr (3, [.null, .null, .null, .null, .null, .int 0, .int 0, .int 0, .int 0, .int 0, .int 0, .int 0, .int 0])), (q1, .inl (ct 0, (6, .inl (fun _ => 0))))]) := hD
  refine W.widen (k := 1) (n := 6) (by decide) (by decide) ?_
  refine va_putF (D := (dC, dI)) (ci := 3) (v := .ref q1) (ty := tyX3 1) (C := RX3) (T := TX3) (N := 13) hx hb hts iwX3_init_X3 tyX3 tyX3_ok nmX3 hown hK hP hD hS 0 rfl rfl 1 (by decide) (hts _ (List.mem_of_getElem? (i := 5) rfl)) (fun _ h9 => h9) rfl hin rfl (tyX3_ok 1 (by decide)) rfl rfl (Nat.le_of_ble_eq_true rfl) dX3_init_9 (fun H locs hP hD hS => ?_)
  have hP : va_P (dC, dI) vwCl ([(h0, .inr (3, [.null, .ref q1, .null, .null, .null, .int 0, .int 0, .int 0, .int 0, .int 0, .int 0, .int 0, .int 0])), (q1, .inl (ct 0, (6, .inl (fun _ => 0))))]) H := hP
  have hD : va_D A ([(h0, .inr (3, [.null, .ref q1, .null, .null, .null, .int 0, .int 0, .int 0, .int 0, .int 0, .int 0, .int 0, .int 0])), (q1, .inl (ct 0, (6, .inl (fun _ => 0))))]) := hD
  refine lv_aload_n hx hb dX3_init_12 rfl (lv_at hl 0 rfl) ?_
  refine lv_bipush (v := 6) hx hb dX3_init_13 (by decide) ?_
  refine nw_a (a0 := (6, .inl (fun _ => 0))) (ty := .int) hx hb (hts _ (List.mem_of_getElem? (i := 4) rfl)) rfl hK hP hD hS hA 0 rfl (fun _ h => by cases h) (fun _ => rfl) (by decide) (by decide) (by decide) (Nat.le_of_ble_eq_true rfl) (Nat.le_of_ble_eq_true rfl) dX3_init_15 (fun q2 H hP hD hS => ?_)
  have hP : va_P (dC, dI) vwCl ([(h0, .inr (3, [.null, .ref q1, .null, .null, .null, .int 0, .int 0, .int 0, .int 0, .int 0, .int 0, .int 0, .int 0])), (q1, .inl (ct 0, (6, .inl (fun _ => 0)))), (q2, .inl (ct 0, (6, .inl (fun _ => 0))))]) H := hP
  have hD : va_D A ([(h0, .inr (3, [.null, .ref q1, .null, .null, .null, .int 0, .int 0, .int 0, .int 0, .int 0, .int 0, .int 0, .int 0])), (q1, .inl (ct 0, (6, .inl (fun _ => 0)))), (q2, .inl (ct 0, (6, .inl (fun _ => 0))))]) := hD
  refine W.widen (k := 2) (n := 12) (by decide) (by decide) ?_
  refine va_putF (D := (dC, dI)) (ci := 3) (v := .ref q2) (ty := tyX3 2) (C := RX3) (T := TX3) (N := 13) hx hb hts iwX3_init_X3 tyX3 tyX3_ok nmX3 hown hK hP hD hS 0 rfl rfl 2 (by decide) (hts _ (List.mem_of_getElem? (i := 6) rfl)) (fun _ h9 => h9) rfl hin rfl (tyX3_ok 2 (by decide)) rfl rfl (Nat.le_of_ble_eq_true rfl) dX3_init_17 (fun H locs hP hD hS => ?_)
  have hP : va_P (dC, dI) vwCl ([(h0, .inr (3, [.null, .ref q1, .ref q2, .null, .null, .int 0, .int 0, .int 0, .int 0, .int 0, .int 0, .int 0, .int 0])), (q1, .inl (ct 0, (6, .inl (fun _ => 0)))), (q2, .inl (ct 0, (6, .inl (fun _ => 0))))]) H := hP
  have hD : va_D A ([(h0, .inr (3, [.null, .ref q1, .ref q2, .null, .null, .int 0, .int 0, .int 0, .int 0, .int 0, .int 0, .int 0, .int 0])), (q1, .inl (ct 0, (6, .inl (fun _ => 0)))), (q2, .inl (ct 0, (6, .inl (fun _ => 0))))]) := hD
  refine lv_aload_n hx hb dX3_init_20 rfl (lv_at hl 0 rfl) ?_
  refine lv_bipush (v := 6) hx hb dX3_init_21 (by decide) ?_
  refine nw_a (a0 := (6, .inl (fun _ => 0))) (ty := .int) hx hb (hts _ (List.mem_of_getElem? (i := 4) rfl)) rfl hK hP hD hS hA 0 rfl (fun _ h => by cases h) (fun _ => rfl) (by decide) (by decide) (by decide) (Nat.le_of_ble_eq_true rfl) (Nat.le_of_ble_eq_true rfl) dX3_init_23 (fun q3 H hP hD hS => ?_)
  have hP : va_P (dC, dI) vwCl ([(h0, .inr (3, [.null, .ref q1, .ref q2, .null, .null, .int 0, .int 0, .int 0, .int 0, .int 0, .int 0, .int 0, .int 0])), (q1, .inl (ct 0, (6, .inl (fun _ => 0)))), (q2, .inl (ct 0, (6, .inl (fun _ => 0)))), (q3, .inl (ct 0, (6, .inl (fun _ => 0))))]) H := hP
  have hD : va_D A ([(h0, .inr (3, [.null, .ref q1, .ref q2, .null, .null, .int 0, .int 0, .int 0, .int 0, .int 0, .int 0, .int 0, .int 0])), (q1, .inl (ct 0, (6, .inl (fun _ => 0)))), (q2, .inl (ct 0, (6, .inl (fun _ => 0)))), (q3, .inl (ct 0, (6, .inl (fun _ => 0))))]) := hD
  refine W.widen (k := 3) (n := 18) (by decide) (by decide) ?_
  refine va_putF (D := (dC, dI)) (ci := 3) (v := .ref q3) (ty := tyX3 3) (C := RX3) (T := TX3) (N := 13) hx hb hts iwX3_init_X3 tyX3 tyX3_ok nmX3 hown hK hP hD hS 0 rfl rfl 3 (by decide) (hts _ (List.mem_of_getElem? (i := 7) rfl)) (fun _ h9 => h9) rfl hin rfl (tyX3_ok 3 (by decide)) rfl rfl (Nat.le_of_ble_eq_true rfl) dX3_init_25 (fun H locs hP hD hS => ?_)
  have hP : va_P (dC, dI) vwCl ([(h0, .inr (3, [.null, .ref q1, .ref q2, .ref q3, .null, .int 0, .int 0, .int 0, .int 0, .int 0, .int 0, .int 0, .int 0])), (q1, .inl (ct 0, (6, .inl (fun _ => 0)))), (q2, .inl (ct 0, (6, .inl (fun _ => 0)))), (q3, .inl (ct 0, (6, .inl (fun _ => 0))))]) H := hP
  have hD : va_D A ([(h0, .inr (3, [.null, .ref q1, .ref q2, .ref q3, .null, .int 0, .int 0, .int 0, .int 0, .int 0, .int 0, .int 0, .int 0])), (q1, .inl (ct 0, (6, .inl (fun _ => 0)))), (q2, .inl (ct 0, (6, .inl (fun _ => 0)))), (q3, .inl (ct 0, (6, .inl (fun _ => 0))))]) := hD
  refine lv_aload_n hx hb dX3_init_28 rfl (lv_at hl 0 rfl) ?_
  refine lv_iconst (v := 0) hx hb dX3_init_29 (by decide) ?_
  refine va_put (D := (dC, dI)) (ci := 3) (v := .int 0) (ty := tyX3 5) (C := RX3) (T := TX3) (N := 13) hx hb hts iwX3_init_X3 tyX3 tyX3_ok nmX3 hown hK hP hD hS 0 rfl rfl 5 (by decide) (hts _ (List.mem_of_getElem? (i := 8) rfl)) (fun _ h9 => h9) rfl (tyX3_ok 5 (by decide)) rfl rfl (Nat.le_of_ble_eq_true rfl) dX3_init_30 (fun H locs hP hD hS => ?_)
  have hP : va_P (dC, dI) vwCl ([(h0, .inr (3, [.null, .ref q1, .ref q2, .ref q3, .null, .int 0, .int 0, .int 0, .int 0, .int 0, .int 0, .int 0, .int 0])), (q1, .inl (ct 0, (6, .inl (fun _ => 0)))), (q2, .inl (ct 0, (6, .inl (fun _ => 0)))), (q3, .inl (ct 0, (6, .inl (fun _ => 0))))]) H := hP
  have hD : va_D A ([(h0, .inr (3, [.null, .ref q1, .ref q2, .ref q3, .null, .int 0, .int 0, .int 0, .int 0, .int 0, .int 0, .int 0, .int 0])), (q1, .inl (ct 0, (6, .inl (fun _ => 0)))), (q2, .inl (ct 0, (6, .inl (fun _ => 0)))), (q3, .inl (ct 0, (6, .inl (fun _ => 0))))]) := hD
  refine lv_aload_n hx hb dX3_init_33 rfl (lv_at hl 0 rfl) ?_
  refine lv_iconst (v := 0) hx hb dX3_init_34 (by decide) ?_
  refine va_put (D := (dC, dI)) (ci := 3) (v := .int 0) (ty := tyX3 6) (C := RX3) (T := TX3) (N := 13) hx hb hts iwX3_init_X3 tyX3 tyX3_ok nmX3 hown hK hP hD hS 0 rfl rfl 6 (by decide) (hts _ (List.mem_of_getElem? (i := 9) rfl)) (fun _ h9 => h9) rfl (tyX3_ok 6 (by decide)) rfl rfl (Nat.le_of_ble_eq_true rfl) dX3_init_35 (fun H locs hP hD hS => ?_)
  have hP : va_P (dC, dI) vwCl ([(h0, .inr (3, [.null, .ref q1, .ref q2, .ref q3, .null, .int 0, .int 0, .int 0, .int 0, .int 0, .int 0, .int 0, .int 0])), (q1, .inl (ct 0, (6, .inl (fun _ => 0)))), (q2, .inl (ct 0, (6, .inl (fun _ => 0)))), (q3, .inl (ct 0, (6, .inl (fun _ => 0))))]) H := hP
  have hD : va_D A ([(h0, .inr (3, [.null, .ref q1, .ref q2, .ref q3, .null, .int 0, .int 0, .int 0, .int 0, .int 0, .int 0, .int 0, .int 0])), (q1, .inl (ct 0, (6, .inl (fun _ => 0)))), (q2, .inl (ct 0, (6, .inl (fun _ => 0)))), (q3, .inl (ct 0, (6, .inl (fun _ => 0))))]) := hD
  refine lv_aload_n hx hb dX3_init_38 rfl (lv_at hl 0 rfl) ?_
  refine lv_iconst (v := 0) hx hb dX3_init_39 (by decide) ?_
  refine va_put (D := (dC, dI)) (ci := 3) (v := .int 0) (ty := tyX3 7) (C := RX3) (T := TX3) (N := 13) hx hb hts iwX3_init_X3 tyX3 tyX3_ok nmX3 hown hK hP hD hS 0 rfl rfl 7 (by decide) (hts _ (List.mem_of_getElem? (i := 10) rfl)) (fun _ h9 => h9) rfl (tyX3_ok 7 (by decide)) rfl rfl (Nat.le_of_ble_eq_true rfl) dX3_init_40 (fun H locs hP hD hS => ?_)
  have hP : va_P (dC, dI) vwCl ([(h0, .inr (3, [.null, .ref q1, .ref q2, .ref q3, .null, .int 0, .int 0, .int 0, .int 0, .int 0, .int 0, .int 0, .int 0])), (q1, .inl (ct 0, (6, .inl (fun _ => 0)))), (q2, .inl (ct 0, (6, .inl (fun _ => 0)))), (q3, .inl (ct 0, (6, .inl (fun _ => 0))))]) H := hP
  have hD : va_D A ([(h0, .inr (3, [.null, .ref q1, .ref q2, .ref q3, .null, .int 0, .int 0, .int 0, .int 0, .int 0, .int 0, .int 0, .int 0])), (q1, .inl (ct 0, (6, .inl (fun _ => 0)))), (q2, .inl (ct 0, (6, .inl (fun _ => 0)))), (q3, .inl (ct 0, (6, .inl (fun _ => 0))))]) := hD
  refine lv_aload_n hx hb dX3_init_43 rfl (lv_at hl 0 rfl) ?_
  refine lv_iconst (v := 0) hx hb dX3_init_44 (by decide) ?_
  refine va_put (D := (dC, dI)) (ci := 3) (v := .int 0) (ty := tyX3 8) (C := RX3) (T := TX3) (N := 13) hx hb hts iwX3_init_X3 tyX3 tyX3_ok nmX3 hown hK hP hD hS 0 rfl rfl 8 (by decide) (hts _ (List.mem_of_getElem? (i := 11) rfl)) (fun _ h9 => h9) rfl (tyX3_ok 8 (by decide)) rfl rfl (Nat.le_of_ble_eq_true rfl) dX3_init_45 (fun H locs hP hD hS => ?_)
  have hP : va_P (dC, dI) vwCl ([(h0, .inr (3, [.null, .ref q1, .ref q2, .ref q3, .null, .int 0, .int 0, .int 0, .int 0, .int 0, .int 0, .int 0, .int 0])), (q1, .inl (ct 0, (6, .inl (fun _ => 0)))), (q2, .inl (ct 0, (6, .inl (fun _ => 0)))), (q3, .inl (ct 0, (6, .inl (fun _ => 0))))]) H := hP
  have hD : va_D A ([(h0, .inr (3, [.null, .ref q1, .ref q2, .ref q3, .null, .int 0, .int 0, .int 0, .int 0, .int 0, .int 0, .int 0, .int 0])), (q1, .inl (ct 0, (6, .inl (fun _ => 0)))), (q2, .inl (ct 0, (6, .inl (fun _ => 0)))), (q3, .inl (ct 0, (6, .inl (fun _ => 0))))]) := hD
  refine lv_aload_n hx hb dX3_init_48 rfl (lv_at hl 0 rfl) ?_
  refine lv_iconst (v := 0) hx hb dX3_init_49 (by decide) ?_
  refine va_put (D := (dC, dI)) (ci := 3) (v := .int 0) (ty := tyX3 9) (C := RX3) (T := TX3) (N := 13) hx hb hts iwX3_init_X3 tyX3 tyX3_ok nmX3 hown hK hP hD hS 0 rfl rfl 9 (by decide) (hts _ (List.mem_of_getElem? (i := 12) rfl)) (fun _ h9 => h9) rfl (tyX3_ok 9 (by decide)) rfl rfl (Nat.le_of_ble_eq_true rfl) dX3_init_50 (fun H locs hP hD hS => ?_)
  have hP : va_P (dC, dI) vwCl ([(h0, .inr (3, [.null, .ref q1, .ref q2, .ref q3, .null, .int 0, .int 0, .int 0, .int 0, .int 0, .int 0, .int 0, .int 0])), (q1, .inl (ct 0, (6, .inl (fun _ => 0)))), (q2, .inl (ct 0, (6, .inl (fun _ => 0)))), (q3, .inl (ct 0, (6, .inl (fun _ => 0))))]) H := hP
  have hD : va_D A ([(h0, .inr (3, [.null, .ref q1, .ref q2, .ref q3, .null, .int 0, .int 0, .int 0, .int 0, .int 0, .int 0, .int 0, .int 0])), (q1, .inl (ct 0, (6, .inl (fun _ => 0)))), (q2, .inl (ct 0, (6, .inl (fun _ => 0)))), (q3, .inl (ct 0, (6, .inl (fun _ => 0))))]) := hD
  refine lv_aload_n hx hb dX3_init_53 rfl (lv_at hl 0 rfl) ?_
  refine lv_iconst (v := 0) hx hb dX3_init_54 (by decide) ?_
  refine va_put (D := (dC, dI)) (ci := 3) (v := .int 0) (ty := tyX3 10) (C := RX3) (T := TX3) (N := 13) hx hb hts iwX3_init_X3 tyX3 tyX3_ok nmX3 hown hK hP hD hS 0 rfl rfl 10 (by decide) (hts _ (List.mem_of_getElem? (i := 13) rfl)) (fun _ h9 => h9) rfl (tyX3_ok 10 (by decide)) rfl rfl (Nat.le_of_ble_eq_true rfl) dX3_init_55 (fun H locs hP hD hS => ?_)
  have hP : va_P (dC, dI) vwCl ([(h0, .inr (3, [.null, .ref q1, .ref q2, .ref q3, .null, .int 0, .int 0, .int 0, .int 0, .int 0, .int 0, .int 0, .int 0])), (q1, .inl (ct 0, (6, .inl (fun _ => 0)))), (q2, .inl (ct 0, (6, .inl (fun _ => 0)))), (q3, .inl (ct 0, (6, .inl (fun _ => 0))))]) H := hP
  have hD : va_D A ([(h0, .inr (3, [.null, .ref q1, .ref q2, .ref q3, .null, .int 0, .int 0, .int 0, .int 0, .int 0, .int 0, .int 0, .int 0])), (q1, .inl (ct 0, (6, .inl (fun _ => 0)))), (q2, .inl (ct 0, (6, .inl (fun _ => 0)))), (q3, .inl (ct 0, (6, .inl (fun _ => 0))))]) := hD
  refine lv_aload_n hx hb dX3_init_58 rfl (lv_at hl 0 rfl) ?_
  refine lv_iconst (v := 0) hx hb dX3_init_59 (by decide) ?_
  refine va_put (D := (dC, dI)) (ci := 3) (v := .int 0) (ty := tyX3 11) (C := RX3) (T := TX3) (N := 13) hx hb hts iwX3_init_X3 tyX3 tyX3_ok nmX3 hown hK hP hD hS 0 rfl rfl 11 (by decide) (hts _ (List.mem_of_getElem? (i := 14) rfl)) (fun _ h9 => h9) rfl (tyX3_ok 11 (by decide)) rfl rfl (Nat.le_of_ble_eq_true rfl) dX3_init_60 (fun H locs hP hD hS => ?_)
  have hP : va_P (dC, dI) vwCl ([(h0, .inr (3, [.null, .ref q1, .ref q2, .ref q3, .null, .int 0, .int 0, .int 0, .int 0, .int 0, .int 0, .int 0, .int 0])), (q1, .inl (ct 0, (6, .inl (fun _ => 0)))), (q2, .inl (ct 0, (6, .inl (fun _ => 0)))), (q3, .inl (ct 0, (6, .inl (fun _ => 0))))]) H := hP
  have hD : va_D A ([(h0, .inr (3, [.null, .ref q1, .ref q2, .ref q3, .null, .int 0, .int 0, .int 0, .int 0, .int 0, .int 0, .int 0, .int 0])), (q1, .inl (ct 0, (6, .inl (fun _ => 0)))), (q2, .inl (ct 0, (6, .inl (fun _ => 0)))), (q3, .inl (ct 0, (6, .inl (fun _ => 0))))]) := hD
  refine lv_aload_n hx hb dX3_init_63 rfl (lv_at hl 0 rfl) ?_
  refine lv_iconst (v := 0) hx hb dX3_init_64 (by decide) ?_
  refine va_put (D := (dC, dI)) (ci := 3) (v := .int 0) (ty := tyX3 12) (C := RX3) (T := TX3) (N := 13) hx hb hts iwX3_init_X3 tyX3 tyX3_ok nmX3 hown hK hP hD hS 0 rfl rfl 12 (by decide) (hts _ (List.mem_of_getElem? (i := 15) rfl)) (fun _ h9 => h9) rfl (tyX3_ok 12 (by decide)) rfl rfl (Nat.le_of_ble_eq_true rfl) dX3_init_65 (fun H locs hP hD hS => ?_)
  have hP : va_P (dC, dI) vwCl ([(h0, .inr (3, [.null, .ref q1, .ref q2, .ref q3, .null, .int 0, .int 0, .int 0, .int 0, .int 0, .int 0, .int 0, .int 0])), (q1, .inl (ct 0, (6, .inl (fun _ => 0)))), (q2, .inl (ct 0, (6, .inl (fun _ => 0)))), (q3, .inl (ct 0, (6, .inl (fun _ => 0))))]) H := hP
  have hD : va_D A ([(h0, .inr (3, [.null, .ref q1, .ref q2, .ref q3, .null, .int 0, .int 0, .int 0, .int 0, .int 0, .int 0, .int 0, .int 0])), (q1, .inl (ct 0, (6, .inl (fun _ => 0)))), (q2, .inl (ct 0, (6, .inl (fun _ => 0)))), (q3, .inl (ct 0, (6, .inl (fun _ => 0))))]) := hD
  refine lv_aload_n hx hb dX3_init_68 rfl (lv_at hl 0 rfl) ?_
  refine lv_aload_n hx hb dX3_init_69 rfl (lv_at hl 1 rfl) ?_
  refine va_putF (D := (dC, dI)) (ci := 3) (v := .ref r1) (ty := tyX3 0) (C := RX3) (T := TX3) (N := 13) hx hb hts iwX3_init_X3 tyX3 tyX3_ok nmX3 hown hK hP hD hS 0 rfl rfl 0 (by decide) (hts _ (List.mem_of_getElem? (i := 16) rfl)) (fun _ h9 => h9) rfl hin rfl (tyX3_ok 0 (by decide)) rfl rfl (Nat.le_of_ble_eq_true rfl) dX3_init_70 (fun H locs hP hD hS => ?_)
  have hP : va_P (dC, dI) vwCl ([(h0, .inr (3, [.ref r1, .ref q1, .ref q2, .ref q3, .null, .int 0, .int 0, .int 0, .int 0, .int 0, .int 0, .int 0, .int 0])), (q1, .inl (ct 0, (6, .inl (fun _ => 0)))), (q2, .inl (ct 0, (6, .inl (fun _ => 0)))), (q3, .inl (ct 0, (6, .inl (fun _ => 0))))]) H := hP
  have hD : va_D A ([(h0, .inr (3, [.ref r1, .ref q1, .ref q2, .ref q3, .null, .int 0, .int 0, .int 0, .int 0, .int 0, .int 0, .int 0, .int 0])), (q1, .inl (ct 0, (6, .inl (fun _ => 0)))), (q2, .inl (ct 0, (6, .inl (fun _ => 0)))), (q3, .inl (ct 0, (6, .inl (fun _ => 0))))]) := hD
  refine lv_aload_n hx hb dX3_init_73 rfl (lv_at hl 0 rfl) ?_
  refine lv_aload_n hx hb dX3_init_74 rfl (lv_at hl 2 rfl) ?_
  refine va_put (D := (dC, dI)) (ci := 3) (v := .ref r2) (ty := tyX3 4) (C := RX3) (T := TX3) (N := 13) hx hb hts iwX3_init_X3 tyX3 tyX3_ok nmX3 hown hK hP hD hS 0 rfl rfl 4 (by decide) (hts _ (List.mem_of_getElem? (i := 17) rfl)) (fun _ h9 => h9) rfl (tyX3_ok 4 (by decide)) rfl rfl (Nat.le_of_ble_eq_true rfl) dX3_init_75 (fun H locs hP hD hS => ?_)
  have hP : va_P (dC, dI) vwCl ([(h0, .inr (3, [.ref r1, .ref q1, .ref q2, .ref q3, .ref r2, .int 0, .int 0, .int 0, .int 0, .int 0, .int 0, .int 0, .int 0])), (q1, .inl (ct 0, (6, .inl (fun _ => 0)))), (q2, .inl (ct 0, (6, .inl (fun _ => 0)))), (q3, .inl (ct 0, (6, .inl (fun _ => 0))))]) H := hP
  have hD : va_D A ([(h0, .inr (3, [.ref r1, .ref q1, .ref q2, .ref q3, .ref r2, .int 0, .int 0, .int 0, .int 0, .int 0, .int 0, .int 0, .int 0])), (q1, .inl (ct 0, (6, .inl (fun _ => 0)))), (q2, .inl (ct 0, (6, .inl (fun _ => 0)))), (q3, .inl (ct 0, (6, .inl (fun _ => 0))))]) := hD
  have hP9 := hP.sub (ws' := (wR ct (fun k => [h0, q1, q2, q3].getD k 0) r1 r2 z0)) [0, 1, 2, 3] rfl
  have hD9 := hD.sub (ws' := (wR ct (fun k => [h0, q1, q2, q3].getD k 0) r1 r2 z0)) [0, 1, 2, 3] rfl rfl
  exact W.vret hx hb hr (fun t ht hW => ⟨⟨(fun k => [h0, q1, q2, q3].getD k 0), rfl, rfl, by rw [ht]; exact hP9, va_K.moved hW.alike hK, hD9⟩, hS.F ht⟩) hS.2.2 dX3_init_78
