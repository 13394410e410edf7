/-! worlds -/
abbrev Ty (ct : Nat → ClassId) : List (ClassId × FieldType) := [(ct 0, .int), (ct 1, .byte), (ct 2, .boolean), (ct 3, .long), (ct 4, .object "MoonDebts$Market")]
abbrev EnvP : Type := (Nat → Prop) → State → Heap → Prop
def E0 : EnvP := fun _ _ _ => True
def EOk (E : EnvP) : Prop := (∀ (A B : Nat → Prop) (s U : State) (H H1 : Heap), E A s H → (∀ q, B q → A q) → s.WarmedH U.vm → (∀ a : Nat, a < H.size → ¬ A a → H1[a]? = H[a]?) → E B U H1) ∧ (∀ (A : Nat → Prop) (U V : State) (H : Heap), V.vm = U.vm → E A U H → E A V H)
theorem E0_ok : EOk E0 := ⟨fun _ _ _ _ _ _ _ _ _ _ => trivial, fun _ _ _ _ _ _ => trivial⟩
def PB (D : va_G) (ct : Nat → ClassId) (E : EnvP) (sz : Nat) (w : va_W) (U : State) : Prop := U.heap.size = sz ∧ va_P D vwCl w U.heap ∧ va_K D vwCl (Ty ct) U ∧ va_D (fun _ => True) w ∧ E (va_A w sz) U U.heap
def QB (D : va_G) (ct : Nat → ClassId) (A : Nat → Prop) (w' : va_W) (t : State) : Prop := va_P D vwCl w' t.heap ∧ va_K D vwCl (Ty ct) t ∧ va_D A w'
abbrev Qi (D : va_G) (ct : Nat → ClassId) (A : Nat → Prop) (r0 : Int32) (w' : va_W) : Array Value → State → Outcome → State → Prop := va_Qi (fun (r : Int32) (_ : Unit) => r = r0) (fun _ => QB D ct A w') A
abbrev Ql (D : va_G) (ct : Nat → ClassId) (A : Nat → Prop) (r0 : Int64) (w' : va_W) : Array Value → State → Outcome → State → Prop := va_Ql (fun (r : Int64) (_ : Unit) => r = r0) (fun _ => QB D ct A w') A
abbrev Qv (D : va_G) (ct : Nat → ClassId) (A : Nat → Prop) (w' : va_W) : Array Value → State → Outcome → State → Prop := va_Qv (fun (_ : Unit) => True) (fun _ => QB D ct A w') A
theorem fm_of_map {α β : Type} {f : α → Option β} : ∀ {is : List α} {w : List β}, is.map f = w.map some → is.filterMap f = w
  | [], [], _ => rfl
  | [], _ :: _, h => by cases h
  | _ :: _, [], h => by cases h
  | i :: is, b :: w, h => by
    rw [List.map_cons, List.map_cons] at h
    obtain ⟨h1, h2⟩ := List.cons.inj h
    rw [List.filterMap_cons, h1, fm_of_map h2]
theorem PB_blind {D : va_G} {ct : Nat → ClassId} {E : EnvP} {sz : Nat} {w : va_W} {av : List Value} (hO : EOk E) : FrameBlind (va_Pc av (PB D ct E sz w)) := by
  intro a U g mk h
  obtain ⟨h0, h1, h2, h3, h4, h5⟩ := h
  exact ⟨h0, h1, h2, va_K.moved (u := U) (U := U.calling g mk a) (Vm.Alike.refl U.vm) h3, h4, hO.2 _ U _ _ rfl h5⟩
section CW
variable {p : Program} {l : Launch} {e : Env} {R : Room} {s : State} {m : MethodId} {args : Array Value} {below : List Frame} {meth : Method} {c : Code} {H : Heap} {locs : List Loc} {cells slots : Nat} {Q : State → Prop}
variable {cc : ByteArray} {pc : Nat} {ls : Array Slot} {rest : List Value} {D : va_G} {ct : Nat → ClassId} {A : Nat → Prop} {a : Nat} {ws wc w1 : va_W} {E E' : EnvP}
theorem e_sub (hO : EOk E) (hE : E A s s.heap) (hS : va_S A s.heap H locs) {B : Nat → Prop} (hB : ∀ q, B q → A q) : ∀ U : State, U.heap = H → s.WarmedH U.vm → E B U H := fun U _ hW => hO.1 A B s U s.heap H hE hB hW hS.2.1
theorem e_0 {B : Nat → Prop} : ∀ U : State, U.heap = H → s.WarmedH U.vm → E0 B U H := fun _ _ _ => trivial
theorem preS_of (hO : EOk E') (hK : va_K D vwCl (Ty ct) s) (hP : va_P D vwCl ws H) (hD : va_D A ws) {is : List Nat} (hC : is.map (fun i => ws[i]?) = wc.map some) (hn : va_nd is = true) {av : List Value} (hE : ∀ U : State, U.heap = H → s.WarmedH U.vm → E' (va_A wc H.size) U H) : PreS s H (va_Pc av (PB D ct E' H.size wc)) av := by
  refine ⟨PB_blind hO, fun U hU hW => ⟨rfl, by rw [hU], ?_, va_K.moved hW.alike hK, (hD.sub is hn hC).weaken (fun _ _ _ _ => trivial), ?_⟩⟩
  · rw [hU]; exact hP.sub is (fm_of_map hC)
  · rw [hU]; exact hE U hU hW
theorem preV_of (hO : EOk E') (hK : va_K D vwCl (Ty ct) s) (hP : va_P D vwCl ws H) (hD : va_D A ws) {is : List Nat} (hC : is.map (fun i => ws[i]?) = wc.map some) (hn : va_nd is = true) {As : List Value} {b : Nat} {av : List Value} (hav : av = .ref b :: As) {ci : Nat} {q : vw_C} (hc : vwCl[ci]? = some q) (q0 : Nat) {fs : List Value} (he : ws[q0]? = some (b, .inr (ci, fs))) (hE : ∀ U : State, U.heap = H → s.WarmedH U.vm → E' (va_A wc H.size) U H) : PreV s H q.1 b (va_Pc av (PB D ct E' H.size wc)) As := by
  subst hav
  have h := preS_of (D := D) (ct := ct) (av := .ref b :: As) hO hK hP hD hC hn hE
  exact ⟨h.1, va_recv hK hP hc he, h.2⟩
theorem jn {A0 : Nat → Prop} {H1 : Heap} (hP : va_P D vwCl ws H) (hD : va_D A0 ws) (isC isR : List Nat) (hC : isC.map (fun i => ws[i]?) = wc.map some) (hR : isR.map (fun i => ws[i]?) = (isR.filterMap (fun i => ws[i]?)).map some) (hn : va_nd isR = true) (hdis : ∀ i ∈ isR, i ∉ isC)
    (hk : ∀ q : Nat, q < H.size → ¬ va_A wc H.size q → H1[q]? = H[q]?) (hF : ∀ q, va_A wc H.size q → A0 q) (hP1 : va_P D vwCl w1 H1) (hD1 : va_D (va_A wc H.size) w1) {wn : va_W} (is : List Nat) (hs : is.map (fun i => (isR.filterMap (fun i => ws[i]?) ++ w1)[i]?) = wn.map some) (hnd : va_nd is = true) : va_P D vwCl wn H1 ∧ va_D A0 wn := by
  obtain ⟨h1, h2⟩ := va_join hP hD isC isR hC hR hn hdis hk hF hP1 hD1
  exact ⟨h1.sub is (fm_of_map hs), h2.sub is hnd hs⟩
theorem gv_i {r0 : Int32} {mc ms : Nat} {st0 : List Value} {av : Array Value} {wn : va_W} (hr : va_Run p l e R s m args below meth c H locs cells slots mc ms (F0 m pc ls st0) rest (Qi D ct (va_A wc H.size) r0 w1 av) (va_A wc H.size)) (hP : va_P D vwCl ws H) (hD : va_D A ws) (hS : va_S A s.heap H locs) (hA : ∀ q, s.heap.size ≤ q → A q) (isC isR is : List Nat) (hC : isC.map (fun i => ws[i]?) = wc.map some) (hR : isR.map (fun i => ws[i]?) = (isR.filterMap (fun i => ws[i]?)).map some) (hn : va_nd isR = true) (hdis : ∀ i ∈ isR, i ∉ isC) (hs : is.map (fun i => (isR.filterMap (fun i => ws[i]?) ++ w1)[i]?) = wn.map some) (hnd : va_nd is = true)
    (kk : ∀ (H1 : Heap) (locs1 : List Loc), va_P D vwCl wn H1 → va_D A wn → va_S A s.heap H1 locs1 → W p l e R s m args below meth c H1 locs1 (cells + mc) (slots + ms) Q (F0 m (pc + 3) ls (.int r0 :: rest))) : W p l e R s m args below meth c H locs cells slots Q (F0 m pc ls st0) := by
  have hF := va_free hD hS hA isC hC
  refine va_calli hr hS (fun q _ h => hF q h) hF (fun r u t H1 locs1 ht hvm hw hB hz hk hS1 => ?_)
  obtain ⟨hP1, hK1, hD1⟩ := hB
  rw [ht] at hP1
  obtain ⟨hP2, hD2⟩ := jn hP hD isC isR hC hR hn hdis hk hF hP1 hD1 is hs hnd
  rw [hw]
  exact kk H1 locs1 hP2 hD2 hS1
theorem gv_l {r0 : Int64} {mc ms : Nat} {st0 : List Value} {av : Array Value} {wn : va_W} (hr : va_Run p l e R s m args below meth c H locs cells slots mc ms (F0 m pc ls st0) rest (Ql D ct (va_A wc H.size) r0 w1 av) (va_A wc H.size)) (hP : va_P D vwCl ws H) (hD : va_D A ws) (hS : va_S A s.heap H locs) (hA : ∀ q, s.heap.size ≤ q → A q) (isC isR is : List Nat) (hC : isC.map (fun i => ws[i]?) = wc.map some) (hR : isR.map (fun i => ws[i]?) = (isR.filterMap (fun i => ws[i]?)).map some) (hn : va_nd isR = true) (hdis : ∀ i ∈ isR, i ∉ isC) (hs : is.map (fun i => (isR.filterMap (fun i => ws[i]?) ++ w1)[i]?) = wn.map some) (hnd : va_nd is = true)
    (kk : ∀ (H1 : Heap) (locs1 : List Loc), va_P D vwCl wn H1 → va_D A wn → va_S A s.heap H1 locs1 → W p l e R s m args below meth c H1 locs1 (cells + mc) (slots + ms) Q (F0 m (pc + 3) ls (.long r0 :: rest))) : W p l e R s m args below meth c H locs cells slots Q (F0 m pc ls st0) := by
  have hF := va_free hD hS hA isC hC
  refine va_calll hr hS (fun q _ h => hF q h) hF (fun r u t H1 locs1 ht hvm hw hB hz hk hS1 => ?_)
  obtain ⟨hP1, hK1, hD1⟩ := hB
  rw [ht] at hP1
  obtain ⟨hP2, hD2⟩ := jn hP hD isC isR hC hR hn hdis hk hF hP1 hD1 is hs hnd
  rw [hw]
  exact kk H1 locs1 hP2 hD2 hS1
theorem gv_v {mc ms : Nat} {st0 : List Value} {av : Array Value} {wn : va_W} (hr : va_Run p l e R s m args below meth c H locs cells slots mc ms (F0 m pc ls st0) rest (Qv D ct (va_A wc H.size) w1 av) (va_A wc H.size)) (hP : va_P D vwCl ws H) (hD : va_D A ws) (hS : va_S A s.heap H locs) (hA : ∀ q, s.heap.size ≤ q → A q) (isC isR is : List Nat) (hC : isC.map (fun i => ws[i]?) = wc.map some) (hR : isR.map (fun i => ws[i]?) = (isR.filterMap (fun i => ws[i]?)).map some) (hn : va_nd isR = true) (hdis : ∀ i ∈ isR, i ∉ isC) (hs : is.map (fun i => (isR.filterMap (fun i => ws[i]?) ++ w1)[i]?) = wn.map some) (hnd : va_nd is = true)
    (kk : ∀ (H1 : Heap) (locs1 : List Loc), va_P D vwCl wn H1 → va_D A wn → va_S A s.heap H1 locs1 → W p l e R s m args below meth c H1 locs1 (cells + mc) (slots + ms) Q (F0 m (pc + 3) ls rest)) : W p l e R s m args below meth c H locs cells slots Q (F0 m pc ls st0) := by
  have hF := va_free hD hS hA isC hC
  refine va_callv hr hS (fun q _ h => hF q h) hF (fun u t H1 locs1 ht hvm hw hB hz hk hS1 => ?_)
  obtain ⟨hP1, hK1, hD1⟩ := hB
  rw [ht] at hP1
  obtain ⟨hP2, hD2⟩ := jn hP hD isC isR hC hR hn hdis hk hF hP1 hD1 is hs hnd
  exact kk H1 locs1 hP2 hD2 hS1
/-! writes, back to a canonical world with a named memory -/
theorem st_i {μ : Type} {H0 : Heap} {wf : μ → va_W} {m0 m1 : μ} (hx : p.tables.exec = Jvm.exec) (hb : c.code = cc) (hK : va_K D vwCl (Ty ct) s) (hP : va_P D vwCl (wf m0) H) (hD : va_D A (wf m0)) (hS : va_S A H0 H locs) (q0 : Nat) {n : Nat} {f : Nat → Int32} (ha : (wf m0)[q0]? = some (a, .inl (ct 0, n, .inl f))) {i x : Int32} (hin : vp_in i n) (hdg : decode cc pc = .ok (.iastore, 1)) (hw : (wf m0).set q0 (a, .inl (ct 0, n, .inl (upd f i.toNatClampNeg x))) = wf m1)
    (kk : ∀ mm : μ, mm = m1 → ∀ (H1 : Heap) (locs1 : List Loc), va_P D vwCl (wf mm) H1 → va_D A (wf mm) → va_S A H0 H1 locs1 → W p l e R s m args below meth c H1 locs1 cells slots Q (F0 m (pc + 1) ls rest)) : W p l e R s m args below meth c H locs cells slots Q (F0 m pc ls (.int x :: .int i :: .ref a :: rest)) := by
  refine va_iast hx hb hK hP hD hS q0 0 ha rfl hin hdg (fun H1 locs1 h1 h2 h3 => ?_)
  rw [hw] at h1 h2
  exact kk m1 rfl H1 locs1 h1 h2 h3
theorem st_b {H0 : Heap} {wf : Mem → va_W} {m0 m1 : Mem} (hx : p.tables.exec = Jvm.exec) (hb : c.code = cc) (hK : va_K D vwCl (Ty ct) s) (hP : va_P D vwCl (wf m0) H) (hD : va_D A (wf m0)) (hS : va_S A H0 H locs) (q0 : Nat) {n : Nat} {f : Nat → Int32} (ha : (wf m0)[q0]? = some (a, .inl (ct 1, n, .inl f))) {i x : Int32} (hin : vp_in i n) (hdg : decode cc pc = .ok (.bastore, 1)) (hw : (wf m0).set q0 (a, .inl (ct 1, n, .inl (upd f i.toNatClampNeg (vp_nar .byte x)))) = wf m1)
    (kk : ∀ mm : Mem, mm = m1 → ∀ (H1 : Heap) (locs1 : List Loc), va_P D vwCl (wf mm) H1 → va_D A (wf mm) → va_S A H0 H1 locs1 → W p l e R s m args below meth c H1 locs1 cells slots Q (F0 m (pc + 1) ls rest)) : W p l e R s m args below meth c H locs cells slots Q (F0 m pc ls (.int x :: .int i :: .ref a :: rest)) := by
  refine va_bast hx hb hK hP hD hS q0 1 ha rfl hin hdg (fun H1 locs1 h1 h2 h3 => ?_)
  rw [hw] at h1 h2
  exact kk m1 rfl H1 locs1 h1 h2 h3
theorem st_z {H0 : Heap} {wf : Mem → va_W} {m0 m1 : Mem} (hx : p.tables.exec = Jvm.exec) (hb : c.code = cc) (hK : va_K D vwCl (Ty ct) s) (hP : va_P D vwCl (wf m0) H) (hD : va_D A (wf m0)) (hS : va_S A H0 H locs) (q0 : Nat) {n : Nat} {f : Nat → Int32} (ha : (wf m0)[q0]? = some (a, .inl (ct 2, n, .inl f))) {i x : Int32} (hin : vp_in i n) (hdg : decode cc pc = .ok (.bastore, 1)) (hw : (wf m0).set q0 (a, .inl (ct 2, n, .inl (upd f i.toNatClampNeg (vp_nar .boolean x)))) = wf m1)
    (kk : ∀ mm : Mem, mm = m1 → ∀ (H1 : Heap) (locs1 : List Loc), va_P D vwCl (wf mm) H1 → va_D A (wf mm) → va_S A H0 H1 locs1 → W p l e R s m args below meth c H1 locs1 cells slots Q (F0 m (pc + 1) ls rest)) : W p l e R s m args below meth c H locs cells slots Q (F0 m pc ls (.int x :: .int i :: .ref a :: rest)) := by
  refine va_zast hx hb hK hP hD hS q0 2 ha rfl hin hdg (fun H1 locs1 h1 h2 h3 => ?_)
  rw [hw] at h1 h2
  exact kk m1 rfl H1 locs1 h1 h2 h3
theorem st_l {H0 : Heap} {wf : Lem → va_W} {m0 m1 : Lem} (hx : p.tables.exec = Jvm.exec) (hb : c.code = cc) (hK : va_K D vwCl (Ty ct) s) (hP : va_P D vwCl (wf m0) H) (hD : va_D A (wf m0)) (hS : va_S A H0 H locs) (q0 : Nat) {n : Nat} {f : Nat → Int64} (ha : (wf m0)[q0]? = some (a, .inl (ct 3, n, .inr (.inl f)))) {i : Int32} {x : Int64} (hin : vp_in i n) (hdg : decode cc pc = .ok (.lastore, 1)) (hw : (wf m0).set q0 (a, .inl (ct 3, n, .inr (.inl (vp_updL f i.toNatClampNeg x)))) = wf m1)
    (kk : ∀ mm : Lem, mm = m1 → ∀ (H1 : Heap) (locs1 : List Loc), va_P D vwCl (wf mm) H1 → va_D A (wf mm) → va_S A H0 H1 locs1 → W p l e R s m args below meth c H1 locs1 cells slots Q (F0 m (pc + 1) ls rest)) : W p l e R s m args below meth c H locs cells slots Q (F0 m pc ls (.long x :: .int i :: .ref a :: rest)) := by
  refine va_last hx hb hK hP hD hS q0 3 ha rfl hin hdg (fun H1 locs1 h1 h2 h3 => ?_)
  rw [hw] at h1 h2
  exact kk m1 rfl H1 locs1 h1 h2 h3
theorem pf_i {μ : Type} {H0 : Heap} {wf : μ → va_W} {m0 m1 : μ} (hx : p.tables.exec = Jvm.exec) (hb : c.code = cc) {own ref C : String} {T : u_T} {N ci index : Nat} {Ts : List Cond} (hts : ∀ w ∈ Ts, w.before args s = true) (hin : ∀ w ∈ u_ws C T N, w ∈ Ts) (ty0 : Nat → FieldType) (hty : ∀ k, k < N → parseFieldDescriptor (T k).2.2.1 = some (ty0 k)) (hnm : ∀ a, a < N → ∀ b, b < N → a ≠ b → (T a).2.1 ≠ (T b).2.1) (hown : s.vm.findClass own = some m.cls) (hK : va_K D vwCl (Ty ct) s) (hP : va_P D vwCl (wf m0) H) (hD : va_D A (wf m0)) (hS : va_S A H0 H locs) (q0 : Nat) {fs : List Value} (he : (wf m0)[q0]? = some (a, .inr (ci, fs))) (hc : vwCl[ci]? = some (C, T, N)) (k : Nat) (hk : k < N) (hlink : (Cond.fieldLink own index ref (T k).2.1 (T k).2.2.1).before args s = true) (hsame : ∀ x, s.fieldFound? (T k).1 (T k).2.1 (T k).2.2.1 = some x → s.fieldFound? ref (T k).2.1 (T k).2.2.1 = some x) (hfin : (T k).2.2.2 = false) {v : Value} (hn : narrow (ty0 k) v = v) (hfit : fits (ty0 k) v = true) (hl : k < fs.length)
    (hdg : decode cc pc = .ok (.putfield index, 3)) (hw : (wf m0).set q0 (a, .inr (ci, fs.set k v)) = wf m1) (kk : ∀ mm : μ, mm = m1 → ∀ (H1 : Heap) (locs1 : List Loc), va_P D vwCl (wf mm) H1 → va_D A (wf mm) → va_S A H0 H1 locs1 → W p l e R s m args below meth c H1 locs1 cells slots Q (F0 m (pc + 3) ls rest)) : W p l e R s m args below meth c H locs cells slots Q (F0 m pc ls (v :: .ref a :: rest)) := by
  refine va_put hx hb hts hin ty0 hty hnm hown hK hP hD hS q0 he hc k hk hlink hsame hfin (hty k hk) hn hfit hl hdg (fun H1 locs1 h1 h2 h3 => ?_)
  rw [hw] at h1 h2
  exact kk m1 rfl H1 locs1 h1 h2 h3
/-! entry and end -/
theorem entryW {n : Nat} {vs : List Value} (ha : args = vs.toArray) (h : (lg_sl vs).length ≤ n) (k : ∀ ls : Array Slot, lv_has ls n (lv_args 0 vs) → W p l e R s m args below meth c H locs cells slots Q (F0 m 0 ls [])) : W p l e R s m args below meth c H locs cells slots Q (entryFrame m args n) := by
  have hl := lv_entry vs h
  have e1 : entryFrame m args n = F0 m 0 ((lg_sl vs ++ List.replicate (n - (lg_sl vs).length) Slot.unset).toArray) [] := by rw [ha, lg_entry_eq]
  rw [e1]
  exact k _ hl
theorem cutQ {Q0 : State → Prop} {g : JFrame} (k : ∀ Q : State → Prop, Q = Q0 → W p l e R s m args below meth c H locs cells slots Q g) : W p l e R s m args below meth c H locs cells slots Q0 g := k Q0 rfl
theorem ret_v {w' : va_W} (hQ : Q = MQ below (Qv D ct A w') args s cells slots A) (hx : p.tables.exec = Jvm.exec) (hb : c.code = cc) (hr : meth.sig.returnType = none) (hlocks : meth.locks = false) (hP : va_P D vwCl w' H) (hK : va_K D vwCl (Ty ct) s) (hD : va_D A w') (hS : va_S A s.heap H locs) (hdg : decode cc pc = .ok (.return_, 1)) : W p l e R s m args below meth c H locs cells slots Q (F0 m pc ls []) := by
  rw [hQ]
  exact W.vret hx hb hr (fun t ht hW => ⟨⟨(), rfl, trivial, by rw [ht]; exact hP, va_K.moved hW.alike hK, hD⟩, hS.F ht⟩) hS.2.2 hdg
theorem ret_i {w' : va_W} {r0 : Int32} (hQ : Q = MQ below (Qi D ct A r0 w') args s cells slots A) (hx : p.tables.exec = Jvm.exec) (hb : c.code = cc) (hr : meth.sig.returnType = some .int) (hlocks : meth.locks = false) (hP : va_P D vwCl w' H) (hK : va_K D vwCl (Ty ct) s) (hD : va_D A w') (hS : va_S A s.heap H locs) (hdg : decode cc pc = .ok (.ireturn, 1)) : W p l e R s m args below meth c H locs cells slots Q (F0 m pc ls [.int r0]) := by
  rw [hQ]
  exact W.iret hx hb hr (fun t ht hW => ⟨⟨r0, (), rfl, rfl, by rw [ht]; exact hP, va_K.moved hW.alike hK, hD⟩, hS.F ht⟩) hS.2.2 hdg
theorem ret_z {w' : va_W} {r0 : Int32} {ty : FieldType} (hQ : Q = MQ below (Qi D ct A r0 w') args s cells slots A) (hx : p.tables.exec = Jvm.exec) (hb : c.code = cc) (hr : meth.sig.returnType = some ty) (hlocks : meth.locks = false) (hz : narrow ty (.int r0) = .int r0) (hP : va_P D vwCl w' H) (hK : va_K D vwCl (Ty ct) s) (hD : va_D A w') (hS : va_S A s.heap H locs) (hdg : decode cc pc = .ok (.ireturn, 1)) : W p l e R s m args below meth c H locs cells slots Q (F0 m pc ls [.int r0]) := by
  rw [hQ]
  exact W.zret hx hb hr hz (fun t ht hW => ⟨⟨r0, (), rfl, rfl, by rw [ht]; exact hP, va_K.moved hW.alike hK, hD⟩, hS.F ht⟩) hS.2.2 hdg
theorem ret_l {w' : va_W} {r0 : Int64} (hQ : Q = MQ below (Ql D ct A r0 w') args s cells slots A) (hx : p.tables.exec = Jvm.exec) (hb : c.code = cc) (hr : meth.sig.returnType = some .long) (hlocks : meth.locks = false) (hP : va_P D vwCl w' H) (hK : va_K D vwCl (Ty ct) s) (hD : va_D A w') (hS : va_S A s.heap H locs) (hdg : decode cc pc = .ok (.lreturn, 1)) : W p l e R s m args below meth c H locs cells slots Q (F0 m pc ls [.long r0]) := by
  rw [hQ]
  exact W.lret hx hb hr (fun t ht hW => ⟨⟨r0, (), rfl, rfl, by rw [ht]; exact hP, va_K.moved hW.alike hK, hD⟩, hS.F ht⟩) hS.2.2 hdg
end CW
