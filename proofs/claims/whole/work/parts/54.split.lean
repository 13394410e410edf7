/-! worlds by components: order doesn't matter -/
theorem vaP_mem {D : va_G} {cl : List vw_C} {ws : va_W} {H : Heap} : va_P D cl ws H ↔ ∀ q ∈ ws, va_at D cl q H := by
  constructor
  · intro h q hq
    obtain ⟨k, hk⟩ := List.getElem?_of_mem hq
    exact h k q hk
  · intro h k q hk
    exact h q (List.mem_of_getElem? hk)
theorem vaD_mem {A : Nat → Prop} {ws : va_W} : va_D A ws ↔ (ws.map Prod.fst).Nodup ∧ ∀ q ∈ ws, A q.1 := by
  constructor
  · intro h
    refine ⟨?_, fun q hq => ?_⟩
    · rw [List.Nodup, List.pairwise_iff_getElem]
      intro i j hi hj hij e
      rw [List.length_map] at hi hj
      rw [List.getElem_map, List.getElem_map] at e
      have := h.1 i j ws[i] ws[j] (List.getElem?_eq_getElem hi) (List.getElem?_eq_getElem hj) e
      omega
    · obtain ⟨k, hk⟩ := List.getElem?_of_mem hq
      exact h.2 k q hk
  · rintro ⟨h1, h2⟩
    refine ⟨fun i j p q hi hj e => ?_, fun k q hk => h2 q (List.mem_of_getElem? hk)⟩
    obtain ⟨hi1, hi2⟩ := List.getElem?_eq_some_iff.mp hi
    obtain ⟨hj1, hj2⟩ := List.getElem?_eq_some_iff.mp hj
    rw [List.Nodup, List.pairwise_iff_getElem] at h1
    rcases Nat.lt_trichotomy i j with hlt | heq | hgt
    · exact absurd (by rw [List.getElem_map, List.getElem_map, hi2, hj2]; exact e) (h1 i j (by rw [List.length_map]; exact hi1) (by rw [List.length_map]; exact hj1) hlt)
    · exact heq
    · exact absurd (by rw [List.getElem_map, List.getElem_map, hi2, hj2]; exact e.symm) (h1 j i (by rw [List.length_map]; exact hj1) (by rw [List.length_map]; exact hi1) hgt)
theorem pick_perm {α : Type} (cs : List (List α)) (idx : List Nat) (h : idx.Perm (List.range cs.length)) : (idx.map (fun i => cs.getD i [])).Perm cs := by
  have e : (List.range cs.length).map (fun i => cs.getD i []) = cs := by
    apply List.ext_getElem
    · simp
    · intro i h1 h2
      simp [h2]
  have h1 := h.map (fun i => cs.getD i [])
  rw [e] at h1
  exact h1
theorem pm_P {D : va_G} {H : Heap} {ws ws' : va_W} (cs : List va_W) (idx : List Nat) (hi : idx.Perm (List.range cs.length)) (h : cs.flatten = ws) (h' : (idx.map (fun i => cs.getD i [])).flatten = ws') (hP : va_P D vwCl ws H) : va_P D vwCl ws' H := by
  rw [vaP_mem] at hP ⊢
  intro q hq
  apply hP
  rw [← h', (pick_perm cs idx hi).flatten.mem_iff, h] at hq
  exact hq
theorem pm_D {A : Nat → Prop} {ws ws' : va_W} (cs : List va_W) (idx : List Nat) (hi : idx.Perm (List.range cs.length)) (h : cs.flatten = ws) (h' : (idx.map (fun i => cs.getD i [])).flatten = ws') (hD : va_D A ws) : va_D A ws' := by
  rw [vaD_mem] at hD ⊢
  have hp := (pick_perm cs idx hi).flatten
  rw [h, h'] at hp
  exact ⟨(hp.map Prod.fst).nodup_iff.mpr hD.1, fun q hq => hD.2 q (hp.mem_iff.mp hq)⟩
theorem vaP_l {D : va_G} {H : Heap} {u v : va_W} (h : va_P D vwCl (u ++ v) H) : va_P D vwCl u H := vaP_mem.mpr fun q hq => vaP_mem.mp h q (List.mem_append_left _ hq)
theorem vaP_r {D : va_G} {H : Heap} {u v : va_W} (h : va_P D vwCl (u ++ v) H) : va_P D vwCl v H := vaP_mem.mpr fun q hq => vaP_mem.mp h q (List.mem_append_right _ hq)
theorem vaD_l {A : Nat → Prop} {u v : va_W} (h : va_D A (u ++ v)) : va_D A u := by
  rw [vaD_mem] at h ⊢
  rw [List.map_append, List.nodup_append] at h
  exact ⟨h.1.1, fun q hq => h.2 q (List.mem_append_left _ hq)⟩
section SP
variable {p : Program} {l : Launch} {e : Env} {R : Room} {s : State} {m : MethodId} {args : Array Value} {below : List Frame} {meth : Method} {c : Code} {H : Heap} {locs : List Loc} {cells slots : Nat} {Q : State → Prop}
variable {cc : ByteArray} {pc : Nat} {ls : Array Slot} {rest : List Value} {D : va_G} {ct : Nat → ClassId} {A : Nat → Prop} {a : Nat} {wr wc w1 : va_W} {E E' : EnvP}
theorem sp_free (hD : va_D A (wc ++ wr)) (hS : va_S A s.heap H locs) (hA : ∀ q, s.heap.size ≤ q → A q) : ∀ q, va_A wc H.size q → A q := by
  intro q h
  rcases h with ⟨k, e, hk⟩ | h
  · exact (vaD_mem.mp hD).2 (q, e) (List.mem_append_left _ (List.mem_of_getElem? hk))
  · exact hA q (Nat.le_trans hS.1 h)
theorem sp_preS (hO : EOk E') (hK : va_K D vwCl (Ty ct) s) (hP : va_P D vwCl (wc ++ wr) H) (hD : va_D A (wc ++ wr)) {av : List Value} (hE : ∀ U : State, U.heap = H → s.WarmedH U.vm → E' (va_A wc H.size) U H) : PreS s H (va_Pc av (PB D ct E' H.size wc)) av := by
  refine ⟨PB_blind hO, fun U hU hW => ⟨rfl, by rw [hU], ?_, va_K.moved hW.alike hK, (vaD_l hD).weaken (fun _ _ _ _ => trivial), ?_⟩⟩
  · rw [hU]; exact vaP_l hP
  · rw [hU]; exact hE U hU hW
theorem sp_preV (hO : EOk E') (hK : va_K D vwCl (Ty ct) s) (hP : va_P D vwCl (wc ++ wr) H) (hD : va_D A (wc ++ wr)) {As : List Value} {b : Nat} {av : List Value} (hav : av = .ref b :: As) {ci : Nat} {q : vw_C} (hc : vwCl[ci]? = some q) (q0 : Nat) {fs : List Value} (he : wc[q0]? = some (b, .inr (ci, fs))) (hE : ∀ U : State, U.heap = H → s.WarmedH U.vm → E' (va_A wc H.size) U H) : PreV s H q.1 b (va_Pc av (PB D ct E' H.size wc)) As := by
  subst hav
  have h := sp_preS (D := D) (ct := ct) (av := .ref b :: As) hO hK hP hD hE
  exact ⟨h.1, va_recv hK (vaP_l hP) hc he, h.2⟩
theorem sp_jn {A0 : Nat → Prop} {H1 : Heap} (hP : va_P D vwCl (wc ++ wr) H) (hD : va_D A0 (wc ++ wr)) (hk : ∀ q : Nat, q < H.size → ¬ va_A wc H.size q → H1[q]? = H[q]?) (hF : ∀ q, va_A wc H.size q → A0 q) (hP1 : va_P D vwCl w1 H1) (hD1 : va_D (va_A wc H.size) w1) : va_P D vwCl (w1 ++ wr) H1 ∧ va_D A0 (w1 ++ wr) := by
  rw [vaD_mem, List.map_append, List.nodup_append] at hD
  obtain ⟨⟨n1, n2, n3⟩, hA⟩ := hD
  have hr : ∀ q ∈ wr, q.1 < H.size ∧ ¬ va_A wc H.size q.1 := by
    intro q hq
    have hl := (vaP_mem.mp hP q (List.mem_append_right _ hq)).lt
    refine ⟨hl, fun h => ?_⟩
    rcases h with ⟨k, e, h⟩ | h
    · exact n3 q.1 (List.mem_map.mpr ⟨(q.1, e), List.mem_of_getElem? h, rfl⟩) q.1 (List.mem_map_of_mem hq) rfl
    · omega
  refine ⟨vaP_mem.mpr fun q hq => ?_, vaD_mem.mpr ⟨?_, fun q hq => ?_⟩⟩
  · rcases List.mem_append.mp hq with h | h
    · exact vaP_mem.mp hP1 q h
    · exact (vaP_mem.mp hP q (List.mem_append_right _ h)).kept (hk q.1 (hr q h).1 (hr q h).2)
  · rw [List.map_append, List.nodup_append]
    rw [vaD_mem] at hD1
    refine ⟨hD1.1, n2, fun x hx y hy exy => ?_⟩
    obtain ⟨q, hq, rfl⟩ := List.mem_map.mp hx
    obtain ⟨q', hq', rfl⟩ := List.mem_map.mp hy
    exact (hr q' hq').2 (by rw [← exy]; exact hD1.2 q hq)
  · rcases List.mem_append.mp hq with h | h
    · exact hF _ ((vaD_mem.mp hD1).2 q h)
    · exact hA q (List.mem_append_right _ h)
theorem sp_i {r0 : Int32} {mc ms : Nat} {st0 : List Value} {av : Array Value} (hr : va_Run p l e R s m args below meth c H locs cells slots mc ms (F0 m pc ls st0) rest (Qi D ct (va_A wc H.size) r0 w1 av) (va_A wc H.size)) (hP : va_P D vwCl (wc ++ wr) H) (hD : va_D A (wc ++ wr)) (hS : va_S A s.heap H locs) (hA : ∀ q, s.heap.size ≤ q → A q)
    (kk : ∀ (H1 : Heap) (locs1 : List Loc), va_P D vwCl (w1 ++ wr) H1 → va_D A (w1 ++ wr) → va_S A s.heap H1 locs1 → W p l e R s m args below meth c H1 locs1 (cells + mc) (slots + ms) Q (F0 m (pc + 3) ls (.int r0 :: rest))) : W p l e R s m args below meth c H locs cells slots Q (F0 m pc ls st0) := by
  have hF := sp_free hD hS hA
  refine va_calli hr hS (fun q _ h => hF q h) hF (fun r u t H1 locs1 ht hvm hw hB hz hk hS1 => ?_)
  obtain ⟨hP1, hK1, hD1⟩ := hB
  rw [ht] at hP1
  obtain ⟨hP2, hD2⟩ := sp_jn hP hD hk hF hP1 hD1
  rw [hw]
  exact kk H1 locs1 hP2 hD2 hS1
theorem sp_l {r0 : Int64} {mc ms : Nat} {st0 : List Value} {av : Array Value} (hr : va_Run p l e R s m args below meth c H locs cells slots mc ms (F0 m pc ls st0) rest (Ql D ct (va_A wc H.size) r0 w1 av) (va_A wc H.size)) (hP : va_P D vwCl (wc ++ wr) H) (hD : va_D A (wc ++ wr)) (hS : va_S A s.heap H locs) (hA : ∀ q, s.heap.size ≤ q → A q)
    (kk : ∀ (H1 : Heap) (locs1 : List Loc), va_P D vwCl (w1 ++ wr) H1 → va_D A (w1 ++ wr) → va_S A s.heap H1 locs1 → W p l e R s m args below meth c H1 locs1 (cells + mc) (slots + ms) Q (F0 m (pc + 3) ls (.long r0 :: rest))) : W p l e R s m args below meth c H locs cells slots Q (F0 m pc ls st0) := by
  have hF := sp_free hD hS hA
  refine va_calll hr hS (fun q _ h => hF q h) hF (fun r u t H1 locs1 ht hvm hw hB hz hk hS1 => ?_)
  obtain ⟨hP1, hK1, hD1⟩ := hB
  rw [ht] at hP1
  obtain ⟨hP2, hD2⟩ := sp_jn hP hD hk hF hP1 hD1
  rw [hw]
  exact kk H1 locs1 hP2 hD2 hS1
theorem sp_v {mc ms : Nat} {st0 : List Value} {av : Array Value} (hr : va_Run p l e R s m args below meth c H locs cells slots mc ms (F0 m pc ls st0) rest (Qv D ct (va_A wc H.size) w1 av) (va_A wc H.size)) (hP : va_P D vwCl (wc ++ wr) H) (hD : va_D A (wc ++ wr)) (hS : va_S A s.heap H locs) (hA : ∀ q, s.heap.size ≤ q → A q)
    (kk : ∀ (H1 : Heap) (locs1 : List Loc), va_P D vwCl (w1 ++ wr) H1 → va_D A (w1 ++ wr) → va_S A s.heap H1 locs1 → W p l e R s m args below meth c H1 locs1 (cells + mc) (slots + ms) Q (F0 m (pc + 3) ls rest)) : W p l e R s m args below meth c H locs cells slots Q (F0 m pc ls st0) := by
  have hF := sp_free hD hS hA
  refine va_callv hr hS (fun q _ h => hF q h) hF (fun u t H1 locs1 ht hvm hw hB hz hk hS1 => ?_)
  obtain ⟨hP1, hK1, hD1⟩ := hB
  rw [ht] at hP1
  obtain ⟨hP2, hD2⟩ := sp_jn hP hD hk hF hP1 hD1
  exact kk H1 locs1 hP2 hD2 hS1
/-- a constructor: its object is the last cell, its world comes in its place -/
theorem sp_n {mc ms : Nat} {st0 : List Value} {av : Array Value} {post : (Nat → Nat) → Prop} {wf : (Nat → Nat) → va_W} (hr : va_Run p l e R s m args below meth c H locs cells slots mc ms (F0 m pc ls st0) rest (va_Qv post (fun u => QB D ct (va_A wc H.size) (wf u)) (va_A wc H.size) av) (va_A wc H.size)) (hP : va_P D vwCl (wc ++ wr) H) (hD : va_D A (wc ++ wr)) (hS : va_S A s.heap H locs) (hA : ∀ q, s.heap.size ≤ q → A q)
    (kk : ∀ u : Nat → Nat, post u → ∀ (H1 : Heap) (locs1 : List Loc), va_P D vwCl (wf u ++ wr) H1 → va_D A (wf u ++ wr) → va_S A s.heap H1 locs1 → W p l e R s m args below meth c H1 locs1 (cells + mc) (slots + ms) Q (F0 m (pc + 3) ls rest)) : W p l e R s m args below meth c H locs cells slots Q (F0 m pc ls st0) := by
  have hF := sp_free hD hS hA
  refine va_callv hr hS (fun q _ h => hF q h) hF (fun u t H1 locs1 ht hvm hw hB hz hk hS1 => ?_)
  obtain ⟨hP1, hK1, hD1⟩ := hB
  rw [ht] at hP1
  obtain ⟨hP2, hD2⟩ := sp_jn hP hD hk hF hP1 hD1
  exact kk u hw H1 locs1 hP2 hD2 hS1
end SP
