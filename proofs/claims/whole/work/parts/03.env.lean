def wB (ct : Nat → ClassId) (a : Nat → Nat) (x_judged : Nat) (m : Mem) : va_W := [(a 0, .inr (0, [.int (m 0 0), .ref (a 1), .ref (a 2), .ref (a 3), .ref (a 4), .ref (a 5), .ref x_judged])), (a 1, .inl (ct 0, 20, .inl (m 1))), (a 2, .inl (ct 0, 20, .inl (m 2))), (a 3, .inl (ct 0, 20, .inl (m 3))), (a 4, .inl (ct 0, 20, .inl (m 4))), (a 5, .inl (ct 0, 40, .inl (m 5)))]
def wL (ct : Nat → ClassId) (a : Nat → Nat) (m : Mem) : va_W := [(a 0, .inr (1, [.int (m 0 0), .int (m 0 1), .int (m 0 2), .int (m 0 3), .int (m 0 4), .int (m 0 5), .ref (a 1), .ref (a 2), .ref (a 3), .ref (a 4), .ref (a 5), .ref (a 6), .int (m 0 12), .int (m 0 13), .ref (a 7), .ref (a 8), .ref (a 9)])), (a 1, .inl (ct 0, 6, .inl (m 1))), (a 2, .inl (ct 0, 6, .inl (m 2))), (a 3, .inl (ct 0, 6, .inl (m 3))), (a 4, .inl (ct 0, 6, .inl (m 4))), (a 5, .inl (ct 0, 6, .inl (m 5))), (a 6, .inl (ct 0, 6, .inl (m 6))), (a 7, .inl (ct 0, 12, .inl (m 7))), (a 8, .inl (ct 0, 12, .inl (m 8))), (a 9, .inl (ct 0, 12, .inl (m 9)))]
def wM (ct : Nat → ClassId) (a : Nat → Nat) (m : Mem) : va_W := [(a 0, .inr (2, [.int (m 0 0), .int (m 0 1), .ref (a 1), .ref (a 2), .ref (a 3), .ref (a 4), .ref (a 5), .ref (a 6), .ref (a 7), .ref (a 8)])), (a 1, .inl (ct 0, 6, .inl (m 1))), (a 2, .inl (ct 0, 6, .inl (m 2))), (a 3, .inl (ct 0, 40, .inl (m 3))), (a 4, .inl (ct 0, 40, .inl (m 4))), (a 5, .inl (ct 0, 40, .inl (m 5))), (a 6, .inl (ct 0, 40, .inl (m 6))), (a 7, .inl (ct 0, 40, .inl (m 7))), (a 8, .inl (ct 0, 40, .inl (m 8)))]
def wR (ct : Nat → ClassId) (a : Nat → Nat) (x_text : Nat) (x_land : Nat) (m : Mem) : va_W := [(a 0, .inr (3, [.ref x_text, .ref (a 1), .ref (a 2), .ref (a 3), .ref x_land, .int (m 0 5), .int (m 0 6), .int (m 0 7), .int (m 0 8), .int (m 0 9), .int (m 0 10), .int (m 0 11), .int (m 0 12)])), (a 1, .inl (ct 0, 6, .inl (m 1))), (a 2, .inl (ct 0, 6, .inl (m 2))), (a 3, .inl (ct 0, 6, .inl (m 3)))]
def wS (ct : Nat → ClassId) (a : Nat → Nat) (m : Mem) : va_W := [(a 0, .inr (4, [.ref (a 1), .ref (a 2), .int (m 0 2), .int (m 0 3), .int (m 0 4), .int (m 0 5), .int (m 0 6), .ref (a 3)])), (a 1, .inl (ct 0, 6, .inl (m 1))), (a 2, .inl (ct 0, 6, .inl (m 2))), (a 3, .inl (ct 0, 6, .inl (m 3)))]
def wT (ct : Nat → ClassId) (a : Nat → Nat) (m : Mem) : va_W := [(a 0, .inr (5, [.ref (a 1), .int (m 0 1)])), (a 1, .inl (ct 1, 500, .inl (m 1)))]
def wY (ct : Nat → ClassId) (a : Nat → Nat) (m : Mem) : va_W := [(a 0, .inr (6, [.ref (a 1), .ref (a 2)])), (a 1, .inl (ct 0, 5, .inl (m 1))), (a 2, .inl (ct 0, 5, .inl (m 2)))]
def wX (ct : Nat → ClassId) (a : Nat → Nat) (x_text : Nat) (x_reader : Nat) (x_sowing : Nat) (x_market : Nat) (x_book : Nat) (x_ways : Nat) (x_land : Nat) (x_draft : Nat) (x_im0 : Nat) (x_im1 : Nat) (x_im2 : Nat) (m : Mem) : va_W := [(a 0, .inr (7, [.ref x_text, .ref x_reader, .ref x_sowing, .ref x_market, .ref x_book, .ref x_ways, .ref (a 1), .ref (a 2), .ref x_land, .ref x_draft, .int (m 0 10)])), (a 1, .inl (ct 4, 3, .inr (.inr (.inr (.inr (fun k => match k with | 0 => some x_im0 | 1 => some x_im1 | 2 => some x_im2 | _ => none)))))), (a 2, .inl (ct 2, 3, .inl (m 2)))]
def wO (ct : Nat → ClassId) (a : Nat → Nat) (m : Mem) (ml : Lem) : va_W := [(a 0, .inr (8, [.ref (a 1), .int (m 0 1), .int (m 0 2), .int (m 0 3), .int (m 0 4), .long (ml 0 5), .ref (a 2), .int (m 0 7), .ref (a 3), .ref (a 4), .int (m 0 10), .int (m 0 11), .ref (a 5), .int (m 0 13), .int (m 0 14), .int (m 0 15), .int (m 0 16), .int (m 0 17), .int (m 0 18), .ref (a 6), .int (m 0 20), .int (m 0 21), .ref (a 7), .int (m 0 23), .ref (a 8), .ref (a 9), .ref (a 10), .long (ml 0 27), .int (m 0 28), .ref (a 11), .ref (a 12), .ref (a 13), .ref (a 14), .ref (a 15), .ref (a 16), .ref (a 17), .int (m 0 36), .ref (a 18), .ref (a 19), .ref (a 20), .ref (a 21), .ref (a 22), .ref (a 23), .ref (a 24), .ref (a 25)])), (a 1, .inl (ct 1, 500, .inl (m 1))), (a 2, .inl (ct 0, 5, .inl (m 2))), (a 3, .inl (ct 3, 6, .inr (.inl (ml 3)))), (a 4, .inl (ct 0, 36, .inl (m 4))), (a 5, .inl (ct 0, 36, .inl (m 5))), (a 6, .inl (ct 0, 36, .inl (m 6))), (a 7, .inl (ct 0, 36, .inl (m 7))), (a 8, .inl (ct 0, 6, .inl (m 8))), (a 9, .inl (ct 0, 6, .inl (m 9))), (a 10, .inl (ct 0, 240, .inl (m 10))), (a 11, .inl (ct 0, 120, .inl (m 11))), (a 12, .inl (ct 2, 3, .inl (m 12))), (a 13, .inl (ct 0, 3, .inl (m 13))), (a 14, .inl (ct 0, 18, .inl (m 14))), (a 15, .inl (ct 0, 18, .inl (m 15))), (a 16, .inl (ct 0, 720, .inl (m 16))), (a 17, .inl (ct 3, 3, .inr (.inl (ml 17)))), (a 18, .inl (ct 0, 6, .inl (m 18))), (a 19, .inl (ct 0, 6, .inl (m 19))), (a 20, .inl (ct 0, 40, .inl (m 20))), (a 21, .inl (ct 0, 20, .inl (m 21))), (a 22, .inl (ct 0, 6, .inl (m 22))), (a 23, .inl (ct 0, 6, .inl (m 23))), (a 24, .inl (ct 0, 240, .inl (m 24))), (a 25, .inl (ct 0, 5, .inl (m 25)))]
def wV (ct : Nat → ClassId) (a : Nat → Nat) (f : Nat → Int32) : va_W := [(a 0, .inl (ct 0, 6, .inl f))]
def wF (ct : Nat → ClassId) (a : Nat → Nat) (n : Nat) (f : Nat → Int32) : va_W := [(a 0, .inl (ct 0, n, .inl f))]
/-! what the start gives and nobody writes: eleven text constants, two tables, two statics, one nest link -/
def txS : List String := ["moon", "strike", "wait", "sort", "spare", "turn", "loan", "pledge", "sale", "gift", "purse"]
def lenS : List Nat := [4, 6, 4, 4, 5, 4, 4, 6, 4, 4, 5]
def bytS : List (List Int32) := [[109, 111, 111, 110], [115, 116, 114, 105, 107, 101], [119, 97, 105, 116], [115, 111, 114, 116], [115, 112, 97, 114, 101], [116, 117, 114, 110], [108, 111, 97, 110], [112, 108, 101, 100, 103, 101], [115, 97, 108, 101], [103, 105, 102, 116], [112, 117, 114, 115, 101]]
def ixR : List Nat := [75, 84, 89, 94, 99, 104, 178, 180, 182, 184, 186]
def ixO : List Nat := [153, 155, 157, 159, 161, 163, 136, 142, 144, 146, 148]
def slen (w : Nat) : Int32 := Int32.ofNat (lenS.getD w 0)
def sch (w k : Nat) : Int32 := ((((bytS.getD w []).getD k 0) &&& 255).toUInt32 % 65536).toInt32
def tabL : Nat → Int32 := fun k => [1, 0, 0, 1, 0, 0].getD k 0
def tabM : Nat → Int32 := fun k => [50, 99, 99, 60, 99, 16].getD k 0
def gs {α : Type} (w : Nat) (k : Option α) : Option α := if w < 11 then k else none
theorem gs_some {α : Type} {w : Nat} {k : Option α} {r : α} (h : gs w k = some r) : w < 11 ∧ k = some r := by
  unfold gs at h
  by_cases hy : w < 11
  · rw [if_pos hy] at h; exact ⟨hy, h⟩
  · rw [if_neg hy] at h; cases h
def EV (adK adV : Nat → Nat) : EnvP := fun A U H =>
  vk_S 11 lenS bytS adK adV A U H ∧ (∀ i : Nat, i < 11 → vk_R RX3 (ixR.getD i 0) (txS.getD i "") (adK i) U) ∧ (∀ i : Nat, i < 11 → vk_R RX8 (ixO.getD i 0) (txS.getD i "") (adK i) U) ∧
  va_Z "java/lang/String" "COMPACT_STRINGS" "Z" (.int 1) A U H ∧ va_Zq "jdk/internal/util/Preconditions" "SIOOBE_FORMATTER" "Ljava/util/function/BiFunction;" A U H ∧
  (∃ t : Nat, va_Z RX3 "LEAST_OF_SORT" "[I" (.ref t) A U H ∧ va_T .int t 6 (fun j => .int (tabL j)) A U H) ∧ (∃ t : Nat, va_Z RX3 "MOST_OF_SORT" "[I" (.ref t) A U H ∧ va_T .int t 6 (fun j => .int (tabM j)) A U H) ∧
  va_Nw (.methodLinkNest RX3 164 yX7_isIn RX7) U
theorem EV_ok {adK adV : Nat → Nat} : EOk (EV adK adV) := by
  refine ⟨?_, ?_⟩
  · intro A B s U H H1 h hAB hW hk
    obtain ⟨h1, h2, h3, h4, h5, ⟨t6, h6, h6'⟩, ⟨t7, h7, h7'⟩, h8⟩ := h
    refine ⟨((h1.kept hk).narrow hAB).moved hW.alike, fun i hi => (h2 i hi).warm hW, fun i hi => (h3 i hi).warm hW, ((h4.kept hk).narrow hAB).moved hW.alike, ((h5.kept hk).narrow hAB).moved hW.alike, ⟨t6, ((h6.kept hk).narrow hAB).moved hW.alike, ((h6'.kept hk).narrow hAB).moved hW.alike⟩, ⟨t7, ((h7.kept hk).narrow hAB).moved hW.alike, ((h7'.kept hk).narrow hAB).moved hW.alike⟩, h8.warmM hW⟩
  · intro A U V H hv h
    have ha : U.vm.Alike V.vm := by rw [hv]; exact Vm.Alike.refl U.vm
    obtain ⟨h1, h2, h3, h4, h5, ⟨t6, h6, h6'⟩, ⟨t7, h7, h7'⟩, h8⟩ := h
    exact ⟨h1.moved ha, fun i hi => (h2 i hi).same hv, fun i hi => (h3 i hi).same hv, h4.moved ha, h5.moved ha, ⟨t6, h6.moved ha, h6'.moved ha⟩, ⟨t7, h7.moved ha, h7'.moved ha⟩, h8.same rfl hv.symm⟩
theorem in3 {i : Int32} (h : vp_in i 3) (h0 : ¬ i = 0) (h1 : ¬ i = 1) : i = 2 := by
  obtain ⟨j, hj, rfl⟩ := vp_in_of h (by decide)
  have : j = 0 ∨ j = 1 ∨ j = 2 := by omega
  rcases this with rfl | rfl | rfl
  · exact absurd rfl h0
  · exact absurd rfl h1
  · rfl
section CE
variable {p : Program} {l : Launch} {e : Env} {R : Room} {s : State} {m : MethodId} {args : Array Value} {below : List Frame} {meth : Method} {c : Code} {H : Heap} {locs : List Loc} {cells slots : Nat} {Q : State → Prop}
variable {cc : ByteArray} {pc : Nat} {ls : Array Slot} {rest : List Value} {D : va_G} {ct : Nat → ClassId} {A : Nat → Prop} {a : Nat} {ws wc w1 : va_W} {adK adV : Nat → Nat}
theorem preVs (hK : va_K D vwCl (Ty ct) s) (hP : va_P D vwCl ws H) (hD : va_D A ws) (hS : va_S A s.heap H locs) (hA : ∀ q, s.heap.size ≤ q → A q) (hE : EV adK adV A s s.heap) {w : Nat} (hw : w < 11) {As : List Value} : PreV s H RJ0 (adK w) (va_Pc (.ref (adK w) :: As) (PB D ct (EV adK adV) H.size [])) As := by
  have h := preS_of (D := D) (ct := ct) (E' := EV adK adV) (is := []) (wc := []) (av := .ref (adK w) :: As) EV_ok hK hP hD rfl rfl (e_sub EV_ok hE hS (va_free (wc := []) hD hS hA [] rfl))
  exact ⟨h.1, vk_recv hE.1 hw hS, h.2⟩
theorem cp_i {wf : Mem → va_W} {m0 m1 : Mem} (hx : p.tables.exec = Jvm.exec) (hb : c.code = cc) (hml : c.maxLocals = ls.size) {own : String} {index : Nat} (hown : s.vm.findClass own = some m.cls) (hlink : (Cond.methodLink own index arraycopyName).before args s = true) (hnat : (Cond.native arraycopyName).before args s = true) (hstat : (Cond.static arraycopyName).before args s = true) (hini : (Cond.initialized "java/lang/System").before args s = true)
    (hK : va_K D vwCl (Ty ct) s) (hP : va_P D vwCl (wf m0) H) (hD : va_D A (wf m0)) (hS : va_S A s.heap H locs) (q0 q1 : Nat) {a0 : Nat} {n0 n1 : Nat} {f g : Nat → Int32} (ha0 : (wf m0)[q0]? = some (a0, .inl (ct 0, n0, .inl f))) (ha1 : (wf m0)[q1]? = some (a, .inl (ct 0, n1, .inl g)))
    {sp dp n : Int32} (h1 : ¬ sp < 0) (h2 : ¬ dp < 0) (h3 : ¬ n < 0) (h4 : sp.toNatClampNeg + n.toNatClampNeg ≤ n0) (h5 : dp.toNatClampNeg + n.toNatClampNeg ≤ n1)
    (hframes : 1 ≤ R.frames) (hlocals : (rest.map fun v => v.category).sum + (nativeFrameWords "java/lang/System" "arraycopy" 5 + 11) ≤ R.locals) (hdg : decode cc pc = .ok (.invokestatic index, 3)) (hw : (wf m0).set q1 (a, .inl (ct 0, n1, .inl (va_cpy f g sp.toNatClampNeg dp.toNatClampNeg n.toNatClampNeg))) = wf m1)
    (kk : ∀ mm : Mem, mm = m1 → ∀ (H1 : Heap) (locs1 : List Loc), va_P D vwCl (wf mm) H1 → va_D A (wf mm) → va_S A s.heap H1 locs1 → W p l e R s m args below meth c H1 locs1 cells slots Q (F0 m (pc + 3) ls rest)) : W p l e R s m args below meth c H locs cells slots Q (F0 m pc ls (.int n :: .int dp :: .ref a :: .int sp :: .ref a0 :: rest)) := by
  refine va_copyi hx hb hml hown hlink hnat hstat hini hK hP hD hS q0 q1 0 0 ha0 ha1 rfl rfl rfl h1 h2 h3 h4 h5 (fun _ _ => rfl) hframes hlocals hdg (fun H1 locs1 g1 g2 g3 => ?_)
  rw [hw] at g1 g2
  exact kk m1 rfl H1 locs1 g1 g2 g3
end CE
