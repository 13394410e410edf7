/-! what is told so far, on both sides -/
def rgS (f : Nat → Nat → Nat) (s : Nat) : Prop := 1 ≤ f 0 s ∧ f 0 s ≤ 50 ∧ f 1 s ≤ 99 ∧ f 2 s ≤ 99 ∧ 1 ≤ f 3 s ∧ f 3 s ≤ 60 ∧ f 4 s ≤ 99 ∧ f 5 s ≤ 16
def CS (n : Nat) (f : Nat → Nat → Nat) (mL mO : Mem) : Prop := n ≤ 6 ∧ mL 0 5 = nI n ∧ mO 0 7 = nI n ∧ (∀ s, s < n → rgS f s) ∧ (∀ s, s < n → ∀ w, w < 6 → mL (w + 1) s = nI (f w s)) ∧ (∀ s, s < n → ∀ w, w < 6 → mO 4 (6 * s + w) = nI (f w s))
def CT (n : Nat) (t : Nat → Nat → Nat) (mL mO : Mem) : Prop := n ≤ 12 ∧ mL 0 13 = nI n ∧ mO 0 11 = nI n ∧ (∀ k, k < n → t 0 k < 5 ∧ t 1 k < 5 ∧ t 2 k ≤ 99) ∧ (∀ k, k < n → ∀ w, w < 3 → mL (w + 7) k = nI (t w k)) ∧ (∀ k, k < n → ∀ w, w < 3 → mO 5 (3 * k + w) = nI (t w k))
def CP (sp : Nat) (mL mO : Mem) : Prop := sp < 32 ∧ mL 0 12 = nI sp ∧ mO 0 10 = nI sp
def CM (a b c d : Int32) (e : Int32) : Prop := (e = 0 ∧ c = -1) ∨ (e = 1 ∧ ∃ P Q, 5 ≤ P ∧ P ≤ 30 ∧ Q ≤ 15 ∧ a = nI P ∧ b = nI Q ∧ c = nI P ∧ d = nI Q)
def CK (a b c d : Int32) (e : Int32) : Prop := (e = 0 ∧ c = -1 ∧ a = 16 ∧ b = 1) ∨ (e = 1 ∧ ∃ P Q, P ≤ 16 ∧ 1 ≤ Q ∧ Q ≤ 9 ∧ a = nI P ∧ b = nI Q ∧ c = nI P ∧ d = nI Q)
def CW (a c : Int32) (e : Int32) : Prop := (e = 0 ∧ c = -1 ∧ a = 0) ∨ (e = 1 ∧ ∃ P, P ≤ 50 ∧ a = nI P ∧ c = nI P)
def RD (len : Nat) (b : Nat → Int32) (mR mL mO : Mem) (ml : Lem) : Prop := ∃ n f k t sp, CS n f mL mO ∧ CT k t mL mO ∧ CP sp mL mO ∧ CM (mL 0 0) (mL 0 1) (mO 2 0) (mO 2 1) (mR 0 10) ∧ CK (mL 0 2) (mL 0 3) (mO 2 2) (mO 2 3) (mR 0 11) ∧ CW (mL 0 4) (mO 2 4) (mR 0 12) ∧ NM len b n mR ml
theorem CS.fr {n : Nat} {f : Nat → Nat → Nat} {mL mL' mO mO' : Mem} {a b c d : List Nat} (h : CS n f mL mO) (hL : Fr a b mL mL') (hO : Fr c d mO mO') (h1 : ∀ k ∈ [1, 2, 3, 4, 5, 6], k ∉ a) (h2 : 5 ∉ b) (h3 : 4 ∉ c) (h4 : 7 ∉ d) : CS n f mL' mO' := by
  obtain ⟨a1, a2, a3, a4, a5, a6⟩ := h
  refine ⟨a1, (hL.2 5 h2).trans a2, (hO.2 7 h4).trans a3, a4, fun s hs w hw => ?_, fun s hs w hw => ?_⟩
  · have : w + 1 ∈ [1, 2, 3, 4, 5, 6] := by
      have : w = 0 ∨ w = 1 ∨ w = 2 ∨ w = 3 ∨ w = 4 ∨ w = 5 := by omega
      rcases this with rfl | rfl | rfl | rfl | rfl | rfl <;> decide
    rw [hL.1 (w + 1) (h1 _ this) (by omega)]; exact a5 s hs w hw
  · rw [hO.1 4 h3 (by decide)]; exact a6 s hs w hw
theorem CT.fr {n : Nat} {t : Nat → Nat → Nat} {mL mL' mO mO' : Mem} {a b c d : List Nat} (h : CT n t mL mO) (hL : Fr a b mL mL') (hO : Fr c d mO mO') (h1 : ∀ k ∈ [7, 8, 9], k ∉ a) (h2 : 13 ∉ b) (h3 : 5 ∉ c) (h4 : 11 ∉ d) : CT n t mL' mO' := by
  obtain ⟨a1, a2, a3, a4, a5, a6⟩ := h
  refine ⟨a1, (hL.2 13 h2).trans a2, (hO.2 11 h4).trans a3, a4, fun s hs w hw => ?_, fun s hs w hw => ?_⟩
  · have : w + 7 ∈ [7, 8, 9] := by
      have : w = 0 ∨ w = 1 ∨ w = 2 := by omega
      rcases this with rfl | rfl | rfl <;> decide
    rw [hL.1 (w + 7) (h1 _ this) (by omega)]; exact a5 s hs w hw
  · rw [hO.1 5 h3 (by decide)]; exact a6 s hs w hw
theorem CP.fr {sp : Nat} {mL mL' mO mO' : Mem} {a b c d : List Nat} (h : CP sp mL mO) (hL : Fr a b mL mL') (hO : Fr c d mO mO') (h2 : 12 ∉ b) (h4 : 10 ∉ d) : CP sp mL' mO' := ⟨h.1, (hL.2 12 h2).trans h.2.1, (hO.2 10 h4).trans h.2.2⟩
theorem NM.fr {len n : Nat} {b : Nat → Int32} {mR mR' : Mem} {ml ml' : Lem} {x y : List Nat} (h : NM len b n mR ml) (hR : Fr x y mR mR') (h1 : 1 ∉ x) (h2 : 2 ∉ x) (hl : ∀ i, ml' 3 i = ml 3 i) : NM len b n mR' ml' := by
  intro i hi
  rw [hR.1 1 h1 (by decide), hR.1 2 h2 (by decide), hl i]
  exact h i hi
theorem F5.n3 {ml ml' : Lem} (h : F5 ml ml') (i : Nat) : ml' 3 i = ml 3 i := h 3 i (fun e => absurd e.1 (by decide))
def PL (ml ml' : Lem) : Prop := ∀ k i, k ≠ 3 → ¬ (k = 0 ∧ i = 5) → ml' k i = ml k i
theorem PL.rf {ml : Lem} : PL ml ml := fun _ _ _ _ => rfl
theorem PL.tr {a b c : Lem} (h1 : PL a b) (h2 : PL b c) : PL a c := fun k i x y => (h2 k i x y).trans (h1 k i x y)
theorem F5.pl {ml ml' : Lem} (h : F5 ml ml') : PL ml ml' := fun k i _ y => h k i y
abbrev PFr : Mem → Mem → Prop := Fr [2, 4, 5] [2, 3, 4, 7, 10, 11, 36]
def LQ (len : Nat) (b : Nat → Int32) (p : Nat) (mO : Mem) (ml : Lem) (q : Int32 × Mem × Mem) (q' : Int32 × Mem × Lem) : Prop := PFr mO q'.2.1 ∧ PL ml q'.2.2 ∧ ((q.1 = 0 ∧ q'.1 = 0 ∧ ∃ st, st ≤ 500 ∧ q.2.1 0 5 = nI st ∧ q'.2.1 0 4 = nI st) ∨ (q.1 = 1 ∧ q'.1 = 1 ∧ RD len b q.2.1 q.2.2 q'.2.1 q'.2.2 ∧ TOK len b (p + 1) q.2.1 q'.2.1 q'.2.2))
theorem LQ_f {len p p' : Nat} {b : Nat → Int32} {mR' mL' mO mO' : Mem} {ml ml' : Lem} (hl : len ≤ 500) (hT : TOK len b p' mR' mO' ml') (hF : PFr mO mO') (hP : PL ml ml') : RT (some ((0 : Int32), mR', mL') : Option (Int32 × Mem × Mem)) (some ((0 : Int32), mO', ml') : Option (Int32 × Mem × Lem)) (LQ len b p mO ml) := RT_s ⟨hF, hP, Or.inl ⟨rfl, rfl, hT.at hl⟩⟩
theorem gi_l {α : Type} {j n : Nat} {k : Option α} {x : Int32} (h : x = nI j) (hj : j < n) (hn : n < 2 ^ 31) : gi x n k = k := by rw [h]; exact gi_n hj hn

theorem RT_moonL {len p : Nat} {mR mT mL mO : Mem} {ml : Lem} (hT : TXR len mT mO) (h : TOK len (mT 1) p mR mO ml) (hk : ¬ mR 0 7 = 0) (hD : RD len (mT 1) mR mL mO ml) : RT (mX3_readMoon mR mT mL) (mX8_onceLine mO ml (0 : Int32) (5 : Int32) (30 : Int32) (0 : Int32) (15 : Int32)) (LQ len (mT 1) p mO ml) := by
  obtain ⟨n, f, nt, t, sp, cS, cT, cP, cM, cK, cW, cN⟩ := hD
  have hl := hT.1
  unfold mX3_readMoon mX8_onceLine
  rw [gi_l (x := (0 : Int32)) (j := 0) rfl (by decide) (by decide)]
  simp only [show (0 : Int32).toNatClampNeg = 0 from by decide]
  rcases id cM with ⟨m1, m2⟩ | ⟨m1, P, Q, m2, m3, m4, m5, m6, m7, m8⟩
  · rw [if_pos m1, if_pos m2]
    simp only [nm_d]
    refine RT_b (RT_next (mR' := upf mR 10 1) (mO' := mO) (ml' := ml) hT h hk rfl rfl) (fun r1 o1 ho => ?_)
    obtain ⟨t1, f1, g1, e1⟩ := ho
    have hT1 := hT.fr g1 (by decide) (by decide)
    refine RT_b (RT_num (lo := 5) (hi := 30) hT1 t1 (by decide) (by decide)) (fun q q' hq => ?_)
    rcases hq with ⟨rfl, rfl⟩ | ⟨q1, q2, v, v1, v2, v3, v4, t2, f2, g2, e2⟩
    · simp only [if_neg (show ¬ ¬ (0 : Int32) = 0 from fun q => q rfl)]
      exact LQ_f hl t1 (g1.wk (by decide) (by decide)) e1.pl
    · rw [q1, q2, if_pos (show ¬ (1 : Int32) = 0 by decide), if_pos (show ¬ (1 : Int32) = 0 by decide), if_neg (show ¬ (0 : Int32) = -1 by decide)]
      have hT2 := hT1.fr g2 (by decide) (by decide)
      refine RT_b (RT_num (lo := 0) (hi := 15) hT2 t2 (by decide) (by decide)) (fun z z' hz => ?_)
      rcases hz with ⟨rfl, rfl⟩ | ⟨z1, z2, u, u1, u2, u3, u4, t3, f3, g3, e3⟩
      · simp only [if_neg (show ¬ ¬ (0 : Int32) = 0 from fun q => q rfl)]
        exact LQ_f hl t2 ((g1.wk (by decide) (by decide)).tr (g2.wk (by decide) (by decide))) (e1.pl.tr e2.pl)
      · rw [z1, z2, if_pos (show ¬ (1 : Int32) = 0 by decide), if_pos (show ¬ (1 : Int32) = 0 by decide), gi_l (x := (0 : Int32) + 1) (j := 1) rfl (by decide) (by decide)]
        unfold mX8_onceLine_j64
        rw [gi_l (x := (0 : Int32)) (j := 0) rfl (by decide) (by decide)]
        simp only [show (0 : Int32).toNatClampNeg = 0 from by decide, show ((0 : Int32) + 1).toNatClampNeg = 1 from by decide]
        rw [v3, v4, u3, u4]
        have hT3 := hT2.fr g3 (by decide) (by decide)
        have g4 : Fr [2] [] z'.2.1 (upi (upi z'.2.1 2 1 (nI u)) 2 0 (nI v)) := (Fr.rf.upi (by decide) (by decide)).upi (by decide) (by decide)
        refine RT_b (RT_stop (mR := z.2) (mO := upi (upi z'.2.1 2 1 (nI u)) 2 0 (nI v)) (ml := z'.2.2) (hT3.fr g4 (by decide) (by decide)) (p := p + 1) t3) (fun w w' hw => ?_)
        rcases hw with ⟨rfl, rfl⟩ | ⟨w1, w2, t4, f4, g5, e4⟩
        · simp only [gb_0]
          exact LQ_f hl (p' := p + 1) t3 (((g1.wk (by decide) (by decide)).tr (g2.wk (by decide) (by decide))).tr ((g3.wk (by decide) (by decide)).tr (g4.wk (by decide) (by decide)))) ((e1.pl.tr e2.pl).tr e3.pl)
        · rw [w1, w2]
          simp only [nm_d, gb_1]
          have fR : Fr [] [5, 6, 7, 8, 9, 10] mR w.2 := (Fr.rf.upf (by decide)).tr ((f1.wk (by decide) (by decide)).tr ((f2.wk (by decide) (by decide)).tr ((f3.wk (by decide) (by decide)).tr (f4.wk (by decide) (by decide)))))
          have fR2 : w.2 0 10 = 1 := (f4.2 10 (by decide)).trans ((f3.2 10 (by decide)).trans ((f2.2 10 (by decide)).trans ((f1.2 10 (by decide)).trans rfl)))
          have fO : Fr [2] [2, 3, 4, 36] mO w'.2.1 := (g1.wk (by decide) (by decide)).tr ((g2.wk (by decide) (by decide)).tr ((g3.wk (by decide) (by decide)).tr ((g4.wk (by decide) (by decide)).tr (g5.wk (by decide) (by decide)))))
          have fL : Fr [] [0, 1] mL (upf (upf mL 0 (nI v)) 1 (nI u)) := (Fr.rf.upf (by decide)).upf (by decide)
          have o2 : ∀ i, i ≠ 0 → i ≠ 1 → w'.2.1 2 i = mO 2 i := fun i i1 i2 => by
            rw [g5.1 2 (by decide) (by decide), upi_d, if_pos rfl, upd_d, if_neg i1, upi_d, if_pos rfl, upd_d, if_neg i2, g3.1 2 (by decide) (by decide), g2.1 2 (by decide) (by decide), g1.1 2 (by decide) (by decide)]
          have n3 : ∀ i, w'.2.2 3 i = ml 3 i := fun i => (e4.n3 i).trans ((e3.n3 i).trans ((e2.n3 i).trans (e1.n3 i)))
          have oA : w'.2.1 2 0 = nI v := by rw [g5.1 2 (by decide) (by decide)]; rfl
          have oB : w'.2.1 2 1 = nI u := by rw [g5.1 2 (by decide) (by decide)]; rfl
          refine RT_s ⟨fO.wk (by decide) (by decide), (e1.pl.tr e2.pl).tr (e3.pl.tr e4.pl), Or.inr ⟨rfl, rfl, ⟨n, f, nt, t, sp, cS.fr fL fO (by decide) (by decide) (by decide) (by decide), cT.fr fL fO (by decide) (by decide) (by decide) (by decide), cP.fr fL fO (by decide) (by decide), ?_, ?_, ?_, cN.fr fR (by decide) (by decide) n3⟩, t4⟩⟩
          · show CM (nI v) (nI u) (w'.2.1 2 0) (w'.2.1 2 1) (w.2 0 10)
            rw [oA, oB, fR2]; exact Or.inr ⟨rfl, v, u, v1, v2, u2, rfl, rfl, rfl, rfl⟩
          · show CK (mL 0 2) (mL 0 3) (w'.2.1 2 2) (w'.2.1 2 3) (w.2 0 11)
            rw [o2 2 (by decide) (by decide), o2 3 (by decide) (by decide), fR.2 11 (by decide)]; exact cK
          · show CW (mL 0 4) (w'.2.1 2 4) (w.2 0 12)
            rw [o2 4 (by decide) (by decide), fR.2 12 (by decide)]; exact cW
  · rw [if_neg (show ¬ mR 0 10 = 0 by rw [m1]; decide), if_neg (show ¬ mO 2 0 = -1 by rw [m7]; exact n_nm1 (by omega))]
    exact LQ_f hl h Fr.rf PL.rf

theorem RT_strikeL {len p : Nat} {mR mT mL mO : Mem} {ml : Lem} (hT : TXR len mT mO) (h : TOK len (mT 1) p mR mO ml) (hk : ¬ mR 0 7 = 0) (hD : RD len (mT 1) mR mL mO ml) : RT (mX3_readStrike mR mT mL) (mX8_onceLine mO ml (2 : Int32) (0 : Int32) (16 : Int32) (1 : Int32) (9 : Int32)) (LQ len (mT 1) p mO ml) := by
  obtain ⟨n, f, nt, t, sp, cS, cT, cP, cM, cK, cW, cN⟩ := hD
  have hl := hT.1
  unfold mX3_readStrike mX8_onceLine
  rw [gi_l (x := (2 : Int32)) (j := 2) rfl (by decide) (by decide)]
  simp only [show (2 : Int32).toNatClampNeg = 2 from by decide]
  rcases id cK with ⟨m1, m2, m9, m10⟩ | ⟨m1, P, Q, m2, m3, m4, m5, m6, m7, m8⟩
  · rw [if_pos m1, if_pos m2]
    simp only [nm_d]
    refine RT_b (RT_next (mR' := upf mR 11 1) (mO' := mO) (ml' := ml) hT h hk rfl rfl) (fun r1 o1 ho => ?_)
    obtain ⟨t1, f1, g1, e1⟩ := ho
    have hT1 := hT.fr g1 (by decide) (by decide)
    refine RT_b (RT_num (lo := 0) (hi := 16) hT1 t1 (by decide) (by decide)) (fun q q' hq => ?_)
    rcases hq with ⟨rfl, rfl⟩ | ⟨q1, q2, v, v1, v2, v3, v4, t2, f2, g2, e2⟩
    · simp only [if_neg (show ¬ ¬ (0 : Int32) = 0 from fun q => q rfl)]
      exact LQ_f hl t1 (g1.wk (by decide) (by decide)) e1.pl
    · rw [q1, q2, if_pos (show ¬ (1 : Int32) = 0 by decide), if_pos (show ¬ (1 : Int32) = 0 by decide), if_neg (show ¬ (1 : Int32) = -1 by decide)]
      have hT2 := hT1.fr g2 (by decide) (by decide)
      refine RT_b (RT_num (lo := 1) (hi := 9) hT2 t2 (by decide) (by decide)) (fun z z' hz => ?_)
      rcases hz with ⟨rfl, rfl⟩ | ⟨z1, z2, u, u1, u2, u3, u4, t3, f3, g3, e3⟩
      · simp only [if_neg (show ¬ ¬ (0 : Int32) = 0 from fun q => q rfl)]
        exact LQ_f hl t2 ((g1.wk (by decide) (by decide)).tr (g2.wk (by decide) (by decide))) (e1.pl.tr e2.pl)
      · rw [z1, z2, if_pos (show ¬ (1 : Int32) = 0 by decide), if_pos (show ¬ (1 : Int32) = 0 by decide), gi_l (x := (2 : Int32) + 1) (j := 3) rfl (by decide) (by decide)]
        unfold mX8_onceLine_j64
        rw [gi_l (x := (2 : Int32)) (j := 2) rfl (by decide) (by decide)]
        simp only [show (2 : Int32).toNatClampNeg = 2 from by decide, show ((2 : Int32) + 1).toNatClampNeg = 3 from by decide]
        rw [v3, v4, u3, u4]
        have hT3 := hT2.fr g3 (by decide) (by decide)
        have g4 : Fr [2] [] z'.2.1 (upi (upi z'.2.1 2 3 (nI u)) 2 2 (nI v)) := (Fr.rf.upi (by decide) (by decide)).upi (by decide) (by decide)
        refine RT_b (RT_stop (mR := z.2) (mO := upi (upi z'.2.1 2 3 (nI u)) 2 2 (nI v)) (ml := z'.2.2) (hT3.fr g4 (by decide) (by decide)) (p := p + 1) t3) (fun w w' hw => ?_)
        rcases hw with ⟨rfl, rfl⟩ | ⟨w1, w2, t4, f4, g5, e4⟩
        · simp only [gb_0]
          exact LQ_f hl (p' := p + 1) t3 (((g1.wk (by decide) (by decide)).tr (g2.wk (by decide) (by decide))).tr ((g3.wk (by decide) (by decide)).tr (g4.wk (by decide) (by decide)))) ((e1.pl.tr e2.pl).tr e3.pl)
        · rw [w1, w2]
          simp only [nm_d, gb_1]
          have fR : Fr [] [5, 6, 7, 8, 9, 11] mR w.2 := (Fr.rf.upf (by decide)).tr ((f1.wk (by decide) (by decide)).tr ((f2.wk (by decide) (by decide)).tr ((f3.wk (by decide) (by decide)).tr (f4.wk (by decide) (by decide)))))
          have fR2 : w.2 0 11 = 1 := (f4.2 11 (by decide)).trans ((f3.2 11 (by decide)).trans ((f2.2 11 (by decide)).trans ((f1.2 11 (by decide)).trans rfl)))
          have fO : Fr [2] [2, 3, 4, 36] mO w'.2.1 := (g1.wk (by decide) (by decide)).tr ((g2.wk (by decide) (by decide)).tr ((g3.wk (by decide) (by decide)).tr ((g4.wk (by decide) (by decide)).tr (g5.wk (by decide) (by decide)))))
          have fL : Fr [] [2, 3] mL (upf (upf mL 2 (nI v)) 3 (nI u)) := (Fr.rf.upf (by decide)).upf (by decide)
          have o2 : ∀ i, i ≠ 2 → i ≠ 3 → w'.2.1 2 i = mO 2 i := fun i i1 i2 => by
            rw [g5.1 2 (by decide) (by decide), upi_d, if_pos rfl, upd_d, if_neg i1, upi_d, if_pos rfl, upd_d, if_neg i2, g3.1 2 (by decide) (by decide), g2.1 2 (by decide) (by decide), g1.1 2 (by decide) (by decide)]
          have n3 : ∀ i, w'.2.2 3 i = ml 3 i := fun i => (e4.n3 i).trans ((e3.n3 i).trans ((e2.n3 i).trans (e1.n3 i)))
          have oA : w'.2.1 2 2 = nI v := by rw [g5.1 2 (by decide) (by decide)]; rfl
          have oB : w'.2.1 2 3 = nI u := by rw [g5.1 2 (by decide) (by decide)]; rfl
          refine RT_s ⟨fO.wk (by decide) (by decide), (e1.pl.tr e2.pl).tr (e3.pl.tr e4.pl), Or.inr ⟨rfl, rfl, ⟨n, f, nt, t, sp, cS.fr fL fO (by decide) (by decide) (by decide) (by decide), cT.fr fL fO (by decide) (by decide) (by decide) (by decide), cP.fr fL fO (by decide) (by decide), ?_, ?_, ?_, cN.fr fR (by decide) (by decide) n3⟩, t4⟩⟩
          · show CM (mL 0 0) (mL 0 1) (w'.2.1 2 0) (w'.2.1 2 1) (w.2 0 10)
            rw [o2 0 (by decide) (by decide), o2 1 (by decide) (by decide), fR.2 10 (by decide)]; exact cM
          · show CK (nI v) (nI u) (w'.2.1 2 2) (w'.2.1 2 3) (w.2 0 11)
            rw [oA, oB, fR2]; exact Or.inr ⟨rfl, v, u, v2, u1, u2, rfl, rfl, rfl, rfl⟩
          · show CW (mL 0 4) (w'.2.1 2 4) (w.2 0 12)
            rw [o2 4 (by decide) (by decide), fR.2 12 (by decide)]; exact cW
  · rw [if_neg (show ¬ mR 0 11 = 0 by rw [m1]; decide), if_neg (show ¬ mO 2 2 = -1 by rw [m7]; exact n_nm1 (by omega))]
    exact LQ_f hl h Fr.rf PL.rf

theorem RT_waitL {len p : Nat} {mR mT mL mO : Mem} {ml : Lem} (hT : TXR len mT mO) (h : TOK len (mT 1) p mR mO ml) (hk : ¬ mR 0 7 = 0) (hD : RD len (mT 1) mR mL mO ml) : RT (mX3_readWait mR mT mL) (mX8_onceLine mO ml (4 : Int32) (0 : Int32) (50 : Int32) (-1 : Int32) (0 : Int32)) (LQ len (mT 1) p mO ml) := by
  obtain ⟨n, f, nt, t, sp, cS, cT, cP, cM, cK, cW, cN⟩ := hD
  have hl := hT.1
  unfold mX3_readWait mX8_onceLine
  rw [gi_l (x := (4 : Int32)) (j := 4) rfl (by decide) (by decide)]
  simp only [show (4 : Int32).toNatClampNeg = 4 from by decide]
  rcases id cW with ⟨m1, m2, m3⟩ | ⟨m1, P, m2, m3, m4⟩
  · rw [if_pos m1, if_pos m2]
    simp only [nm_d]
    refine RT_b (RT_next (mR' := upf mR 12 1) (mO' := mO) (ml' := ml) hT h hk rfl rfl) (fun r1 o1 ho => ?_)
    obtain ⟨t1, f1, g1, e1⟩ := ho
    have hT1 := hT.fr g1 (by decide) (by decide)
    refine RT_b (RT_num (lo := 0) (hi := 50) hT1 t1 (by decide) (by decide)) (fun q q' hq => ?_)
    rcases hq with ⟨rfl, rfl⟩ | ⟨q1, q2, v, v1, v2, v3, v4, t2, f2, g2, e2⟩
    · simp only [if_neg (show ¬ ¬ (0 : Int32) = 0 from fun q => q rfl)]
      exact LQ_f hl t1 (g1.wk (by decide) (by decide)) e1.pl
    · rw [q1, q2, if_pos (show ¬ (1 : Int32) = 0 by decide), if_pos (show ¬ (1 : Int32) = 0 by decide), if_pos trivial]
      have hT2 := hT1.fr g2 (by decide) (by decide)
      unfold mX8_onceLine_j64
      rw [gi_l (x := (4 : Int32)) (j := 4) rfl (by decide) (by decide)]
      simp only [show (4 : Int32).toNatClampNeg = 4 from by decide]
      rw [v3, v4]
      have g4 : Fr [2] [] q'.2.1 (upi q'.2.1 2 4 (nI v)) := Fr.rf.upi (by decide) (by decide)
      refine RT_b (RT_stop (mR := q.2) (mO := upi q'.2.1 2 4 (nI v)) (ml := q'.2.2) (hT2.fr g4 (by decide) (by decide)) (p := p + 1) t2) (fun w w' hw => ?_)
      rcases hw with ⟨rfl, rfl⟩ | ⟨w1, w2, t4, f4, g5, e4⟩
      · simp only [gb_0]
        exact LQ_f hl (p' := p + 1) t2 ((g1.wk (by decide) (by decide)).tr ((g2.wk (by decide) (by decide)).tr (g4.wk (by decide) (by decide)))) (e1.pl.tr e2.pl)
      · rw [w1, w2]
        simp only [nm_d, gb_1]
        have fR : Fr [] [5, 6, 7, 8, 9, 12] mR w.2 := (Fr.rf.upf (by decide)).tr ((f1.wk (by decide) (by decide)).tr ((f2.wk (by decide) (by decide)).tr (f4.wk (by decide) (by decide))))
        have fR2 : w.2 0 12 = 1 := (f4.2 12 (by decide)).trans ((f2.2 12 (by decide)).trans ((f1.2 12 (by decide)).trans rfl))
        have fO : Fr [2] [2, 3, 4, 36] mO w'.2.1 := (g1.wk (by decide) (by decide)).tr ((g2.wk (by decide) (by decide)).tr ((g4.wk (by decide) (by decide)).tr (g5.wk (by decide) (by decide))))
        have fL : Fr [] [4] mL (upf mL 4 (nI v)) := Fr.rf.upf (by decide)
        have o2 : ∀ i, i ≠ 4 → w'.2.1 2 i = mO 2 i := fun i i1 => by
          rw [g5.1 2 (by decide) (by decide), upi_d, if_pos rfl, upd_d, if_neg i1, g2.1 2 (by decide) (by decide), g1.1 2 (by decide) (by decide)]
        have n3 : ∀ i, w'.2.2 3 i = ml 3 i := fun i => (e4.n3 i).trans ((e2.n3 i).trans (e1.n3 i))
        have oA : w'.2.1 2 4 = nI v := by rw [g5.1 2 (by decide) (by decide)]; rfl
        refine RT_s ⟨fO.wk (by decide) (by decide), (e1.pl.tr e2.pl).tr e4.pl, Or.inr ⟨rfl, rfl, ⟨n, f, nt, t, sp, cS.fr fL fO (by decide) (by decide) (by decide) (by decide), cT.fr fL fO (by decide) (by decide) (by decide) (by decide), cP.fr fL fO (by decide) (by decide), ?_, ?_, ?_, cN.fr fR (by decide) (by decide) n3⟩, t4⟩⟩
        · show CM (mL 0 0) (mL 0 1) (w'.2.1 2 0) (w'.2.1 2 1) (w.2 0 10)
          rw [o2 0 (by decide), o2 1 (by decide), fR.2 10 (by decide)]; exact cM
        · show CK (mL 0 2) (mL 0 3) (w'.2.1 2 2) (w'.2.1 2 3) (w.2 0 11)
          rw [o2 2 (by decide), o2 3 (by decide), fR.2 11 (by decide)]; exact cK
        · show CW (nI v) (w'.2.1 2 4) (w.2 0 12)
          rw [oA, fR2]; exact Or.inr ⟨rfl, v, v2, rfl, rfl⟩
  · rw [if_neg (show ¬ mR 0 12 = 0 by rw [m1]; decide), if_neg (show ¬ mO 2 4 = -1 by rw [m4]; exact n_nm1 (by omega))]
    exact LQ_f hl h Fr.rf PL.rf
