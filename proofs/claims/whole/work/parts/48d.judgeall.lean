/-! judged from night 0 on, and all laid back -/
theorem HR_cg {n : Nat} {mM : Mem} {h l r h' l' r' : Nat → Int32} (hh : HR n mM h l r) (e1 : ∀ j, j < 6 → h' j = h j) (e2 : ∀ j, j < 6 → l' j = l j) (e3 : ∀ i, i < 240 → r' i = r i) : HR n mM h' l' r' := by
  obtain ⟨a1, a2, a3⟩ := hh
  refine ⟨fun j hj => ⟨(a1 j hj).1.trans (e1 j hj).symm, (a1 j hj).2.trans (e2 j hj).symm⟩, a2, fun j hj => ?_⟩
  rw [e3 _ (show 6 * j + 3 < 240 by omega), e3 _ (show 6 * j + 0 < 240 by omega), e3 _ (show 6 * j + 1 < 240 by omega), e3 _ (show 6 * j + 2 < 240 by omega), e3 _ (show 6 * j + 4 < 240 by omega), e3 _ (show 6 * j + 5 < 240 by omega)]
  exact a3 j hj
theorem HR_cgM {n : Nat} {mM m : Mem} {h l r : Nat → Int32} (hh : HR n mM h l r) (e1 : ∀ j, j < 6 → m 1 j = mM 1 j ∧ m 2 j = mM 2 j) (e3 : ∀ i, i < 40 → m 3 i = mM 3 i ∧ m 4 i = mM 4 i ∧ m 5 i = mM 5 i ∧ m 6 i = mM 6 i ∧ m 7 i = mM 7 i ∧ m 8 i = mM 8 i) : HR n m h l r := by
  obtain ⟨a1, a2, a3⟩ := hh
  refine ⟨fun j hj => ⟨(e1 j hj).1.trans (a1 j hj).1, (e1 j hj).2.trans (a1 j hj).2⟩, fun j j1 j2 => (e1 j j2).2.trans (a2 j j1 j2), fun j hj => ?_⟩
  obtain ⟨b3, b4, b5, b6, b7, b8⟩ := e3 j hj
  rw [b3, b4, b5, b6, b7, b8]
  exact a3 j hj
theorem o_zero {mO : Mem} {ml : Lem} {c : Nat} (hc : c ≤ 20) (h28 : mO 0 28 = nI c) (v1 v2 v3 : Int32) : HT (itr (fun q => mX8_judge_s107 v1 v2 v3 ml q.1 q.2) FU ((0 : Int32), mO)) (fun m => (∀ i, i < c → m 21 i = 0) ∧ Fr [21] [] mO m) := by
  refine HT_itr (fun k (s : Int32 × Mem) => ∃ j, j ≤ c ∧ k = c - j ∧ s.1 = nI j ∧ (∀ i, i < j → s.2 21 i = 0) ∧ Fr [21] [] mO s.2) ?_ FU c _ ⟨0, by omega, rfl, rfl, fun i hi => absurd hi (Nat.not_lt_zero i), Fr.rf⟩ (FU_gt (by omega))
  rintro k ⟨s1, s2⟩ ⟨j, hj, rfl, e1, hI, hF⟩
  dsimp only at e1 hI hF
  subst e1
  show HT (mX8_judge_s107 v1 v2 v3 ml (nI j) s2) _
  unfold mX8_judge_s107
  rw [hF.2 28 (by decide), h28]
  by_cases h : j = c
  · subst h
    rw [if_pos (Int32.le_refl _)]
    exact HT_s ⟨hI, hF⟩
  · rw [if_neg (by rw [n_le (by omega) (by omega)]; omega), gi_n (show j < 20 by omega) (by decide), nI_clamp (by omega), nm_d, nI_s, nm_d]
    refine HT_s ⟨c - (j + 1), by omega, j + 1, by omega, rfl, rfl, fun i hi => ?_, hF.upi (by decide) (by decide)⟩
    simp only [upi_d, reduceIte, upd_d]
    by_cases hij : i = j
    · rw [if_pos hij]
    · rw [if_neg hij]; exact hI i (by omega)
def JQ (c : Nat) (mB mO : Mem) (ml : Lem) (v1 : Int32) (q : Int32 × Mem × Mem) (q' : Int32 × Mem × Lem) : Prop := (v1 = -1 → q'.1 = q.1) ∧ (∀ k, k < c → v1 = nI k → q'.1 = q.2.1 2 k) ∧ Fr [2, 5] [] mB q.2.1 ∧ q'.2.1 0 23 = mO 0 23 ∧ (∀ j, j < 6 → q'.2.1 8 j = mO 8 j) ∧ (∀ j, j < 6 → q'.2.1 9 j = mO 9 j) ∧ (∀ i, i < 240 → q'.2.1 10 i = mO 10 i) ∧ Fr [8, 9, 10, 20, 21, 22, 23, 24] [23] mO q'.2.1 ∧ q'.2.2 = ml
theorem RT_judgeAll {mL mB mJ mO : Mem} {ml : Lem} {g : Nat → Nat} {f t : Nat → Nat → Nat} (hR : LR g f t) (hC : LC mL g f t) (hM : LM mO g f t) {c : Nat} (hB : BK (g 5) c mB mO) {v1 : Int32} (hv : v1 = -1 ∨ ∃ k, k < c ∧ v1 = nI k) : RT (mX0_judgeAll mB mJ mL) (mX8_judge_L35 v1 (mO 0 23) (0 : Int32) mO ml) (JQ c mB mO ml v1) := by
  have c20 := hB.1
  unfold mX0_judgeAll mX8_judge_L35
  obtain ⟨m1, e1, a1, a2, a3⟩ := o_keep6 (mO := mO) (ml := ml) (v1 := v1) (v2 := mO 0 23)
  obtain ⟨m2, e2, b1, b2, b3⟩ := o_keep240 (mO := m1) (ml := ml) (v1 := v1) (v2 := mO 0 23)
  rw [e1, bn_s, nm_d]
  unfold mX8_judge_L73
  rw [e2, bn_s, nm_d]
  obtain ⟨F, eF, hF⟩ := c_fill (n := 20) (F := mB 2) (v := 0) (by omega)
  rw [eF, bn_s, nm_d]
  have fr2 : Fr [22, 23, 24] [] mO m2 := (a3.wk (by decide) (by decide)).tr (b3.wk (by decide) (by decide))
  have hM2 := hM.fr fr2 (by decide) (by decide) (by decide)
  refine RT_b (RT_begin (ml := ml) hR hC hM2) (fun j3 m3 h3 => ?_)
  obtain ⟨c1, c2, c3, c4, c5, c6⟩ := h3
  unfold mX8_judge_L107
  have o28 : m3 0 28 = nI c := by rw [c6.2 28 (by decide), fr2.2 28 (by decide)]; exact hB.2.2.1
  obtain ⟨m4, e4, d1, d2⟩ := o_zero (ml := ml) c20 o28 v1 (mO 0 23) (-1)
  rw [e4, bn_s, nm_d]
  have fr4 : Fr [8, 9, 10, 21, 22, 23, 24] [23] mO m4 := (fr2.wk (by decide) (by decide)).tr ((c6.wk (by decide) (by decide)).tr (d2.wk (by decide) (by decide)))
  have fB : Fr [2, 5] [] mB (ups mB 2 F) := Fr.rf.ups (by decide) (by decide)
  unfold mX0_judgeAll_L18 mX8_judge_L133
  have hJ : JR (g 5) c (ups mB 2 F) j3 m4 := by
    refine ⟨?_, ?_, fun j hj hne => absurd (c2 j hj) hne, fun e he => ?_⟩
    · rw [c3, d2.2 23 (by decide), c4]
    · rw [d2.1 8 (by decide) (by decide), d2.1 9 (by decide) (by decide), d2.1 10 (by decide) (by decide)]; exact c1
    · rw [d1 e he]; exact hF e (by omega)
  refine RT_b (RT_judges (ml := ml) hR hC v1 (mO 0 23) c 0 FU FU (ups mB 2 F) j3 m4 (by omega) (FU_gt (by omega)) (FU_gt (by omega)) (hM.fr fr4 (by decide) (by decide) (by decide)) (hB.fr fB fr4 (by decide) (by decide) (by decide) (by decide) (by decide) (by decide)) hJ ⟨0, by omega, c3⟩) (fun o o' ho => ?_)
  obtain ⟨b, jj, k1, k2, k3, k4, k5⟩ := ho
  simp only [nm_d]
  unfold mX8_judge_L262
  obtain ⟨m6, e6, x1, x2, x3⟩ := o_back6 (mO := upf o'.2.1 23 (mO 0 23)) (ml := o'.2.2) (v1 := v1) (v3 := o'.1)
  rw [e6, bn_s, nm_d]
  unfold mX8_judge_L306
  obtain ⟨m7, e7, y1, y2, y3⟩ := o_back240 (mO := m6) (ml := o'.2.2) (v1 := v1) (v3 := o'.1)
  rw [e7, bn_s, nm_d]
  have kept : ∀ w, w ∈ [22, 23, 24] → o'.2.1 w = m2 w := fun w hw => by
    have w0 : w ≠ 0 := fun e => by rw [e] at hw; exact absurd hw (by decide)
    have i1 : w ∉ [8, 9, 10, 20, 21] := fun h => by
      have : w = 22 ∨ w = 23 ∨ w = 24 := by simpa using hw
      rcases this with rfl | rfl | rfl <;> exact absurd h (by decide)
    have i2 : w ∉ [21] := fun h => i1 (by
      have : w = 21 := by simpa using h
      rw [this]; decide)
    have i3 : w ∉ [8, 9, 10] := fun h => i1 (by
      have : w = 8 ∨ w = 9 ∨ w = 10 := by simpa using h
      rcases this with rfl | rfl | rfl <;> decide)
    rw [k3.1 w i1 w0, d2.1 w i2 w0, c6.1 w i3 w0]
  have m21 : m7 21 = o'.2.1 21 := by
    rw [y3.1 21 (by decide) (by decide), x3.1 21 (by decide) (by decide)]
    rfl
  have fin : Fr [8, 9, 10, 20, 21, 22, 23, 24] [23] mO m7 := (fr4.wk (by decide) (by decide)).tr ((k3.wk (by decide) (by decide)).tr ((Fr.rf.upf (by decide)).tr ((x3.wk (by decide) (by decide)).tr (y3.wk (by decide) (by decide)))))
  have n23 : m7 0 23 = mO 0 23 := by
    rw [y3.2 23 (by decide), x3.2 23 (by decide)]
    rfl
  have h8 : ∀ j, j < 6 → m7 8 j = mO 8 j := fun j hj => by
    rw [y3.1 8 (by decide) (by decide), (x1 j hj).1]
    show o'.2.1 22 j = _
    rw [kept 22 (by decide), b3.1 22 (by decide) (by decide)]; exact (a1 j hj).1
  have h9 : ∀ j, j < 6 → m7 9 j = mO 9 j := fun j hj => by
    rw [y3.1 9 (by decide) (by decide), (x1 j hj).2]
    show o'.2.1 23 j = _
    rw [kept 23 (by decide), b3.1 23 (by decide) (by decide)]; exact (a1 j hj).2
  have h10 : ∀ i, i < 240 → m7 10 i = mO 10 i := fun i hi => by
    rw [y1 i hi, x3.1 24 (by decide) (by decide)]
    show o'.2.1 24 i = _
    rw [kept 24 (by decide), b1 i hi, a3.1 10 (by decide) (by decide)]
  have hcl : ∃ x : Int32, Sum.elim (fun e : Int32 × Mem × Mem => nm e.1 fun v2 => nm e.2.1 fun mB => nm e.2.2 fun mJ => some (v2, mB, mJ)) (fun e : Mem × Mem => nm e.1 fun mB => nm e.2 fun mJ => some ((-1 : Int32), mB, mJ)) o = some (x, b, jj) ∧ o'.1 = x := by
    rcases k5 with ⟨rfl, -⟩ | ⟨rfl, hx⟩
    · exact ⟨o'.1, rfl, rfl⟩
    · exact ⟨-1, rfl, hx⟩
  obtain ⟨x, hx1, hx2⟩ := hcl
  have hx1' : Sum.elim (fun e : Int32 × Mem × Mem => some (e.1, e.2.1, e.2.2)) (fun e : Mem × Mem => some ((-1 : Int32), e.1, e.2)) o = some (x, b, jj) := hx1
  rw [hx1']
  rcases hv with rfl | ⟨k, hk, rfl⟩
  · rw [if_neg (fun q => q rfl)]
    exact RT_s ⟨fun _ => hx2, fun k hk e => absurd e.symm (n_nm1 (by omega)), fB.tr k2, n23, h8, h9, h10, fin, k4⟩
  · rw [if_pos (n_nm1 (show k < 2 ^ 31 by omega)), gi_n (show k < 20 by omega) (by decide), nI_clamp (by omega)]
    refine RT_s ⟨fun e => absurd e (n_nm1 (by omega)), fun k' hk' e => ?_, fB.tr k2, n23, h8, h9, h10, fin, k4⟩
    have : k = k' := nI_inj (by omega) (by omega) e
    subst this
    show m7 21 k = b 2 k
    rw [m21, k1.2.2.2 k hk]
