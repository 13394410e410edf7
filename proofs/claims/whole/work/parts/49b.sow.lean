/-! what is asked of a land -/
theorem V_sort {mX mT mL mM mB mS i0 i1 i2 mO : Mem} {ml : Lem} (h : INV mX mT mL mM mB mS i0 i1 i2 mO ml) (v1 v2 : Int32) : RT (mX7_sort mX mL v1 v2) (mX8_sort mO ml v1 v2) (fun a b => a = b) := by
  obtain ⟨g, f, t, hM, hL, -⟩ := h
  obtain ⟨hG, n6⟩ := hL.n
  unfold mX7_sort mX8_sort
  rw [c_isSort hG (by omega), o_isSort hM.2.2.2.2.2.1 (by omega), o_in]
  simp only [bn_s, it_b0]
  cases hi : inR v1 (g 5) with
  | false => exact RT_s rfl
  | true =>
    obtain ⟨s, hs, rfl⟩ := inR_t (by omega) hi
    rw [cd_t, cd_t]
    have hC : LC mL g f t := by
      rcases hL with ⟨-, z⟩ | ⟨-, -, z⟩
      · rw [z 5] at hs; omega
      · exact z
    have key : ∀ w, w < 6 → mL (w + 1) s = mO 6 (6 * s + w) := fun w hw => (hC.2.2.2.2.2.2.2.2.1 s hs w hw).trans (hM.2.2.2.2.2.2.2.2.1 s hs w hw).symm
    unfold mX1_numberOf
    simp only [gi_n (show s < 6 by omega) (show 6 < 2 ^ 31 by decide), nI_clamp (show s < 2 ^ 31 by omega), nm_d]
    cases h2 : btw v2 0 5 with
    | true =>
      obtain ⟨w, w1, w2, rfl⟩ := btw_t (a := 0) (b := 5) (by decide) h2 (by decide)
      rw [cd_t, o_of w (by omega) (by omega), ← key w (by omega)]
      have : w = 0 ∨ w = 1 ∨ w = 2 ∨ w = 3 ∨ w = 4 ∨ w = 5 := by omega
      rcases this with rfl | rfl | rfl | rfl | rfl | rfl <;> exact RT_s rfl
    | false =>
      have nw := btw_f (a := 0) (b := 5) (by decide) (by decide) h2
      rw [cd_f, if_neg (show ¬ v2 = (0 : Int32) from nw 0 (by omega) (by omega)), if_neg (show ¬ v2 = (1 : Int32) from nw 1 (by omega) (by omega)), if_neg (show ¬ v2 = (2 : Int32) from nw 2 (by omega) (by omega)), if_neg (show ¬ v2 = (3 : Int32) from nw 3 (by omega) (by omega)), if_neg (show ¬ v2 = (4 : Int32) from nw 4 (by omega) (by omega)), if_neg (show ¬ v2 = (5 : Int32) from nw 5 (by omega) (by omega))]
      exact RT_s rfl
theorem V_count {mX mT mL mM mB mS i0 i1 i2 mO : Mem} {ml : Lem} (h : INV mX mT mL mM mB mS i0 i1 i2 mO ml) (v1 : Int32) : RT (mX7_count mX mB mT mL v1) (mX8_count mO ml v1) (fun a b => a = b) := by
  obtain ⟨g, f, t, hM, hL, ⟨len, hT⟩, -, ⟨c, hB⟩, -⟩ := h
  obtain ⟨m1, m2, m3, m4, m5, m6, m7, m8, -⟩ := id hM
  unfold mX7_count mX8_count mX1_countOf
  rw [c_isIn, m1, m2, m3, m4, m6, m7, m8, hB.2.1, hB.2.2.1, hT.2.1, hT.2.2.1]
  simp only [bn_s, it_b1, nm_d]
  cases h2 : btw v1 0 6 with
  | true =>
    obtain ⟨w, w1, w2, rfl⟩ := btw_t (a := 0) (b := 6) (by decide) h2 (by decide)
    rw [cd_t]
    have hw : w = 0 ∨ w = 1 ∨ w = 2 ∨ w = 3 ∨ w = 4 ∨ w = 5 ∨ w = 6 := by omega
    rcases hL with ⟨z1, z⟩ | ⟨z1, -, z⟩
    · rw [if_pos z1, z 5, z 7, z 0, z 1, z 2, z 3, z 6]
      rcases hw with rfl | rfl | rfl | rfl | rfl | rfl | rfl <;> exact RT_s rfl
    · obtain ⟨c1, c2, c3, c4, c5, c6, c7, c8, -⟩ := z
      rw [if_neg (show ¬ mX 0 10 = 0 by rw [z1]; decide), c1, c2, c3, c4, c6, c7, c8]
      rcases hw with rfl | rfl | rfl | rfl | rfl | rfl | rfl <;> exact RT_s rfl
  | false =>
    have nw := btw_f (a := 0) (b := 6) (by decide) (by decide) h2
    rw [cd_f, if_neg (show ¬ v1 = (0 : Int32) from nw 0 (by omega) (by omega)), if_neg (show ¬ v1 = (1 : Int32) from nw 1 (by omega) (by omega)), if_neg (show ¬ v1 = (2 : Int32) from nw 2 (by omega) (by omega)), if_neg (show ¬ v1 = (3 : Int32) from nw 3 (by omega) (by omega)), if_neg (show ¬ v1 = (4 : Int32) from nw 4 (by omega) (by omega)), if_neg (show ¬ v1 = (5 : Int32) from nw 5 (by omega) (by omega)), if_neg (show ¬ v1 = (6 : Int32) from nw 6 (by omega) (by omega))]
    by_cases h7 : v1 = 7
    · rw [if_neg (fun q => q h7), if_pos h7]; exact RT_s rfl
    · rw [if_pos h7, if_neg h7]
      by_cases h8 : v1 = 8
      · rw [if_neg (fun q => q h8), if_pos h8]; exact RT_s rfl
      · rw [if_pos h8, if_neg h8]; exact RT_s rfl
theorem V_back {mX mT mL mM mB mS i0 i1 i2 mO : Mem} {ml : Lem} (h : INV mX mT mL mM mB mS i0 i1 i2 mO ml) (v1 v2 v3 : Int32) : RT (mX7_back mX mL v1 v2 v3) (mX8_back mO ml v1 v2 v3) (fun a b => a = b) := by
  obtain ⟨g, f, t, hM, hL, -⟩ := h
  obtain ⟨hG, n6⟩ := hL.n
  unfold mX7_back mX8_back
  rw [c_isSort hG (by omega), o_isSort hM.2.2.2.2.2.1 (by omega), c_isNight, o_isNight hM.2.2.2.2.2.1 (by omega), o_in]
  simp only [bn_s, it_b0, it_b1]
  cases hi : inR v1 (g 5) with
  | false => exact RT_s rfl
  | true =>
    obtain ⟨s, hs, rfl⟩ := inR_t (by omega) hi
    obtain ⟨hR, hC⟩ : LR g f t ∧ LC mL g f t := by
      rcases hL with ⟨-, z⟩ | ⟨-, z, z'⟩
      · rw [z 5] at hs; omega
      · exact ⟨z, z'⟩
    rw [cd_t, cd_t, decide_eq_true (show 0 < g 5 by omega), Bool.true_and]
    cases h2 : btw v2 0 500 with
    | false => exact RT_s rfl
    | true =>
      obtain ⟨n, n1, n2, rfl⟩ := btw_t (a := 0) (b := 500) (by decide) h2 (by decide)
      obtain ⟨-, -, -, s16, e1, e9, -, -, -, -, -, rs, -⟩ := id hR
      have hb := bk_le (g := g) (n := n) (S := g 2) (E := g 3) (rs s hs).2.2.2.2.2.2.2
      rw [cd_t, cd_t, hC.2.2.1, hC.2.2.2.1, hM.2.2.1, hM.2.2.2.1, c_back hR hC hs n2 s16 e1 e9, o_back hR hM hs n2 s16 e1 e9, bn_s, bn_s, c_least hR hC hs hb, o_least hR hM hs hb, c_most hR hC hs, o_most hR hM hs]
      simp only [bn_s]
      cases h3 : btw v3 0 2 with
      | true =>
        obtain ⟨w, w1, w2, rfl⟩ := btw_t (a := 0) (b := 2) (by decide) h3 (by decide)
        have : w = 0 ∨ w = 1 ∨ w = 2 := by omega
        rcases this with rfl | rfl | rfl <;> exact RT_s rfl
      | false =>
        have nw := btw_f (a := 0) (b := 2) (by decide) (by decide) h3
        rw [cd_f, if_neg (show ¬ v3 = (0 : Int32) from nw 0 (by omega) (by omega)), if_neg (show ¬ v3 = (1 : Int32) from nw 1 (by omega) (by omega)), if_neg (show ¬ v3 = (2 : Int32) from nw 2 (by omega) (by omega))]
        exact RT_s rfl
theorem V_lent {mX mT mL mM mB mS i0 i1 i2 mO : Mem} {ml : Lem} (h : INV mX mT mL mM mB mS i0 i1 i2 mO ml) (v1 v2 : Int32) : RT (mX7_lent mX mS mL v1 v2) (mX8_lent mO ml v1 v2) (fun q q' => q.1 = q'.1 ∧ INV mX mT mL mM mB q.2 i0 i1 i2 q'.2 ml) := by
  obtain ⟨g, f, t, hM, hL, -⟩ := id h
  obtain ⟨hG, n6⟩ := hL.n
  unfold mX7_lent mX8_lent
  rw [c_isSort hG (by omega), o_isSort hM.2.2.2.2.2.1 (by omega), c_isNight, o_isNight hM.2.2.2.2.2.1 (by omega)]
  simp only [bn_s, it_b0, it_b1]
  rcases hL.z hM with ⟨z1, z2, z3⟩ | ⟨z1, z2, z2', z3, hR, hC⟩
  · rw [if_pos z1, z3]
    exact RT_s ⟨rfl, h⟩
  · rw [if_neg z1, decide_eq_true z3, Bool.true_and]
    cases h2 : btw v2 0 500 with
    | false => exact RT_s ⟨rfl, h⟩
    | true =>
      obtain ⟨n, n1, n2, rfl⟩ := btw_t (a := 0) (b := 500) (by decide) h2 (by decide)
      obtain ⟨-, -, -, s16, e1, e9, -, -, -, -, -, rs, -⟩ := id hR
      rw [cd_t, cd_t]
      have hk := TK_ok (n := n) hR n2 s16 e1 e9
      obtain ⟨m, em, a1, a2⟩ := hk.2.1 mS mL hC
      obtain ⟨m', em', b1, b2⟩ := hk.2.2 mO ml hM
      have hM2 := hM.fr b2 (by decide) (by decide) (by decide)
      have hI : INV mX mT mL mM mB m i0 i1 i2 m' ml := h.fr (b2.wk (by decide) (by decide)) PL.rf (a2.wk (by decide) (by decide)) Fr.rf
      have jj : ∀ v, (v = -1 ∨ ∃ s, s < g 5 ∧ v = nI s) → RT (mX7_lent_j29 v (nI n) mX mS mL) (mX8_lent_j23 v (nI n) mO ml) (fun q q' => q.1 = q'.1 ∧ INV mX mT mL mM mB q.2 i0 i1 i2 q'.2 ml) := by
        intro v hv
        unfold mX7_lent_j29 mX8_lent_j23
        rw [hC.2.2.1, hC.2.2.2.1, hM.2.2.1, hM.2.2.2.1, em, em', bn_s, bn_s, c_sown hR hC a1, o_sown hR hM2 b1]
        rcases hv with rfl | ⟨s, hs, rfl⟩
        · rw [if_neg (fun q => q rfl), if_neg (fun q => q rfl)]
          exact RT_s ⟨rfl, hI⟩
        · rw [if_pos (n_nm1 (by omega)), if_pos (n_nm1 (by omega)), gi_n (show s < 6 by omega) (by decide), gi_n (show s < 6 by omega) (by decide), nI_clamp (by omega), a1 s hs, b1 s hs]
          exact RT_s ⟨rfl, hI⟩
      refine RT_if Iff.rfl (fun e => jj v1 (Or.inl e)) (fun _ => ?_)
      cases hi : inR v1 (g 5) with
      | false => exact RT_s ⟨rfl, h⟩
      | true =>
        obtain ⟨s, hs, rfl⟩ := inR_t (by omega) hi
        exact jj _ (Or.inr ⟨s, hs, rfl⟩)
theorem V_brought {mX mT mL mM mB mS i0 i1 i2 mO : Mem} {ml : Lem} (h : INV mX mT mL mM mB mS i0 i1 i2 mO ml) (v1 : Int32) : RT (mX7_brought mX mS mL v1) (mX8_brought mO ml v1) (fun q q' => q.1 = q'.1 ∧ INV mX mT mL mM mB q.2 i0 i1 i2 q'.2 ml) := by
  obtain ⟨g, f, t, hM, hL, -⟩ := id h
  obtain ⟨hG, n6⟩ := hL.n
  unfold mX7_brought mX8_brought
  rw [c_isNight, o_isNight hM.2.2.2.2.2.1 (by omega)]
  simp only [bn_s, it_b0, it_b1]
  rcases hL.z hM with ⟨z1, z2, z3⟩ | ⟨z1, z2, z2', z3, hR, hC⟩
  · rw [if_pos z1, z3]
    exact RT_s ⟨rfl, h⟩
  · rw [if_neg z1, decide_eq_true z3, Bool.true_and]
    cases h2 : btw v1 0 500 with
    | false => exact RT_s ⟨rfl, h⟩
    | true =>
      obtain ⟨n, n1, n2, rfl⟩ := btw_t (a := 0) (b := 500) (by decide) h2 (by decide)
      obtain ⟨-, -, -, s16, e1, e9, -, -, -, -, -, rs, -⟩ := id hR
      have hk := TK_ok (n := n) hR n2 s16 e1 e9
      obtain ⟨m, em, a1, a2⟩ := hk.2.1 mS mL hC
      obtain ⟨m', em', b1, b2⟩ := hk.2.2 mO ml hM
      have hM2 := hM.fr b2 (by decide) (by decide) (by decide)
      rw [cd_t, cd_t, hC.2.2.1, hC.2.2.2.1, hM.2.2.1, hM.2.2.2.1, em, em', bn_s, bn_s, c_yields hR hC hk.1 a1, o_yields hR hM2 hk.1 b1]
      exact RT_s ⟨rfl, h.fr (b2.wk (by decide) (by decide)) PL.rf (a2.wk (by decide) (by decide)) Fr.rf⟩
theorem V_moon {mX mT mL mM mB mS i0 i1 i2 mO : Mem} {ml : Lem} (h : INV mX mT mL mM mB mS i0 i1 i2 mO ml) (v1 v2 v3 : Int32) : RT (mX7_moon mX mS mL v1 v2 v3) (mX8_moon mO ml v1 v2 v3) (fun q q' => q.1 = q'.1 ∧ INV mX mT mL mM mB q.2 i0 i1 i2 q'.2 ml) := by
  obtain ⟨g, f, t, hM, hL, -⟩ := id h
  unfold mX7_moon mX8_moon mX8_isLaw
  rw [c_isIn, c_isIn, c_isIn, o_in, o_in, o_in]
  simp only [bn_s, it_b0, it_b1]
  rcases hL.z hM with ⟨z1, z2, z3⟩ | ⟨z1, z2, z2', z3, hR, hC⟩
  · rw [if_pos z1, if_pos (by rw [z2]; decide)]
    exact RT_s ⟨rfl, h⟩
  · rw [if_neg z1, if_neg z2']
    cases h1 : btw v1 0 16 with
    | false => exact RT_s ⟨rfl, h⟩
    | true =>
      cases h2 : btw v2 1 9 with
      | false => exact RT_s ⟨rfl, h⟩
      | true =>
        cases h3 : btw v3 0 1 with
        | false => exact RT_s ⟨rfl, h⟩
        | true =>
          obtain ⟨S, -, S2, rfl⟩ := btw_t (a := 0) (b := 16) (by decide) h1 (by decide)
          obtain ⟨E, E1, E2, rfl⟩ := btw_t (a := 1) (b := 9) (by decide) h2 (by decide)
          obtain ⟨w, w1, w2, rfl⟩ := btw_t (a := 0) (b := 1) (by decide) h3 (by decide)
          simp only [cond_true, bn_s]
          rw [if_neg (show ¬ (1 : Int32) = 0 by decide)]
          unfold mX8_moon_j37
          obtain ⟨m, em, ⟨a1, a2, -⟩, a3⟩ := c_moon (mS := mS) hR hC S2 E1 E2
          rw [em, bn_s]
          have hw : w = 0 ∨ w = 1 := by omega
          rcases hw with rfl | rfl
          · obtain ⟨q, eq, b1, b2⟩ := o_moon (ml := ml) hR hM S2 E1 E2 false
            rw [if_neg (show ¬ ¬ nI 0 = 0 from fun q => q rfl), if_pos (show ¬ nI 0 = 1 by decide), show mX8_moonOf mO ml (nI S) (nI E) 0 = some q from eq]
            exact RT_s ⟨a1.trans b1.symm, h.fr (b2.wk (by decide) (by decide)) PL.rf a3 Fr.rf⟩
          · obtain ⟨q, eq, b1, b2⟩ := o_moon (ml := ml) hR hM S2 E1 E2 true
            rw [if_pos (show ¬ nI 1 = 0 by decide), if_neg (show ¬ ¬ nI 1 = 1 from fun q => q rfl), show mX8_moonOf mO ml (nI S) (nI E) 1 = some q from eq]
            exact RT_s ⟨a2.trans b1.symm, h.fr (b2.wk (by decide) (by decide)) PL.rf a3 Fr.rf⟩
theorem V_best {mX mT mL mM mB mS i0 i1 i2 mO : Mem} {ml : Lem} (h : INV mX mT mL mM mB mS i0 i1 i2 mO ml) (v1 : Int32) : RT (mX7_best mX mS mL v1) (mX8_best mO ml v1) (fun q q' => q.1 = q'.1 ∧ INV mX mT mL mM mB q.2 i0 i1 i2 q'.2 ml) := by
  obtain ⟨g, f, t, hM, hL, h3, h4, h5, h6, h7, h8, h9⟩ := id h
  unfold mX7_best mX8_best
  rw [c_isIn, o_in]
  simp only [bn_s, it_b0, it_b1]
  rcases hL.z hM with ⟨z1, z2, z3⟩ | ⟨z1, z2, z2', z3, hR, hC⟩
  · rw [if_pos z1, if_pos z2]
    exact RT_s ⟨rfl, h⟩
  · rw [if_neg z1, if_neg z2]
    cases h2 : btw v1 0 2 with
    | false =>
      rw [cd_f, cd_f]
      exact RT_s ⟨rfl, h⟩
    | true =>
      have hs : ∃ a b Y m, Y ≤ 88209000 ∧ BTP g f t a b Y ∧ mX4_seekBest mS mL = some m ∧ m 0 4 = a ∧ m 0 5 = b ∧ m 0 6 = nI Y := by
        rcases h6 with e | ⟨a, b, Y, y1, y2, y3, y4, y5⟩
        · obtain ⟨a, b, Y, y1, y2⟩ := BT_ex hR
          obtain ⟨m, em, q1, q2, q3, -⟩ := y2.1 mS mL hC e
          exact ⟨a, b, Y, m, y1, y2, em, q1, q2, q3⟩
        · refine ⟨a, b, Y, mS, y1, y2, ?_, y3, y4, y5⟩
          unfold mX4_seekBest
          rw [if_neg (by rw [y5]; exact n_nm1 (by omega))]
      obtain ⟨a, b, Y, m, y1, y2, em, q1, q2, q3⟩ := hs
      have hI : ∀ m', Fr [18, 19] [] mO m' → INV mX mT mL mM mB m i0 i1 i2 m' ml := fun m' hm' => by
        have hx : INV mX mT mL mM mB mS i0 i1 i2 m' ml := h.fr (hm'.wk (by decide) (by decide)) PL.rf Fr.rf Fr.rf
        have hm2 := hm'
        exact ⟨g, f, t, hM.fr hm2 (by decide) (by decide) (by decide), hL, by obtain ⟨len, hT⟩ := h3; exact ⟨len, hT.fr hm2 (by decide) (by decide)⟩, h4.fr hm2 (by decide) (by decide) (by decide) (by decide) rfl, by obtain ⟨c, hB⟩ := h5; exact ⟨c, hB.fr Fr.rf hm2 (by decide) (by decide) (by decide) (by decide) (by decide) (by decide) (x := []) (y := [])⟩, Or.inr ⟨a, b, Y, y1, y2, q1, q2, q3⟩, h7.fr hm2 (by decide) rfl, h8.fr hm2 (by decide) rfl, h9.fr hm2 (by decide) rfl⟩
      rw [cd_t, cd_t, em, bn_s]
      obtain ⟨w, w1, w2, rfl⟩ := btw_t (a := 0) (b := 2) (by decide) h2 (by decide)
      obtain ⟨q, eq, b1, b2, b3, b4⟩ := y2.2 mO ml (nI w) hM
      unfold mX8_best_L28
      rw [eq, bn_s]
      simp only [nm_d]
      rw [q1, q2, q3, b1, b2, b3]
      have hw : w = 0 ∨ w = 1 ∨ w = 2 := by omega
      rcases hw with rfl | rfl | rfl <;> exact RT_s ⟨rfl, hI _ b4⟩
theorem sub4 (x y a b : Int32) : x - y + a - b = (x + a) - (y + b) := by
  rw [Int32.sub_eq_add_neg, Int32.sub_eq_add_neg, Int32.sub_eq_add_neg, Int32.neg_add, Int32.sub_eq_add_neg, Int32.add_assoc x, Int32.add_comm (-y) a, ← Int32.add_assoc x, Int32.add_assoc]
theorem V_gains {mX mT mL mM mB mS i0 i1 i2 mO : Mem} {ml : Lem} (h : INV mX mT mL mM mB mS i0 i1 i2 mO ml) (v1 : Int32) : RT (mX7_gains mX mS mL v1) (mX8_gains mO ml v1) (fun q q' => q.1 = q'.1 ∧ INV mX mT mL mM mB q.2 i0 i1 i2 q'.2 ml) := by
  obtain ⟨g, f, t, hM, hL, -⟩ := id h
  obtain ⟨hG, n6⟩ := hL.n
  unfold mX7_gains mX8_gains
  rw [c_isSort hG (by omega), o_isSort hM.2.2.2.2.2.1 (by omega)]
  simp only [bn_s, it_b1]
  cases hi : inR v1 (g 5) with
  | false => exact RT_s ⟨rfl, h⟩
  | true =>
    obtain ⟨s, hs, rfl⟩ := inR_t (by omega) hi
    obtain ⟨hR, hC⟩ : LR g f t ∧ LC mL g f t := by
      rcases hL with ⟨-, z⟩ | ⟨-, z, z'⟩
      · rw [z 5] at hs; omega
      · exact ⟨z, z'⟩
    obtain ⟨-, p30, -, s16, e1, e9, -, -, -, -, -, rs, -⟩ := id hR
    obtain ⟨m, em, ⟨-, -, a1⟩, a2⟩ := c_moon (mS := mS) hR hC s16 e1 e9
    obtain ⟨w, ew, ⟨-, -, b1⟩, b2⟩ := c_moon (mS := m) hR hC (show 0 ≤ 16 by omega) e1 e9
    have hsum : HT (itr (fun q => mX8_gains_s16 (nI s) ml q.1 q.2.1 q.2.2) FU ((0 : Int32), (0 : Int32), mO)) (fun q => q.1 = nI (sm (fun n => TK g f t n (g 2) (g 3) s) (g 0)) - nI (sm (fun n => TK g f t n 0 (g 3) s) (g 0)) ∧ Fr [18, 19] [] mO q.2) := by
      refine HT_itr (fun k (x : Int32 × Int32 × Mem) => ∃ j, j ≤ g 0 ∧ k = g 0 - j ∧ x.2.1 = nI j ∧ x.1 = nI (sm (fun n => TK g f t n (g 2) (g 3) s) j) - nI (sm (fun n => TK g f t n 0 (g 3) s) j) ∧ Fr [18, 19] [] mO x.2.2) ?_ FU (g 0) _ ⟨0, by omega, rfl, rfl, by show (0 : Int32) = nI 0 - nI 0; decide, Fr.rf⟩ (FU_gt (by omega))
      rintro k ⟨x1, x2, x3⟩ ⟨j, hj, rfl, c1, c2, hF⟩
      dsimp only at c1 c2 hF
      subst c1; subst c2
      have hM2 := hM.fr hF (by decide) (by decide) (by decide)
      show HT (mX8_gains_s16 (nI s) ml (nI (sm (fun n => TK g f t n (g 2) (g 3) s) j) - nI (sm (fun n => TK g f t n 0 (g 3) s) j)) (nI j) x3) _
      unfold mX8_gains_s16
      rw [hM2.1]
      by_cases h0 : j = g 0
      · subst h0
        rw [if_pos (Int32.le_refl _)]
        exact HT_s ⟨rfl, hF⟩
      · rw [if_neg (by rw [n_le (by omega) (by omega)]; omega), hM2.2.2.1, hM2.2.2.2.1]
        have hk := TK_ok (n := j) hR (by omega) s16 e1 e9
        have hk0 := TK_ok (n := j) hR (by omega) (show 0 ≤ 16 by omega) e1 e9
        refine HT_b (hk.2.2 x3 ml hM2) (fun y hy => ?_)
        obtain ⟨y1, y2⟩ := hy
        have hM3 := hM2.fr y2 (by decide) (by decide) (by decide)
        rw [gi_n (show s < 6 by omega) (by decide), nI_clamp (by omega), y1 s hs, nm_d, hM3.2.2.2.1]
        refine HT_b (hk0.2.2 y ml hM3) (fun z hz => ?_)
        obtain ⟨z1, z2⟩ := hz
        rw [gi_n (show s < 6 by omega) (by decide), z1 s hs, nm_d, nI_s, nm_d]
        refine HT_s ⟨g 0 - (j + 1), by omega, j + 1, by omega, rfl, rfl, ?_, (hF.tr y2).tr z2⟩
        dsimp only
        rw [sub4, n_add, n_add]
        rfl
    unfold mX8_gains_L16
    obtain ⟨q, eq, c1, c2⟩ := hsum
    rw [cd_t, cd_t, hC.2.2.1, hC.2.2.2.1, em, bn_s, gi_n (show s < 6 by omega) (by decide), nI_clamp (by omega), nm_d, show (mX4_shareMoon m mL 0 (nI (g 3))) = some w from ew, bn_s, gi_n (show s < 6 by omega) (by decide), nm_d, eq, bn_s, a1 s hs, b1 s hs]
    simp only [nm_d]
    exact RT_s ⟨c1.symm, h.fr (c2.wk (by decide) (by decide)) PL.rf (a2.tr b2) Fr.rf⟩
theorem V_purse {mX mT mL mM mB mS i0 i1 i2 mO : Mem} {ml : Lem} (h : INV mX mT mL mM mB mS i0 i1 i2 mO ml) (v1 v2 : Int32) : RT (mX7_purse mX mL v1 v2) (mX8_purse mO ml v1 v2) (fun a b => a = b) := by
  obtain ⟨g, f, t, hM, hL, -⟩ := id h
  unfold mX7_purse mX8_purse
  rw [c_isIn, c_isIn, o_in, o_in]
  simp only [bn_s, it_b0, it_b1]
  rcases hL.z hM with ⟨z1, z2, z3⟩ | ⟨z1, z2, z2', z3, hR, hC⟩
  · rw [if_pos z1, if_pos z2]
    exact RT_s rfl
  · rw [if_neg z1, if_neg z2]
    cases h1 : btw v1 0 100 with
    | false => exact RT_s rfl
    | true =>
      cases h2 : btw v2 0 1 with
      | false => exact RT_s rfl
      | true =>
        obtain ⟨l, -, l2, rfl⟩ := btw_t (a := 0) (b := 100) (by decide) h1 (by decide)
        rw [cd_t, cd_t, cd_t, cd_t]
        obtain ⟨p5, p30, -, s16, e1, e9, -, -, n6, -, -, rs, -⟩ := id hR
        unfold mX7_purse_L33 mX8_purse_L33
        refine RT_b (Q := fun a b => a = b) (RT_itr (fun k (s t' : Int32 × Int32) => s = t' ∧ ∃ j, j ≤ g 5 ∧ k = g 5 - j ∧ s.2 = nI j) ?_ FU (g 5) _ _ ⟨rfl, 0, by omega, rfl, rfl⟩ (FU_gt (by omega))) (fun a b hab => by rw [hab]; exact RT_s rfl)
        rintro k ⟨s1, s2⟩ _ ⟨rfl, j, hj, rfl, c1⟩
        dsimp only at c1
        subst c1
        show RT (mX7_purse_s33 (nI l) v2 mX mL s1 (nI j)) (mX8_purse_s33 (nI l) v2 mO ml s1 (nI j)) _
        unfold mX7_purse_s33 mX8_purse_s33 mX7_purse_j93 mX8_purse_j135
        rw [hC.2.2.2.2.2.1, hM.2.2.2.2.2.1]
        refine RT_if Iff.rfl (fun _ => RT_s rfl) (fun hlt => ?_)
        rw [n_le (by omega) (by omega)] at hlt
        have hs : j < g 5 := by omega
        obtain ⟨-, m50, c99, w99, -, -, -, k16⟩ := rs j hs
        have c1 : mL 1 j = nI (f 0 j) := hC.2.2.2.2.2.2.2.2.1 j hs 0 (by decide)
        have c2 : mL 2 j = nI (f 1 j) := hC.2.2.2.2.2.2.2.2.1 j hs 1 (by decide)
        have c3 : mL 3 j = nI (f 2 j) := hC.2.2.2.2.2.2.2.2.1 j hs 2 (by decide)
        have r0 : mO 6 (6 * j + 0) = nI (f 0 j) := hM.2.2.2.2.2.2.2.2.1 j hs 0 (by decide)
        have r1 : mO 6 (6 * j + 1) = nI (f 1 j) := hM.2.2.2.2.2.2.2.2.1 j hs 1 (by decide)
        have r2 : mO 6 (6 * j + 2) = nI (f 2 j) := hM.2.2.2.2.2.2.2.2.1 j hs 2 (by decide)
        rw [gi_n (show j < 6 by omega) (by decide), nI_clamp (by omega), o_of1 (by omega), o_of2 (by omega), o_of0 (by omega), bn_s, bn_s, bn_s, bn_s, bn_s, bn_s, c2, r0, r1, r2]
        simp only [nm_d, nI_s]
        have next : ∀ x : Int32, LK (fun (s t' : Int32 × Int32) => ∃ n', n' < g 5 - j ∧ s = t' ∧ ∃ j', j' ≤ g 5 ∧ n' = g 5 - j' ∧ s.2 = nI j') (fun (a b : Int32) => a = b) (Sum.inl (x, nI (j + 1))) (Sum.inl (x, nI (j + 1))) := fun x => ⟨g 5 - (j + 1), by omega, rfl, j + 1, by omega, rfl, rfl⟩
        refine RT_if Iff.rfl (fun _ => RT_s (next s1)) (fun _ => ?_)
        unfold mX1_needOf mX7_lastNightBack
        simp only [gi_n (show j < 6 by omega) (show 6 < 2 ^ 31 by decide), nI_clamp (show j < 2 ^ 31 by omega), c1, c2, c3, nm_d, bn_s]
        rw [hC.1, hC.2.2.1, hC.2.2.2.1, hM.1, hM.2.2.1, hM.2.2.2.1, show (1 : Int32) = nI 1 from rfl, pk_sub (show 1 ≤ g 0 by omega), c_back hR hC hs (by omega) s16 e1 e9, o_back hR hM hs (by omega) s16 e1 e9, bn_s, bn_s, bn_s]
        by_cases hw : f 1 j < f 2 j
        · rw [pk_sub (by omega), if_pos (show (0 : Int32) < nI (f 2 j - f 1 j) by rw [show (0 : Int32) = nI 0 from rfl, n_lt (by decide) (by omega)]; omega), if_pos (show nI (f 1 j) < nI (f 2 j) by rw [n_lt (by omega) (by omega)]; exact hw)]
          exact RT_if Iff.rfl (fun _ => RT_s (next _)) (fun _ => RT_s (next _))
        · have hz : ¬ (0 : Int32) < nI (f 2 j) - nI (f 1 j) := by
            by_cases he : f 2 j = f 1 j
            · rw [he, pk_sub (Nat.le_refl _), Nat.sub_self]; decide
            · intro hc
              have := pk_sneg (a := f 2 j) (b := f 1 j) (by omega) (by omega)
              exact absurd (Int32.lt_trans hc this) (Int32.lt_irrefl)
          rw [if_neg hz, if_neg (show ¬ nI (f 1 j) < nI (f 2 j) by rw [n_lt (by omega) (by omega)]; exact hw), Int32.mul_zero, Int32.zero_mul, show (0 : Int32) / 1000 = 0 from by decide, Int32.add_zero, ite_self]
          exact RT_s (next s1)
