/-! images -/
theorem c_copy (m mN : Mem) : HT (mX2_copyFrom m mN) (fun w => w 0 0 = mN 0 0 ∧ w 0 1 = mN 0 1 ∧ (∀ j, j < 6 → w 1 j = mN 1 j ∧ w 2 j = mN 2 j) ∧ (∀ i, i < 40 → w 3 i = mN 3 i ∧ w 4 i = mN 4 i ∧ w 5 i = mN 5 i ∧ w 6 i = mN 6 i ∧ w 7 i = mN 7 i ∧ w 8 i = mN 8 i)) := by
  unfold mX2_copyFrom
  simp only [nm_d, show (0 : Int32).toNatClampNeg = 0 from by decide, show (6 : Int32).toNatClampNeg = 6 from by decide, show (40 : Int32).toNatClampNeg = 40 from by decide]
  have c6 : ∀ (f g : Nat → Int32) (j : Nat), j < 6 → va_cpy f g 0 0 6 j = f j := fun f g j hj => by
    rw [pk_cpy_in (Nat.zero_le _) (by omega), Nat.zero_add, Nat.sub_zero]
  have c40 : ∀ (f g : Nat → Int32) (j : Nat), j < 40 → va_cpy f g 0 0 40 j = f j := fun f g j hj => by
    rw [pk_cpy_in (Nat.zero_le _) (by omega), Nat.zero_add, Nat.sub_zero]
  exact HT_s ⟨rfl, rfl, fun j hj => ⟨c6 _ _ j hj, c6 _ _ j hj⟩, fun i hi => ⟨c40 _ _ i hi, c40 _ _ i hi, c40 _ _ i hi, c40 _ _ i hi, c40 _ _ i hi, c40 _ _ i hi⟩⟩
theorem IM_to {n k : Nat} {mM w mO m' : Mem} {ml ml' : Lem} (h : MR n mM mO ml) (hw : w 0 0 = mM 0 0 ∧ w 0 1 = mM 0 1 ∧ (∀ j, j < 6 → w 1 j = mM 1 j ∧ w 2 j = mM 2 j) ∧ (∀ i, i < 40 → w 3 i = mM 3 i ∧ w 4 i = mM 4 i ∧ w 5 i = mM 5 i ∧ w 6 i = mM 6 i ∧ w 7 i = mM 7 i ∧ w 8 i = mM 8 i)) (e13 : m' 13 k = mO 0 23) (e17 : ml' 17 k = ml 0 27) (e14 : ∀ j, j < 6 → m' 14 (6 * k + j) = mO 8 j) (e15 : ∀ j, j < 6 → m' 15 (6 * k + j) = mO 9 j) (e16 : ∀ i, i < 240 → m' 16 (240 * k + i) = mO 10 i) : IMR n k w m' ml' := by
  obtain ⟨a1, ⟨x, x1, x2, x3⟩, a3⟩ := h
  exact ⟨hw.1.trans (a1.trans e13.symm), ⟨x, x1, hw.2.1.trans x2, e17.trans x3⟩, HR_cgM (HR_cg a3 e14 e15 e16) hw.2.2.1 hw.2.2.2⟩
theorem IM_keep {n k k' : Nat} {mX mX' m mO m' : Mem} {ml ml' : Lem} (h : IMK n k' mX m mO ml) (hk : k < 3) (hk' : k' < 3) (hne : k' ≠ k) (e2 : mX' 2 k' = mX 2 k') (e12 : m' 12 k' = mO 12 k') (e13 : m' 13 k' = mO 13 k') (e17 : ml' 17 k' = ml 17 k') (e14 : ∀ i, (i < 6 * k ∨ 6 * k + 6 ≤ i) → m' 14 i = mO 14 i ∧ m' 15 i = mO 15 i) (e16 : ∀ i, (i < 240 * k ∨ 240 * k + 240 ≤ i) → m' 16 i = mO 16 i) : IMK n k' mX' m m' ml' := by
  unfold IMK at *
  rw [e2, e12]
  rcases h with h | ⟨h1, h2, h3, h4, h5⟩
  · exact Or.inl h
  · refine Or.inr ⟨h1, h2, h3.trans e13.symm, ?_, HR_cg h5 (fun j hj => (e14 _ (by omega)).1) (fun j hj => (e14 _ (by omega)).2) (fun i hi => e16 _ (by omega))⟩
    rw [e17]; exact h4
theorem o_image {mO : Mem} {ml : Lem} {k : Nat} (hk : k < 3) (h18 : ¬ mO 0 18 = 0) : ∃ m', mX8_image mO ml (nI k) = some (1, m', upiL ml 17 k (ml 0 27)) ∧ m' 12 = upd (mO 12) k 1 ∧ m' 13 = upd (mO 13) k (mO 0 23) ∧ (∀ j, j < 6 → m' 14 (6 * k + j) = mO 8 j ∧ m' 15 (6 * k + j) = mO 9 j) ∧ (∀ i, (i < 6 * k ∨ 6 * k + 6 ≤ i) → m' 14 i = mO 14 i ∧ m' 15 i = mO 15 i) ∧ (∀ i, i < 240 → m' 16 (240 * k + i) = mO 10 i) ∧ (∀ i, (i < 240 * k ∨ 240 * k + 240 ≤ i) → m' 16 i = mO 16 i) ∧ Fr [12, 13, 14, 15, 16] [] mO m' := by
  unfold mX8_image
  rw [if_neg h18, o_in, bn_s, it_b1, show btw (nI k) 0 2 = _ from btw_n (a := 0) (b := 2) (by decide) (by decide) (by omega), decide_eq_true (show 0 ≤ k ∧ k ≤ 2 by omega), cd_t, gi_n hk (by decide), nI_clamp (by omega)]
  simp only [nm_d, gi_n hk (show 3 < 2 ^ 31 by decide)]
  unfold mX8_image_L47
  obtain ⟨m1, e1, a1, a2, a3⟩ := o_im6 (mO := upi (upi mO 12 k 1) 13 k (upi mO 12 k 1 0 23)) (ml := upiL ml 17 k (ml 0 27)) hk
  rw [e1, bn_s, nm_d]
  unfold mX8_image_L95
  obtain ⟨m2, e2, b1, b2, b3⟩ := o_im240 (mO := m1) (ml := upiL ml 17 k (ml 0 27)) hk
  rw [e2, bn_s, nm_d]
  refine ⟨m2, rfl, ?_, ?_, fun j hj => ?_, fun i hi => ?_, fun i hi => ?_, fun i hi => ?_, ((Fr.rf.upi (by decide) (by decide)).upi (by decide) (by decide)).tr ((a3.wk (by decide) (by decide)).tr (b3.wk (by decide) (by decide)))⟩
  · rw [b3.1 12 (by decide) (by decide), a3.1 12 (by decide) (by decide)]; rfl
  · rw [b3.1 13 (by decide) (by decide), a3.1 13 (by decide) (by decide)]; rfl
  · rw [b3.1 14 (by decide) (by decide), b3.1 15 (by decide) (by decide)]; exact a1 j hj
  · rw [b3.1 14 (by decide) (by decide), b3.1 15 (by decide) (by decide)]; exact a2 i hi
  · rw [b1 i hi, a3.1 10 (by decide) (by decide)]; rfl
  · rw [b2 i hi, a3.1 16 (by decide) (by decide)]; rfl
theorem V_image {mX mT mL mM mB mS i0 i1 i2 mO : Mem} {ml : Lem} (h : INV mX mT mL mM mB mS i0 i1 i2 mO ml) (v1 : Int32) : RT (mX7_image mX mM i0 i1 i2 v1) (mX8_image mO ml v1) (fun q q' => q.1 = q'.1 ∧ INV q.2.1 mT mL mM mB mS q.2.2.1 q.2.2.2.1 q.2.2.2.2 q'.2.1 q'.2.2) := by
  obtain ⟨g, f, t, hM, hL, ⟨len, h3⟩, h4, ⟨c, h5⟩, h6, h7, h8, h9⟩ := id h
  rcases hL.z hM with ⟨z1, z2, z3⟩ | ⟨z1, z2, z2', z3, hR, hC⟩
  · unfold mX7_image mX8_image
    rw [if_pos z1, if_pos z2]
    exact RT_s ⟨rfl, h⟩
  · cases h1 : btw v1 0 2 with
    | false =>
      unfold mX7_image mX8_image
      rw [if_neg z1, if_neg z2, c_isIn, o_in, h1]
      exact RT_s ⟨rfl, h⟩
    | true =>
      obtain ⟨k, -, k2, rfl⟩ := btw_t (a := 0) (b := 2) (by decide) h1 (by decide)
      obtain ⟨m', em, b12, b13, b14, b14', b16, b16', bF⟩ := o_image (ml := ml) (show k < 3 by omega) z2
      rw [em]
      unfold mX7_image
      rw [if_neg z1, c_isIn, h1, bn_s, it_b1, cd_t]
      simp only [gi_n (show k < 3 by omega) (show 3 < 2 ^ 31 by decide), nI_clamp (show k < 2 ^ 31 by omega)]
      have e12 : ∀ j, j ≠ k → m' 12 j = mO 12 j := fun j hj => by rw [b12, upd_d, if_neg hj]
      have e13 : ∀ j, j ≠ k → m' 13 j = mO 13 j := fun j hj => by rw [b13, upd_d, if_neg hj]
      have e17 : ∀ j, j ≠ k → (upiL ml 17 k (ml 0 27)) 17 j = ml 17 j := fun j hj => by
        rw [upiL_d, if_pos rfl, pk_uLn hj]
      have e17k : (upiL ml 17 k (ml 0 27)) 17 k = ml 0 27 := by rw [upiL_d, if_pos rfl, pk_uLs]
      have eX : ∀ j, j ≠ k → (upi mX 2 k 1) 2 j = mX 2 j := fun j hj => by rw [upi_d, if_pos rfl, upd_d, if_neg hj]
      have eXk : (upi mX 2 k 1) 2 k = 1 := by rw [upi_d, if_pos rfl, upd_d, if_pos rfl]
      have keep : ∀ k' m, k' < 3 → k' ≠ k → IMK (g 5) k' mX m mO ml → IMK (g 5) k' (upi mX 2 k 1) m m' (upiL ml 17 k (ml 0 27)) := fun k' m h' hne hm => IM_keep hm (show k < 3 by omega) h' hne (eX k' hne) (e12 k' hne) (e13 k' hne) (e17 k' hne) b14' b16'
      have new : ∀ w, (w 0 0 = mM 0 0 ∧ w 0 1 = mM 0 1 ∧ (∀ j, j < 6 → w 1 j = mM 1 j ∧ w 2 j = mM 2 j) ∧ (∀ i, i < 40 → w 3 i = mM 3 i ∧ w 4 i = mM 4 i ∧ w 5 i = mM 5 i ∧ w 6 i = mM 6 i ∧ w 7 i = mM 7 i ∧ w 8 i = mM 8 i)) → IMK (g 5) k (upi mX 2 k 1) w m' (upiL ml 17 k (ml 0 27)) := fun w hw => Or.inr ⟨eXk, by rw [b12, upd_d, if_pos rfl], IM_to h4 hw (by rw [b13, upd_d, if_pos rfl]) e17k (fun j hj => (b14 j hj).1) (fun j hj => (b14 j hj).2) b16⟩
      have fin : ∀ x0 x1 x2, IMK (g 5) 0 (upi mX 2 k 1) x0 m' (upiL ml 17 k (ml 0 27)) → IMK (g 5) 1 (upi mX 2 k 1) x1 m' (upiL ml 17 k (ml 0 27)) → IMK (g 5) 2 (upi mX 2 k 1) x2 m' (upiL ml 17 k (ml 0 27)) → INV (upi mX 2 k 1) mT mL mM mB mS x0 x1 x2 m' (upiL ml 17 k (ml 0 27)) := fun x0 x1 x2 y0 y1 y2 => ⟨g, f, t, hM.fr bF (by decide) (by decide) (by decide), hL, ⟨len, h3.fr bF (by decide) (by decide)⟩, h4.fr bF (by decide) (by decide) (by decide) (by decide) rfl, ⟨c, h5.fr Fr.rf bF (by decide) (by decide) (by decide) (by decide) (by decide) (by decide) (x := []) (y := [])⟩, h6, y0, y1, y2⟩
      have hk : k = 0 ∨ k = 1 ∨ k = 2 := by omega
      rcases hk with rfl | rfl | rfl
      · obtain ⟨w, ew, hw⟩ := c_copy i0 mM
        rw [if_pos (show nI 0 = 0 from rfl), ew]
        exact RT_s ⟨rfl, fin w i1 i2 (new w hw) (keep 1 i1 (by decide) (by decide) h8) (keep 2 i2 (by decide) (by decide) h9)⟩
      · obtain ⟨w, ew, hw⟩ := c_copy i1 mM
        rw [if_neg (show ¬ nI 1 = 0 by decide), if_pos (show nI 1 = 1 from rfl), ew]
        exact RT_s ⟨rfl, fin i0 w i2 (keep 0 i0 (by decide) (by decide) h7) (new w hw) (keep 2 i2 (by decide) (by decide) h9)⟩
      · obtain ⟨w, ew, hw⟩ := c_copy i2 mM
        rw [if_neg (show ¬ nI 2 = 0 by decide), if_neg (show ¬ nI 2 = 1 by decide), ew]
        exact RT_s ⟨rfl, fin i0 i1 w (keep 0 i0 (by decide) (by decide) h7) (keep 1 i1 (by decide) (by decide) h8) (new w hw)⟩
theorem V_on {mX mT mL mM mB mS i0 i1 i2 mO : Mem} {ml : Lem} (h : INV mX mT mL mM mB mS i0 i1 i2 mO ml) (v1 : Int32) : RT (mX7_on mX mM i0 i1 i2 v1) (mX8_on mO ml v1) (fun q q' => q.1 = q'.1 ∧ INV mX mT mL q.2 mB mS i0 i1 i2 q'.2.1 q'.2.2) := by
  obtain ⟨g, f, t, hM, hL, h3, h4, h5, h6, h7, h8, h9⟩ := id h
  unfold mX7_on mX8_on
  rw [c_isIn, o_in, bn_s, bn_s, it_b0, it_b0]
  cases h1 : btw v1 0 2 with
  | false => exact RT_s ⟨rfl, h⟩
  | true =>
    obtain ⟨k, -, k2, rfl⟩ := btw_t (a := 0) (b := 2) (by decide) h1 (by decide)
    have hk3 : k < 3 := by omega
    rw [cd_t, cd_t]
    simp only [gi_n hk3 (show 3 < 2 ^ 31 by decide), nI_clamp (show k < 2 ^ 31 by omega), nm_d]
    have main : ∀ m, IMK (g 5) k mX m mO ml → RT (if ¬ mX 2 k = 0 then bn (mX2_copyFrom mM m) fun w => some ((1 : Int32), w) else some ((0 : Int32), mM)) (if ¬ mO 12 k = 0 then mX8_on_L42 (nI k) (0 : Int32) (upf mO 23 (mO 13 k)) (upfL ml 27 (ml 17 k)) else some ((0 : Int32), mO, ml)) (fun q q' => q.1 = q'.1 ∧ INV mX mT mL q.2 mB mS i0 i1 i2 q'.2.1 q'.2.2) := by
      intro m hm
      rcases hm with ⟨a, b⟩ | ⟨a, b, c1, ⟨x, x1, x2, x3⟩, c3⟩
      · rw [if_neg (fun q => q a), if_neg (fun q => q b)]
        exact RT_s ⟨rfl, h⟩
      · rw [if_pos (by rw [a]; decide), if_pos (by rw [b]; decide)]
        obtain ⟨w, ew, w1, w2, w3, w4⟩ := c_copy mM m
        unfold mX8_on_L42
        obtain ⟨m1, e1, p1, p2, p3⟩ := o_on6 (mO := upf mO 23 (mO 13 k)) (ml := upfL ml 27 (ml 17 k)) hk3
        obtain ⟨m2, e2, q1, q2, q3⟩ := o_on240 (mO := m1) (ml := upfL ml 27 (ml 17 k)) hk3
        rw [ew, e1, bn_s, bn_s, nm_d]
        unfold mX8_on_L90
        rw [e2, bn_s, nm_d]
        have hF : Fr [8, 9, 10] [23] mO m2 := (Fr.rf.upf (by decide)).tr ((p3.wk (by decide) (by decide)).tr (q3.wk (by decide) (by decide)))
        refine RT_s ⟨rfl, INV.mk' hM hL h3 h5 h6 h7 h8 h9 hF (by decide) (by decide) (fun _ => rfl) ⟨?_, ⟨x, x1, w2.trans x2, ?_⟩, HR_cgM (HR_cg c3 (fun j hj => ?_) (fun j hj => ?_) (fun i hi => ?_)) w3 w4⟩⟩
        · show w 0 0 = m2 0 23
          rw [q3.2 23 (by decide), p3.2 23 (by decide), w1]
          exact c1
        · exact x3
        · show m2 8 j = _
          rw [q3.1 8 (by decide) (by decide)]
          exact (p1 j hj).1
        · show m2 9 j = _
          rw [q3.1 9 (by decide) (by decide)]
          exact (p1 j hj).2
        · show m2 10 i = _
          rw [q1 i hi, p3.1 16 (by decide) (by decide)]
          rfl
    have hk : k = 0 ∨ k = 1 ∨ k = 2 := by omega
    rcases hk with rfl | rfl | rfl
    · rw [if_pos (show nI 0 = 0 from rfl)]
      exact main i0 h7
    · rw [if_neg (show ¬ nI 1 = 0 by decide), if_pos (show nI 1 = 1 from rfl)]
      exact main i1 h8
    · rw [if_neg (show ¬ nI 2 = 0 by decide), if_neg (show ¬ nI 2 = 1 by decide)]
      exact main i2 h9
/-! a new land -/
theorem c_noimg {mX a b c d e f g : Mem} : HT (itr (fun q => mX7_land_s84 a b c d e f g q.1 q.2) FU ((0 : Int32), mX)) (fun m => (∀ i, i < 3 → m 2 i = 0) ∧ Fr [2] [] mX m) := by
  refine HT_itr (fun k (s : Int32 × Mem) => ∃ j, j ≤ 3 ∧ k = 3 - j ∧ s.1 = nI j ∧ (∀ i, i < j → s.2 2 i = 0) ∧ Fr [2] [] mX s.2) ?_ FU 3 _ ⟨0, by omega, rfl, rfl, fun i hi => absurd hi (Nat.not_lt_zero i), Fr.rf⟩ (FU_gt (by omega))
  rintro k ⟨s1, s2⟩ ⟨j, hj, rfl, e1, hI, hF⟩
  dsimp only at e1 hI hF
  subst e1
  show HT (mX7_land_s84 a b c d e f g (nI j) s2) _
  unfold mX7_land_s84
  by_cases h : j = 3
  · subst h
    rw [if_pos (by decide)]
    exact HT_s ⟨hI, hF⟩
  · rw [if_neg (by rw [show (3 : Int32) = nI 3 from rfl, n_le (by decide) (by omega)]; omega), gi_n (by omega) (by decide), nI_clamp (by omega), nm_d, nI_s, nm_d]
    refine HT_s ⟨3 - (j + 1), by omega, j + 1, by omega, rfl, rfl, fun i hi => ?_, hF.upi (by decide) (by decide)⟩
    simp only [upi_d, reduceIte, upd_d]
    by_cases hij : i = j
    · rw [if_pos hij]
    · rw [if_neg hij]; exact hI i (by omega)
theorem o_noimg {mO : Mem} {ml : Lem} : HT (itr (fun q => mX8_land_s195 ml q.1 q.2) FU ((0 : Int32), mO)) (fun m => (∀ i, i < 3 → m 12 i = 0) ∧ Fr [12] [] mO m) := by
  refine HT_itr (fun k (s : Int32 × Mem) => ∃ j, j ≤ 3 ∧ k = 3 - j ∧ s.1 = nI j ∧ (∀ i, i < j → s.2 12 i = 0) ∧ Fr [12] [] mO s.2) ?_ FU 3 _ ⟨0, by omega, rfl, rfl, fun i hi => absurd hi (Nat.not_lt_zero i), Fr.rf⟩ (FU_gt (by omega))
  rintro k ⟨s1, s2⟩ ⟨j, hj, rfl, e1, hI, hF⟩
  dsimp only at e1 hI hF
  subst e1
  show HT (mX8_land_s195 ml (nI j) s2) _
  unfold mX8_land_s195
  by_cases h : j = 3
  · subst h
    rw [if_pos (by decide)]
    exact HT_s ⟨hI, hF⟩
  · rw [if_neg (by rw [show (3 : Int32) = nI 3 from rfl, n_le (by decide) (by omega)]; omega), gi_n (by omega) (by decide), nI_clamp (by omega), nm_d, nI_s, nm_d]
    refine HT_s ⟨3 - (j + 1), by omega, j + 1, by omega, rfl, rfl, fun i hi => ?_, hF.upi (by decide) (by decide)⟩
    simp only [upi_d, reduceIte, upd_d]
    by_cases hij : i = j
    · rw [if_pos hij]
    · rw [if_neg hij]; exact hI i (by omega)
def o6 (g : Nat → Nat) (mO : Mem) : Mem := upf (upf (upf (upf (upf (upf mO 13 (nI (g 0))) 14 (nI (g 1))) 15 (nI (g 2))) 16 (nI (g 3))) 17 (nI (g 4))) 18 (nI (g 5))
theorem o_head {g : Nat → Nat} {f t : Nat → Nat → Nat} {mO : Mem} {ml : Lem} (hR : LR g f t) (h : NL g f t mO) : (gi (0 : Int32) 5 (nm (upf mO 13 (mO 2 (0 : Int32).toNatClampNeg)) fun mO_31 => gi (1 : Int32) 5 (nm (upf mO_31 14 (mO_31 2 (1 : Int32).toNatClampNeg)) fun mO_32 => gi (2 : Int32) 5 (if ¬ (mO_32 2 (2 : Int32).toNatClampNeg) = (-1 : Int32) then gi (2 : Int32) 5 (mX8_land_j52 (mO_32 2 (2 : Int32).toNatClampNeg) mO_32 ml) else mX8_land_j52 (16 : Int32) mO_32 ml)))) = mX8_land_L113 (0 : Int32) (o6 g mO) ml := by
  obtain ⟨-, -, -, s16, e1, e9, w50, -⟩ := hR
  obtain ⟨a0, a1, a2, a4, a7, -⟩ := h
  have k2 : ∀ (m : Mem) (i : Nat) (v : Int32) (j : Nat), upf m i v 2 j = m 2 j := fun m i v j => by rw [upf_k _ _ _ _ (by decide)]
  simp only [gi_l (x := (0 : Int32)) (j := 0) (n := 5) rfl (by decide) (by decide), gi_l (x := (1 : Int32)) (j := 1) (n := 5) rfl (by decide) (by decide), gi_l (x := (2 : Int32)) (j := 2) (n := 5) rfl (by decide) (by decide), nm_d, show (0 : Int32).toNatClampNeg = 0 from by decide, show (1 : Int32).toNatClampNeg = 1 from by decide, show (2 : Int32).toNatClampNeg = 2 from by decide, k2, a0, a1]
  have j100 : ∀ (m : Mem), m 2 = mO 2 → m 0 7 = nI (g 5) → (gi (4 : Int32) 5 (if ¬ (m 2 (4 : Int32).toNatClampNeg) = (-1 : Int32) then gi (4 : Int32) 5 (mX8_land_j100 (m 2 (4 : Int32).toNatClampNeg) m ml) else mX8_land_j100 (0 : Int32) m ml)) = mX8_land_L113 (0 : Int32) (upf (upf m 17 (nI (g 4))) 18 (nI (g 5))) ml := by
    intro m hm h7
    simp only [gi_l (x := (4 : Int32)) (j := 4) (n := 5) rfl (by decide) (by decide), show (4 : Int32).toNatClampNeg = 4 from by decide, hm]
    unfold mX8_land_j100
    simp only [nm_d, upf_0, Nat.reduceEqDiff, reduceIte, h7]
    rcases a4 with ⟨b1, b2⟩ | b1
    · rw [if_neg (fun q => q b1), b2]; rfl
    · rw [b1, if_pos (n_nm1 (by omega))]
  have j76 : ∀ (m : Mem) (x : Int32), m 2 = mO 2 → m 0 7 = nI (g 5) → mX8_land_j76 x m ml = mX8_land_L113 (0 : Int32) (upf (upf (upf m 16 x) 17 (nI (g 4))) 18 (nI (g 5))) ml := by
    intro m x hm h7
    unfold mX8_land_j76
    rw [nm_d]
    exact j100 (upf m 16 x) ((upf_k _ _ _ _ (by decide)).trans hm) ((upf_0 _ _ _ _).trans h7)
  unfold mX8_land_j52
  simp only [gi_l (x := (2 : Int32)) (j := 2) (n := 5) rfl (by decide) (by decide), gi_l (x := (3 : Int32)) (j := 3) (n := 5) rfl (by decide) (by decide), nm_d, show (2 : Int32).toNatClampNeg = 2 from by decide, show (3 : Int32).toNatClampNeg = 3 from by decide, k2]
  have hm : ∀ x, (upf (upf (upf mO 13 (nI (g 0))) 14 (nI (g 1))) 15 x) 2 = mO 2 := fun x => by
    rw [upf_k _ _ _ _ (by decide), upf_k _ _ _ _ (by decide), upf_k _ _ _ _ (by decide)]
  have h7 : ∀ x, (upf (upf (upf mO 13 (nI (g 0))) 14 (nI (g 1))) 15 x) 0 7 = nI (g 5) := fun x => by
    simp only [upf_0, Nat.reduceEqDiff, reduceIte, a7]
  rcases a2 with ⟨b1, b2, b3⟩ | ⟨b1, b2⟩
  · rw [if_neg (fun q => q b1), if_neg (fun q => q b1), j76 _ _ (hm _) (h7 _)]
    unfold o6
    rw [b2, b3]
    rfl
  · rw [b1, b2, if_pos (n_nm1 (by omega)), if_pos (n_nm1 (by omega)), j76 _ _ (hm _) (h7 _)]
    rfl
theorem V_land {mX mR mT mL mD mM mB mS i0 i1 i2 mO : Mem} {ml : Lem} (h : INV mX mT mL mM mB mS i0 i1 i2 mO ml) : RT (mX7_land mX mR mT mL mD mM mB mS) (mX8_land mO ml) (fun q q' => q.1 = q'.1 ∧ INV q.2.1 q.2.2.2.1 (cond q.2.2.2.2.2.2.2.2 q.2.2.2.2.1 mL) q.2.2.2.2.2.1 q.2.2.2.2.2.2.1 q.2.2.2.2.2.2.2.1 i0 i1 i2 q'.2.1 q'.2.2) := by
  obtain ⟨-, -, -, -, -, ⟨len, hT⟩, -⟩ := id h
  unfold mX7_land mX8_land
  obtain ⟨q, q', eq, eq', e1, e2, e3, e4⟩ := RT_read (mR := mR) (mL := mD) (ml := ml) hT
  rw [eq, eq', bn_s, bn_s]
  have hI := h.fr (e2.wk (by decide) (by decide)) e3 Fr.rf Fr.rf
  generalize hq1 : q.1 = x at *
  generalize hq2 : q'.1 = x' at *
  generalize hq3 : q.2.1 = r at *
  generalize hq4 : q.2.2 = d at *
  generalize hq5 : q'.2.1 = o1 at *
  generalize hq6 : q'.2.2 = l1 at *
  simp only [nm_d]
  subst e1
  by_cases hx : x = -1
  · rw [if_pos hx, if_pos hx]
    obtain ⟨g, f, t, hR, hC, hN⟩ := e4 hx
    rw [show (gi (0 : Int32) 5 (gi (1 : Int32) 5 (gi (2 : Int32) 5 (if ¬ ((upf (upf o1 13 (o1 2 (0 : Int32).toNatClampNeg)) 14 ((upf o1 13 (o1 2 (0 : Int32).toNatClampNeg)) 2 (1 : Int32).toNatClampNeg)) 2 (2 : Int32).toNatClampNeg) = (-1 : Int32) then gi (2 : Int32) 5 (mX8_land_j52 ((upf (upf o1 13 (o1 2 (0 : Int32).toNatClampNeg)) 14 ((upf o1 13 (o1 2 (0 : Int32).toNatClampNeg)) 2 (1 : Int32).toNatClampNeg)) 2 (2 : Int32).toNatClampNeg) (upf (upf o1 13 (o1 2 (0 : Int32).toNatClampNeg)) 14 ((upf o1 13 (o1 2 (0 : Int32).toNatClampNeg)) 2 (1 : Int32).toNatClampNeg)) l1) else mX8_land_j52 (16 : Int32) (upf (upf o1 13 (o1 2 (0 : Int32).toNatClampNeg)) 14 ((upf o1 13 (o1 2 (0 : Int32).toNatClampNeg)) 2 (1 : Int32).toNatClampNeg)) l1)))) = mX8_land_L113 (0 : Int32) (o6 g o1) l1 from o_head hR hN]
    unfold mX8_land_L113
    obtain ⟨-, -, -, -, n7, n10, n11, n4, n5⟩ := id hN
    obtain ⟨m1, em1, p1, p2, p3⟩ := o_land6 (mO := o6 g o1) (ml := l1)
    rw [em1, bn_s]
    simp only [nm_d]
    have f6 : Fr [] [13, 14, 15, 16, 17, 18] o1 (o6 g o1) := (((((Fr.rf.upf (by decide)).upf (by decide)).upf (by decide)).upf (by decide)).upf (by decide)).upf (by decide)
    have x10 : m1 0 10 = nI (g 6) := by rw [p3.2 10 (by decide), f6.2 10 (by decide)]; exact n10
    have x11 : (upf m1 20 (m1 0 10)) 0 11 = nI (g 7) := by rw [upf_0, if_neg (by decide), p3.2 11 (by decide), f6.2 11 (by decide)]; exact n11
    rw [x11, x10]
    unfold mX8_land_L155
    obtain ⟨m2, em2, r1, r2, r3⟩ := o_land7 (mO := upf (upf m1 20 (nI (g 6))) 21 (nI (g 7))) (ml := l1)
    rw [em2, bn_s]
    simp only [nm_d]
    have f2 : Fr [] [20, 21] m1 (upf (upf m1 20 (nI (g 6))) 21 (nI (g 7))) := (Fr.rf.upf (by decide)).upf (by decide)
    have F2 : Fr [6, 7] [13, 14, 15, 16, 17, 18, 20, 21] o1 m2 := (f6.wk (by decide) (by decide)).tr ((p3.wk (by decide) (by decide)).tr ((f2.wk (by decide) (by decide)).tr (r3.wk (by decide) (by decide))))
    have g0 : ∀ i, i ∈ [13, 14, 15, 16, 17, 18] → m2 0 i = (o6 g o1) 0 i := fun i hi => by
      have : i ≠ 21 ∧ i ≠ 20 := by
        have : i = 13 ∨ i = 14 ∨ i = 15 ∨ i = 16 ∨ i = 17 ∨ i = 18 := by simpa using hi
        omega
      rw [r3.2 i (by decide +revert), upf_0, if_neg this.1, upf_0, if_neg this.2, p3.2 i (by decide +revert)]
    have hM : LM m2 g f t := by
      refine ⟨(g0 13 (by decide)).trans rfl, (g0 14 (by decide)).trans rfl, (g0 15 (by decide)).trans rfl, (g0 16 (by decide)).trans rfl, (g0 17 (by decide)).trans rfl, (g0 18 (by decide)).trans rfl, ?_, ?_, fun s hs w hw => ?_, fun k hk w hw => ?_⟩
      · rw [r3.2 20 (by decide)]; rfl
      · rw [r3.2 21 (by decide)]; rfl
      · have n6 : g 5 ≤ 6 := hR.2.2.2.2.2.2.2.2.1
        rw [r3.1 6 (by decide) (by decide), f2.1 6 (by decide) (by decide), p1 _ (show 6 * s + w < 36 by omega), f6.1 4 (by decide) (by decide)]
        exact n4 s hs w hw
      · have n12 : g 7 ≤ 12 := hR.2.2.2.2.2.2.2.2.2.2.1
        rw [r1 _ (show 3 * k + w < 36 by omega), f2.1 5 (by decide) (by decide), p3.1 5 (by decide) (by decide), f6.1 5 (by decide) (by decide)]
        exact n5 k hk w hw
    refine RT_b (RT_begin (mM := mM) (ml := l1) hR hC hM) (fun w w' hw => ?_)
    obtain ⟨c1, c2, c3, c4, c5, c6⟩ := hw
    unfold mX4_forgetBest mX7_land_L84 mX8_land_L195
    obtain ⟨y, ey, y1, y2⟩ := c_noimg (mX := upf mX 10 1) (a := r) (b := upf mT 1 0) (c := mL) (d := d) (e := upf w 1 0) (f := upf mB 0 0) (g := upf mS 6 (-1))
    obtain ⟨z, ez, z1, z2⟩ := o_noimg (mO := upf w' 28 0) (ml := upfL l1 27 0)
    simp only [nm_d, bn_s]
    rw [ey, ez, bn_s, bn_s]
    have FF : Fr [8, 9, 10, 12] [1, 23, 28] m2 (upf z 1 0) := ((c6.wk (by decide) (by decide)).tr ((Fr.rf.upf (by decide)).tr (z2.wk (by decide) (by decide)))).upf (by decide)
    have hM2 : LM (upf z 1 0) g f t := hM.fr FF (by decide) (by decide) (by decide)
    have xk : y 0 10 = 1 := (y2.2 10 (by decide)).trans rfl
    refine RT_s ⟨?_, g, f, t, hM2, Or.inr ⟨xk, hR, hC⟩, ⟨0, by omega, rfl, rfl, fun i hi => ?_⟩, ⟨?_, ⟨0, by decide, rfl, rfl⟩, ?_⟩, ⟨0, by omega, rfl, ?_, fun i hi => absurd hi (Nat.not_lt_zero i)⟩, Or.inl rfl, Or.inl ⟨y1 0 (by decide), z1 0 (by decide)⟩, Or.inl ⟨y1 1 (by decide), z1 1 (by decide)⟩, Or.inl ⟨y1 2 (by decide), z1 2 (by decide)⟩⟩
    · show d 0 5 = (upf z 1 0) 0 18
      rw [hC.2.2.2.2.2.1]; exact hM2.2.2.2.2.2.1.symm
    · show (upf z 1 0) 1 i = mT 1 i
      rw [FF.1 1 (by decide) (by decide), F2.1 1 (by decide) (by decide), e2.1 1 (by decide) (by decide)]
      exact hT.2.2.2 i hi
    · show w 0 0 = (upf z 1 0) 0 23
      rw [c3, upf_0, if_neg (by decide), z2.2 23 (by decide), upf_0, if_neg (by decide), c4]
    · show HR (g 5) w (z 8) (z 9) (z 10)
      rw [z2.1 8 (by decide) (by decide), z2.1 9 (by decide) (by decide), z2.1 10 (by decide) (by decide)]
      exact c1
    · show z 0 28 = nI 0
      rw [z2.2 28 (by decide)]; rfl
  · rw [if_neg hx, if_neg hx]
    exact RT_s ⟨rfl, hI⟩
/-! the start -/
theorem INV_0 {mX mT mL mM mB mS i0 i1 i2 mO : Mem} {ml : Lem} (hX : ∀ k i, mX k i = 0) (hT : ∀ k i, mT k i = 0) (hM : ∀ k i, mM k i = 0) (hB : ∀ k i, mB k i = 0) (hS : mS 0 6 = -1) (hO : ∀ k i, mO k i = 0) (hl : ∀ k i, ml k i = 0) : INV mX mT mL mM mB mS i0 i1 i2 mO ml := by
  refine ⟨fun _ => 0, fun _ _ => 0, fun _ _ => 0, ⟨hO 0 13, hO 0 14, hO 0 15, hO 0 16, hO 0 17, hO 0 18, hO 0 20, hO 0 21, fun s hs => absurd hs (Nat.not_lt_zero s), fun s hs => absurd hs (Nat.not_lt_zero s)⟩, Or.inl ⟨hX 0 10, fun _ => rfl⟩, ⟨0, by omega, hT 0 1, hO 0 1, fun i _ => (hO 1 i).trans (hT 1 i).symm⟩, ⟨(hM 0 0).trans (hO 0 23).symm, ⟨0, by decide, hM 0 1, hl 0 27⟩, ⟨fun j _ => ⟨(hM 1 j).trans (hO 8 j).symm, (hM 2 j).trans (hO 9 j).symm⟩, fun j _ _ => hM 2 j, fun j _ => ⟨0, by omega, hM 6 j, hO 10 _, fun h => absurd h (by decide)⟩⟩⟩, ⟨0, by omega, hB 0 0, hO 0 28, fun i hi => absurd hi (Nat.not_lt_zero i)⟩, Or.inl hS, Or.inl ⟨hX 2 0, hO 12 0⟩, Or.inl ⟨hX 2 1, hO 12 1⟩, Or.inl ⟨hX 2 2, hO 12 2⟩⟩
