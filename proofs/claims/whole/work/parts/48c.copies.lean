/-! copying loops -/
theorem ix240 (k j : Nat) : ((240 : Int32) * nI k) + nI j = nI (240 * k + j) := by
  rw [show (240 : Int32) = nI 240 from rfl, n_mul, n_add]
theorem ix6 (k j : Nat) : ((6 : Int32) * nI k) + nI j = nI (6 * k + j) := by
  rw [show (6 : Int32) = nI 6 from rfl, n_mul, n_add]
theorem o_keep6 {mO : Mem} {ml : Lem} {v1 v2 : Int32} : HT (itr (fun q => mX8_judge_s35 v1 v2 ml q.1 q.2) FU ((0 : Int32), mO)) (fun m => (∀ i, i < 6 → m 22 (i) = mO 8 (i) ∧ m 23 (i) = mO 9 (i)) ∧ (∀ i, (i < 0 ∨ 0 + 6 ≤ i) → m 22 i = mO 22 i ∧ m 23 i = mO 23 i) ∧ Fr [22, 23] [] mO m) := by
  refine HT_itr (fun k (s : Int32 × Mem) => ∃ j, j ≤ 6 ∧ k = 6 - j ∧ s.1 = nI j ∧ (∀ i, i < j → s.2 22 (i) = mO 8 (i) ∧ s.2 23 (i) = mO 9 (i)) ∧ (∀ i, (i < 0 ∨ 0 + j ≤ i) → s.2 22 i = mO 22 i ∧ s.2 23 i = mO 23 i) ∧ Fr [22, 23] [] mO s.2) ?_ FU 6 _ ⟨0, by omega, rfl, rfl, fun i hi => absurd hi (Nat.not_lt_zero i), fun _ _ => ⟨rfl, rfl⟩, Fr.rf⟩ (FU_gt (by omega))
  rintro k ⟨s1, s2⟩ ⟨j, hj, rfl, e1, hI, hI2, hF⟩
  dsimp only at e1 hI hI2 hF
  subst e1
  show HT (mX8_judge_s35 v1 v2 ml (nI j) s2) _
  unfold mX8_judge_s35
  by_cases h : j = 6
  · subst h
    rw [if_pos (by decide)]
    exact HT_s ⟨hI, hI2, hF⟩
  · rw [if_neg (show ¬ (6 : Int32) ≤ nI j by rw [show (6 : Int32) = nI 6 from rfl, n_le (by decide) (by omega)]; omega)]
    simp only [gi_n (show j < 6 by omega) (show 6 < 2 ^ 31 by decide), gi_n (show j < 6 by omega) (show 6 < 2 ^ 31 by decide), nI_clamp (show j < 2 ^ 31 by omega), nI_clamp (show j < 2 ^ 31 by omega), nm_d, nI_s]
    refine HT_s ⟨6 - (j + 1), by omega, j + 1, by omega, rfl, rfl, fun i hi => ?_, fun i hi => ?_, (hF.upi (by decide) (by decide)).upi (by decide) (by decide)⟩
    · show upd (s2 22) (j) (s2 8 (j)) (i) = _ ∧ upd (s2 23) (j) (s2 9 (j)) (i) = _
      rw [upd_d, upd_d, hF.1 8 (by decide) (by decide), hF.1 9 (by decide) (by decide)]
      by_cases hij : i = j
      · rw [if_pos (by omega), if_pos (by omega), hij]; exact ⟨rfl, rfl⟩
      · rw [if_neg (by omega), if_neg (by omega)]; exact hI i (by omega)
    · show upd (s2 22) (j) (s2 8 (j)) i = _ ∧ upd (s2 23) (j) (s2 9 (j)) i = _
      rw [upd_d, upd_d, if_neg (by omega), if_neg (by omega)]; exact hI2 i (by omega)
theorem o_keep240 {mO : Mem} {ml : Lem} {v1 v2 : Int32} : HT (itr (fun q => mX8_judge_s73 v1 v2 ml q.1 q.2) FU ((0 : Int32), mO)) (fun m => (∀ i, i < 240 → m 24 (i) = mO 10 (i)) ∧ (∀ i, (i < 0 ∨ 0 + 240 ≤ i) → m 24 i = mO 24 i) ∧ Fr [24] [] mO m) := by
  refine HT_itr (fun k (s : Int32 × Mem) => ∃ j, j ≤ 240 ∧ k = 240 - j ∧ s.1 = nI j ∧ (∀ i, i < j → s.2 24 (i) = mO 10 (i)) ∧ (∀ i, (i < 0 ∨ 0 + j ≤ i) → s.2 24 i = mO 24 i) ∧ Fr [24] [] mO s.2) ?_ FU 240 _ ⟨0, by omega, rfl, rfl, fun i hi => absurd hi (Nat.not_lt_zero i), fun _ _ => rfl, Fr.rf⟩ (FU_gt (by omega))
  rintro k ⟨s1, s2⟩ ⟨j, hj, rfl, e1, hI, hI2, hF⟩
  dsimp only at e1 hI hI2 hF
  subst e1
  show HT (mX8_judge_s73 v1 v2 ml (nI j) s2) _
  unfold mX8_judge_s73
  by_cases h : j = 240
  · subst h
    rw [if_pos (by decide)]
    exact HT_s ⟨hI, hI2, hF⟩
  · rw [if_neg (show ¬ (240 : Int32) ≤ nI j by rw [show (240 : Int32) = nI 240 from rfl, n_le (by decide) (by omega)]; omega)]
    simp only [gi_n (show j < 240 by omega) (show 240 < 2 ^ 31 by decide), gi_n (show j < 240 by omega) (show 240 < 2 ^ 31 by decide), nI_clamp (show j < 2 ^ 31 by omega), nI_clamp (show j < 2 ^ 31 by omega), nm_d, nI_s]
    refine HT_s ⟨240 - (j + 1), by omega, j + 1, by omega, rfl, rfl, fun i hi => ?_, fun i hi => ?_, hF.upi (by decide) (by decide)⟩
    · show upd (s2 24) (j) (s2 10 (j)) (i) = _
      rw [upd_d, hF.1 10 (by decide) (by decide)]
      by_cases hij : i = j
      · rw [if_pos (by omega), hij]
      · rw [if_neg (by omega)]; exact hI i (by omega)
    · show upd (s2 24) (j) (s2 10 (j)) i = _
      rw [upd_d, if_neg (by omega)]; exact hI2 i (by omega)
theorem o_back6 {mO : Mem} {ml : Lem} {v1 v3 : Int32} : HT (itr (fun q => mX8_judge_s262 v1 v3 ml q.1 q.2) FU ((0 : Int32), mO)) (fun m => (∀ i, i < 6 → m 8 (i) = mO 22 (i) ∧ m 9 (i) = mO 23 (i)) ∧ (∀ i, (i < 0 ∨ 0 + 6 ≤ i) → m 8 i = mO 8 i ∧ m 9 i = mO 9 i) ∧ Fr [8, 9] [] mO m) := by
  refine HT_itr (fun k (s : Int32 × Mem) => ∃ j, j ≤ 6 ∧ k = 6 - j ∧ s.1 = nI j ∧ (∀ i, i < j → s.2 8 (i) = mO 22 (i) ∧ s.2 9 (i) = mO 23 (i)) ∧ (∀ i, (i < 0 ∨ 0 + j ≤ i) → s.2 8 i = mO 8 i ∧ s.2 9 i = mO 9 i) ∧ Fr [8, 9] [] mO s.2) ?_ FU 6 _ ⟨0, by omega, rfl, rfl, fun i hi => absurd hi (Nat.not_lt_zero i), fun _ _ => ⟨rfl, rfl⟩, Fr.rf⟩ (FU_gt (by omega))
  rintro k ⟨s1, s2⟩ ⟨j, hj, rfl, e1, hI, hI2, hF⟩
  dsimp only at e1 hI hI2 hF
  subst e1
  show HT (mX8_judge_s262 v1 v3 ml (nI j) s2) _
  unfold mX8_judge_s262
  by_cases h : j = 6
  · subst h
    rw [if_pos (by decide)]
    exact HT_s ⟨hI, hI2, hF⟩
  · rw [if_neg (show ¬ (6 : Int32) ≤ nI j by rw [show (6 : Int32) = nI 6 from rfl, n_le (by decide) (by omega)]; omega)]
    simp only [gi_n (show j < 6 by omega) (show 6 < 2 ^ 31 by decide), gi_n (show j < 6 by omega) (show 6 < 2 ^ 31 by decide), nI_clamp (show j < 2 ^ 31 by omega), nI_clamp (show j < 2 ^ 31 by omega), nm_d, nI_s]
    refine HT_s ⟨6 - (j + 1), by omega, j + 1, by omega, rfl, rfl, fun i hi => ?_, fun i hi => ?_, (hF.upi (by decide) (by decide)).upi (by decide) (by decide)⟩
    · show upd (s2 8) (j) (s2 22 (j)) (i) = _ ∧ upd (s2 9) (j) (s2 23 (j)) (i) = _
      rw [upd_d, upd_d, hF.1 22 (by decide) (by decide), hF.1 23 (by decide) (by decide)]
      by_cases hij : i = j
      · rw [if_pos (by omega), if_pos (by omega), hij]; exact ⟨rfl, rfl⟩
      · rw [if_neg (by omega), if_neg (by omega)]; exact hI i (by omega)
    · show upd (s2 8) (j) (s2 22 (j)) i = _ ∧ upd (s2 9) (j) (s2 23 (j)) i = _
      rw [upd_d, upd_d, if_neg (by omega), if_neg (by omega)]; exact hI2 i (by omega)
theorem o_back240 {mO : Mem} {ml : Lem} {v1 v3 : Int32} : HT (itr (fun q => mX8_judge_s306 v1 v3 ml q.1 q.2) FU ((0 : Int32), mO)) (fun m => (∀ i, i < 240 → m 10 (i) = mO 24 (i)) ∧ (∀ i, (i < 0 ∨ 0 + 240 ≤ i) → m 10 i = mO 10 i) ∧ Fr [10] [] mO m) := by
  refine HT_itr (fun k (s : Int32 × Mem) => ∃ j, j ≤ 240 ∧ k = 240 - j ∧ s.1 = nI j ∧ (∀ i, i < j → s.2 10 (i) = mO 24 (i)) ∧ (∀ i, (i < 0 ∨ 0 + j ≤ i) → s.2 10 i = mO 10 i) ∧ Fr [10] [] mO s.2) ?_ FU 240 _ ⟨0, by omega, rfl, rfl, fun i hi => absurd hi (Nat.not_lt_zero i), fun _ _ => rfl, Fr.rf⟩ (FU_gt (by omega))
  rintro k ⟨s1, s2⟩ ⟨j, hj, rfl, e1, hI, hI2, hF⟩
  dsimp only at e1 hI hI2 hF
  subst e1
  show HT (mX8_judge_s306 v1 v3 ml (nI j) s2) _
  unfold mX8_judge_s306
  by_cases h : j = 240
  · subst h
    rw [if_pos (by decide)]
    exact HT_s ⟨hI, hI2, hF⟩
  · rw [if_neg (show ¬ (240 : Int32) ≤ nI j by rw [show (240 : Int32) = nI 240 from rfl, n_le (by decide) (by omega)]; omega)]
    simp only [gi_n (show j < 240 by omega) (show 240 < 2 ^ 31 by decide), gi_n (show j < 240 by omega) (show 240 < 2 ^ 31 by decide), nI_clamp (show j < 2 ^ 31 by omega), nI_clamp (show j < 2 ^ 31 by omega), nm_d, nI_s]
    refine HT_s ⟨240 - (j + 1), by omega, j + 1, by omega, rfl, rfl, fun i hi => ?_, fun i hi => ?_, hF.upi (by decide) (by decide)⟩
    · show upd (s2 10) (j) (s2 24 (j)) (i) = _
      rw [upd_d, hF.1 24 (by decide) (by decide)]
      by_cases hij : i = j
      · rw [if_pos (by omega), hij]
      · rw [if_neg (by omega)]; exact hI i (by omega)
    · show upd (s2 10) (j) (s2 24 (j)) i = _
      rw [upd_d, if_neg (by omega)]; exact hI2 i (by omega)
theorem o_land6 {mO : Mem} {ml : Lem} : HT (itr (fun q => mX8_land_s113 ml q.1 q.2) FU ((0 : Int32), mO)) (fun m => (∀ i, i < 36 → m 6 (i) = mO 4 (i)) ∧ (∀ i, (i < 0 ∨ 0 + 36 ≤ i) → m 6 i = mO 6 i) ∧ Fr [6] [] mO m) := by
  refine HT_itr (fun k (s : Int32 × Mem) => ∃ j, j ≤ 36 ∧ k = 36 - j ∧ s.1 = nI j ∧ (∀ i, i < j → s.2 6 (i) = mO 4 (i)) ∧ (∀ i, (i < 0 ∨ 0 + j ≤ i) → s.2 6 i = mO 6 i) ∧ Fr [6] [] mO s.2) ?_ FU 36 _ ⟨0, by omega, rfl, rfl, fun i hi => absurd hi (Nat.not_lt_zero i), fun _ _ => rfl, Fr.rf⟩ (FU_gt (by omega))
  rintro k ⟨s1, s2⟩ ⟨j, hj, rfl, e1, hI, hI2, hF⟩
  dsimp only at e1 hI hI2 hF
  subst e1
  show HT (mX8_land_s113 ml (nI j) s2) _
  unfold mX8_land_s113
  by_cases h : j = 36
  · subst h
    rw [if_pos (by decide)]
    exact HT_s ⟨hI, hI2, hF⟩
  · rw [if_neg (show ¬ (36 : Int32) ≤ nI j by rw [show (36 : Int32) = nI 36 from rfl, n_le (by decide) (by omega)]; omega)]
    simp only [gi_n (show j < 36 by omega) (show 36 < 2 ^ 31 by decide), gi_n (show j < 36 by omega) (show 36 < 2 ^ 31 by decide), nI_clamp (show j < 2 ^ 31 by omega), nI_clamp (show j < 2 ^ 31 by omega), nm_d, nI_s]
    refine HT_s ⟨36 - (j + 1), by omega, j + 1, by omega, rfl, rfl, fun i hi => ?_, fun i hi => ?_, hF.upi (by decide) (by decide)⟩
    · show upd (s2 6) (j) (s2 4 (j)) (i) = _
      rw [upd_d, hF.1 4 (by decide) (by decide)]
      by_cases hij : i = j
      · rw [if_pos (by omega), hij]
      · rw [if_neg (by omega)]; exact hI i (by omega)
    · show upd (s2 6) (j) (s2 4 (j)) i = _
      rw [upd_d, if_neg (by omega)]; exact hI2 i (by omega)
theorem o_land7 {mO : Mem} {ml : Lem} : HT (itr (fun q => mX8_land_s155 ml q.1 q.2) FU ((0 : Int32), mO)) (fun m => (∀ i, i < 36 → m 7 (i) = mO 5 (i)) ∧ (∀ i, (i < 0 ∨ 0 + 36 ≤ i) → m 7 i = mO 7 i) ∧ Fr [7] [] mO m) := by
  refine HT_itr (fun k (s : Int32 × Mem) => ∃ j, j ≤ 36 ∧ k = 36 - j ∧ s.1 = nI j ∧ (∀ i, i < j → s.2 7 (i) = mO 5 (i)) ∧ (∀ i, (i < 0 ∨ 0 + j ≤ i) → s.2 7 i = mO 7 i) ∧ Fr [7] [] mO s.2) ?_ FU 36 _ ⟨0, by omega, rfl, rfl, fun i hi => absurd hi (Nat.not_lt_zero i), fun _ _ => rfl, Fr.rf⟩ (FU_gt (by omega))
  rintro k ⟨s1, s2⟩ ⟨j, hj, rfl, e1, hI, hI2, hF⟩
  dsimp only at e1 hI hI2 hF
  subst e1
  show HT (mX8_land_s155 ml (nI j) s2) _
  unfold mX8_land_s155
  by_cases h : j = 36
  · subst h
    rw [if_pos (by decide)]
    exact HT_s ⟨hI, hI2, hF⟩
  · rw [if_neg (show ¬ (36 : Int32) ≤ nI j by rw [show (36 : Int32) = nI 36 from rfl, n_le (by decide) (by omega)]; omega)]
    simp only [gi_n (show j < 36 by omega) (show 36 < 2 ^ 31 by decide), gi_n (show j < 36 by omega) (show 36 < 2 ^ 31 by decide), nI_clamp (show j < 2 ^ 31 by omega), nI_clamp (show j < 2 ^ 31 by omega), nm_d, nI_s]
    refine HT_s ⟨36 - (j + 1), by omega, j + 1, by omega, rfl, rfl, fun i hi => ?_, fun i hi => ?_, hF.upi (by decide) (by decide)⟩
    · show upd (s2 7) (j) (s2 5 (j)) (i) = _
      rw [upd_d, hF.1 5 (by decide) (by decide)]
      by_cases hij : i = j
      · rw [if_pos (by omega), hij]
      · rw [if_neg (by omega)]; exact hI i (by omega)
    · show upd (s2 7) (j) (s2 5 (j)) i = _
      rw [upd_d, if_neg (by omega)]; exact hI2 i (by omega)
theorem o_im6 {mO : Mem} {ml : Lem} {k0 : Nat} (hk : k0 < 3) : HT (itr (fun q => mX8_image_s47 (nI k0) ml q.1 q.2) FU ((0 : Int32), mO)) (fun m => (∀ i, i < 6 → m 14 (6 * k0 + i) = mO 8 (i) ∧ m 15 (6 * k0 + i) = mO 9 (i)) ∧ (∀ i, (i < 6 * k0 ∨ 6 * k0 + 6 ≤ i) → m 14 i = mO 14 i ∧ m 15 i = mO 15 i) ∧ Fr [14, 15] [] mO m) := by
  refine HT_itr (fun k (s : Int32 × Mem) => ∃ j, j ≤ 6 ∧ k = 6 - j ∧ s.1 = nI j ∧ (∀ i, i < j → s.2 14 (6 * k0 + i) = mO 8 (i) ∧ s.2 15 (6 * k0 + i) = mO 9 (i)) ∧ (∀ i, (i < 6 * k0 ∨ 6 * k0 + j ≤ i) → s.2 14 i = mO 14 i ∧ s.2 15 i = mO 15 i) ∧ Fr [14, 15] [] mO s.2) ?_ FU 6 _ ⟨0, by omega, rfl, rfl, fun i hi => absurd hi (Nat.not_lt_zero i), fun _ _ => ⟨rfl, rfl⟩, Fr.rf⟩ (FU_gt (by omega))
  rintro k ⟨s1, s2⟩ ⟨j, hj, rfl, e1, hI, hI2, hF⟩
  dsimp only at e1 hI hI2 hF
  subst e1
  show HT (mX8_image_s47 (nI k0) ml (nI j) s2) _
  unfold mX8_image_s47
  by_cases h : j = 6
  · subst h
    rw [if_pos (by decide)]
    exact HT_s ⟨hI, hI2, hF⟩
  · rw [if_neg (show ¬ (6 : Int32) ≤ nI j by rw [show (6 : Int32) = nI 6 from rfl, n_le (by decide) (by omega)]; omega)]
    simp only [ix6, gi_n (show 6 * k0 + j < 18 by omega) (show 18 < 2 ^ 31 by decide), gi_n (show j < 6 by omega) (show 6 < 2 ^ 31 by decide), nI_clamp (show 6 * k0 + j < 2 ^ 31 by omega), nI_clamp (show j < 2 ^ 31 by omega), nm_d, nI_s]
    refine HT_s ⟨6 - (j + 1), by omega, j + 1, by omega, rfl, rfl, fun i hi => ?_, fun i hi => ?_, (hF.upi (by decide) (by decide)).upi (by decide) (by decide)⟩
    · show upd (s2 14) (6 * k0 + j) (s2 8 (j)) (6 * k0 + i) = _ ∧ upd (s2 15) (6 * k0 + j) (s2 9 (j)) (6 * k0 + i) = _
      rw [upd_d, upd_d, hF.1 8 (by decide) (by decide), hF.1 9 (by decide) (by decide)]
      by_cases hij : i = j
      · rw [if_pos (by omega), if_pos (by omega), hij]; exact ⟨rfl, rfl⟩
      · rw [if_neg (by omega), if_neg (by omega)]; exact hI i (by omega)
    · show upd (s2 14) (6 * k0 + j) (s2 8 (j)) i = _ ∧ upd (s2 15) (6 * k0 + j) (s2 9 (j)) i = _
      rw [upd_d, upd_d, if_neg (by omega), if_neg (by omega)]; exact hI2 i (by omega)
theorem o_im240 {mO : Mem} {ml : Lem} {k0 : Nat} (hk : k0 < 3) : HT (itr (fun q => mX8_image_s95 (nI k0) ml q.1 q.2) FU ((0 : Int32), mO)) (fun m => (∀ i, i < 240 → m 16 (240 * k0 + i) = mO 10 (i)) ∧ (∀ i, (i < 240 * k0 ∨ 240 * k0 + 240 ≤ i) → m 16 i = mO 16 i) ∧ Fr [16] [] mO m) := by
  refine HT_itr (fun k (s : Int32 × Mem) => ∃ j, j ≤ 240 ∧ k = 240 - j ∧ s.1 = nI j ∧ (∀ i, i < j → s.2 16 (240 * k0 + i) = mO 10 (i)) ∧ (∀ i, (i < 240 * k0 ∨ 240 * k0 + j ≤ i) → s.2 16 i = mO 16 i) ∧ Fr [16] [] mO s.2) ?_ FU 240 _ ⟨0, by omega, rfl, rfl, fun i hi => absurd hi (Nat.not_lt_zero i), fun _ _ => rfl, Fr.rf⟩ (FU_gt (by omega))
  rintro k ⟨s1, s2⟩ ⟨j, hj, rfl, e1, hI, hI2, hF⟩
  dsimp only at e1 hI hI2 hF
  subst e1
  show HT (mX8_image_s95 (nI k0) ml (nI j) s2) _
  unfold mX8_image_s95
  by_cases h : j = 240
  · subst h
    rw [if_pos (by decide)]
    exact HT_s ⟨hI, hI2, hF⟩
  · rw [if_neg (show ¬ (240 : Int32) ≤ nI j by rw [show (240 : Int32) = nI 240 from rfl, n_le (by decide) (by omega)]; omega)]
    simp only [ix240, gi_n (show 240 * k0 + j < 720 by omega) (show 720 < 2 ^ 31 by decide), gi_n (show j < 240 by omega) (show 240 < 2 ^ 31 by decide), nI_clamp (show 240 * k0 + j < 2 ^ 31 by omega), nI_clamp (show j < 2 ^ 31 by omega), nm_d, nI_s]
    refine HT_s ⟨240 - (j + 1), by omega, j + 1, by omega, rfl, rfl, fun i hi => ?_, fun i hi => ?_, hF.upi (by decide) (by decide)⟩
    · show upd (s2 16) (240 * k0 + j) (s2 10 (j)) (240 * k0 + i) = _
      rw [upd_d, hF.1 10 (by decide) (by decide)]
      by_cases hij : i = j
      · rw [if_pos (by omega), hij]
      · rw [if_neg (by omega)]; exact hI i (by omega)
    · show upd (s2 16) (240 * k0 + j) (s2 10 (j)) i = _
      rw [upd_d, if_neg (by omega)]; exact hI2 i (by omega)
theorem o_on6 {mO : Mem} {ml : Lem} {k0 : Nat} (hk : k0 < 3) : HT (itr (fun q => mX8_on_s42 (nI k0) ml q.1 q.2) FU ((0 : Int32), mO)) (fun m => (∀ i, i < 6 → m 8 (i) = mO 14 (6 * k0 + i) ∧ m 9 (i) = mO 15 (6 * k0 + i)) ∧ (∀ i, (i < 0 ∨ 0 + 6 ≤ i) → m 8 i = mO 8 i ∧ m 9 i = mO 9 i) ∧ Fr [8, 9] [] mO m) := by
  refine HT_itr (fun k (s : Int32 × Mem) => ∃ j, j ≤ 6 ∧ k = 6 - j ∧ s.1 = nI j ∧ (∀ i, i < j → s.2 8 (i) = mO 14 (6 * k0 + i) ∧ s.2 9 (i) = mO 15 (6 * k0 + i)) ∧ (∀ i, (i < 0 ∨ 0 + j ≤ i) → s.2 8 i = mO 8 i ∧ s.2 9 i = mO 9 i) ∧ Fr [8, 9] [] mO s.2) ?_ FU 6 _ ⟨0, by omega, rfl, rfl, fun i hi => absurd hi (Nat.not_lt_zero i), fun _ _ => ⟨rfl, rfl⟩, Fr.rf⟩ (FU_gt (by omega))
  rintro k ⟨s1, s2⟩ ⟨j, hj, rfl, e1, hI, hI2, hF⟩
  dsimp only at e1 hI hI2 hF
  subst e1
  show HT (mX8_on_s42 (nI k0) ml (nI j) s2) _
  unfold mX8_on_s42
  by_cases h : j = 6
  · subst h
    rw [if_pos (by decide)]
    exact HT_s ⟨hI, hI2, hF⟩
  · rw [if_neg (show ¬ (6 : Int32) ≤ nI j by rw [show (6 : Int32) = nI 6 from rfl, n_le (by decide) (by omega)]; omega)]
    simp only [ix6, gi_n (show j < 6 by omega) (show 6 < 2 ^ 31 by decide), gi_n (show 6 * k0 + j < 18 by omega) (show 18 < 2 ^ 31 by decide), nI_clamp (show j < 2 ^ 31 by omega), nI_clamp (show 6 * k0 + j < 2 ^ 31 by omega), nm_d, nI_s]
    refine HT_s ⟨6 - (j + 1), by omega, j + 1, by omega, rfl, rfl, fun i hi => ?_, fun i hi => ?_, (hF.upi (by decide) (by decide)).upi (by decide) (by decide)⟩
    · show upd (s2 8) (j) (s2 14 (6 * k0 + j)) (i) = _ ∧ upd (s2 9) (j) (s2 15 (6 * k0 + j)) (i) = _
      rw [upd_d, upd_d, hF.1 14 (by decide) (by decide), hF.1 15 (by decide) (by decide)]
      by_cases hij : i = j
      · rw [if_pos (by omega), if_pos (by omega), hij]; exact ⟨rfl, rfl⟩
      · rw [if_neg (by omega), if_neg (by omega)]; exact hI i (by omega)
    · show upd (s2 8) (j) (s2 14 (6 * k0 + j)) i = _ ∧ upd (s2 9) (j) (s2 15 (6 * k0 + j)) i = _
      rw [upd_d, upd_d, if_neg (by omega), if_neg (by omega)]; exact hI2 i (by omega)
theorem o_on240 {mO : Mem} {ml : Lem} {k0 : Nat} (hk : k0 < 3) : HT (itr (fun q => mX8_on_s90 (nI k0) ml q.1 q.2) FU ((0 : Int32), mO)) (fun m => (∀ i, i < 240 → m 10 (i) = mO 16 (240 * k0 + i)) ∧ (∀ i, (i < 0 ∨ 0 + 240 ≤ i) → m 10 i = mO 10 i) ∧ Fr [10] [] mO m) := by
  refine HT_itr (fun k (s : Int32 × Mem) => ∃ j, j ≤ 240 ∧ k = 240 - j ∧ s.1 = nI j ∧ (∀ i, i < j → s.2 10 (i) = mO 16 (240 * k0 + i)) ∧ (∀ i, (i < 0 ∨ 0 + j ≤ i) → s.2 10 i = mO 10 i) ∧ Fr [10] [] mO s.2) ?_ FU 240 _ ⟨0, by omega, rfl, rfl, fun i hi => absurd hi (Nat.not_lt_zero i), fun _ _ => rfl, Fr.rf⟩ (FU_gt (by omega))
  rintro k ⟨s1, s2⟩ ⟨j, hj, rfl, e1, hI, hI2, hF⟩
  dsimp only at e1 hI hI2 hF
  subst e1
  show HT (mX8_on_s90 (nI k0) ml (nI j) s2) _
  unfold mX8_on_s90
  by_cases h : j = 240
  · subst h
    rw [if_pos (by decide)]
    exact HT_s ⟨hI, hI2, hF⟩
  · rw [if_neg (show ¬ (240 : Int32) ≤ nI j by rw [show (240 : Int32) = nI 240 from rfl, n_le (by decide) (by omega)]; omega)]
    simp only [ix240, gi_n (show j < 240 by omega) (show 240 < 2 ^ 31 by decide), gi_n (show 240 * k0 + j < 720 by omega) (show 720 < 2 ^ 31 by decide), nI_clamp (show j < 2 ^ 31 by omega), nI_clamp (show 240 * k0 + j < 2 ^ 31 by omega), nm_d, nI_s]
    refine HT_s ⟨240 - (j + 1), by omega, j + 1, by omega, rfl, rfl, fun i hi => ?_, fun i hi => ?_, hF.upi (by decide) (by decide)⟩
    · show upd (s2 10) (j) (s2 16 (240 * k0 + j)) (i) = _
      rw [upd_d, hF.1 16 (by decide) (by decide)]
      by_cases hij : i = j
      · rw [if_pos (by omega), hij]
      · rw [if_neg (by omega)]; exact hI i (by omega)
    · show upd (s2 10) (j) (s2 16 (240 * k0 + j)) i = _
      rw [upd_d, if_neg (by omega)]; exact hI2 i (by omega)
