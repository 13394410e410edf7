/-! the fewest words -/
def pcn (x : Int32) : Nat → Int32
  | 0 => 0
  | k + 1 => pcn x k + ((x >>> (nI k &&& 31)) &&& (1 : Int32))
theorem o_ones (x : Int32) : mX8_ones x = some (pcn x 5) := by
  have hit := itr_run (B := fun q : Int32 × Int32 => mX8_ones_s4 x q.1 q.2) (fun j => (pcn x j, nI j)) (r := pcn x 5) (n := 5) (fun j hj => by
      show mX8_ones_s4 x (pcn x j) (nI j) = some (Sum.inl (pcn x (j + 1), nI (j + 1)))
      unfold mX8_ones_s4
      rw [if_neg (by rw [show (5 : Int32) = nI 5 from rfl, n_le (by decide) (by omega)]; omega), nm_d, nI_s, nm_d]
      rfl) (by
      show mX8_ones_s4 x (pcn x 5) (nI 5) = _
      unfold mX8_ones_s4
      rw [if_pos (by decide)]) 0 FU (Nat.zero_le _) (FU_gt (by omega))
  unfold mX8_ones mX8_ones_L4
  rw [show ((0 : Int32), (0 : Int32)) = (pcn x 0, nI 0) from rfl, hit, bn_s, nm_d]
theorem c_ones : ∀ n, n < 32 → mJ6_bitCount_0f7a4 (nI n) = some (pcn (nI n) 5) := by decide +kernel
theorem m1_bv : ((-1 : Int32)).toBitVec = BitVec.allOnes 32 := by decide
theorem msk (x s h : Int32) : x &&& ((s &&& (h ^^^ (-1 : Int32))) ^^^ (-1 : Int32)) = (x &&& (s ^^^ (-1 : Int32))) ||| (x &&& h) := by
  apply Int32.toBitVec_inj.1
  rw [Int32.toBitVec_and, Int32.toBitVec_xor, Int32.toBitVec_and, Int32.toBitVec_xor, Int32.toBitVec_or, Int32.toBitVec_and, Int32.toBitVec_and, Int32.toBitVec_xor, m1_bv]
  apply BitVec.eq_of_getLsbD_eq
  intro i hi
  simp only [BitVec.getLsbD_and, BitVec.getLsbD_xor, BitVec.getLsbD_or, BitVec.getLsbD_allOnes, hi, decide_true]
  cases x.toBitVec.getLsbD i <;> cases s.toBitVec.getLsbD i <;> cases h.toBitVec.getLsbD i <;> rfl
theorem or_0 (a b : Int32) : a ||| b = 0 ↔ a = 0 ∧ b = 0 := by
  constructor
  · intro h
    have h1 : (a ||| b).toBitVec = 0#32 := by rw [h]; rfl
    rw [Int32.toBitVec_or, BitVec.or_eq_zero_iff] at h1
    exact ⟨Int32.toBitVec_inj.1 (h1.1.trans rfl), Int32.toBitVec_inj.1 (h1.2.trans rfl)⟩
  · rintro ⟨rfl, rfl⟩; decide
def badW (sp : Int32) (W : Nat → Nat) (cost k : Nat) : Prop := spb sp k = false ∧ W k < 1000000 ∧ W k / 100 ≤ cost
theorem c_has {mY mO : Mem} {n : Nat} {t : Nat → Nat → Nat} {sp : Int32} {W : Nat → Nat} (h : WF sp n t mY mO W) {cost : Nat} (hc : cost ≤ 2000) : HT (mX6_hasWayWithin mY sp (nI cost)) (fun v => (v = 1 ∧ ∃ k, k < 5 ∧ badW sp W cost k) ∨ (v = 0 ∧ ∀ k, k < 5 → ¬ badW sp W cost k)) := by
  unfold mX6_hasWayWithin mX6_hasWayWithin_L2
  refine HT_b (Q := fun o : Unit ⊕ Unit => (o = Sum.inl () ∧ ∃ k, k < 5 ∧ badW sp W cost k) ∨ (o = Sum.inr () ∧ ∀ k, k < 5 → ¬ badW sp W cost k)) (HT_itr (fun k (s : Int32) => ∃ j, j ≤ 5 ∧ k = 5 - j ∧ s = nI j ∧ ∀ k, k < j → ¬ badW sp W cost k) ?_ FU 5 _ ⟨0, by omega, rfl, rfl, fun i hi => absurd hi (Nat.not_lt_zero i)⟩ (FU_gt (by omega))) (fun o ho => ?_)
  · rintro k s ⟨j, hj, rfl, rfl, hI⟩
    show HT (mX6_hasWayWithin_s2 sp (nI cost) mY (nI j)) _
    unfold mX6_hasWayWithin_s2
    by_cases h5 : j = 5
    · subst h5
      rw [if_pos (by decide)]
      exact HT_s (Or.inr ⟨rfl, hI⟩)
    · have hlt : j < 5 := by omega
      have next : ¬ badW sp W cost j → HT (some (Sum.inl (nI (j + 1))) : Option (Int32 ⊕ (Unit ⊕ Unit))) (fun o => Sum.elim (fun s' => ∃ n', n' < 5 - j ∧ ∃ j', j' ≤ 5 ∧ n' = 5 - j' ∧ s' = nI j' ∧ ∀ k, k < j' → ¬ badW sp W cost k) (fun o : Unit ⊕ Unit => (o = Sum.inl () ∧ ∃ k, k < 5 ∧ badW sp W cost k) ∨ (o = Sum.inr () ∧ ∀ k, k < 5 → ¬ badW sp W cost k)) o) := by
        intro hb
        refine HT_s ⟨5 - (j + 1), by omega, j + 1, by omega, rfl, rfl, fun k hk => ?_⟩
        by_cases hkj : k = j
        · rw [hkj]; exact hb
        · exact hI k (by omega)
      rw [if_neg (by rw [show (5 : Int32) = nI 5 from rfl, n_le (by decide) (by omega)]; omega)]
      simp only [gi_n hlt (show 5 < 2 ^ 31 by decide), nI_clamp (show j < 2 ^ 31 by omega), nm_d, nI_s]
      cases hs : spb sp j with
      | true =>
        rw [if_pos (by rw [spb_t hs]; decide)]
        exact next (fun q => absurd (hs.symm.trans q.1) (by decide))
      | false =>
        rw [if_neg (by rw [spb_f hs]; decide)]
        rcases h.1.at hlt with ⟨a, b, -⟩ | ⟨c, l, a1, a2, a3, a4, a5, a6, a7⟩
        · rw [if_pos a]
          exact next (fun q => absurd q.2.1 (by omega))
        · rw [a3, if_neg (n_nm1 (by omega))]
          by_cases h1 : cost < c
          · rw [if_pos (by rw [n_lt (by omega) (by omega)]; exact h1)]
            exact next (fun q => by have := q.2.2; omega)
          · rw [if_neg (by rw [n_lt (by omega) (by omega)]; exact h1)]
            exact HT_s (Or.inl ⟨rfl, j, hlt, hs, by omega, by omega⟩)
  · rcases ho with ⟨rfl, h1⟩ | ⟨rfl, h1⟩
    · exact HT_s (Or.inl ⟨rfl, h1⟩)
    · exact HT_s (Or.inr ⟨rfl, h1⟩)
theorem o_has {mY mO : Mem} {ml : Lem} {n : Nat} {t : Nat → Nat → Nat} {sp : Int32} {W : Nat → Nat} (h : WF sp n t mY mO W) {cost : Nat} (hc : cost ≤ 2000) (v1 v3 v4 : Int32) (hsp : (mO 0 20) &&& (v4 ^^^ (-1 : Int32)) = sp) : HT (itr (fun q => mX8_words_s100 v1 (nI cost) v3 v4 mO ml q.1 q.2) FU ((1 : Int32), (0 : Int32))) (fun v => (v = 0 ∧ ∃ k, k < 5 ∧ badW sp W cost k) ∨ (v = 1 ∧ ∀ k, k < 5 → ¬ badW sp W cost k)) := by
  refine HT_itr (fun k (s : Int32 × Int32) => ∃ j, j ≤ 5 ∧ k = 5 - j ∧ s.2 = nI j ∧ ((s.1 = 0 ∧ ∃ k, k < 5 ∧ badW sp W cost k) ∨ (s.1 = 1 ∧ ∀ k, k < j → ¬ badW sp W cost k))) ?_ FU 5 _ ⟨0, by omega, rfl, rfl, Or.inr ⟨rfl, fun i hi => absurd hi (Nat.not_lt_zero i)⟩⟩ (FU_gt (by omega))
  rintro k ⟨s1, s2⟩ ⟨j, hj, rfl, e2, hI⟩
  dsimp only at e2 hI
  subst e2
  show HT (mX8_words_s100 v1 (nI cost) v3 v4 mO ml s1 (nI j)) _
  unfold mX8_words_s100 mX8_words_j166 mX8_words_j152 mX8_words_j157 mX8_words_j166 mX8_words_j167
  rw [hsp]
  by_cases h5 : j = 5
  · subst h5
    rw [if_pos (by decide)]
    exact HT_s hI
  · have hlt : j < 5 := by omega
    rw [if_neg (by rw [show (5 : Int32) = nI 5 from rfl, n_le (by decide) (by omega)]; omega)]
    simp only [gi_n hlt (show 5 < 2 ^ 31 by decide), nI_clamp (show j < 2 ^ 31 by omega), nm_d, nI_s]
    rcases hI with ⟨rfl, hb⟩ | ⟨rfl, hb⟩
    · rw [if_pos rfl]
      exact HT_s ⟨5 - (j + 1), by omega, j + 1, by omega, rfl, rfl, Or.inl ⟨rfl, hb⟩⟩
    · rw [if_neg (show ¬ (1 : Int32) = 0 by decide)]
      have next : ¬ badW sp W cost j → HT (some (Sum.inl ((1 : Int32), nI (j + 1))) : Option ((Int32 × Int32) ⊕ Int32)) (fun o => Sum.elim (fun s' : Int32 × Int32 => ∃ n', n' < 5 - j ∧ ∃ j', j' ≤ 5 ∧ n' = 5 - j' ∧ s'.2 = nI j' ∧ ((s'.1 = 0 ∧ ∃ k, k < 5 ∧ badW sp W cost k) ∨ (s'.1 = 1 ∧ ∀ k, k < j' → ¬ badW sp W cost k))) (fun v : Int32 => (v = 0 ∧ ∃ k, k < 5 ∧ badW sp W cost k) ∨ (v = 1 ∧ ∀ k, k < 5 → ¬ badW sp W cost k)) o) := by
        intro hbj
        refine HT_s ⟨5 - (j + 1), by omega, j + 1, by omega, rfl, rfl, Or.inr ⟨rfl, fun k hk => ?_⟩⟩
        by_cases hkj : k = j
        · rw [hkj]; exact hbj
        · exact hb k (by omega)
      have hWj : W j ≤ 1000000 := by
        rcases h.1.at hlt with ⟨a, b, -⟩ | ⟨c, l, a1, a2, a3, a4, a5, a6, a7⟩ <;> omega
      have or1 : ∀ x : Int32, x = 0 ∨ x = 1 → x ||| (1 : Int32) = 1 ∧ x ||| (0 : Int32) = x := by
        rintro x (rfl | rfl) <;> decide
      obtain ⟨q1, q2⟩ := or1 _ (bit01 (sp >>> (nI j &&& 31)))
      rw [(h.1 j hlt).1, q1, q2, if_neg (show ¬ ¬ (1 : Int32) = 1 by decide)]
      by_cases h1 : 1000000 ≤ W j
      · rw [if_pos (by rw [show (1000000 : Int32) = nI 1000000 from rfl, n_le (by decide) (by omega)]; exact h1)]
        exact next (fun q => absurd q.2.1 (by omega))
      · rw [if_neg (by rw [show (1000000 : Int32) = nI 1000000 from rfl, n_le (by decide) (by omega)]; exact h1), show (100 : Int32) = nI 100 from rfl, pk_div (by omega) (by decide) (by decide)]
        by_cases h2 : W j / 100 ≤ cost
        · rw [if_pos (by rw [n_le (by omega) (by omega)]; exact h2)]
          cases hs : spb sp j with
          | true =>
            rw [if_neg (fun q => q (spb_t hs))]
            exact next (fun q => absurd (hs.symm.trans q.1) (by decide))
          | false =>
            rw [if_pos (by rw [spb_f hs]; decide)]
            exact HT_s ⟨5 - (j + 1), by omega, j + 1, by omega, rfl, rfl, Or.inl ⟨rfl, j, hlt, hs, by omega, h2⟩⟩
        · rw [if_neg (by rw [n_le (by omega) (by omega)]; exact h2)]
          exact next (fun q => h2 q.2.2)
theorem RT_words {mL mY mO : Mem} {ml : Lem} {g : Nat → Nat} {f t : Nat → Nat → Nat} (hR : LR g f t) (hC : LC mL g f t) (hM : LM mO g f t) (hon : Int32) {cost : Nat} (hc : cost ≤ 2000) : RT (mX6_fewestWords mY mL hon (nI cost)) (mX8_words_L35 hon (nI cost) (-1 : Int32) (0 : Int32) mO ml) (fun q q' => q.1 = q'.1 ∧ Fr [1, 2] [] mY q.2 ∧ Fr [25] [] mO q'.2) := by
  unfold mX6_fewestWords mX6_fewestWords_L16 mX8_words_L35
  simp only [nm_d]
  refine RT_b (Q := fun (q q' : Int32 × Mem) => q.1 = q'.1 ∧ Fr [1, 2] [] mY q.2 ∧ Fr [25] [] mO q'.2) (RT_itr (fun k (s t : Int32 × Int32 × Mem) => ∃ j, j ≤ 32 ∧ k = 32 - j ∧ s.2.1 = nI j ∧ t.2.1 = nI j ∧ s.1 = t.1 ∧ (s.1 = -1 ∨ ∃ m, m < 32 ∧ s.1 = nI m) ∧ Fr [1, 2] [] mY s.2.2 ∧ Fr [25] [] mO t.2.2) ?_ FU 32 _ _ ⟨0, by omega, rfl, rfl, rfl, rfl, Or.inl rfl, Fr.rf, Fr.rf⟩ (FU_gt (by omega))) (fun a b hab => RT_s hab)
  rintro k ⟨s1, s2, s3⟩ ⟨t1, t2, t3⟩ ⟨j, hj, rfl, e1, e2, e3, hv, hF, hF'⟩
  dsimp only at e1 e2 e3 hv hF hF'
  subst e1; subst e2; subst e3
  show RT (mX6_fewestWords_s16 (nI cost) ((mL 0 12) &&& (hon ^^^ (-1 : Int32))) mL s1 (nI j) s3) (mX8_words_s35 hon (nI cost) ml s1 (nI j) t3) _
  unfold mX6_fewestWords_s16 mX8_words_s35 mX6_fewestWords_j42
  have hM2 := hM.fr hF' (by decide) (by decide) (by decide)
  by_cases h32 : j = 32
  · subst h32
    rw [if_pos (by decide), if_pos (by decide)]
    exact RT_s ⟨rfl, hF, hF'⟩
  · have hlt : j < 32 := by omega
    have hn : ¬ (32 : Int32) ≤ nI j := by rw [show (32 : Int32) = nI 32 from rfl, n_le (by decide) (by omega)]; omega
    rw [if_neg hn, if_neg hn]
    have skip : RT (some (Sum.inl (s1, nI (j + 1), s3)) : Option ((Int32 × Int32 × Mem) ⊕ (Int32 × Mem))) (some (Sum.inl (s1, nI (j + 1), t3)) : Option ((Int32 × Int32 × Mem) ⊕ (Int32 × Mem))) (LK (fun (s t : Int32 × Int32 × Mem) => ∃ n', n' < 32 - j ∧ ∃ j', j' ≤ 32 ∧ n' = 32 - j' ∧ s.2.1 = nI j' ∧ t.2.1 = nI j' ∧ s.1 = t.1 ∧ (s.1 = -1 ∨ ∃ m, m < 32 ∧ s.1 = nI m) ∧ Fr [1, 2] [] mY s.2.2 ∧ Fr [25] [] mO t.2.2) (fun (q q' : Int32 × Mem) => q.1 = q'.1 ∧ Fr [1, 2] [] mY q.2 ∧ Fr [25] [] mO q'.2)) :=
      RT_s ⟨32 - (j + 1), by omega, j + 1, by omega, rfl, rfl, rfl, rfl, hv, hF, hF'⟩
    have skipC : mX6_fewestWords_j47 (nI cost) ((mL 0 12) &&& (hon ^^^ (-1 : Int32))) s1 (nI j) (0 : Int32) s3 mL = some (Sum.inl (s1, nI (j + 1), s3)) := by
      unfold mX6_fewestWords_j47
      rw [if_pos rfl, nm_d, nI_s]
    have try2 : nI j &&& (nI (g 6) ^^^ (-1 : Int32)) = 0 → nI j &&& hon = 0 → RT (mX6_fewestWords_j47 (nI cost) ((mL 0 12) &&& (hon ^^^ (-1 : Int32))) s1 (nI j) (1 : Int32) s3 mL) (mX8_words_j81 hon (nI cost) s1 (nI j) t3 ml) (LK (fun (s t : Int32 × Int32 × Mem) => ∃ n', n' < 32 - j ∧ ∃ j', j' ≤ 32 ∧ n' = 32 - j' ∧ s.2.1 = nI j' ∧ t.2.1 = nI j' ∧ s.1 = t.1 ∧ (s.1 = -1 ∨ ∃ m, m < 32 ∧ s.1 = nI m) ∧ Fr [1, 2] [] mY s.2.2 ∧ Fr [25] [] mO t.2.2) (fun (q q' : Int32 × Mem) => q.1 = q'.1 ∧ Fr [1, 2] [] mY q.2 ∧ Fr [25] [] mO q'.2)) := by
      intro k1 k2
      unfold mX6_fewestWords_j47 mX8_words_j81
      rw [if_neg (show ¬ (1 : Int32) = 0 by decide), hC.2.2.2.2.2.2.1, hM2.2.2.2.2.2.2.1, msk, if_neg (fun q => q ((or_0 _ _).mpr ⟨k1, k2⟩))]
      refine RT_b (RT_measure (ml := ml) hR hC hM2 (nI (g 6) &&& (nI j ^^^ (-1 : Int32)))) (fun m m' hm => ?_)
      obtain ⟨⟨W, hW⟩, hG, hG'⟩ := hm
      have hM3 := hM2.fr hG' (by decide) (by decide) (by decide)
      obtain ⟨v, ev, hv1⟩ := c_has hW hc
      obtain ⟨w, ew, hw1⟩ := o_has (ml := ml) hW hc hon s1 (nI j) (by rw [hM3.2.2.2.2.2.2.1])
      unfold mX8_words_L100
      rw [ev, ew]
      simp only [bn_s, nm_d, nI_s]
      rcases hv1 with ⟨rfl, k, q1, q2⟩ | ⟨rfl, q1⟩
      · rcases hw1 with ⟨rfl, -⟩ | ⟨rfl, p1⟩
        · rw [if_pos (show ¬ (1 : Int32) = 0 by decide), if_pos rfl]
          exact RT_s ⟨32 - (j + 1), by omega, j + 1, by omega, rfl, rfl, rfl, rfl, hv, hF.tr hG, hF'.tr hG'⟩
        · exact absurd q2 (p1 k q1)
      · rcases hw1 with ⟨rfl, k, p1, p2⟩ | ⟨rfl, p1⟩
        · exact absurd p2 (q1 k p1)
        · rw [if_neg (show ¬ ¬ (0 : Int32) = 0 by decide), if_neg (show ¬ (1 : Int32) = 0 by decide)]
          exact RT_s ⟨32 - (j + 1), by omega, j + 1, by omega, rfl, rfl, rfl, rfl, Or.inr ⟨j, hlt, rfl⟩, hF.tr hG, hF'.tr hG'⟩
    have noC : ¬ (nI j &&& (nI (g 6) ^^^ (-1 : Int32)) = 0 ∧ nI j &&& hon = 0) → mX6_fewestWords_j47 (nI cost) ((mL 0 12) &&& (hon ^^^ (-1 : Int32))) s1 (nI j) (1 : Int32) s3 mL = some (Sum.inl (s1, nI (j + 1), s3)) := by
      intro k1
      unfold mX6_fewestWords_j47
      rw [if_neg (show ¬ (1 : Int32) = 0 by decide), hC.2.2.2.2.2.2.1, msk, if_pos (fun q => k1 ((or_0 _ _).mp q)), nm_d, nI_s]
    rw [hM2.2.2.2.2.2.2.1]
    simp only [nm_d, nI_s]
    by_cases k1 : nI j &&& (nI (g 6) ^^^ (-1 : Int32)) = 0
    · rw [if_neg (show ¬ ¬ nI j &&& (nI (g 6) ^^^ (-1 : Int32)) = 0 from fun q => q k1)]
      by_cases k2 : nI j &&& hon = 0
      · rw [if_neg (show ¬ ¬ nI j &&& hon = 0 from fun q => q k2)]
        rcases hv with rfl | ⟨m, hm, rfl⟩
        · rw [if_pos rfl, if_pos rfl]
          exact try2 k1 k2
        · rw [if_neg (n_nm1 (by omega)), if_neg (n_nm1 (by omega)), c_ones j hlt, bn_s, c_ones m hm, bn_s, o_ones, bn_s, o_ones, bn_s, skipC]
          by_cases k3 : pcn (nI m) 5 ≤ pcn (nI j) 5
          · rw [if_pos k3, if_neg (Int32.not_lt.mpr k3)]
            exact skip
          · rw [if_neg k3, if_pos (Int32.not_le.mp k3)]
            exact try2 k1 k2
      · rw [if_pos (show ¬ nI j &&& hon = 0 from k2), noC (fun q => k2 q.2), skipC]
        rcases hv with rfl | ⟨m, hm, rfl⟩
        · rw [if_pos rfl]; exact skip
        · rw [if_neg (n_nm1 (by omega)), c_ones j hlt, bn_s, c_ones m hm, bn_s, ite_self]
          exact skip
    · rw [if_pos (show ¬ nI j &&& (nI (g 6) ^^^ (-1 : Int32)) = 0 from k1), noC (fun q => k1 q.1), skipC]
      rcases hv with rfl | ⟨m, hm, rfl⟩
      · rw [if_pos rfl]; exact skip
      · rw [if_neg (n_nm1 (by omega)), c_ones j hlt, bn_s, c_ones m hm, bn_s, ite_self]
        exact skip
