theorem RT_lots {mL mM mO : Mem} {ml : Lem} {g : Nat → Nat} {f t : Nat → Nat → Nat} (hR : LR g f t) (hC : LC mL g f t) (hM : LM mO g f t) (h : HR (g 5) mM (mO 8) (mO 9) (mO 10)) (hx : ∃ k, k < 2 ^ 31 ∧ mM 0 1 = nI k ∧ ml 0 27 = lN k) :
    RT (itr (fun q => mX2_strikeByLots_s14 mL q.1 q.2) FU ((0 : Int32), mM)) (itr (fun q => mX8_goesOn_s85 (0 : Int32) q.1 q.2.1 q.2.2) FU ((0 : Int32), mO, ml)) (fun m m' => HR (g 5) m (m'.1 8) (m'.1 9) (m'.1 10) ∧ Fr [2, 7] [1] mM m ∧ Fr [9, 10] [] mO m'.1 ∧ FL ml m'.2 ∧ ∃ k, k < 2 ^ 31 ∧ m 0 1 = nI k ∧ m'.2 0 27 = lN k) := by
  have hn6 : g 5 ≤ 6 := hR.2.2.2.2.2.2.2.2.1
  have c12 : mL 0 12 = nI (g 6) := hC.2.2.2.2.2.2.1
  have c2 : mL 0 2 = nI (g 2) := hC.2.2.1
  refine RT_itr (fun n (s : Int32 × Mem) (t : Int32 × Mem × Lem) => ∃ j, j ≤ 40 ∧ n = 40 - j ∧ s.1 = nI j ∧ t.1 = nI j ∧ HR (g 5) s.2 (t.2.1 8) (t.2.1 9) (t.2.1 10) ∧ Fr [2, 7] [1] mM s.2 ∧ Fr [9, 10] [] mO t.2.1 ∧ FL ml t.2.2 ∧ ∃ k, k < 2 ^ 31 ∧ s.2 0 1 = nI k ∧ t.2.2 0 27 = lN k) ?_ FU 40 _ _ ⟨0, by omega, rfl, rfl, rfl, h, Fr.rf, Fr.rf, FL.rf, hx⟩ (FU_gt (by decide))
  rintro n ⟨s1, s2⟩ ⟨t1, t2, t3⟩ ⟨j, hj, rfl, e1, e2, hH, hF, hG, hL, k, hk, x1, x2⟩
  dsimp only at e1 e2 hH hF hG hL x1 x2
  subst e1; subst e2
  show RT (mX2_strikeByLots_s14 mL (nI j) s2) (mX8_goesOn_s85 (0 : Int32) (nI j) t2 t3) _
  unfold mX2_strikeByLots_s14 mX8_goesOn_s85
  have hM2 := hM.fr hG (by decide) (by decide) (by decide)
  by_cases hj40 : j = 40
  · subst hj40
    rw [if_pos (by decide), if_pos (by decide)]
    exact RT_s ⟨hH, hF, hG, hL, k, hk, x1, x2⟩
  · have hlt : j < 40 := by omega
    have hn : ¬ (40 : Int32) ≤ nI j := by
      rw [show (40 : Int32) = nI 40 from rfl, n_le (by decide) (by omega)]; omega
    obtain ⟨u, u1, u2, u3, u4⟩ := hH.2.2 j hlt
    rw [if_neg hn, if_neg hn, o_la3 hlt, bn_s, u3]
    by_cases hu : 0 < u
    · obtain ⟨a, b, kd, a1, b1, k1, d3, r0, d4, r1, d5, r2, d7, d8⟩ := u4 hu
      rw [c_can c12 hlt u2 u1 (fun _ => d5), bn_s, it_b0, decide_eq_true hu, Bool.true_and, if_neg (by rw [n_eq0 (by omega)]; omega), o_la2 hlt, bn_s, r2, hM2.2.2.2.2.2.2.1]
      cases hs : spr (g 6) kd with
      | true =>
        have hs' := of_decide_eq_true hs
        rw [if_neg (fun q => q hs'), Bool.not_true, cd_f, nm_d, nm_d, nI_s]
        exact RT_s ⟨39 - j, by omega, j + 1, by omega, by omega, rfl, rfl, hH, hF, hG, hL, k, hk, x1, x2⟩
      | false =>
        have hs' := of_decide_eq_false hs
        rw [if_pos hs', Bool.not_false, cd_t, if_neg (by decide), c_lot x1, o_draws hk x2]
        simp only [bn_s, nm_d]
        rw [o_la1 hlt, bn_s, r1, o_of5 (by omega), bn_s, gi_n hlt (by decide), nI_clamp (by omega), show (upf s2 1 (nI (nxt k))) 4 j = s2 4 j from rfl, d4, gi_n (show b < 6 by omega) (by decide), nI_clamp (by omega), hC.2.2.2.2.2.2.2.2.1 b b1 5 (by decide), hM2.2.2.2.2.2.2.2.2.1 b b1 5 (by decide)]
        have hx2 : ∃ k', k' < 2 ^ 31 ∧ (upf s2 1 (nI (nxt k))) 0 1 = nI k' ∧ (upfL t3 27 (lN (nxt k))) 0 27 = lN k' := ⟨nxt k, nxt_lt k, rfl, rfl⟩
        have hF2 : Fr [2, 7] [1] mM (upf s2 1 (nI (nxt k))) := hF.upf (by decide)
        have w5 : f 5 b ≤ 16 := (hR.2.2.2.2.2.2.2.2.2.2.2.1 b b1).2.2.2.2.2.2.2
        have hlk := lotN_lt k
        by_cases hw : lotN k < f 5 b
        · rw [if_pos (by rw [n_lt (by omega) (by omega)]; exact hw), if_neg (by rw [n_le (by omega) (by omega)]; omega), nI_s]
          exact RT_s ⟨39 - j, by omega, j + 1, by omega, by omega, rfl, rfl, hH, hF2, hG, hL.up, hx2⟩
        · rw [if_neg (by rw [n_lt (by omega) (by omega)]; exact hw), if_pos (by rw [n_le (by omega) (by omega)]; omega)]
          unfold mX8_goesOn_j145
          obtain ⟨q, eq, p1, p7, p2, pF⟩ := c_strike (mM := upf s2 1 (nI (nxt k))) (mL := mL) hlt (show a < 6 by omega) d3
          obtain ⟨m', em, q10, q9, qF⟩ := o_strike0 (mO := t2) (ml := upfL t3 27 (lN (nxt k))) hlt (show a < 6 by omega) r0
          rw [eq, em]
          simp only [bn_s, nm_d]
          rw [nI_s]
          rw [hM2.2.2.1, ← c2] at q10 q9
          refine RT_s ⟨39 - j, by omega, j + 1, by omega, by omega, rfl, rfl, ?_, hF2.tr (pF.wk (fun _ h => h) (fun _ h => absurd h List.not_mem_nil)), hG.tr qF, hL.up, ⟨nxt k, nxt_lt k, (pF.2 1 (by decide)).trans rfl, rfl⟩⟩
          exact HR_strike hn6 (mM := upf s2 1 (nI (nxt k))) hH hlt d3 a1 (by show ¬ s2 6 j = 0; rw [u2, n_eq0 (by omega)]; omega) p7 p2 pF q10 q9 (qF.1 8 (by decide) (by decide))
    · rw [c_can (k := 0) c12 hlt u2 u1 (fun h => absurd h hu), bn_s, it_b0, decide_eq_false hu, Bool.false_and, cd_f, if_pos (by rw [n_eq0 (by omega)]; omega), nm_d, nm_d, nI_s]
      exact RT_s ⟨39 - j, by omega, j + 1, by omega, by omega, rfl, rfl, hH, hF, hG, hL, k, hk, x1, x2⟩
