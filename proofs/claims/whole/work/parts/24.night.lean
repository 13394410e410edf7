/-! one night on both sides -/
theorem HR_pay {mL mM mO : Mem} {ml : Lem} {g : Nat → Nat} {f t : Nat → Nat → Nat} (hR : LR g f t) (hC : LC mL g f t) (hM : LM mO g f t) (h : HR (g 5) mM (mO 8) (mO 9) (mO 10)) {j : Nat} (hj : j < 40) (hl : ¬ mM 6 j = 0) : RT (mX2_payBack mM mL (nI j)) (mX8_pays mO ml (nI j)) (fun m m' => HR (g 5) m (m' 8) (m' 9) (m' 10) ∧ Fr [1, 6] [] mM m ∧ Fr [8, 10] [] mO m' ∧ ∀ i, m 6 i = 0 ∨ m 6 i = mM 6 i) := by
  have hn : g 5 ≤ 6 := hR.2.2.2.2.2.2.2.2.1
  obtain ⟨h1, h2, h3⟩ := h
  obtain ⟨u, u1, u2, u3, u4⟩ := h3 j hj
  obtain ⟨a, b, k, a1, b1, k1, c3, r0, c4, r1, c5, r2, c7, c8⟩ := u4 (by rw [u2, n_eq0 (by omega)] at hl; omega)
  have m2 : mO 6 (6 * b + 2) = nI (f 2 b) := hM.2.2.2.2.2.2.2.2.1 b b1 2 (by decide)
  have m4 : mO 6 (6 * b + 4) = nI (f 4 b) := hM.2.2.2.2.2.2.2.2.1 b b1 4 (by decide)
  have l2 : f 2 b ≤ 99 := (hR.2.2.2.2.2.2.2.2.2.2.2.1 b b1).2.2.2.1
  obtain ⟨m, e, p1, p2, pF⟩ := c_pay (mL := mL) hj (by omega) (by omega) c3 c4 (c_yield hC hR b1 (mM 6 j))
  obtain ⟨m', e', q1, q2, qF⟩ := o_pay (ml := ml) hj (show a < 6 by omega) (show b < 6 by omega) r0 r1 m2 l2 m4
  refine ⟨m, m', e, e', ⟨fun i hi => ⟨?_, ?_⟩, fun i i1 i2 => ?_, fun i hi => ?_⟩, pF, qF, fun i => by rw [p2, upd_d]; by_cases hij : i = j; exact Or.inl (if_pos hij); exact Or.inr (if_neg hij)⟩
  · rw [p1, q1, c7, u2, u3, Int32.add_comm]
    exact payH_cg (fun i hi => (h1 i hi).1) (by omega) (by omega) i hi
  · rw [pF.1 2 (by decide) (by decide), qF.1 9 (by decide) (by decide)]; exact (h1 i hi).2
  · rw [pF.1 2 (by decide) (by decide)]; exact h2 i i1 i2
  · have e3 := pF.1 3 (by decide) (by decide)
    have e4 := pF.1 4 (by decide) (by decide)
    have e5 := pF.1 5 (by decide) (by decide)
    have e7 := pF.1 7 (by decide) (by decide)
    have e8 := pF.1 8 (by decide) (by decide)
    by_cases hij : i = j
    · subst hij
      exact ⟨0, by omega, by rw [p2, upd_d, if_pos rfl]; rfl, by rw [q2, upd_d, if_pos rfl]; rfl, fun h => absurd h (by decide)⟩
    · obtain ⟨u', v1, v2, v3, v4⟩ := h3 i hi
      refine ⟨u', v1, by rw [p2, upd_d, if_neg hij]; exact v2, by rw [q2, upd_d, if_neg (by omega)]; exact v3, fun hu => ?_⟩
      obtain ⟨a', b', k', w⟩ := v4 hu
      refine ⟨a', b', k', ?_⟩
      rw [e3, e4, e5, e7, e8, q2, upd_d, upd_d, upd_d, upd_d, upd_d, if_neg (by omega), if_neg (by omega), if_neg (by omega), if_neg (by omega), if_neg (by omega)]
      exact w
/-- two steps of the walk over the loans -/
theorem nI_s (j : Nat) : nI j + (1 : Int32) = nI (j + 1) := nI_1 j
def MR (n : Nat) (mM mO : Mem) (ml : Lem) : Prop := mM 0 0 = mO 0 23 ∧ (∃ k, k < 2 ^ 31 ∧ mM 0 1 = nI k ∧ ml 0 27 = lN k) ∧ HR n mM (mO 8) (mO 9) (mO 10)
theorem RT_pass {mL mM mO : Mem} {ml : Lem} {g : Nat → Nat} {f t : Nat → Nat → Nat} (hR : LR g f t) (hC : LC mL g f t) (hM : LM mO g f t) (h : HR (g 5) mM (mO 8) (mO 9) (mO 10)) (h0 : mM 0 0 = mO 0 23) (jd : Int32) : RT (itr (fun q => mX2_passNight_s12 mL q.1 q.2) FU ((0 : Int32), mM)) (itr (fun q => mX8_goesOn_s12 jd ml q.1 q.2) FU ((0 : Int32), mO)) (fun m m' => HR (g 5) m (m' 8) (m' 9) (m' 10) ∧ Fr [1, 6] [] mM m ∧ Fr [8, 10] [] mO m' ∧ ∀ i, m 6 i = 0 ∨ m 6 i = mM 6 i) := by
  refine RT_itr (fun n (s t : Int32 × Mem) => ∃ j, j ≤ 40 ∧ n = 40 - j ∧ s.1 = nI j ∧ t.1 = nI j ∧ HR (g 5) s.2 (t.2 8) (t.2 9) (t.2 10) ∧ Fr [1, 6] [] mM s.2 ∧ Fr [8, 10] [] mO t.2 ∧ ∀ i, s.2 6 i = 0 ∨ s.2 6 i = mM 6 i) ?_ FU 40 _ _ ⟨0, by omega, rfl, rfl, rfl, h, Fr.rf, Fr.rf, fun i => Or.inr rfl⟩ (FU_gt (by decide))
  rintro n ⟨s1, s2⟩ ⟨t1, t2⟩ ⟨j, hj, rfl, e1, e2, hH, hF, hG, hZ⟩
  dsimp only at e1 e2 hH hF hG hZ
  subst e1; subst e2
  show RT (mX2_passNight_s12 mL (nI j) s2) (mX8_goesOn_s12 jd ml (nI j) t2) _
  unfold mX2_passNight_s12 mX8_goesOn_s12
  by_cases hj40 : j = 40
  · subst hj40
    rw [if_pos (by decide), if_pos (by decide)]
    exact RT_s ⟨hH, hF, hG, hZ⟩
  · have hlt : j < 40 := by omega
    have hn : ¬ (40 : Int32) ≤ nI j := by
      rw [show (40 : Int32) = nI 40 from rfl, n_le (by decide) (by omega)]; omega
    rw [if_neg hn, if_neg hn, gi_n hlt (by decide), gi_n hlt (by decide), nI_clamp (by omega), o_la3 hlt, bn_s, o_la5 hlt, bn_s]
    obtain ⟨u, u1, u2, u3, u4⟩ := hH.2.2 j hlt
    rw [u2, u3]
    refine RT_if Iff.rfl (fun _ => ?_) (fun hc => ?_)
    · rw [nm_d, nm_d, nI_s]
      exact RT_s ⟨39 - j, by omega, j + 1, by omega, by omega, rfl, rfl, hH, hF, hG, hZ⟩
    · rw [n_le0 (by omega)] at hc
      obtain ⟨a, b, k, -, -, -, -, -, -, -, -, -, -, c8⟩ := u4 (by omega)
      refine RT_if (by rw [c8, hF.2 0 (by decide), hG.2 23 (by decide), h0]) (fun _ => ?_) (fun _ => ?_)
      · rw [nm_d, nm_d, nI_s]
        exact RT_s ⟨39 - j, by omega, j + 1, by omega, by omega, rfl, rfl, hH, hF, hG, hZ⟩
      · refine RT_b (HR_pay hR hC (hM.fr hG (by decide) (by decide) (by decide)) hH hlt (by rw [u2, n_eq0 (by omega)]; omega)) (fun m m' hm => ?_)
        rw [nm_d, nm_d, nI_s]
        exact RT_s ⟨39 - j, by omega, j + 1, by omega, by omega, rfl, rfl, hm.1, hF.tr hm.2.1, hG.tr hm.2.2.1, fun i => by rcases hm.2.2.2 i with e | e; exact Or.inl e; rcases hZ i with e' | e'; exact Or.inl (e.trans e'); exact Or.inr (e.trans e')⟩
