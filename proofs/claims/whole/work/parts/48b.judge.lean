/-! a book is judged -/
def JR (n c : Nat) (mB mJ mO : Mem) : Prop := mJ 0 0 = mO 0 23 ∧ HR n mJ (mO 8) (mO 9) (mO 10) ∧ (∀ j, j < 40 → ¬ mJ 6 j = 0 → ∃ e, e < c ∧ mB 5 j = nI e ∧ mO 20 j = nI e) ∧ (∀ e, e < c → mB 2 e = mO 21 e)
theorem RT_strikesJ {mL mB mJ mO : Mem} {ml : Lem} {g : Nat → Nat} {f t : Nat → Nat → Nat} (hR : LR g f t) (hC : LC mL g f t) (hM : LM mO g f t) {c : Nat} (hc : c ≤ 20) (h : JR (g 5) c mB mJ mO) :
    RT (itr (fun q => mX0_judgeNight_s25 mL q.1 q.2.1 q.2.2) FU ((0 : Int32), mB, mJ)) (itr (fun q => mX8_goesOn_s85 (1 : Int32) q.1 q.2.1 q.2.2) FU ((0 : Int32), mO, ml)) (fun m m' => JR (g 5) c m.1 m.2 m'.1 ∧ Fr [2] [] mB m.1 ∧ Fr [2, 7] [] mJ m.2 ∧ Fr [9, 10, 21] [] mO m'.1 ∧ m'.2 = ml) := by
  have hn6 : g 5 ≤ 6 := hR.2.2.2.2.2.2.2.2.1
  have c12 : mL 0 12 = nI (g 6) := hC.2.2.2.2.2.2.1
  have c2 : mL 0 2 = nI (g 2) := hC.2.2.1
  refine RT_itr (fun n (s : Int32 × Mem × Mem) (t : Int32 × Mem × Lem) => ∃ j, j ≤ 40 ∧ n = 40 - j ∧ s.1 = nI j ∧ t.1 = nI j ∧ JR (g 5) c s.2.1 s.2.2 t.2.1 ∧ Fr [2] [] mB s.2.1 ∧ Fr [2, 7] [] mJ s.2.2 ∧ Fr [9, 10, 21] [] mO t.2.1 ∧ t.2.2 = ml) ?_ FU 40 _ _ ⟨0, by omega, rfl, rfl, rfl, h, Fr.rf, Fr.rf, Fr.rf, rfl⟩ (FU_gt (by decide))
  rintro n ⟨s1, s2, s3⟩ ⟨t1, t2, t3⟩ ⟨j, hj, rfl, e1, e2, hH, hF, hG, hO, e3⟩
  dsimp only at e1 e2 hH hF hG hO e3
  subst e1; subst e2; subst e3
  show RT (mX0_judgeNight_s25 mL (nI j) s2 s3) (mX8_goesOn_s85 (1 : Int32) (nI j) t2 t3) _
  unfold mX0_judgeNight_s25 mX8_goesOn_s85
  have hM2 := hM.fr hO (by decide) (by decide) (by decide)
  by_cases hj40 : j = 40
  · subst hj40
    rw [if_pos (by decide), if_pos (by decide)]
    exact RT_s ⟨hH, hF, hG, hO, rfl⟩
  · have hlt : j < 40 := by omega
    have hn : ¬ (40 : Int32) ≤ nI j := by
      rw [show (40 : Int32) = nI 40 from rfl, n_le (by decide) (by omega)]; omega
    obtain ⟨q0, q1, q2, q3⟩ := id hH
    obtain ⟨u, u1, u2, u3, u4⟩ := q1.2.2 j hlt
    rw [if_neg hn, if_neg hn, o_la3 hlt, bn_s, u3]
    by_cases hu : 0 < u
    · obtain ⟨a, b, kd, a1, b1, k1, d3, r0, d4, r1, d5, r2, d7, d8⟩ := u4 hu
      have hne : ¬ s3 6 j = 0 := by rw [u2, n_eq0 (by omega)]; omega
      obtain ⟨e, x1, x2, x3⟩ := q2 j hlt hne
      rw [c_can c12 hlt u2 u1 (fun _ => d5), bn_s, it_b0, decide_eq_true hu, Bool.true_and, if_neg (by rw [n_eq0 (by omega)]; omega), o_la2 hlt, bn_s, r2, hM2.2.2.2.2.2.2.1]
      cases hs : spr (g 6) kd with
      | true =>
        have hs' := of_decide_eq_true hs
        rw [if_neg (fun q => q hs'), Bool.not_true, cd_f, nm_d, nm_d, nI_s]
        exact RT_s ⟨39 - j, by omega, j + 1, by omega, by omega, rfl, rfl, hH, hF, hG, hO, rfl⟩
      | false =>
        have hs' := of_decide_eq_false hs
        rw [if_pos hs', Bool.not_false, cd_t, if_pos (show ¬ (1 : Int32) = 0 by decide)]
        unfold mX8_goesOn_j145
        obtain ⟨q, eq, p1, p7, p2, pF⟩ := c_strike (mM := s3) (mL := mL) hlt (show a < 6 by omega) d3
        obtain ⟨m', em, o10, o9, o21, oF⟩ := o_strike1 (mO := t2) (ml := t3) hlt (show a < 6 by omega) r0 (show e < 20 by omega) x3
        rw [gi_n hlt (by decide), nI_clamp (by omega), x2, gi_n (show e < 20 by omega) (by decide), eq, em]
        simp only [bn_s, nm_d]
        rw [gi_n (show e < 20 by omega) (by decide), nI_clamp (by omega), nI_s]
        rw [hM2.2.2.1, ← c2] at o10 o9 o21
        refine RT_s ⟨39 - j, by omega, j + 1, by omega, by omega, rfl, rfl, ⟨?_, ?_, ?_, ?_⟩, hF.upi (by decide) (by decide), hG.tr pF, hO.tr oF, rfl⟩
        · exact (pF.2 0 (by decide)).trans (q0.trans (oF.2 23 (by decide)).symm)
        · exact HR_strike hn6 q1 hlt d3 a1 hne p7 p2 pF o10 o9 (oF.1 8 (by decide) (by decide))
        · intro i hi hne'
          have hne2 : ¬ s3 6 i = 0 := fun h => hne' (by show q.2 6 i = 0; rw [pF.1 6 (by decide) (by decide)]; exact h)
          obtain ⟨e', y1, y2, y3⟩ := q2 i hi hne2
          exact ⟨e', y1, y2, by show m' 20 i = _; rw [oF.1 20 (by decide) (by decide)]; exact y3⟩
        · intro e' he'
          show upd (s2 2) e (s2 2 e + q.1) e' = m' 21 e'
          rw [o21, p1, upd_d, upd_d, q3 e x1, d7]
          by_cases hee : e' = e
          · rw [if_pos hee, if_pos hee]
          · rw [if_neg hee, if_neg hee]; exact q3 e' he'
    · rw [c_can (k := 0) c12 hlt u2 u1 (fun h => absurd h hu), bn_s, it_b0, decide_eq_false hu, Bool.false_and, cd_f, if_pos (by rw [n_eq0 (by omega)]; omega), nm_d, nm_d, nI_s]
      exact RT_s ⟨39 - j, by omega, j + 1, by omega, by omega, rfl, rfl, hH, hF, hG, hO, rfl⟩
theorem RT_nightJ {mL mB mJ mO : Mem} {ml : Lem} {g : Nat → Nat} {f t : Nat → Nat → Nat} (hR : LR g f t) (hC : LC mL g f t) (hM : LM mO g f t) {c : Nat} (hc : c ≤ 20) (h : JR (g 5) c mB mJ mO) : RT (mX0_judgeNight mB mJ mL) (mX8_goesOn mO ml (1 : Int32)) (fun m m' => JR (g 5) c m.1 m.2 m'.1 ∧ m.2 0 0 = mJ 0 0 + 1 ∧ Fr [2] [] mB m.1 ∧ Fr [8, 9, 10, 21] [23] mO m'.1 ∧ m'.2 = ml) := by
  obtain ⟨h0, hH, h2, h3⟩ := h
  have hM1 : LM (upf mO 23 (mO 0 23 + 1)) g f t := hM.fr (cs := []) (fs := [23]) (Fr.rf.upf (by decide)) (by decide) (by decide) (by decide)
  unfold mX0_judgeNight mX2_passNight mX8_goesOn mX2_passNight_L12 mX8_goesOn_L12
  simp only [nm_d]
  obtain ⟨m, m', e, e', r1, r2, r3, r4⟩ := RT_pass (mM := upf mJ 0 (mJ 0 0 + 1)) (mO := upf mO 23 (mO 0 23 + 1)) (ml := ml) hR hC hM1 hH (by show mJ 0 0 + 1 = mO 0 23 + 1; rw [h0]) (1 : Int32)
  rw [e, e']
  simp only [bn_s]
  have hM2 := hM1.fr r3 (by decide) (by decide) (by decide)
  have k0 : m 0 0 = mJ 0 0 + 1 := (r2.2 0 (by decide)).trans rfl
  have n1 : m 0 0 = m' 0 23 := by
    rw [k0, r3.2 23 (by decide)]
    show mJ 0 0 + 1 = mO 0 23 + 1
    rw [h0]
  have fr3 : Fr [8, 9, 10, 21] [23] mO m' := (Fr.rf.upf (by decide)).tr (r3.wk (by decide) (by decide))
  have hJ : JR (g 5) c mB m m' := by
    refine ⟨n1, r1, fun j hj hne => ?_, fun e he => ?_⟩
    · obtain ⟨e, x1, x2, x3⟩ := h2 j hj (fun h => hne (by
        rcases r4 j with q | q
        · exact q
        · exact q.trans h))
      exact ⟨e, x1, x2, by rw [r3.1 20 (by decide) (by decide)]; exact x3⟩
    · rw [r3.1 21 (by decide) (by decide)]; exact h3 e he
  obtain ⟨b1, b2, b3, b4, b5, b6, b7, b8, b9, b10, b11, b12, b13⟩ := id hR
  rw [c_struck hC.1 hC.2.2.2.1 (by omega) b2 (by omega) b6, hM2.2.2.2.1, o_struck hM2.1 (by omega) b2 (by omega) b6, n1]
  simp only [bn_s, it_b1]
  cases stk (m' 0 23) (g 0 * g 3) with
  | false =>
    rw [cd_f, cd_f]
    exact RT_s ⟨hJ, k0, Fr.rf, fr3, rfl⟩
  | true =>
    rw [cd_t, cd_t, if_pos (show ¬ (1 : Int32) = 0 by decide)]
    unfold mX0_judgeNight_L25 mX8_goesOn_j83 mX8_goesOn_L85
    refine RT_b (RT_strikesJ (ml := ml) hR hC hM2 hc hJ) (fun w w' hw => ?_)
    obtain ⟨s1, s2, s3, s4, s5⟩ := hw
    simp only [nm_d]
    exact RT_s ⟨s1, (s3.2 0 (by decide)).trans k0, s2, fr3.tr (s4.wk (by decide) (by decide)), s5⟩
def BK (n c : Nat) (mB mO : Mem) : Prop := c ≤ 20 ∧ mB 0 0 = nI c ∧ mO 0 28 = nI c ∧ ∀ i, i < c → ∃ nt w k u p, nt ≤ 500 ∧ w < 100 ∧ w / 10 < n ∧ w % 10 < n ∧ k < 5 ∧ 1 ≤ u ∧ u ≤ 9999 ∧ p ≤ 400 ∧ mB 1 i = nI nt ∧ mB 3 i = nI (k * 100 + w) ∧ mB 4 i = nI (u * 1000 + p) ∧ mO 11 (6 * i) = nI nt ∧ mO 11 (6 * i + 1) = nI (w / 10) ∧ mO 11 (6 * i + 2) = nI (w % 10) ∧ mO 11 (6 * i + 3) = nI k ∧ mO 11 (6 * i + 4) = nI u ∧ mO 11 (6 * i + 5) = nI p
theorem BK.fr {n c : Nat} {mB mB' mO mO' : Mem} {x y z w : List Nat} (h : BK n c mB mO) (hB : Fr x y mB mB') (hO : Fr z w mO mO') (h1 : 1 ∉ x) (h3 : 3 ∉ x) (h4 : 4 ∉ x) (h0 : 0 ∉ y) (h11 : 11 ∉ z) (h28 : 28 ∉ w) : BK n c mB' mO' := by
  obtain ⟨a1, a2, a3, a4⟩ := h
  refine ⟨a1, (hB.2 0 h0).trans a2, (hO.2 28 h28).trans a3, ?_⟩
  rw [hB.1 1 h1 (by decide), hB.1 3 h3 (by decide), hB.1 4 h4 (by decide), hO.1 11 h11 (by decide)]
  exact a4
theorem RT_upto {mL mB mJ mO : Mem} {ml : Lem} {g : Nat → Nat} {f t : Nat → Nat → Nat} (hR : LR g f t) (hC : LC mL g f t) (hM : LM mO g f t) {c i d nt : Nat} (hc : c ≤ 20) (h : JR (g 5) c mB mJ mO) (hi : i < 20) (hd : d ≤ 500) (hd0 : mJ 0 0 = nI d) (hnt : nt ≤ 500) (b1 : mB 1 i = nI nt) (o1 : mO 11 (6 * i) = nI nt) (v1 v2 v3 v4 : Int32) :
    RT (itr (fun q => mX0_judgeAll_s34 (nI i) mL q.1 q.2.1 q.2.2) FU (mJ 0 0, mB, mJ)) (itr (fun q => mX8_judge_s154 v1 v2 v3 v4 (nI (6 * i)) q.1 q.2) FU (mO, ml)) (fun m m' => JR (g 5) c m.1 m.2 m'.1 ∧ (∃ d', d' ≤ 500 ∧ m.2 0 0 = nI d') ∧ Fr [2] [] mB m.1 ∧ Fr [8, 9, 10, 21] [23] mO m'.1 ∧ m'.2 = ml) := by
  refine RT_itr (fun k (s : Int32 × Mem × Mem) (t : Mem × Lem) => ∃ d', d' ≤ 500 ∧ k = nt - d' ∧ s.1 = nI d' ∧ s.2.2 0 0 = nI d' ∧ JR (g 5) c s.2.1 s.2.2 t.1 ∧ Fr [2] [] mB s.2.1 ∧ Fr [8, 9, 10, 21] [23] mO t.1 ∧ t.2 = ml) ?_ FU (nt - d) _ _ ⟨d, hd, rfl, hd0, hd0, h, Fr.rf, Fr.rf, rfl⟩ (FU_gt (by omega))
  rintro k ⟨s1, s2, s3⟩ ⟨t1, t2⟩ ⟨d', hd', rfl, e1, e2, hJ, hF, hG, e3⟩
  dsimp only at e1 e2 hJ hF hG e3
  subst e1; subst e3
  show RT (mX0_judgeAll_s34 (nI i) mL (nI d') s2 s3) (mX8_judge_s154 v1 v2 v3 v4 (nI (6 * i)) t1 t2) _
  unfold mX0_judgeAll_s34 mX8_judge_s154
  rw [gi_n hi (by decide), gi_n (show 6 * i < 120 by omega) (by decide), nI_clamp (by omega), nI_clamp (by omega), hF.1 1 (by decide) (by decide), b1, hG.1 11 (by decide) (by decide), o1, ← hJ.1, e2]
  refine RT_if Iff.rfl (fun _ => RT_s ⟨hJ, ⟨d', hd', e2⟩, hF, hG, rfl⟩) (fun h => ?_)
  rw [n_le (by omega) (by omega)] at h
  refine RT_b (RT_nightJ (ml := t2) hR hC (hM.fr hG (by decide) (by decide) (by decide)) hc hJ) (fun w w' hw => ?_)
  obtain ⟨w1, w2, w3, w4, w5⟩ := hw
  simp only [nm_d, nI_s]
  exact RT_s ⟨nt - (d' + 1), by omega, d' + 1, by omega, rfl, rfl, by show w.2 0 0 = _; rw [w2, e2, nI_s], w1, hF.tr w3, hG.tr w4, w5⟩
theorem RT_entry {mL mB mJ mO : Mem} {ml : Lem} {g : Nat → Nat} {f t : Nat → Nat → Nat} (hR : LR g f t) (hC : LC mL g f t) (hM : LM mO g f t) {c i : Nat} (hB : BK (g 5) c mB mO) (h : JR (g 5) c mB mJ mO) (hi : i < c) (hd : ∃ d, d ≤ 500 ∧ mJ 0 0 = nI d) (v1 v2 : Int32) :
    RT (mX0_judgeAll_L34 (nI i) (mJ 0 0) mB mJ mL) (mX8_judge_L154 v1 v2 (-1 : Int32) (nI i) (nI (6 * i)) mO ml) (fun o o' => ∃ b j q, JR (g 5) c b j q ∧ (∃ d, d ≤ 500 ∧ j 0 0 = nI d) ∧ Fr [2, 5] [] mB b ∧ Fr [8, 9, 10, 20, 21] [23] mO q ∧ ((o = Sum.inl (nI (i + 1), b, j) ∧ o' = Sum.inl (-1, nI (i + 1), q, ml)) ∨ (o = Sum.inr (Sum.inl (nI i, b, j)) ∧ o' = Sum.inl (nI i, nI (i + 1), q, ml)))) := by
  have hn6 : g 5 ≤ 6 := hR.2.2.2.2.2.2.2.2.1
  obtain ⟨c20, hb0, ho0, hall⟩ := id hB
  obtain ⟨nt, w, k, u, p, y1, y2, y3, y4, y5, y6, y7, y8, y9, y10, y11, y12, y13, y14, y15, y16, y17⟩ := hall i hi
  obtain ⟨d, hd, hd0⟩ := hd
  unfold mX0_judgeAll_L34 mX8_judge_L154
  refine RT_b (RT_upto (ml := ml) hR hC hM c20 h (show i < 20 by omega) hd hd0 y1 y9 y12 v1 v2 (-1) (nI i)) (fun z z' hz => ?_)
  obtain ⟨z1, z2, z3, z4, z5⟩ := hz
  have i3 : ∀ x : Nat, nI x + (3 : Int32) = nI (x + 3) := fun x => n_add x 3
  have i4 : ∀ x : Nat, nI x + (4 : Int32) = nI (x + 4) := fun x => n_add x 4
  have i5 : ∀ x : Nat, nI x + (5 : Int32) = nI (x + 5) := fun x => n_add x 5
  have hM2 := hM.fr z4 (by decide) (by decide) (by decide)
  simp only [nm_d, nI_s, nI_p2, i3, i4, i5, gi_n (show i < 20 by omega) (show 20 < 2 ^ 31 by decide), gi_n (show 6 * i + 1 < 120 by omega) (show 120 < 2 ^ 31 by decide), gi_n (show 6 * i + 2 < 120 by omega) (show 120 < 2 ^ 31 by decide), gi_n (show 6 * i + 3 < 120 by omega) (show 120 < 2 ^ 31 by decide), gi_n (show 6 * i + 4 < 120 by omega) (show 120 < 2 ^ 31 by decide), gi_n (show 6 * i + 5 < 120 by omega) (show 120 < 2 ^ 31 by decide), nI_clamp (show i < 2 ^ 31 by omega), nI_clamp (show 6 * i + 1 < 2 ^ 31 by omega), nI_clamp (show 6 * i + 2 < 2 ^ 31 by omega), nI_clamp (show 6 * i + 3 < 2 ^ 31 by omega), nI_clamp (show 6 * i + 4 < 2 ^ 31 by omega), nI_clamp (show 6 * i + 5 < 2 ^ 31 by omega)]
  rw [z3.1 3 (by decide) (by decide), z3.1 4 (by decide) (by decide), z4.1 11 (by decide) (by decide), y10, y11, y13, y14, y15, y16, y17, show (100 : Int32) = nI 100 from rfl, show (1000 : Int32) = nI 1000 from rfl, pk_rem (show k * 100 + w < 2 ^ 31 by omega) (by decide) (by decide), pk_div (show k * 100 + w < 2 ^ 31 by omega) (by decide) (by decide), pk_rem (show u * 1000 + p < 2 ^ 31 by omega) (by decide) (by decide), pk_div (show u * 1000 + p < 2 ^ 31 by omega) (by decide) (by decide), show (k * 100 + w) % 100 = w from by omega, show (k * 100 + w) / 100 = k from by omega, show (u * 1000 + p) % 1000 = p from by omega, show (u * 1000 + p) / 1000 = u from by omega, z5]
  refine RT_b (RT_make (ml := ml) (p := p) hR hC hM2 z1.2.1 z1.1 y3 y4 y5 y6 y7) (fun q q' hq => ?_)
  obtain ⟨q1, q2, q3, q4, q5⟩ := hq
  rw [← q1]
  rcases q2 with ⟨e, e', e''⟩ | ⟨j, hj, e, hoth⟩
  · rw [e, if_neg (show ¬ ¬ (-1 : Int32) = -1 from fun q => q rfl), if_neg (show ¬ ¬ (-1 : Int32) = -1 from fun q => q rfl), e', e'']
    exact RT_s ⟨z.1, z.2, z'.1, z1, z2, z3.wk (by decide) (by decide), z4.wk (by decide) (by decide), Or.inr ⟨rfl, rfl⟩⟩
  · rw [e, if_pos (n_nm1 (by omega)), if_pos (n_nm1 (by omega)), gi_n hj (by decide), gi_n hj (by decide), nI_clamp (show j < 2 ^ 31 by omega)]
    refine RT_s ⟨upi z.1 5 j (nI i), q.2, upi q'.2 20 j (nI i), ⟨?_, q3, fun l hl hne => ?_, fun e' he' => ?_⟩, ?_, (z3.wk (by decide) (by decide)).upi (by decide) (by decide), ((z4.wk (by decide) (by decide)).tr (q5.wk (by decide) (by decide))).upi (by decide) (by decide), Or.inl ⟨rfl, rfl⟩⟩
    · show q.2 0 0 = q'.2 0 23
      rw [q4.2 0 (by decide), q5.2 23 (by decide)]; exact z1.1
    · simp only [upi_d, reduceIte, upd_d]
      by_cases hlj : l = j
      · rw [if_pos hlj, if_pos hlj]; exact ⟨i, hi, rfl, rfl⟩
      · rw [if_neg hlj, if_neg hlj, q5.1 20 (by decide) (by decide)]
        exact z1.2.2.1 l hl (by rw [← hoth l hl hlj]; exact hne)
    · show z.1 2 e' = q'.2 21 e'
      rw [q5.1 21 (by decide) (by decide)]; exact z1.2.2.2 e' he'
    · obtain ⟨d', k1, k2⟩ := z2
      exact ⟨d', k1, (q4.2 0 (by decide)).trans k2⟩
theorem RT_judges {mL : Mem} {ml : Lem} {g : Nat → Nat} {f t : Nat → Nat → Nat} (hR : LR g f t) (hC : LC mL g f t) {c : Nat} (v1 v2 : Int32) : ∀ (d i N N' : Nat) (mB mJ mO : Mem), i + d = c → d < N → d + 1 < N' → LM mO g f t → BK (g 5) c mB mO → JR (g 5) c mB mJ mO → (∃ d, d ≤ 500 ∧ mJ 0 0 = nI d) →
    RT (itr (fun q => mX0_judgeAll_s18 mL q.1 q.2.1 q.2.2) N (nI i, mB, mJ)) (itr (fun q => mX8_judge_s133 v1 v2 q.1 q.2.1 q.2.2.1 q.2.2.2) N' ((-1 : Int32), nI i, mO, ml)) (fun o o' => ∃ b j, JR (g 5) c b j o'.2.1 ∧ Fr [2, 5] [] mB b ∧ Fr [8, 9, 10, 20, 21] [23] mO o'.2.1 ∧ o'.2.2 = ml ∧ ((o = Sum.inl (o'.1, b, j) ∧ ∃ e, e < c ∧ o'.1 = nI e) ∨ (o = Sum.inr (b, j) ∧ o'.1 = -1))) := by
  intro d
  induction d with
  | zero =>
    intro i N N' mB mJ mO hi hN hN' hM hB hJ hd
    obtain ⟨N, rfl⟩ : ∃ n, N = n + 1 := ⟨N - 1, by omega⟩
    obtain ⟨N', rfl⟩ : ∃ n, N' = n + 1 := ⟨N' - 1, by omega⟩
    have : i = c := by omega
    subst this
    show RT (bn (mX0_judgeAll_s18 mL (nI i) mB mJ) _) (bn (mX8_judge_s133 v1 v2 (-1) (nI i) mO ml) _) _
    unfold mX0_judgeAll_s18 mX8_judge_s133
    rw [hB.2.1, hB.2.2.1, if_pos (Int32.le_refl _), if_pos (Int32.le_refl _)]
    exact RT_s ⟨mB, mJ, hJ, Fr.rf, Fr.rf, rfl, Or.inr ⟨rfl, rfl⟩⟩
  | succ d ih =>
    intro i N N' mB mJ mO hi hN hN' hM hB hJ hd
    obtain ⟨N, rfl⟩ : ∃ n, N = n + 1 := ⟨N - 1, by omega⟩
    obtain ⟨N', rfl⟩ : ∃ n, N' = n + 1 := ⟨N' - 1, by omega⟩
    have hc20 := hB.1
    have hlt : ¬ nI c ≤ nI i := by rw [n_le (by omega) (by omega)]; omega
    show RT (bn (mX0_judgeAll_s18 mL (nI i) mB mJ) _) (bn (mX8_judge_s133 v1 v2 (-1) (nI i) mO ml) _) _
    unfold mX0_judgeAll_s18 mX8_judge_s133
    rw [hB.2.1, hB.2.2.1, if_neg hlt, if_neg hlt, if_neg (show ¬ ¬ (-1 : Int32) = -1 from fun q => q rfl), show (6 : Int32) * nI i = nI (6 * i) from n_mul 6 i]
    simp only [nm_d]
    refine RT_b (RT_entry (ml := ml) hR hC hM hB hJ (by omega) hd v1 v2) (fun o o' ho => ?_)
    obtain ⟨b, j, q, h1, h2, h3, h4, h5⟩ := ho
    rcases h5 with ⟨rfl, rfl⟩ | ⟨rfl, rfl⟩
    · refine RT_m (ih (i + 1) N N' b j q (by omega) (by omega) (by omega) (hM.fr h4 (by decide) (by decide) (by decide)) (hB.fr h3 h4 (by decide) (by decide) (by decide) (by decide) (by decide) (by decide)) h1 h2) (fun a a' ha => ?_)
      obtain ⟨b', j', k1, k2, k3, k4, k5⟩ := ha
      exact ⟨b', j', k1, h3.tr k2, h4.tr k3, k4, k5⟩
    · obtain ⟨N', rfl⟩ : ∃ n, N' = n + 1 := ⟨N' - 1, by omega⟩
      show RT (some (Sum.inl (nI i, b, j))) (bn (mX8_judge_s133 v1 v2 (nI i) (nI (i + 1)) q ml) _) _
      have e : mX8_judge_s133 v1 v2 (nI i) (nI (i + 1)) q ml = some (Sum.inr (nI i, q, ml)) := by
        unfold mX8_judge_s133
        rw [if_pos (n_nm1 (show i < 2 ^ 31 by omega)), ite_self]
      rw [e]
      exact RT_s ⟨b, j, h1, h3, h4, rfl, Or.inl ⟨rfl, i, by omega, rfl⟩⟩
