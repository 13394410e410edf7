/-! spare, turn, sort -/
theorem sp_or : ∀ sp, sp < 32 → ∀ k, k < 5 → (sp ||| 2 ^ k) < 32 ∧ nI sp ||| ((1 : Int32) <<< (nI k &&& 31)) = nI (sp ||| 2 ^ k) := by decide +kernel
theorem RT_spareL {len p : Nat} {mR mT mL mO : Mem} {ml : Lem} (hT : TXR len mT mO) (h : TOK len (mT 1) p mR mO ml) (hk : ¬ mR 0 7 = 0) (hD : RD len (mT 1) mR mL mO ml) : RT (mX3_readSpare mR mT mL) (mX8_spareLine mO ml) (LQ len (mT 1) p mO ml) := by
  obtain ⟨n, f, nt, t, sp, cS, cT, cP, cM, cK, cW, cN⟩ := hD
  have hl := hT.1
  unfold mX3_readSpare mX8_spareLine
  refine RT_b (RT_next (mR' := mR) (mO' := mO) (ml' := ml) hT h hk rfl rfl) (fun r1 o1 ho => ?_)
  obtain ⟨t1, f1, g1, e1⟩ := ho
  have hT1 := hT.fr g1 (by decide) (by decide)
  obtain ⟨v, v1, v2, v3⟩ := tok_kind hl t1
  simp only [nm_d]
  rw [v1, v2, bn_s, bn_s]
  rcases v3 with rfl | ⟨k, k5, rfl⟩
  · rw [if_pos rfl, if_pos rfl]
    exact LQ_f hl t1 (g1.wk (by decide) (by decide)) e1.pl
  · obtain ⟨p1, p2, p3⟩ := cP
    obtain ⟨s1, s2⟩ := sp_or sp p1 k k5
    rw [if_neg (n_nm1 (by omega)), if_neg (n_nm1 (by omega)), c_spared p2, bn_s, it_b0, g1.2 10 (by decide), p3, p2, s2]
    cases hs : spr sp k with
    | true =>
      have hs' := of_decide_eq_true hs
      rw [cd_t, if_neg (fun q => q hs')]
      exact LQ_f hl t1 (g1.wk (by decide) (by decide)) e1.pl
    | false =>
      have hs' := of_decide_eq_false hs
      rw [cd_f, if_pos hs']
      have g2 : Fr [] [10] o1.1 (upf o1.1 10 (nI (sp ||| 2 ^ k))) := Fr.rf.upf (by decide)
      refine RT_b (RT_nextP (mR := r1) (mR' := r1) (mO := o1.1) (mO' := upf o1.1 10 (nI (sp ||| 2 ^ k))) (ml := o1.2) (ml' := o1.2) (hT1.fr g2 (by decide) (by decide)) t1 rfl rfl) (fun r2 o2 ho2 => ?_)
      obtain ⟨t2, f2, g3, e2⟩ := ho2
      have hT2 := (hT1.fr g2 (by decide) (by decide)).fr g3 (by decide) (by decide)
      refine RT_b (RT_stop hT2 t2) (fun w w' hw => ?_)
      rcases hw with ⟨rfl, rfl⟩ | ⟨w1, w2, t4, f4, g5, e4⟩
      · simp only [gb_0]
        exact LQ_f hl t2 ((g1.wk (by decide) (by decide)).tr ((g2.wk (by decide) (by decide)).tr (g3.wk (by decide) (by decide)))) (e1.pl.tr e2.pl)
      · rw [w1, w2]
        simp only [nm_d, gb_1]
        have fR : Fr [] [5, 6, 7, 8] mR w.2 := f1.tr (f2.tr f4)
        have fO : Fr [] [2, 3, 4, 10] mO w'.2.1 := (g1.wk (by decide) (by decide)).tr ((g2.wk (by decide) (by decide)).tr ((g3.wk (by decide) (by decide)).tr (g5.wk (by decide) (by decide))))
        have fL : Fr [] [12] mL (upf mL 12 (nI (sp ||| 2 ^ k))) := Fr.rf.upf (by decide)
        have n3 : ∀ i, w'.2.2 3 i = ml 3 i := fun i => (e4.n3 i).trans ((e2.n3 i).trans (e1.n3 i))
        have o2' : w'.2.1 2 = mO 2 := fO.1 2 (by decide) (by decide)
        have oS : w'.2.1 0 10 = nI (sp ||| 2 ^ k) := (g5.2 10 (by decide)).trans ((g3.2 10 (by decide)).trans rfl)
        refine RT_s ⟨fO.wk (by decide) (by decide), (e1.pl.tr e2.pl).tr e4.pl, Or.inr ⟨rfl, rfl, ⟨n, f, nt, t, sp ||| 2 ^ k, cS.fr fL fO (by decide) (by decide) (by decide) (by decide), cT.fr fL fO (by decide) (by decide) (by decide) (by decide), ⟨s1, rfl, oS⟩, ?_, ?_, ?_, cN.fr fR (by decide) (by decide) n3⟩, t4⟩⟩
        · show CM (mL 0 0) (mL 0 1) (w'.2.1 2 0) (w'.2.1 2 1) (w.2 0 10)
          rw [o2', fR.2 10 (by decide)]; exact cM
        · show CK (mL 0 2) (mL 0 3) (w'.2.1 2 2) (w'.2.1 2 3) (w.2 0 11)
          rw [o2', fR.2 11 (by decide)]; exact cK
        · show CW (mL 0 4) (w'.2.1 2 4) (w.2 0 12)
          rw [o2', fR.2 12 (by decide)]; exact cW
theorem has_turn {mL mO : Mem} {ml : Lem} {nt a b : Nat} {t : Nat → Nat → Nat} (h : CT nt t mL mO) (ha : a < 5) (hb : b < 5) : ∃ z : Bool, mX1_hasTurn mL (nI a) (nI b) = some (bI z) ∧ itr (fun q => mX8_turnLine_s50 (nI a) (nI b) mO ml q) FU (0 : Int32) = some (cond z (Sum.inl ()) (Sum.inr ())) := by
  obtain ⟨a1, a2, a3, a4, a5, a6⟩ := h
  unfold mX1_hasTurn mX1_hasTurn_L2
  have stepC : ∀ i, i < nt → ∃ zz : Bool, mX1_hasTurn_s2 (nI a) (nI b) mL (nI i) = cond zz (some (Sum.inr (Sum.inl ()))) (some (Sum.inl (nI (i + 1)))) ∧ mX8_turnLine_s50 (nI a) (nI b) mO ml (nI i) = cond zz (some (Sum.inr (Sum.inl ()))) (some (Sum.inl (nI (i + 1)))) := by
    intro i hi
    obtain ⟨b1, b2, b3⟩ := a4 i hi
    have c7 : mL 7 i = nI (t 0 i) := a5 i hi 0 (by decide)
    have c8 : mL 8 i = nI (t 1 i) := a5 i hi 1 (by decide)
    have r0 : mO 5 (3 * i) = nI (t 0 i) := a6 i hi 0 (by decide)
    have r1 : mO 5 (3 * i + 1) = nI (t 1 i) := a6 i hi 1 (by decide)
    refine ⟨decide (t 0 i = a) && decide (t 1 i = b), ?_, ?_⟩
    · unfold mX1_hasTurn_s2
      rw [a2, if_neg (by rw [n_le (by omega) (by omega)]; omega)]
      simp only [gi_n (show i < 12 by omega) (show 12 < 2 ^ 31 by decide), nI_clamp (show i < 2 ^ 31 by omega), c7, c8, nm_d, nI_s]
      by_cases h1 : t 0 i = a
      · rw [if_neg (show ¬ ¬ nI (t 0 i) = nI a by rw [h1]; exact fun q => q rfl), decide_eq_true h1, Bool.true_and]
        by_cases h2 : t 1 i = b
        · rw [if_neg (show ¬ ¬ nI (t 1 i) = nI b by rw [h2]; exact fun q => q rfl), decide_eq_true h2]; rfl
        · rw [if_pos (show ¬ nI (t 1 i) = nI b by rw [n_eq (by omega) (by omega)]; exact h2), decide_eq_false h2]; rfl
      · rw [if_pos (show ¬ nI (t 0 i) = nI a by rw [n_eq (by omega) (by omega)]; exact h1), decide_eq_false h1]; rfl
    · unfold mX8_turnLine_s50
      rw [a3, if_neg (by rw [n_le (by omega) (by omega)]; omega)]
      simp only [ix3, nI_s, gi_n (show 3 * i < 36 by omega) (show 36 < 2 ^ 31 by decide), gi_n (show 3 * i + 1 < 36 by omega) (show 36 < 2 ^ 31 by decide), nI_clamp (show 3 * i < 2 ^ 31 by omega), nI_clamp (show 3 * i + 1 < 2 ^ 31 by omega), r0, r1, nm_d]
      by_cases h1 : t 0 i = a
      · rw [if_neg (show ¬ ¬ nI (t 0 i) = nI a by rw [h1]; exact fun q => q rfl), decide_eq_true h1, Bool.true_and]
        by_cases h2 : t 1 i = b
        · rw [if_neg (show ¬ ¬ nI (t 1 i) = nI b by rw [h2]; exact fun q => q rfl), decide_eq_true h2]; rfl
        · rw [if_pos (show ¬ nI (t 1 i) = nI b by rw [n_eq (by omega) (by omega)]; exact h2), decide_eq_false h2]; rfl
      · rw [if_pos (show ¬ nI (t 0 i) = nI a by rw [n_eq (by omega) (by omega)]; exact h1), decide_eq_false h1]; rfl
  have hloop : ∀ d i N, i + d = nt → d < N → ∃ z : Bool, itr (fun q => mX1_hasTurn_s2 (nI a) (nI b) mL q) N (nI i) = some (cond z (Sum.inl ()) (Sum.inr ())) ∧ itr (fun q => mX8_turnLine_s50 (nI a) (nI b) mO ml q) N (nI i) = some (cond z (Sum.inl ()) (Sum.inr ())) := by
    intro d
    induction d with
    | zero =>
      intro i N hi hN'
      obtain ⟨N, rfl⟩ : ∃ N', N = N' + 1 := ⟨N - 1, by omega⟩
      have : i = nt := by omega
      subst this
      refine ⟨false, ?_, ?_⟩
      · show bn (mX1_hasTurn_s2 (nI a) (nI b) mL (nI i)) _ = _
        unfold mX1_hasTurn_s2
        rw [a2, if_pos (Int32.le_refl _)]
        rfl
      · show bn (mX8_turnLine_s50 (nI a) (nI b) mO ml (nI i)) _ = _
        unfold mX8_turnLine_s50
        rw [a3, if_pos (Int32.le_refl _)]
        rfl
    | succ d ih =>
      intro i N hi hN'
      obtain ⟨N, rfl⟩ : ∃ N', N = N' + 1 := ⟨N - 1, by omega⟩
      obtain ⟨zz, z1, z2⟩ := stepC i (by omega)
      cases zz with
      | true =>
        refine ⟨true, ?_, ?_⟩
        · show bn (mX1_hasTurn_s2 (nI a) (nI b) mL (nI i)) _ = _
          rw [z1]
          rfl
        · show bn (mX8_turnLine_s50 (nI a) (nI b) mO ml (nI i)) _ = _
          rw [z2]
          rfl
      | false =>
        have e1 : itr (fun q => mX1_hasTurn_s2 (nI a) (nI b) mL q) (N + 1) (nI i) = itr (fun q => mX1_hasTurn_s2 (nI a) (nI b) mL q) N (nI (i + 1)) := by
          show bn (mX1_hasTurn_s2 (nI a) (nI b) mL (nI i)) _ = _
          rw [z1]
          rfl
        have e2 : itr (fun q => mX8_turnLine_s50 (nI a) (nI b) mO ml q) (N + 1) (nI i) = itr (fun q => mX8_turnLine_s50 (nI a) (nI b) mO ml q) N (nI (i + 1)) := by
          show bn (mX8_turnLine_s50 (nI a) (nI b) mO ml (nI i)) _ = _
          rw [z2]
          rfl
        rw [e1, e2]
        exact ih (i + 1) N (by omega) (by omega)
  obtain ⟨z, z1, z2⟩ := hloop nt 0 FU (by omega) (FU_gt (by omega))
  refine ⟨z, ?_, z2⟩
  rw [show (0 : Int32) = nI 0 from rfl, z1]
  cases z <;> rfl
theorem RT_turnL {len p : Nat} {mR mT mL mO : Mem} {ml : Lem} (hT : TXR len mT mO) (h : TOK len (mT 1) p mR mO ml) (hk : ¬ mR 0 7 = 0) (hD : RD len (mT 1) mR mL mO ml) : RT (mX3_readTurn mR mT mL) (mX8_turnLine mO ml) (LQ len (mT 1) p mO ml) := by
  obtain ⟨n, f, nt, t, sp, cS, cT, cP, cM, cK, cW, cN⟩ := hD
  have hl := hT.1
  obtain ⟨x1, x2, x3, x4, x5, x6⟩ := id cT
  unfold mX3_readTurn mX8_turnLine
  rw [x2, x3]
  by_cases h12 : nt = 12
  · subst h12
    rw [if_neg (by decide), if_neg (show ¬ ¬ nI 12 = (12 : Int32) from fun q => q rfl)]
    exact LQ_f hl h Fr.rf PL.rf
  · rw [if_pos (show nI nt < (12 : Int32) by rw [show (12 : Int32) = nI 12 from rfl, n_lt (by omega) (by decide)]; omega), if_pos (show ¬ nI nt = (12 : Int32) by rw [show (12 : Int32) = nI 12 from rfl, n_eq (by omega) (by decide)]; exact h12)]
    refine RT_b (RT_next (mR' := mR) (mO' := mO) (ml' := ml) hT h hk rfl rfl) (fun r1 o1 ho => ?_)
    obtain ⟨t1, f1, g1, e1⟩ := ho
    have hT1 := hT.fr g1 (by decide) (by decide)
    obtain ⟨v, v1, v2, v3⟩ := tok_kind hl t1
    simp only [nm_d]
    rw [v1, v2, bn_s, bn_s]
    rcases v3 with rfl | ⟨a, a5, rfl⟩
    · rw [if_neg (show ¬ ¬ (-1 : Int32) = -1 from fun q => q rfl), if_neg (show ¬ ¬ (-1 : Int32) = -1 from fun q => q rfl)]
      exact LQ_f hl t1 (g1.wk (by decide) (by decide)) e1.pl
    · rw [if_pos (n_nm1 (show a < 2 ^ 31 by omega)), if_pos (n_nm1 (show a < 2 ^ 31 by omega))]
      refine RT_b (RT_nextP (mR := r1) (mR' := r1) (mO := o1.1) (mO' := o1.1) (ml := o1.2) (ml' := o1.2) hT1 t1 rfl rfl) (fun r2 o2 ho2 => ?_)
      obtain ⟨t2, f2, g2, e2⟩ := ho2
      have hT2 := hT1.fr g2 (by decide) (by decide)
      obtain ⟨u, u1, u2, u3⟩ := tok_kind hl t2
      rw [u1, u2, bn_s, bn_s]
      rcases u3 with rfl | ⟨b, b5, rfl⟩
      · rw [if_pos rfl, if_pos rfl]
        exact LQ_f hl t2 ((g1.tr g2).wk (by decide) (by decide)) (e1.tr e2).pl
      · rw [if_neg (n_nm1 (show b < 2 ^ 31 by omega)), if_neg (n_nm1 (show b < 2 ^ 31 by omega))]
        by_cases hab : b = a
        · subst hab
          rw [if_pos rfl, if_neg (show ¬ ¬ nI b = nI b from fun q => q rfl)]
          exact LQ_f hl t2 ((g1.tr g2).wk (by decide) (by decide)) (e1.tr e2).pl
        · have hne : ¬ nI b = nI a := by rw [n_eq (by omega) (by omega)]; exact hab
          rw [if_neg hne, if_pos hne]
          have g12 := g1.tr g2
          have cT2 : CT nt t mL o2.1 := cT.fr Fr.rf g12 (by decide) (by decide) (by decide) (by decide) (a := []) (b := [])
          obtain ⟨z, z1, z2⟩ := has_turn (ml := o2.2) cT2 a5 b5
          unfold mX8_turnLine_L50
          rw [z1, z2, bn_s, bn_s, it_b0]
          cases z with
          | true =>
            rw [cd_t]
            exact LQ_f hl t2 (g12.wk (by decide) (by decide)) (e1.tr e2).pl
          | false =>
            rw [cd_f]
            show RT _ (bn (mX8_leads o2.1 o2.2) _) _
            refine RT_b (RT_nextP (mR := r2) (mR' := r2) (mO := o2.1) (mO' := o2.1) (ml := o2.2) (ml' := o2.2) hT2 t2 rfl rfl) (fun r3 o3 ho3 => ?_)
            obtain ⟨t3, f3, g3, e3⟩ := ho3
            have hT3 := hT2.fr g3 (by decide) (by decide)
            simp only [nm_d]
            refine RT_b (RT_num (lo := 0) (hi := 99) hT3 t3 (by decide) (by decide)) (fun q q' hq => ?_)
            rcases hq with ⟨rfl, rfl⟩ | ⟨q1, q2, A, A1, A2, A3, A4, t4, f4, g4, e4⟩
            · simp only [if_neg (show ¬ ¬ (0 : Int32) = 0 from fun q => q rfl)]
              exact LQ_f hl t3 ((g12.tr g3).wk (by decide) (by decide)) ((e1.tr e2).tr e3).pl
            · have o11 : q'.2.1 0 11 = nI nt := by rw [g4.2 11 (by decide), g3.2 11 (by decide), g12.2 11 (by decide)]; exact x3
              rw [q1, q2, if_pos (show ¬ (1 : Int32) = 0 by decide), if_pos (show ¬ (1 : Int32) = 0 by decide)]
              unfold mX1_addTurn
              rw [x2, if_neg (show ¬ (12 : Int32) ≤ nI nt by rw [show (12 : Int32) = nI 12 from rfl, n_le (by decide) (by omega)]; omega)]
              have u7 : ∀ (m : Mem) (k i : Nat) (x : Int32) (j : Nat), k ≠ 0 → upi m k i x 0 j = m 0 j := fun m k i x j hk => by rw [upi_d, if_neg (fun e => hk e.symm)]
              simp only [nm_d, bn_s, u7 _ _ _ _ _ (show (7 : Nat) ≠ 0 by decide), u7 _ _ _ _ _ (show (8 : Nat) ≠ 0 by decide), u7 _ _ _ _ _ (show (9 : Nat) ≠ 0 by decide), u7 _ _ _ _ _ (show (5 : Nat) ≠ 0 by decide), x2, o11, gi_n (show nt < 12 by omega) (show 12 < 2 ^ 31 by decide), nI_clamp (show nt < 2 ^ 31 by omega), ix3, nI_s, nI_p2, gi_n (show 3 * nt < 36 by omega) (show 36 < 2 ^ 31 by decide), gi_n (show 3 * nt + 1 < 36 by omega) (show 36 < 2 ^ 31 by decide), gi_n (show 3 * nt + 2 < 36 by omega) (show 36 < 2 ^ 31 by decide), nI_clamp (show 3 * nt < 2 ^ 31 by omega), nI_clamp (show 3 * nt + 1 < 2 ^ 31 by omega), nI_clamp (show 3 * nt + 2 < 2 ^ 31 by omega), A3, A4]
              have g5 : Fr [5] [11] q'.2.1 (upf (upi (upi (upi q'.2.1 5 (3 * nt) (nI a)) 5 (3 * nt + 1) (nI b)) 5 (3 * nt + 2) (nI A)) 11 (nI (nt + 1))) := (((Fr.rf.upi (by decide) (by decide)).upi (by decide) (by decide)).upi (by decide) (by decide)).upf (by decide)
              have hT4 := (hT3.fr g4 (by decide) (by decide)).fr g5 (by decide) (by decide)
              refine RT_b (RT_stop (mR := q.2) (mO := upf (upi (upi (upi q'.2.1 5 (3 * nt) (nI a)) 5 (3 * nt + 1) (nI b)) 5 (3 * nt + 2) (nI A)) 11 (nI (nt + 1))) (ml := q'.2.2) hT4 (p := p + 1) t4) (fun w w' hw => ?_)
              rcases hw with ⟨rfl, rfl⟩ | ⟨w1, w2, t5, f5, g6, e5⟩
              · simp only [gb_0]
                exact LQ_f hl (p' := p + 1) t4 (((g12.tr g3).wk (by decide) (by decide)).tr ((g4.wk (by decide) (by decide)).tr (g5.wk (by decide) (by decide)))) (((e1.tr e2).tr e3).tr e4).pl
              · rw [w1, w2]
                simp only [gb_1]
                have fR : Fr [] [5, 6, 7, 8, 9] mR w.2 := (((f1.tr f2).tr f3).wk (by decide) (by decide)).tr (f4.tr (f5.wk (by decide) (by decide)))
                have fO : Fr [5] [2, 3, 4, 11, 36] mO w'.2.1 := ((g12.tr g3).wk (by decide) (by decide)).tr ((g4.wk (by decide) (by decide)).tr ((g5.wk (by decide) (by decide)).tr (g6.wk (by decide) (by decide))))
                have fL : Fr [7, 8, 9] [13] mL (upf (upi (upi (upi mL 7 nt (nI a)) 8 nt (nI b)) 9 nt (nI A)) 13 (nI (nt + 1))) := (((Fr.rf.upi (by decide) (by decide)).upi (by decide) (by decide)).upi (by decide) (by decide)).upf (by decide)
                have n3 : ∀ i, w'.2.2 3 i = ml 3 i := fun i => (e5.n3 i).trans ((e4.n3 i).trans ((e3.n3 i).trans ((e2.n3 i).trans (e1.n3 i))))
                have o2' : w'.2.1 2 = mO 2 := fO.1 2 (by decide) (by decide)
                have o5 : ∀ i, w'.2.1 5 i = if i = 3 * nt + 2 then nI A else if i = 3 * nt + 1 then nI b else if i = 3 * nt then nI a else mO 5 i := fun i => by
                  rw [g6.1 5 (by decide) (by decide), upf_k _ _ _ _ (by decide)]
                  simp only [upi_d, reduceIte, upd_d]
                  rw [g4.1 5 (by decide) (by decide), g3.1 5 (by decide) (by decide), g12.1 5 (by decide) (by decide)]
                refine RT_s ⟨fO.wk (by decide) (by decide), (((e1.tr e2).tr e3).tr (e4.tr e5)).pl, Or.inr ⟨rfl, rfl, ⟨n, f, nt + 1, fun x k => if k = nt then (if x = 0 then a else if x = 1 then b else A) else t x k, sp, cS.fr fL fO (by decide) (by decide) (by decide) (by decide), ⟨by omega, rfl, (g6.2 11 (by decide)).trans rfl, fun k hk => ?_, fun k hk x hx => ?_, fun k hk x hx => ?_⟩, cP.fr fL fO (by decide) (by decide), ?_, ?_, ?_, cN.fr fR (by decide) (by decide) n3⟩, t5⟩⟩
                · dsimp only
                  by_cases hkn : k = nt
                  · simp only [if_pos hkn, reduceIte, Nat.reduceEqDiff]; exact ⟨a5, b5, A2⟩
                  · simp only [if_neg hkn]; exact x4 k (by omega)
                · have hx' : x = 0 ∨ x = 1 ∨ x = 2 := by omega
                  have old : k ≠ nt → mL (x + 7) k = nI (t x k) := fun hkn => x5 k (by omega) x hx
                  show (upf (upi (upi (upi mL 7 nt (nI a)) 8 nt (nI b)) 9 nt (nI A)) 13 (nI (nt + 1))) (x + 7) k = _
                  rw [upf_k _ _ _ _ (by omega)]
                  simp only [upi_d, Nat.reduceEqDiff, reduceIte]
                  by_cases hkn : k = nt
                  · rcases hx' with rfl | rfl | rfl <;> simp only [hkn, Nat.reduceAdd, Nat.reduceEqDiff, reduceIte, upd_d]
                  · have old := old hkn
                    rcases hx' with rfl | rfl | rfl <;> simp only [hkn, Nat.reduceAdd, Nat.reduceEqDiff, reduceIte, upd_d] <;> exact old
                · have hx' : x = 0 ∨ x = 1 ∨ x = 2 := by omega
                  show w'.2.1 5 (3 * k + x) = _
                  dsimp only
                  rw [o5]
                  by_cases hkn : k = nt
                  · subst hkn
                    rcases hx' with rfl | rfl | rfl
                    · rw [if_neg (by omega), if_neg (by omega), if_pos (by omega), if_pos rfl]; rfl
                    · rw [if_neg (by omega), if_pos (by omega), if_pos rfl]; rfl
                    · rw [if_pos (by omega), if_pos rfl]; rfl
                  · rw [if_neg (by omega), if_neg (by omega), if_neg (by omega), if_neg hkn]
                    exact x6 k (by omega) x hx
                · show CM (mL 0 0) (mL 0 1) (w'.2.1 2 0) (w'.2.1 2 1) (w.2 0 10)
                  rw [o2', fR.2 10 (by decide)]; exact cM
                · show CK (mL 0 2) (mL 0 3) (w'.2.1 2 2) (w'.2.1 2 3) (w.2 0 11)
                  rw [o2', fR.2 11 (by decide)]; exact cK
                · show CW (mL 0 4) (w'.2.1 2 4) (w.2 0 12)
                  rw [o2', fR.2 12 (by decide)]; exact cW
