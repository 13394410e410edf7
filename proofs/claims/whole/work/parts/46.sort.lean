/-! the line of a sort -/
def loS (j : Nat) : Nat := if j = 0 ∨ j = 3 then 1 else 0
def hiS (j : Nat) : Nat := [50, 99, 99, 60, 99, 16].getD j 0
theorem tab_ok : ∀ j, j < 6 → tabL j = nI (loS j) ∧ tabM j = nI (hiS j) ∧ mX8_mostOf (nI j) = some (nI (hiS j)) ∧ loS j ≤ 99 ∧ hiS j ≤ 99 := by decide +kernel
theorem s75_ok {mO : Mem} {ml : Lem} {j : Nat} (hj : j < 6) : mX8_sortLine_s75 (nI j) mO ml = mX8_sortLine_j96 (nI j) (nI (loS j)) mO ml := by
  unfold mX8_sortLine_s75 mX8_sortLine_j91
  rw [if_neg (by rw [show (6 : Int32) = nI 6 from rfl, n_le (by decide) (by omega)]; omega)]
  have : j = 0 ∨ j = 1 ∨ j = 2 ∨ j = 3 ∨ j = 4 ∨ j = 5 := by omega
  rcases this with rfl | rfl | rfl | rfl | rfl | rfl
  · rw [if_pos (by decide)]; rfl
  · rw [if_neg (by decide), if_pos (by decide)]; rfl
  · rw [if_neg (by decide), if_pos (by decide)]; rfl
  · rw [if_neg (by decide), if_neg (by decide)]; rfl
  · rw [if_neg (by decide), if_pos (by decide)]; rfl
  · rw [if_neg (by decide), if_pos (by decide)]; rfl
def S6 (n j : Nat) (u : Nat → Nat) (mR mO : Mem) : Prop := ∀ w, w < j → loS w ≤ u w ∧ u w ≤ hiS w ∧ mR 3 w = nI (u w) ∧ mO 4 (6 * n + w) = nI (u w)
def S6Q (len : Nat) (b : Nat → Int32) (p n : Nat) (mR mO : Mem) (ml : Lem) (o : Mem ⊕ Mem) (o' : (Mem × Lem) ⊕ (Mem × Lem)) : Prop := ∃ m q, Fr [3] [5, 6, 7, 8, 9] mR m ∧ Fr [4] [2, 3, 4, 36] mO q.1 ∧ (∀ i, i < 6 * n → q.1 4 i = mO 4 i) ∧ F5 ml q.2 ∧ TOK len b p m q.1 q.2 ∧ ((o = Sum.inl m ∧ o' = Sum.inl q) ∨ (o = Sum.inr m ∧ o' = Sum.inr q ∧ ∃ u, S6 n 6 u m q.1))
theorem RT_six {len p n : Nat} {mR mT mL mO : Mem} {ml : Lem} (hT : TXR len mT mO) (h : TOK len (mT 1) p mR mO ml) (hn : n < 6) (h7 : mO 0 7 = nI n) : RT (itr (fun q => mX3_readSort_s55 mT mL q.1 q.2) FU ((0 : Int32), mR)) (itr (fun q => mX8_sortLine_s75 q.1 q.2.1 q.2.2) FU ((0 : Int32), mO, ml)) (S6Q len (mT 1) p n mR mO ml) := by
  refine RT_itr (fun k (s : Int32 × Mem) (t : Int32 × Mem × Lem) => ∃ j u, j ≤ 6 ∧ k = 6 - j ∧ s.1 = nI j ∧ t.1 = nI j ∧ S6 n j u s.2 t.2.1 ∧ Fr [3] [5, 6, 7, 8, 9] mR s.2 ∧ Fr [4] [2, 3, 4, 36] mO t.2.1 ∧ (∀ i, i < 6 * n → t.2.1 4 i = mO 4 i) ∧ F5 ml t.2.2 ∧ TOK len (mT 1) p s.2 t.2.1 t.2.2) ?_ FU 6 _ _ ⟨0, fun _ => 0, by omega, rfl, rfl, rfl, fun i hi => absurd hi (Nat.not_lt_zero i), Fr.rf, Fr.rf, fun _ _ => rfl, F5.rf, h⟩ (FU_gt (by omega))
  rintro k ⟨s1, s2⟩ ⟨t1, t2, t3⟩ ⟨j, u, hj, rfl, e1, e2, hS, hF, hG, hO, hE, hK⟩
  dsimp only at e1 e2 hS hF hG hO hE hK
  subst e1; subst e2
  show RT (mX3_readSort_s55 mT mL (nI j) s2) (mX8_sortLine_s75 (nI j) t2 t3) _
  by_cases h6 : j = 6
  · subst h6
    unfold mX3_readSort_s55 mX8_sortLine_s75
    rw [if_pos (by decide), if_pos (by decide)]
    exact RT_s ⟨s2, (t2, t3), hF, hG, hO, hE, hK, Or.inr ⟨rfl, rfl, u, hS⟩⟩
  · have hlt : j < 6 := by omega
    obtain ⟨a1, a2, a3, a4, a5⟩ := tab_ok j hlt
    rw [s75_ok hlt]
    unfold mX3_readSort_s55 mX8_sortLine_j96
    rw [if_neg (by rw [show (6 : Int32) = nI 6 from rfl, n_le (by decide) (by omega)]; omega)]
    simp only [gi_n hlt (show 6 < 2 ^ 31 by decide), nI_clamp (show j < 2 ^ 31 by omega), nm_d, a1, a2, a3, bn_s]
    refine RT_b (RT_num (hT.fr hG (by decide) (by decide)) hK (by omega) (by omega)) (fun q q' hq => ?_)
    rcases hq with ⟨rfl, rfl⟩ | ⟨q1, q2, v, v1, v2, v3, v4, t4, f4, g4, e4⟩
    · simp only [if_neg (show ¬ ¬ (0 : Int32) = 0 from fun q => q rfl)]
      exact RT_s ⟨s2, (t2, t3), hF, hG, hO, hE, hK, Or.inl ⟨rfl, rfl⟩⟩
    · rw [q1, q2, if_pos (show ¬ (1 : Int32) = 0 by decide), if_pos (show ¬ (1 : Int32) = 0 by decide), g4.2 7 (by decide), hG.2 7 (by decide), h7, show ((6 : Int32) * nI n) + nI j = nI (6 * n + j) from by rw [show (6 : Int32) = nI 6 from rfl, n_mul, n_add], gi_n (show 6 * n + j < 36 by omega) (by decide), nI_clamp (show 6 * n + j < 2 ^ 31 by omega), nI_s, v3, v4]
      refine RT_s ⟨6 - (j + 1), by omega, j + 1, fun w => if w = j then v else u w, by omega, rfl, rfl, rfl, fun w hw => ?_, (hF.tr (f4.wk (by decide) (by decide))).upi (by decide) (by decide), (hG.tr (g4.wk (by decide) (by decide))).upi (by decide) (by decide), fun i hi => ?_, hE.tr e4, t4⟩
      · simp only [upi_d, reduceIte, upd_d]
        by_cases hwj : w = j
        · subst hwj
          simp only [reduceIte]
          exact ⟨v1, v2, trivial, trivial⟩
        · simp only [if_neg hwj, show ¬ (6 * n + w = 6 * n + j) by omega, reduceIte]
          rw [f4.1 3 (by decide) (by decide), g4.1 4 (by decide) (by decide)]
          exact hS w (by omega)
      · show (upi q'.2.1 4 (6 * n + j) (nI v)) 4 i = _
        rw [upi_d, if_pos rfl, upd_d, if_neg (by omega), g4.1 4 (by decide) (by decide)]
        exact hO i hi
theorem c_addSort {mL : Mem} {V : Nat → Int32} {n : Nat} (hn : n < 6) (h5 : mL 0 5 = nI n) : HT (mX1_addSort mL V) (fun m => m 0 5 = nI (n + 1) ∧ (∀ w, w < 6 → m (w + 1) = upd (mL (w + 1)) n (V w)) ∧ Fr [1, 2, 3, 4, 5, 6] [5] mL m) := by
  have u7 : ∀ (m : Mem) (k i : Nat) (x : Int32) (j : Nat), k ≠ 0 → upi m k i x 0 j = m 0 j := fun m k i x j hk => by rw [upi_d, if_neg (fun e => hk e.symm)]
  unfold mX1_addSort
  rw [h5, if_neg (show ¬ (6 : Int32) ≤ nI n by rw [show (6 : Int32) = nI 6 from rfl, n_le (by decide) (by omega)]; omega), if_neg (show ¬ (6 : Int32) < 6 by decide)]
  simp only [nm_d, gi_l (x := (0 : Int32)) (j := 0) (n := 6) rfl (by decide) (by decide), gi_l (x := (1 : Int32)) (j := 1) (n := 6) rfl (by decide) (by decide), gi_l (x := (2 : Int32)) (j := 2) (n := 6) rfl (by decide) (by decide), gi_l (x := (3 : Int32)) (j := 3) (n := 6) rfl (by decide) (by decide), gi_l (x := (4 : Int32)) (j := 4) (n := 6) rfl (by decide) (by decide), gi_l (x := (5 : Int32)) (j := 5) (n := 6) rfl (by decide) (by decide), u7 _ _ _ _ _ (show (1 : Nat) ≠ 0 by decide), u7 _ _ _ _ _ (show (2 : Nat) ≠ 0 by decide), u7 _ _ _ _ _ (show (3 : Nat) ≠ 0 by decide), u7 _ _ _ _ _ (show (4 : Nat) ≠ 0 by decide), u7 _ _ _ _ _ (show (5 : Nat) ≠ 0 by decide), u7 _ _ _ _ _ (show (6 : Nat) ≠ 0 by decide), h5, gi_n hn (show 6 < 2 ^ 31 by decide), nI_clamp (show n < 2 ^ 31 by omega), nI_s, show (0 : Int32).toNatClampNeg = 0 from by decide, show (1 : Int32).toNatClampNeg = 1 from by decide, show (2 : Int32).toNatClampNeg = 2 from by decide, show (3 : Int32).toNatClampNeg = 3 from by decide, show (4 : Int32).toNatClampNeg = 4 from by decide, show (5 : Int32).toNatClampNeg = 5 from by decide]
  refine HT_s ⟨rfl, fun w hw => ?_, ((((((Fr.rf.upi (by decide) (by decide)).upi (by decide) (by decide)).upi (by decide) (by decide)).upi (by decide) (by decide)).upi (by decide) (by decide)).upi (by decide) (by decide)).upf (by decide)⟩
  have : w = 0 ∨ w = 1 ∨ w = 2 ∨ w = 3 ∨ w = 4 ∨ w = 5 := by omega
  rcases this with rfl | rfl | rfl | rfl | rfl | rfl <;> rfl
theorem rg_of {u : Nat → Nat} {f : Nat → Nat → Nat} {s : Nat} (h : ∀ w, w < 6 → loS w ≤ u w ∧ u w ≤ hiS w) (hf : ∀ w, w < 6 → f w s = u w) : rgS f s := by
  unfold rgS
  rw [hf 0 (by decide), hf 1 (by decide), hf 2 (by decide), hf 3 (by decide), hf 4 (by decide), hf 5 (by decide)]
  exact ⟨(h 0 (by decide)).1, (h 0 (by decide)).2, (h 1 (by decide)).2, (h 2 (by decide)).2, (h 3 (by decide)).1, (h 3 (by decide)).2, (h 4 (by decide)).2, (h 5 (by decide)).2⟩
theorem RT_sortL {len p : Nat} {mR mT mL mO : Mem} {ml : Lem} (hT : TXR len mT mO) (h : TOK len (mT 1) p mR mO ml) (hk : ¬ mR 0 7 = 0) (hD : RD len (mT 1) mR mL mO ml) : RT (mX3_readSort mR mT mL) (mX8_sortLine mO ml) (LQ len (mT 1) p mO ml) := by
  obtain ⟨n, f, nt, t, sp, cS, cT, cP, cM, cK, cW, cN⟩ := hD
  have hl := hT.1
  obtain ⟨x1, x2, x3, x4, x5, x6⟩ := id cS
  unfold mX3_readSort mX8_sortLine
  rw [x2, x3, nm_d]
  by_cases h6 : n = 6
  · subst h6
    rw [if_neg (by decide), if_neg (show ¬ ¬ nI 6 = (6 : Int32) from fun q => q rfl)]
    exact LQ_f hl h Fr.rf PL.rf
  · have hn : n < 6 := by omega
    rw [if_pos (show nI n < (6 : Int32) by rw [show (6 : Int32) = nI 6 from rfl, n_lt (by omega) (by decide)]; omega), if_pos (show ¬ nI n = (6 : Int32) by rw [show (6 : Int32) = nI 6 from rfl, n_eq (by omega) (by decide)]; exact h6)]
    refine RT_b (RT_next (mR' := mR) (mO' := mO) (ml' := ml) hT h hk rfl rfl) (fun r1 o1 ho => ?_)
    obtain ⟨t1, f1, g1, e1⟩ := ho
    have hT1 := hT.fr g1 (by decide) (by decide)
    simp only [nm_d]
    have o7 : o1.1 0 7 = nI n := (g1.2 7 (by decide)).trans x3
    rcases name_both hl t1 x1 x2 o7 (cN.fr f1 (by decide) (by decide) e1.n3) with ⟨n1, n2 | ⟨n2, n3⟩⟩ | ⟨n1, n2, n3, st, pl, s1, s2, s3, s4, s5, s6, s7⟩
    · rw [n1, n2, bn_s, bn_s, if_neg (show ¬ ¬ (0 : Int32) = 0 from fun q => q rfl), if_neg (show ¬ ¬ (0 : Int32) = 0 from fun q => q rfl)]
      exact LQ_f hl t1 (g1.wk (by decide) (by decide)) e1.pl
    · unfold mX8_sortLine_L26
      rw [n1, n2, bn_s, bn_s, if_neg (show ¬ ¬ (0 : Int32) = 0 from fun q => q rfl), if_pos (show ¬ (1 : Int32) = 0 by decide), n3, bn_s]
      exact LQ_f hl t1 (g1.wk (by decide) (by decide)) e1.pl
    · unfold mX8_sortLine_L26
      rw [n1, n2, bn_s, bn_s, if_pos (show ¬ (1 : Int32) = 0 by decide), if_pos (show ¬ (1 : Int32) = 0 by decide), n3, bn_s, gi_n hn (by decide), gi_n hn (by decide), nI_clamp (show n < 2 ^ 31 by omega), s5]
      show RT _ (gi (o1.1 0 7) 6 (nm (upiL o1.2 3 (o1.1 0 7).toNatClampNeg (o1.2 0 5)) _)) _
      rw [o7, gi_n hn (by decide), nI_clamp (show n < 2 ^ 31 by omega), s7]
      simp only [nm_d]
      rw [show (upi r1 1 n (nI st)) 0 6 = r1 0 6 from rfl, s6]
      have fr2 : Fr [1, 2] [] r1 (upi (upi r1 1 n (nI st)) 2 n (nI pl)) := (Fr.rf.upi (by decide) (by decide)).upi (by decide) (by decide)
      refine RT_b (RT_nextP (mR := r1) (mR' := upi (upi r1 1 n (nI st)) 2 n (nI pl)) (mO := o1.1) (mO' := o1.1) (ml := o1.2) (ml' := upiL o1.2 3 n (lN (pkn (cdN (mT 1)) st (pl - st)))) hT1 t1 rfl rfl) (fun r2 o2 ho2 => ?_)
      obtain ⟨t2, f2, g2, e2⟩ := ho2
      have hT2 := hT1.fr g2 (by decide) (by decide)
      have p2 : PL o1.2 o2.2 := fun k i k3 k5 => by
        rw [e2 k i k5, upiL_d, if_neg k3]
      have nm2 : ∀ i, o2.2 3 i = if i = n then lN (pkn (cdN (mT 1)) st (pl - st)) else ml 3 i := fun i => by
        rw [e2.n3 i, upiL_d, if_pos rfl]
        show (if i = n then _ else o1.2 3 i) = _
        rw [e1.n3 i]
      unfold mX3_readSort_L55 mX8_sortLine_L75
      refine RT_b (RT_six (mL := mL) hT2 t2 hn ((g2.2 7 (by decide)).trans o7)) (fun z z' hz => ?_)
      obtain ⟨m, q, b1, b2, b3, b4, b5, hz⟩ := hz
      have fR1 : Fr [1, 2, 3] [5, 6, 7, 8, 9] mR m := (f1.wk (by decide) (by decide)).tr ((fr2.wk (by decide) (by decide)).tr ((f2.wk (by decide) (by decide)).tr (b1.wk (by decide) (by decide))))
      have fO1 : Fr [4] [2, 3, 4, 36] mO q.1 := (g1.wk (by decide) (by decide)).tr ((g2.wk (by decide) (by decide)).tr b2)
      rcases hz with ⟨rfl, rfl⟩ | ⟨rfl, rfl, u, hu⟩
      · show RT (some ((0 : Int32), m, mL)) (some ((0 : Int32), q.1, q.2)) _
        exact LQ_f hl b5 (fO1.wk (by decide) (by decide)) ((e1.pl.tr p2).tr b4.pl)
      · simp only [Sum.elim_inr, nm_d]
        obtain ⟨mN, eN, a1, a2, a3⟩ := c_addSort (V := m 3) hn x2
        rw [eN, bn_s, fO1.2 7 (by decide), x3, nI_s]
        have g3 : Fr [] [7] q.1 (upf q.1 7 (nI (n + 1))) := Fr.rf.upf (by decide)
        have hT3 := (hT2.fr b2 (by decide) (by decide)).fr g3 (by decide) (by decide)
        refine RT_b (RT_stop (mR := m) (mO := upf q.1 7 (nI (n + 1))) (ml := q.2) hT3 (p := p + 1) b5) (fun w w' hw => ?_)
        rcases hw with ⟨rfl, rfl⟩ | ⟨w1, w2, t5, f5, g6, e5⟩
        · simp only [nm_d, gb_0]
          exact LQ_f hl (p' := p + 1) b5 ((fO1.wk (by decide) (by decide)).tr (g3.wk (by decide) (by decide))) ((e1.pl.tr p2).tr b4.pl)
        · rw [w1, w2]
          simp only [nm_d, gb_1]
          have fR : Fr [1, 2, 3] [5, 6, 7, 8, 9] mR w.2 := fR1.tr (f5.wk (by decide) (by decide))
          have fO : Fr [4] [2, 3, 4, 7, 36] mO w'.2.1 := (fO1.wk (by decide) (by decide)).tr ((g3.wk (by decide) (by decide)).tr (g6.wk (by decide) (by decide)))
          have o2' : w'.2.1 2 = mO 2 := fO.1 2 (by decide) (by decide)
          have o4 : w'.2.1 4 = q.1 4 := (g6.1 4 (by decide) (by decide)).trans rfl
          have q4 : ∀ i, i < 6 * n → q.1 4 i = mO 4 i := fun i hi => by
            rw [b3 i hi, g2.1 4 (by decide) (by decide), g1.1 4 (by decide) (by decide)]
          refine RT_s ⟨fO.wk (by decide) (by decide), (e1.pl.tr p2).tr (b4.pl.tr e5.pl), Or.inr ⟨rfl, rfl, ⟨n + 1, fun x s => if s = n then u x else f x s, nt, t, sp, ⟨by omega, a1, (g6.2 7 (by decide)).trans rfl, fun s hs => ?_, fun s hs x hx => ?_, fun s hs x hx => ?_⟩, cT.fr a3 fO (by decide) (by decide) (by decide) (by decide), cP.fr a3 fO (by decide) (by decide), ?_, ?_, ?_, fun i hi => ?_⟩, t5⟩⟩
          · by_cases hsn : s = n
            · exact rg_of (u := u) (fun w hw => ⟨(hu w hw).1, (hu w hw).2.1⟩) (fun w hw => if_pos hsn)
            · have := x4 s (by omega)
              unfold rgS at this ⊢
              simp only [if_neg hsn]
              exact this
          · show mN (x + 1) s = nI (if s = n then u x else f x s)
            rw [a2 x hx, upd_d]
            by_cases hsn : s = n
            · rw [if_pos hsn, if_pos hsn]; exact (hu x hx).2.2.1
            · rw [if_neg hsn, if_neg hsn]; exact x5 s (by omega) x hx
          · show w'.2.1 4 (6 * s + x) = nI (if s = n then u x else f x s)
            rw [o4]
            by_cases hsn : s = n
            · rw [if_pos hsn, hsn]; exact (hu x hx).2.2.2
            · rw [if_neg hsn, q4 _ (by omega)]; exact x6 s (by omega) x hx
          · show CM (mN 0 0) (mN 0 1) (w'.2.1 2 0) (w'.2.1 2 1) (w.2 0 10)
            rw [o2', fR.2 10 (by decide), a3.2 0 (by decide), a3.2 1 (by decide)]; exact cM
          · show CK (mN 0 2) (mN 0 3) (w'.2.1 2 2) (w'.2.1 2 3) (w.2 0 11)
            rw [o2', fR.2 11 (by decide), a3.2 2 (by decide), a3.2 3 (by decide)]; exact cK
          · show CW (mN 0 4) (w'.2.1 2 4) (w.2 0 12)
            rw [o2', fR.2 12 (by decide), a3.2 4 (by decide)]; exact cW
          · have m1 : w.2 1 = upd (mR 1) n (nI st) := by
              rw [f5.1 1 (by decide) (by decide), b1.1 1 (by decide) (by decide), f2.1 1 (by decide) (by decide)]
              show upd (r1 1) n (nI st) = _
              rw [f1.1 1 (by decide) (by decide)]
            have m2 : w.2 2 = upd (mR 2) n (nI pl) := by
              rw [f5.1 2 (by decide) (by decide), b1.1 2 (by decide) (by decide), f2.1 2 (by decide) (by decide)]
              show upd (r1 2) n (nI pl) = _
              rw [f1.1 2 (by decide) (by decide)]
            have m3 : ∀ i, w'.2.2 3 i = if i = n then lN (pkn (cdN (mT 1)) st (pl - st)) else ml 3 i := fun i => by
              rw [e5.n3 i, b4.n3 i, nm2 i]
            show ∃ a e, a < e ∧ e ≤ len ∧ e - a ≤ 8 ∧ LTS (mT 1) a e ∧ w.2 1 i = nI a ∧ w.2 2 i = nI e ∧ w'.2.2 3 i = lN (pkn (cdN (mT 1)) a (e - a))
            rw [m1, m2, m3 i, upd_d, upd_d]
            by_cases hin : i = n
            · rw [if_pos hin, if_pos hin, if_pos hin]
              exact ⟨st, pl, s1, s2, s3, s4, rfl, rfl, rfl⟩
            · rw [if_neg hin, if_neg hin, if_neg hin]
              exact cN i (by omega)
