/-! names, numbers and stops, on both sides -/
theorem TOK.wk {len : Nat} {b : Nat → Int32} {p p' : Nat} {mR mO : Mem} {ml : Lem} (h : TOK len b p mR mO ml) (hp : p' ≤ p) : TOK len b p' mR mO ml := by
  obtain ⟨st, pl, k, a1, a2⟩ := h
  exact ⟨st, pl, k, by omega, a2⟩
theorem TOK.at {len : Nat} {b : Nat → Int32} {p : Nat} {mR mO : Mem} {ml : Lem} (hl : len ≤ 500) (h : TOK len b p mR mO ml) : ∃ st, st ≤ 500 ∧ mR 0 5 = nI st ∧ mO 0 4 = nI st := by
  obtain ⟨st, pl, k, a1, a2, a3, a4, a5, a6, -⟩ := h
  exact ⟨st, by omega, a4, a6⟩
theorem TXR.fr {len : Nat} {mT mO mO' : Mem} {c d : List Nat} (h : TXR len mT mO) (hF : Fr c d mO mO') (h1 : 1 ∉ c) (h2 : 1 ∉ d) : TXR len mT mO' := ⟨h.1, h.2.1, (hF.2 1 h2).trans h.2.2.1, fun i hi => by rw [hF.1 1 h1 (by decide)]; exact h.2.2.2 i hi⟩
theorem name_both {len p : Nat} {mR mT mL mO : Mem} {ml : Lem} {n : Nat} (hl : len ≤ 500) (h : TOK len (mT 1) p mR mO ml) (hn : n ≤ 6) (c5 : mL 0 5 = nI n) (c7 : mO 0 7 = nI n) (hN : NM len (mT 1) n mR ml) :
    (mX3_canBeName mR mT mL = some 0 ∧ (mX8_isName mO ml = some 0 ∨ (mX8_isName mO ml = some 1 ∧ itr (fun q => mX8_sortLine_s26 mO ml q) FU (0 : Int32) = some (Sum.inl ())))) ∨
    (mX3_canBeName mR mT mL = some 1 ∧ mX8_isName mO ml = some 1 ∧ itr (fun q => mX8_sortLine_s26 mO ml q) FU (0 : Int32) = some (Sum.inr ()) ∧ ∃ st pl, st < pl ∧ pl ≤ len ∧ pl - st ≤ 8 ∧ LTS (mT 1) st pl ∧ mR 0 5 = nI st ∧ mR 0 6 = nI pl ∧ ml 0 5 = lN (pkn (cdN (mT 1)) st (pl - st))) := by
  obtain ⟨z, hz⟩ := tok_w hl h
  obtain ⟨v, v1, v2, v3⟩ := tok_kind hl h
  obtain ⟨st, pl, k, a1, a2, a3, a4, a5, a6, a7, a8, a9, a10⟩ := id h
  obtain ⟨b1, b2, b3⟩ := a10.k4
  unfold mX3_canBeName mX8_isName
  rw [a8, a9]
  by_cases hk : k = 1
  · subst hk
    obtain ⟨d1, d2, d3⟩ := b2 rfl
    rw [if_neg (show ¬ ¬ nI 1 = (1 : Int32) from fun q => q rfl), if_neg (show ¬ ¬ nI 1 = (1 : Int32) from fun q => q rfl), a4, a5, pk_sub a2, d3]
    by_cases h8 : pl - st ≤ 8
    · have hpk : wdv (cdN (mT 1)) st pl = pkn (cdN (mT 1)) st (pl - st) := by unfold wdv; rw [if_pos h8]
      have hp0 : 0 < pkn (cdN (mT 1)) st (pl - st) := pk_pos (by omega) (fun i hi => by have := d2.cd (i := st + i) (by omega) (by omega); omega)
      have hp1 : pkn (cdN (mT 1)) st (pl - st) < 2 ^ 63 := pkn_63 h8 (fun i hi => by have := d2.cd (i := st + i) (by omega) (by omega); omega)
      rw [hpk] at d3 ⊢
      rw [if_neg (show ¬ (8 : Int32) < nI (pl - st) by rw [show (8 : Int32) = nI 8 from rfl, n_lt (by decide) (by omega)]; omega), if_neg (show ¬ lg_cmp (lN (pkn (cdN (mT 1)) st (pl - st))) 0 = 0 by rw [lc_0, show (0 : Int64) = lN 0 from rfl, pk_lEQ hp1 (by decide)]; omega), v1, v2, bn_s, bn_s]
      by_cases hv : v = -1
      · rw [if_neg (fun q => q hv), if_neg (fun q => q hv)]
        unfold mX3_isLineWord
        rw [(hz 0 (by decide)).1, (hz 1 (by decide)).1, (hz 2 (by decide)).1, (hz 3 (by decide)).1, (hz 4 (by decide)).1, (hz 5 (by decide)).1, (hz 0 (by decide)).2, (hz 1 (by decide)).2, (hz 2 (by decide)).2, (hz 3 (by decide)).2, (hz 4 (by decide)).2, (hz 5 (by decide)).2]
        simp only [bn_s, it_b0, it_b1]
        cases z 0
        · cases z 1
          · cases z 2
            · cases z 3
              · cases z 4
                · cases z 5
                  · simp only [cond_false, bn_s, reduceIte]
                    unfold mX3_canBeName_L41
                    have stepC : ∀ i, i < n → ∃ zz : Bool, mX3_canBeName_s41 mR mT mL (nI i) = cond zz (some (Sum.inr (Sum.inl ()))) (some (Sum.inl (nI (i + 1)))) ∧ mX8_sortLine_s26 mO ml (nI i) = cond zz (some (Sum.inr (Sum.inl ()))) (some (Sum.inl (nI (i + 1)))) := by
                      intro i hi
                      obtain ⟨zz, z1, z2⟩ := c_isName hl hn hN hi d1 a3 h8 d2 a4 a5
                      refine ⟨zz, ?_, ?_⟩
                      · unfold mX3_canBeName_s41
                        rw [c5, if_neg (by rw [n_le (by omega) (by omega)]; omega), z1, bn_s, it_b0, nI_s, nm_d]
                      · unfold mX8_sortLine_s26
                        rw [c7, if_neg (by rw [n_le (by omega) (by omega)]; omega), gi_n (show i < 6 by omega) (by decide), nI_clamp (by omega), nI_s, nm_d, d3]
                        cases zz with
                        | true => rw [if_neg (fun q => q ((lc_0 _ _).mpr (z2.mp rfl)))]; rfl
                        | false => rw [if_pos (fun q => absurd (z2.mpr ((lc_0 _ _).mp q)) (by decide))]; rfl
                    have hloop : ∀ d i N, i + d = n → d < N → (itr (fun q => mX3_canBeName_s41 mR mT mL q) N (nI i) = some (Sum.inl ()) ∧ itr (fun q => mX8_sortLine_s26 mO ml q) N (nI i) = some (Sum.inl ())) ∨ (itr (fun q => mX3_canBeName_s41 mR mT mL q) N (nI i) = some (Sum.inr ()) ∧ itr (fun q => mX8_sortLine_s26 mO ml q) N (nI i) = some (Sum.inr ())) := by
                      intro d
                      induction d with
                      | zero =>
                        intro i N hi hN'
                        obtain ⟨N, rfl⟩ : ∃ N', N = N' + 1 := ⟨N - 1, by omega⟩
                        have : i = n := by omega
                        subst this
                        refine Or.inr ⟨?_, ?_⟩
                        · show bn (mX3_canBeName_s41 mR mT mL (nI i)) _ = _
                          unfold mX3_canBeName_s41
                          rw [c5, if_pos (Int32.le_refl _)]
                          rfl
                        · show bn (mX8_sortLine_s26 mO ml (nI i)) _ = _
                          unfold mX8_sortLine_s26
                          rw [c7, if_pos (Int32.le_refl _)]
                          rfl
                      | succ d ih =>
                        intro i N hi hN'
                        obtain ⟨N, rfl⟩ : ∃ N', N = N' + 1 := ⟨N - 1, by omega⟩
                        obtain ⟨zz, z1, z2⟩ := stepC i (by omega)
                        cases zz with
                        | true =>
                          refine Or.inl ⟨?_, ?_⟩
                          · show bn (mX3_canBeName_s41 mR mT mL (nI i)) _ = _
                            rw [z1]
                            rfl
                          · show bn (mX8_sortLine_s26 mO ml (nI i)) _ = _
                            rw [z2]
                            rfl
                        | false =>
                          have e1 : itr (fun q => mX3_canBeName_s41 mR mT mL q) (N + 1) (nI i) = itr (fun q => mX3_canBeName_s41 mR mT mL q) N (nI (i + 1)) := by
                            show bn (mX3_canBeName_s41 mR mT mL (nI i)) _ = _
                            rw [z1]
                            rfl
                          have e2 : itr (fun q => mX8_sortLine_s26 mO ml q) (N + 1) (nI i) = itr (fun q => mX8_sortLine_s26 mO ml q) N (nI (i + 1)) := by
                            show bn (mX8_sortLine_s26 mO ml (nI i)) _ = _
                            rw [z2]
                            rfl
                          rw [e1, e2]
                          exact ih (i + 1) N (by omega) (by omega)
                    rcases hloop n 0 FU (by omega) (FU_gt (by omega)) with ⟨l1, l2⟩ | ⟨l1, l2⟩
                    · exact Or.inl ⟨by rw [show (0 : Int32) = nI 0 from rfl, l1]; rfl, Or.inr ⟨trivial, l2⟩⟩
                    · exact Or.inr ⟨by rw [show (0 : Int32) = nI 0 from rfl, l1]; rfl, trivial, l2, st, pl, d1, a3, h8, d2, rfl, rfl, rfl⟩
                  · exact Or.inl ⟨rfl, Or.inl rfl⟩
                · exact Or.inl ⟨rfl, Or.inl rfl⟩
              · exact Or.inl ⟨rfl, Or.inl rfl⟩
            · exact Or.inl ⟨rfl, Or.inl rfl⟩
          · exact Or.inl ⟨rfl, Or.inl rfl⟩
        · exact Or.inl ⟨rfl, Or.inl rfl⟩
      · rw [if_pos hv, if_pos hv]
        exact Or.inl ⟨rfl, Or.inl rfl⟩
    · have hpk : wdv (cdN (mT 1)) st pl = 0 := by unfold wdv; rw [if_neg h8]
      rw [if_pos (show (8 : Int32) < nI (pl - st) by rw [show (8 : Int32) = nI 8 from rfl, n_lt (by decide) (by omega)]; omega), hpk, if_pos (show lg_cmp (lN 0) 0 = 0 by decide)]
      exact Or.inl ⟨rfl, Or.inl rfl⟩
  · have : ¬ nI k = (1 : Int32) := by rw [show (1 : Int32) = nI 1 from rfl, n_eq (by omega) (by decide)]; exact hk
    rw [if_pos this, if_pos this]
    exact Or.inl ⟨rfl, Or.inl rfl⟩
def NQ (len : Nat) (b : Nat → Int32) (p lo hi : Nat) (mR mO : Mem) (ml : Lem) (q : Int32 × Mem) (q' : Int32 × Mem × Lem) : Prop := (q = (0, mR) ∧ q' = (0, mO, ml)) ∨ (q.1 = 1 ∧ q'.1 = 1 ∧ ∃ v, lo ≤ v ∧ v ≤ hi ∧ q.2 0 9 = nI v ∧ q'.2.1 0 36 = nI v ∧ TOK len b p q.2 q'.2.1 q'.2.2 ∧ Fr [] [5, 6, 7, 8, 9] mR q.2 ∧ Fr [] [2, 3, 4, 36] mO q'.2.1 ∧ F5 ml q'.2.2)
theorem RT_num {len p lo hi : Nat} {mR mT mO : Mem} {ml : Lem} (hT : TXR len mT mO) (h : TOK len (mT 1) p mR mO ml) (hlo : lo ≤ 9999) (hhi : hi ≤ 9999) : RT (mX3_takeNumber mR mT (nI lo) (nI hi)) (mX8_number mO ml (nI lo) (nI hi)) (NQ len (mT 1) p lo hi mR mO ml) := by
  obtain ⟨st, pl, k, a1, a2, a3, a4, a5, a6, a7, a8, a9, a10⟩ := id h
  obtain ⟨b1, b2, b3⟩ := a10.k4
  unfold mX3_takeNumber mX8_number
  rw [a8, a9]
  by_cases hk : k = 2
  · subst hk
    have hN : NBR (mR 0 8) (ml 0 5) := by
      rcases a10 with ⟨c, -⟩ | ⟨c, -⟩ | ⟨-, -, c⟩ | ⟨c, -⟩
      · exact absurd c (by decide)
      · exact absurd c (by decide)
      · exact c
      · omega
    obtain ⟨c, r, n1, n2, n3, n4, n5⟩ := hN
    rw [if_neg (show ¬ ¬ nI 2 = (2 : Int32) from fun q => q rfl), if_neg (show ¬ ¬ nI 2 = (2 : Int32) from fun q => q rfl), n3, n4, c_isIn, bn_s, it_b1, btw_n (by omega) (by omega) (by omega), nI_l (show lo < 2 ^ 31 by omega), nI_l (show hi < 2 ^ 31 by omega)]
    by_cases h1 : lo ≤ c ∧ c ≤ hi
    · rw [decide_eq_true h1, cd_t, if_neg (show ¬ lg_cmp (lN r) (lN lo) < 0 by rw [lc_lt (by omega) (by omega)]; omega), if_pos (show lg_cmp (lN r) (lN hi) ≤ 0 by rw [lc_le (by omega) (by omega)]; omega), lN_i]
      simp only [nm_d]
      refine RT_b (RT_step (mR := upf mR 9 (nI c)) (mO := upf mO 36 (nI r)) (ml := ml) hT a3 a5 a7) (fun m q hq => ?_)
      obtain ⟨t1, t2, t3, t4⟩ := hq
      refine RT_s (Or.inr ⟨rfl, rfl, c, h1.1, h1.2, (t2.2 9 (by decide)).trans rfl, ?_, t1.wk (by omega), (Fr.rf.upf (by decide)).tr (t2.wk (by decide) (by decide)), (Fr.rf.upf (by decide)).tr (t3.wk (by decide) (by decide)), t4⟩)
      refine (t3.2 36 (by decide)).trans ?_
      show nI r = nI c
      rw [show r = c from by omega]
    · rw [decide_eq_false h1, cd_f]
      by_cases h2 : r < lo
      · rw [if_pos (show lg_cmp (lN r) (lN lo) < 0 by rw [lc_lt (by omega) (by omega)]; exact h2)]
        exact RT_s (Or.inl ⟨rfl, rfl⟩)
      · rw [if_neg (show ¬ lg_cmp (lN r) (lN lo) < 0 by rw [lc_lt (by omega) (by omega)]; exact h2), if_neg (show ¬ lg_cmp (lN r) (lN hi) ≤ 0 by rw [lc_le (by omega) (by omega)]; omega)]
        exact RT_s (Or.inl ⟨rfl, rfl⟩)
  · have : ¬ nI k = (2 : Int32) := by rw [show (2 : Int32) = nI 2 from rfl, n_eq (by omega) (by decide)]; exact hk
    rw [if_pos this, if_pos this]
    exact RT_s (Or.inl ⟨rfl, rfl⟩)
def SQt (len : Nat) (b : Nat → Int32) (p : Nat) (mR mO : Mem) (ml : Lem) (q : Int32 × Mem) (q' : Int32 × Mem × Lem) : Prop := (q = (0, mR) ∧ q' = (0, mO, ml)) ∨ (q.1 = 1 ∧ q'.1 = 1 ∧ TOK len b p q.2 q'.2.1 q'.2.2 ∧ Fr [] [5, 6, 7, 8] mR q.2 ∧ Fr [] [2, 3, 4] mO q'.2.1 ∧ F5 ml q'.2.2)
theorem RT_stop {len p : Nat} {mR mT mO : Mem} {ml : Lem} (hT : TXR len mT mO) (h : TOK len (mT 1) p mR mO ml) : RT (mX3_takeStop mR mT) (mX8_closes mO ml) (SQt len (mT 1) p mR mO ml) := by
  obtain ⟨st, pl, k, a1, a2, a3, a4, a5, a6, a7, a8, a9, a10⟩ := id h
  unfold mX3_takeStop mX8_closes
  rw [a8, a9]
  refine RT_if Iff.rfl (fun _ => ?_) (fun _ => RT_s (Or.inl ⟨rfl, rfl⟩))
  refine RT_b (RT_step (ml := ml) hT a3 a5 a7) (fun m q hq => ?_)
  obtain ⟨t1, t2, t3, t4⟩ := hq
  exact RT_s (Or.inr ⟨rfl, rfl, t1.wk (by omega), t2, t3, t4⟩)
theorem RT_next {len p : Nat} {mR mR' mT mO mO' : Mem} {ml : Lem} (hT : TXR len mT mO') (h : TOK len (mT 1) p mR mO ml) (hk : ¬ mR 0 7 = 0) (e6 : mR' 0 6 = mR 0 6) (e2 : mO' 0 2 = mO 0 2) {ml' : Lem} : RT (mX3_step mR' mT) (mX8_leads mO' ml') (fun m q => TOK len (mT 1) (p + 1) m q.1 q.2 ∧ Fr [] [5, 6, 7, 8] mR' m ∧ Fr [] [2, 3, 4] mO' q.1 ∧ F5 ml' q.2) := by
  obtain ⟨st, pl, k, a1, a2, a3, a4, a5, a6, a7, a8, a9, a10⟩ := id h
  obtain ⟨b1, b2, b3⟩ := a10.k4
  have hk0 : k ≠ 0 := fun e => hk (by rw [a8, e]; rfl)
  have := b3 hk0
  refine RT_m (RT_step (ml := ml') hT a3 (e6.trans a5) (e2.trans a7)) (fun m q hq => ?_)
  exact ⟨hq.1.wk (by omega), hq.2⟩
theorem RT_nextP {len p : Nat} {mR mR' mT mO mO' : Mem} {ml : Lem} (hT : TXR len mT mO') (h : TOK len (mT 1) p mR mO ml) (e6 : mR' 0 6 = mR 0 6) (e2 : mO' 0 2 = mO 0 2) {ml' : Lem} : RT (mX3_step mR' mT) (mX8_leads mO' ml') (fun m q => TOK len (mT 1) p m q.1 q.2 ∧ Fr [] [5, 6, 7, 8] mR' m ∧ Fr [] [2, 3, 4] mO' q.1 ∧ F5 ml' q.2) := by
  obtain ⟨st, pl, k, a1, a2, a3, a4, a5, a6, a7, a8, a9, a10⟩ := id h
  refine RT_m (RT_step (ml := ml') hT a3 (e6.trans a5) (e2.trans a7)) (fun m q hq => ?_)
  exact ⟨hq.1.wk (by omega), hq.2⟩
