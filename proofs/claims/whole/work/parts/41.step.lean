/-! the next token, on both sides -/
def LTS (b : Nat → Int32) (s e : Nat) : Prop := ∀ i, s ≤ i → i < e → isL (b i) = true
theorem LTS.cd {b : Nat → Int32} {s e i : Nat} (h : LTS b s e) (h1 : s ≤ i) (h2 : i < e) : 97 ≤ cdN b i ∧ cdN b i ≤ 122 ∧ b i = nI (cdN b i) := by
  obtain ⟨c, c1, c2, c3⟩ := isL_n (h i h1 h2)
  unfold cdN
  rw [c3, nI_clamp (by omega)]
  exact ⟨c1, c2, rfl⟩
def NBR (v : Int32) (w : Int64) : Prop := ∃ c r, c ≤ 100000 ∧ r ≤ 100000 ∧ v = nI c ∧ w = lN r ∧ ((r = c ∧ r ≤ 9999) ∨ (9999 < r ∧ 9999 < c))
def wdv (c : Nat → Nat) (st pl : Nat) : Nat := if pl - st ≤ 8 then pkn c st (pl - st) else 0
def TKD (b : Nat → Int32) (len st pl k : Nat) (v : Int32) (w : Int64) : Prop := (k = 0 ∧ st = len ∧ pl = len) ∨ (k = 1 ∧ st < pl ∧ LTS b st pl ∧ w = lN (wdv (cdN b) st pl)) ∨ (k = 2 ∧ st < pl ∧ NBR v w) ∨ ((k = 3 ∨ k = 4) ∧ st < pl)
def TOK (len : Nat) (b : Nat → Int32) (p : Nat) (mR mO : Mem) (ml : Lem) : Prop := ∃ st pl k, p ≤ st ∧ st ≤ pl ∧ pl ≤ len ∧ mR 0 5 = nI st ∧ mR 0 6 = nI pl ∧ mO 0 4 = nI st ∧ mO 0 2 = nI pl ∧ mR 0 7 = nI k ∧ mO 0 3 = nI k ∧ TKD b len st pl k (mR 0 8) (ml 0 5)
theorem RT_lets {len : Nat} {mR mT mO : Mem} {ml : Lem} (hT : TXR len mT mO) {st : Nat} (hst : st < len) (h6 : mR 0 6 = nI st) (h2 : mO 0 2 = nI st) (h4 : mO 0 4 = nI st) (h5 : ml 0 5 = 0) :
    RT (itr (fun q => mX3_step_s62 mT q) FU mR) (itr (fun q => mX8_leads_s99 q.1 q.2) FU (mO, ml)) (fun m m' => ∃ p, st ≤ p ∧ p ≤ len ∧ m 0 6 = nI p ∧ m'.1 0 2 = nI p ∧ LTS (mT 1) st p ∧ (isL (mT 1 st) = true → st < p) ∧ m'.2 0 5 = lN (pkn (cdN (mT 1)) st (min (p - st) 8)) ∧ Fr [] [6] mR m ∧ Fr [] [2] mO m'.1 ∧ F5 ml m'.2) := by
  obtain ⟨hl, t1, o1, hb⟩ := hT
  refine RT_itr (fun k (s : Mem) (t : Mem × Lem) => ∃ p, st ≤ p ∧ p ≤ len ∧ k = len - p ∧ s 0 6 = nI p ∧ t.1 0 2 = nI p ∧ LTS (mT 1) st p ∧ t.2 0 5 = lN (pkn (cdN (mT 1)) st (min (p - st) 8)) ∧ Fr [] [6] mR s ∧ Fr [] [2] mO t.1 ∧ F5 ml t.2) ?_ FU (len - st) _ _ ⟨st, Nat.le_refl _, by omega, rfl, h6, h2, fun i h1 h2 => by omega, by rw [Nat.sub_self]; exact h5, Fr.rf, Fr.rf, F5.rf⟩ (FU_gt (by omega))
  rintro k s ⟨t, t'⟩ ⟨q, q1, q2, rfl, q3, q4, hL, hv, hF, hG, hH⟩
  dsimp only at q4 hv hG hH
  show RT (mX3_step_s62 mT s) (mX8_leads_s99 t t') _
  unfold mX3_step_s62 mX8_leads_s99 mX8_leads_j161
  rw [t1, hG.2 1 (by decide), o1, q3, q4]
  refine RT_if Iff.rfl (fun h => ?_) (fun h => ?_)
  · rw [n_le (by omega) (by omega)] at h
    exact RT_s ⟨q, q1, q2, q3, q4, hL, fun _ => by omega, hv, hF, hG, hH⟩
  · rw [n_le (by omega) (by omega)] at h
    rw [gi_n (show q < 500 by omega) (by decide), gi_n (show q < 500 by omega) (by decide), gi_n (show q < 500 by omega) (by decide), nI_clamp (by omega), hG.1 1 (by decide) (by decide), hb q (by omega), c_let, o_let, bn_s, bn_s, it_b0, it_b0]
    cases hq : isL (mT 1 q) with
    | false =>
      rw [cd_f, cd_f]
      refine RT_s ⟨q, q1, q2, q3, q4, hL, fun hs => ?_, hv, hF, hG, hH⟩
      rcases Nat.lt_or_ge st q with h1 | h1
      · exact h1
      · have : st = q := by omega
        rw [this, hq] at hs
        exact absurd hs (by decide)
    | true =>
      rw [cd_t, cd_t, hG.2 4 (by decide), h4, pk_sub q1]
      simp only [nm_d, nI_s]
      have hL2 : LTS (mT 1) st (q + 1) := fun i i1 i2 => by
        by_cases hiq : i = q
        · rw [hiq]; exact hq
        · exact hL i i1 (by omega)
      obtain ⟨c1, c2, c3⟩ := hL2.cd q1 (Nat.lt_succ_self q)
      by_cases h8 : 8 ≤ q - st
      · rw [if_pos (by rw [show (8 : Int32) = nI 8 from rfl, n_le (by decide) (by omega)]; exact h8)]
        refine RT_s ⟨len - (q + 1), by omega, q + 1, by omega, by omega, rfl, rfl, rfl, hL2, ?_, hF.upf (by decide), hG.upf (by decide), hH⟩
        dsimp only
        rw [hv, Nat.min_eq_right h8, Nat.min_eq_right (by omega)]
      · rw [if_neg (by rw [show (8 : Int32) = nI 8 from rfl, n_le (by decide) (by omega)]; exact h8), hv, c3, Nat.min_eq_left (by omega), l_pack (pkn_8 (by omega) (fun i hi => by have := hL.cd (i := st + i) (by omega) (by omega); omega)) (by omega)]
        refine RT_s ⟨len - (q + 1), by omega, q + 1, by omega, by omega, rfl, rfl, rfl, hL2, ?_, hF.upf (by decide), hG.upf (by decide), hH.up⟩
        show lN _ = _
        rw [Nat.min_eq_left (by omega), show q + 1 - st = (q - st) + 1 from by omega]
        show _ = lN (pkn (cdN (mT 1)) st (q - st) * 256 + cdN (mT 1) (st + (q - st)))
        rw [show st + (q - st) = q from by omega]
theorem RT_digs {len : Nat} {mR mT mO : Mem} {ml : Lem} (hT : TXR len mT mO) {st : Nat} (hst : st < len) (h6 : mR 0 6 = nI st) (h2 : mO 0 2 = nI st) (h8 : mR 0 8 = 0) (h5 : ml 0 5 = 0) :
    RT (itr (fun q => mX3_step_s119 mT q) FU mR) (itr (fun q => mX8_leads_s208 q.1 q.2) FU (mO, ml)) (fun m m' => ∃ p, st ≤ p ∧ p ≤ len ∧ m 0 6 = nI p ∧ m'.1 0 2 = nI p ∧ (isD (mT 1 st) = true → st < p) ∧ NBR (m 0 8) (m'.2 0 5) ∧ Fr [] [6, 8] mR m ∧ Fr [] [2] mO m'.1 ∧ F5 ml m'.2) := by
  obtain ⟨hl, t1, o1, hb⟩ := hT
  refine RT_itr (fun k (s : Mem) (t : Mem × Lem) => ∃ p, st ≤ p ∧ p ≤ len ∧ k = len - p ∧ s 0 6 = nI p ∧ t.1 0 2 = nI p ∧ NBR (s 0 8) (t.2 0 5) ∧ Fr [] [6, 8] mR s ∧ Fr [] [2] mO t.1 ∧ F5 ml t.2) ?_ FU (len - st) _ _ ⟨st, Nat.le_refl _, by omega, rfl, h6, h2, ⟨0, 0, by omega, by omega, h8, h5, Or.inl ⟨rfl, by omega⟩⟩, Fr.rf, Fr.rf, F5.rf⟩ (FU_gt (by omega))
  rintro k s ⟨t, t'⟩ ⟨q, q1, q2, rfl, q3, q4, ⟨c, r, n1, n2, n3, n4, n5⟩, hF, hG, hH⟩
  dsimp only at q4 n4 hG hH
  show RT (mX3_step_s119 mT s) (mX8_leads_s208 t t') _
  unfold mX3_step_s119 mX8_leads_s208 mX8_leads_j276
  rw [t1, hG.2 1 (by decide), o1, q3, q4]
  refine RT_if Iff.rfl (fun h => ?_) (fun h => ?_)
  · rw [n_le (by omega) (by omega)] at h
    exact RT_s ⟨q, q1, q2, q3, q4, fun _ => by omega, ⟨c, r, n1, n2, n3, n4, n5⟩, hF, hG, hH⟩
  · rw [n_le (by omega) (by omega)] at h
    rw [gi_n (show q < 500 by omega) (by decide), gi_n (show q < 500 by omega) (by decide), gi_n (show q < 500 by omega) (by decide), gi_n (show q < 500 by omega) (by decide), nI_clamp (by omega), hG.1 1 (by decide) (by decide), hb q (by omega), c_dig, o_dig, bn_s, bn_s, it_b0, it_b0]
    cases hq : isD (mT 1 q) with
    | false =>
      rw [cd_f, cd_f]
      refine RT_s ⟨q, q1, q2, q3, q4, fun hs => ?_, ⟨c, r, n1, n2, n3, n4, n5⟩, hF, hG, hH⟩
      rcases Nat.lt_or_ge st q with h1 | h1
      · exact h1
      · have : st = q := by omega
        rw [this, hq] at hs
        exact absurd hs (by decide)
    | true =>
      obtain ⟨d, d1, d2, d3⟩ := isD_n hq
      rw [cd_t, cd_t, d3, n3, n4, show (10 : Int32) = nI 10 from rfl, n_mul, n_add, show (48 : Int32) = nI 48 from rfl, pk_sub (by omega), show (100000 : Int32) = nI 100000 from rfl, mn_i (by omega) (by decide), show (9999 : Int64) = lN 9999 from rfl, nI_l (show d < 2 ^ 31 by omega), show (10 : Int64) = lN 10 from rfl, lN_mul, lN_add, show (48 : Int64) = lN 48 from rfl, lN_sub (by omega)]
      simp only [nm_d, upf_0, Nat.reduceEqDiff, reduceIte, q3, q4, nI_s]
      by_cases h9 : r ≤ 9999
      · rw [if_pos (by rw [lc_le (by omega) (by omega)]; exact h9)]
        refine RT_s ⟨len - (q + 1), by omega, q + 1, by omega, by omega, rfl, rfl, rfl, ⟨min (c * 10 + d - 48) 100000, 10 * r + d - 48, by omega, by omega, rfl, rfl, ?_⟩, (hF.upf (by decide)).upf (by decide), hG.upf (by decide), hH.up⟩
        omega
      · rw [if_neg (by rw [lc_le (by omega) (by omega)]; exact h9)]
        refine RT_s ⟨len - (q + 1), by omega, q + 1, by omega, by omega, rfl, rfl, rfl, ⟨min (c * 10 + d - 48) 100000, r, by omega, by omega, rfl, rfl, ?_⟩, (hF.upf (by decide)).upf (by decide), hG.upf (by decide), hH.up⟩
        omega
theorem RT_step {len : Nat} {mR mT mO : Mem} {ml : Lem} (hT : TXR len mT mO) {p : Nat} (hp : p ≤ len) (h6 : mR 0 6 = nI p) (h2 : mO 0 2 = nI p) :
    RT (mX3_step mR mT) (mX8_leads mO ml) (fun m q => TOK len (mT 1) p m q.1 q.2 ∧ Fr [] [5, 6, 7, 8] mR m ∧ Fr [] [2, 3, 4] mO q.1 ∧ F5 ml q.2) := by
  unfold mX3_step mX3_skipBlanks mX3_skipBlanks_L0 mX8_leads mX8_leads_L0
  obtain ⟨m, m', em, em', st, a1, a2, a3, a4, aF, aG⟩ := RT_blank (ml := ml) hT hp h6 h2
  obtain ⟨hl, t1, o1, hb⟩ := id hT
  rw [em, em']
  simp only [bn_s, nm_d, upf_0, Nat.reduceEqDiff, reduceIte, a3, a4, t1, aG.2 1 (by decide), o1]
  have fr1 : Fr [] [5, 6, 7, 8] mR (upf m 5 (nI st)) := (aF.wk (by decide) (by decide)).upf (by decide)
  have fr2 : Fr [] [2, 3, 4] mO (upf (upf m' 4 (nI st)) 3 0) := ((aG.wk (by decide) (by decide)).upf (by decide)).upf (by decide)
  by_cases hs : st < len
  · rw [if_pos (show nI st < nI len by rw [n_lt (by omega) (by omega)]; exact hs), if_pos (show ¬ nI st = nI len by rw [n_eq (by omega) (by omega)]; omega), gi_n (show st < 500 by omega) (by decide), gi_n (show st < 500 by omega) (by decide), nI_clamp (by omega), upf_k _ _ _ _ (by decide), upf_k _ _ _ _ (by decide), aG.1 1 (by decide) (by decide), hb st (by omega), c_let, c_dig, o_let, o_dig]
    simp only [bn_s, it_b0]
    cases h1 : isL (mT 1 st) with
    | true =>
      rw [cd_t, cd_t]
      unfold mX3_step_L62 mX8_leads_L99 mX8_leads_j193
      have hT2 : TXR len mT (upf (upf m' 4 (nI st)) 3 0) := ⟨hl, t1, (fr2.2 1 (by decide)).trans o1, fun i hi => by rw [fr2.1 1 (by decide) (by decide)]; exact hb i hi⟩
      obtain ⟨w, w', ew, ew', e, b1, b2, b3, b4, b5, b6, b7, bF, bG, bH⟩ := RT_lets (mR := upf (upf (upf m 5 (nI st)) 8 0) 7 1) (ml := upfL ml 5 0) hT2 hs a3 a4 rfl rfl
      rw [ew, ew']
      have k4 : w'.1 0 4 = nI st := (bG.2 4 (by decide)).trans rfl
      have b6' := b6 h1
      simp only [bn_s, nm_d, b4, k4]
      rw [pk_sub b1]
      by_cases h8 : e - st ≤ 8
      · rw [if_pos (show nI (e - st) ≤ (8 : Int32) by rw [show (8 : Int32) = nI 8 from rfl, n_le (by omega) (by decide)]; exact h8)]
        refine RT_s ⟨⟨st, e, 1, a1, b1, b2, (bF.2 5 (by decide)).trans rfl, b3, k4, b4, (bF.2 7 (by decide)).trans rfl, rfl, Or.inr (Or.inl ⟨rfl, b6', b5, ?_⟩)⟩, fr1.tr (((Fr.rf.upf (by decide)).upf (by decide)).tr (bF.wk (by decide) (by decide))), (fr2.tr (bG.wk (by decide) (by decide))).upf (by decide), (F5.rf.up).tr bH⟩
        show w'.2 0 5 = _
        rw [b7, Nat.min_eq_left h8]
        unfold wdv
        rw [if_pos h8]
      · rw [if_neg (show ¬ nI (e - st) ≤ (8 : Int32) by rw [show (8 : Int32) = nI 8 from rfl, n_le (by omega) (by decide)]; exact h8)]
        refine RT_s ⟨⟨st, e, 1, a1, b1, b2, (bF.2 5 (by decide)).trans rfl, b3, k4, b4, (bF.2 7 (by decide)).trans rfl, rfl, Or.inr (Or.inl ⟨rfl, b6', b5, ?_⟩)⟩, fr1.tr (((Fr.rf.upf (by decide)).upf (by decide)).tr (bF.wk (by decide) (by decide))), (fr2.tr (bG.wk (by decide) (by decide))).upf (by decide), ((F5.rf.up).tr bH).up⟩
        unfold wdv
        rw [if_neg h8]
        rfl
    | false =>
      rw [cd_f, cd_f]
      cases h3 : isD (mT 1 st) with
      | true =>
        rw [cd_t, cd_t]
        unfold mX3_step_L119 mX8_leads_L208
        have hT2 : TXR len mT (upf (upf m' 4 (nI st)) 3 0) := ⟨hl, t1, (fr2.2 1 (by decide)).trans o1, fun i hi => by rw [fr2.1 1 (by decide) (by decide)]; exact hb i hi⟩
        obtain ⟨w, w', ew, ew', e, b1, b2, b3, b4, b6, b7, bF, bG, bH⟩ := RT_digs (mR := upf (upf (upf m 5 (nI st)) 8 0) 7 2) (ml := upfL ml 5 0) hT2 hs a3 a4 rfl rfl
        rw [ew, ew']
        have k4 : w'.1 0 4 = nI st := (bG.2 4 (by decide)).trans rfl
        simp only [bn_s, nm_d]
        exact RT_s ⟨⟨st, e, 2, a1, b1, b2, (bF.2 5 (by decide)).trans rfl, b3, k4, b4, (bF.2 7 (by decide)).trans rfl, rfl, Or.inr (Or.inr (Or.inl ⟨rfl, b6 h3, b7⟩))⟩, fr1.tr (((Fr.rf.upf (by decide)).upf (by decide)).tr (bF.wk (by decide) (by decide))), (fr2.tr (bG.wk (by decide) (by decide))).upf (by decide), (F5.rf.up).tr bH⟩
      | false =>
        rw [cd_f, cd_f]
        unfold mX3_step_j208 mX8_leads_j312
        simp only [nm_d, upf_0, Nat.reduceEqDiff, reduceIte, a3, a4, nI_s]
        refine RT_if Iff.rfl (fun _ => ?_) (fun _ => ?_)
        · exact RT_s ⟨⟨st, st + 1, 4, a1, by omega, by omega, rfl, rfl, rfl, rfl, rfl, rfl, Or.inr (Or.inr (Or.inr ⟨Or.inr rfl, by omega⟩))⟩, ((fr1.upf (by decide)).upf (by decide)).upf (by decide), (fr2.upf (by decide)).upf (by decide), F5.rf.up⟩
        · exact RT_s ⟨⟨st, st + 1, 3, a1, by omega, by omega, rfl, rfl, rfl, rfl, rfl, rfl, Or.inr (Or.inr (Or.inr ⟨Or.inl rfl, by omega⟩))⟩, ((fr1.upf (by decide)).upf (by decide)).upf (by decide), (fr2.upf (by decide)).upf (by decide), F5.rf.up⟩
  · have : st = len := by omega
    subst this
    rw [if_neg (by rw [n_lt (by omega) (by omega)]; exact hs), if_neg (fun q => q rfl)]
    exact RT_s ⟨⟨st, st, 0, a1, by omega, by omega, rfl, a3, rfl, a4, rfl, rfl, Or.inl ⟨rfl, rfl, rfl⟩⟩, fr1.upf (by decide), fr2, F5.rf.up⟩
