/-! the text grows; the market is asked -/
def sI (h : Nat → Int32) : Nat → Int32
  | 0 => 0
  | k + 1 => sI h k + h k
theorem sI_cg {h h' : Nat → Int32} : ∀ k, (∀ i, i < k → h i = h' i) → sI h k = sI h' k
  | 0, _ => rfl
  | k + 1, e => by
    show sI h k + h k = sI h' k + h' k
    rw [sI_cg k (fun i hi => e i (by omega)), e k (by omega)]
theorem sI_z {h : Nat → Int32} {n : Nat} : ∀ d, (∀ i, n ≤ i → i < n + d → h i = 0) → sI h (n + d) = sI h n
  | 0, _ => rfl
  | d + 1, e => by
    show sI h (n + d) + h (n + d) = sI h n
    rw [sI_z d (fun i a b => e i a (by omega)), e (n + d) (by omega) (by omega), Int32.add_zero]
theorem c_lost (mM : Mem) : mX2_allLost mM = some (sI (mM 2) 6) := by
  have hit := itr_run (B := fun q : Int32 × Int32 => mX2_allLost_s4 mM q.1 q.2) (fun j => (sI (mM 2) j, nI j)) (r := sI (mM 2) 6) (n := 6) (fun j hj => by
      show mX2_allLost_s4 mM (sI (mM 2) j) (nI j) = some (Sum.inl (sI (mM 2) (j + 1), nI (j + 1)))
      unfold mX2_allLost_s4
      rw [if_neg (by rw [show (6 : Int32) = nI 6 from rfl, n_le (by decide) (by omega)]; omega), gi_n hj (by decide), nI_clamp (by omega), nm_d, nI_s, nm_d]
      rfl) (by
      show mX2_allLost_s4 mM (sI (mM 2) 6) (nI 6) = _
      unfold mX2_allLost_s4
      rw [if_pos (by decide)]) 0 FU (Nat.zero_le _) (FU_gt (by omega))
  unfold mX2_allLost mX2_allLost_L4
  rw [show ((0 : Int32), (0 : Int32)) = (sI (mM 2) 0, nI 0) from rfl, hit, bn_s, nm_d]
theorem o_lost {mO : Mem} {ml : Lem} {n : Nat} (hn : n ≤ 6) (h18 : mO 0 18 = nI n) : mX8_market_L131 (3 : Int32) (0 : Int32) (0 : Int32) mO ml = some (sI (mO 9) n) := by
  have hit := itr_run (B := fun q : Int32 × Int32 => mX8_market_s131 (3 : Int32) mO ml q.1 q.2) (fun j => (sI (mO 9) j, nI j)) (r := sI (mO 9) n) (n := n) (fun j hj => by
      show mX8_market_s131 (3 : Int32) mO ml (sI (mO 9) j) (nI j) = some (Sum.inl (sI (mO 9) (j + 1), nI (j + 1)))
      unfold mX8_market_s131
      rw [h18, if_neg (by rw [n_le (by omega) (by omega)]; omega), if_neg (show ¬ ¬ (3 : Int32) = 3 from fun q => q rfl), gi_n (show j < 6 by omega) (by decide), nI_clamp (by omega), nm_d, nI_s, nm_d]
      rfl) (by
      show mX8_market_s131 (3 : Int32) mO ml (sI (mO 9) n) (nI n) = _
      unfold mX8_market_s131
      rw [h18, if_pos (Int32.le_refl _)]) 0 FU (Nat.zero_le _) (FU_gt (by omega))
  unfold mX8_market_L131
  rw [show ((0 : Int32), (0 : Int32)) = (sI (mO 9) 0, nI 0) from rfl, hit, bn_s, nm_d]
theorem o_131 {mO : Mem} {ml : Lem} {v1 v2 : Int32} (hv : ¬ v1 = 3) : mX8_market_L131 v1 v2 (0 : Int32) mO ml = some v2 := by
  have hit := itr_run (B := fun q : Int32 × Int32 => mX8_market_s131 v1 mO ml q.1 q.2) (fun _ => (v2, (0 : Int32))) (r := v2) (n := 0) (fun j hj => absurd hj (Nat.not_lt_zero j)) (by
      show mX8_market_s131 v1 mO ml v2 (0 : Int32) = _
      unfold mX8_market_s131
      rw [if_pos (show ¬ v1 = 3 from hv), ite_self]) 0 FU (Nat.zero_le _) (FU_gt (by omega))
  unfold mX8_market_L131
  rw [hit, bn_s, nm_d]
theorem RT_owed {n : Nat} {mM mO : Mem} {ml : Lem} (h : HR n mM (mO 8) (mO 9) (mO 10)) : RT (mX2_loansOwed mM) (mX8_market_L85 (1 : Int32) (0 : Int32) (0 : Int32) mO ml) (fun a b => a = b) := by
  unfold mX2_loansOwed mX2_loansOwed_L4 mX8_market_L85
  refine RT_b (Q := fun a b => a = b) (RT_itr (fun k (s t : Int32 × Int32) => s = t ∧ ∃ j, j ≤ 40 ∧ k = 40 - j ∧ s.2 = nI j) ?_ FU 40 _ _ ⟨rfl, 0, by omega, rfl, rfl⟩ (FU_gt (by omega))) (fun a b hab => by rw [hab, nm_d, nm_d, o_131 (by decide)]; exact RT_s rfl)
  rintro k ⟨s1, s2⟩ _ ⟨rfl, j, hj, rfl, e1⟩
  dsimp only at e1
  subst e1
  show RT (mX2_loansOwed_s4 mM s1 (nI j)) (mX8_market_s85 (1 : Int32) mO ml s1 (nI j)) _
  unfold mX2_loansOwed_s4 mX8_market_s85 mX8_market_j121
  refine RT_if Iff.rfl (fun _ => RT_s rfl) (fun hc => ?_)
  rw [show (40 : Int32) = nI 40 from rfl, n_le (by decide) (by omega)] at hc
  obtain ⟨u, u1, u2, u3, -⟩ := h.2.2 j (by omega)
  rw [gi_n (show j < 40 by omega) (by decide), nI_clamp (by omega), u2, if_neg (show ¬ (3 : Int32) ≤ 1 by decide), o_la3 (by omega), bn_s, u3, if_neg (show ¬ ¬ (1 : Int32) = 1 from fun q => q rfl)]
  simp only [nm_d, nI_s]
  exact RT_if Iff.rfl (fun _ => RT_s ⟨40 - (j + 1), by omega, rfl, j + 1, by omega, rfl, rfl⟩) (fun _ => RT_s ⟨40 - (j + 1), by omega, rfl, j + 1, by omega, rfl, rfl⟩)
theorem RT_allowed {n : Nat} {mM mO : Mem} {ml : Lem} (h : HR n mM (mO 8) (mO 9) (mO 10)) : RT (mX2_allOwed mM) (mX8_market_L85 (2 : Int32) (0 : Int32) (0 : Int32) mO ml) (fun a b => a = b) := by
  unfold mX2_allOwed mX2_allOwed_L4 mX8_market_L85
  refine RT_b (Q := fun a b => a = b) (RT_itr (fun k (s t : Int32 × Int32) => s = t ∧ ∃ j, j ≤ 40 ∧ k = 40 - j ∧ s.2 = nI j) ?_ FU 40 _ _ ⟨rfl, 0, by omega, rfl, rfl⟩ (FU_gt (by omega))) (fun a b hab => by rw [hab, nm_d, nm_d, o_131 (by decide)]; exact RT_s rfl)
  rintro k ⟨s1, s2⟩ _ ⟨rfl, j, hj, rfl, e1⟩
  dsimp only at e1
  subst e1
  show RT (mX2_allOwed_s4 mM s1 (nI j)) (mX8_market_s85 (2 : Int32) mO ml s1 (nI j)) _
  unfold mX2_allOwed_s4 mX8_market_s85 mX8_market_j121
  refine RT_if Iff.rfl (fun _ => RT_s rfl) (fun hc => ?_)
  rw [show (40 : Int32) = nI 40 from rfl, n_le (by decide) (by omega)] at hc
  obtain ⟨u, u1, u2, u3, u4⟩ := h.2.2 j (by omega)
  rw [gi_n (show j < 40 by omega) (by decide), gi_n (show j < 40 by omega) (by decide), nI_clamp (by omega), u2, if_neg (show ¬ (3 : Int32) ≤ 2 by decide), o_la3 (by omega), bn_s, u3, if_pos (show ¬ (2 : Int32) = 1 by decide), o_la4 (by omega), bn_s]
  simp only [nm_d, nI_s]
  refine RT_if Iff.rfl (fun _ => RT_s ⟨40 - (j + 1), by omega, rfl, j + 1, by omega, rfl, rfl⟩) (fun hu => ?_)
  rw [n_le0 (by omega)] at hu
  obtain ⟨a, b, k, -, -, -, -, -, -, -, -, -, d7, -⟩ := u4 (by omega)
  rw [d7]
  exact RT_s ⟨40 - (j + 1), by omega, rfl, j + 1, by omega, rfl, rfl⟩
theorem V_market {mX mT mL mM mB mS i0 i1 i2 mO : Mem} {ml : Lem} (h : INV mX mT mL mM mB mS i0 i1 i2 mO ml) (v1 : Int32) : RT (mX7_market mX mM mL v1) (mX8_market mO ml v1) (fun a b => a = b) := by
  obtain ⟨g, f, t, hM, hL, h3, ⟨a1, a2, a3⟩, -⟩ := id h
  obtain ⟨hG, n6⟩ := hL.n
  unfold mX7_market mX8_market
  rw [o_in, o_in, o_in, c_isSort hG (by omega), c_isSort hG (by omega)]
  simp only [bn_s, it_b0, it_b1]
  rcases hL.z hM with ⟨z1, z2, z3⟩ | ⟨z1, z2, z2', z3, hR, hC⟩
  · rw [if_neg (fun q => q z1), if_neg (fun q => q z2)]
    exact RT_s rfl
  · rw [if_pos z1, if_pos z2, hM.2.2.2.2.2.1, show (9 : Int32) + nI (g 5) = nI (9 + g 5) from n_add 9 (g 5), show (19 : Int32) + nI (g 5) = nI (19 + g 5) from n_add 19 (g 5)]
    rcases i_cases v1 with hv | ⟨x, hx, rfl⟩
    · have nb : ∀ a b : Nat, a < 2 ^ 31 → btw v1 (nI a) (nI b) = false := fun a b ha => by
        unfold btw
        rw [decide_eq_false (fun q => neg_nle hv ha q.1)]
      have h20 : v1 < (20 : Int32) := Int32.lt_trans hv (by decide)
      have h10 : v1 < (10 : Int32) := Int32.lt_trans hv (by decide)
      have hne : ∀ a : Nat, a < 2 ^ 31 → ¬ v1 = nI a := fun a ha e => by rw [e] at hv; exact nI_pos ha hv
      rw [if_pos h20, if_pos h10, if_neg (show ¬ v1 = (0 : Int32) from hne 0 (by decide)), if_neg (show ¬ v1 = (1 : Int32) from hne 1 (by decide)), if_neg (show ¬ v1 = (2 : Int32) from hne 2 (by decide)), if_neg (show ¬ v1 = (3 : Int32) from hne 3 (by decide)), show btw v1 10 (nI (9 + g 5)) = false from nb 10 _ (by decide), show btw v1 20 (nI (19 + g 5)) = false from nb 20 _ (by decide), show btw v1 0 3 = false from nb 0 3 (by decide)]
      exact RT_s rfl
    · rw [show btw (nI x) 10 (nI (9 + g 5)) = _ from btw_n (a := 10) (by omega) (by decide) hx, show btw (nI x) 20 (nI (19 + g 5)) = _ from btw_n (a := 20) (by omega) (by decide) hx, show btw (nI x) 0 3 = _ from btw_n (a := 0) (b := 3) (by decide) (by decide) hx]
      by_cases hx20 : x < 20
      · rw [if_pos (by rw [show (20 : Int32) = nI 20 from rfl, n_lt hx (by decide)]; exact hx20), decide_eq_false (show ¬ (20 ≤ x ∧ x ≤ 19 + g 5) by omega)]
        by_cases hx10 : x < 10
        · rw [if_pos (by rw [show (10 : Int32) = nI 10 from rfl, n_lt hx (by decide)]; exact hx10), decide_eq_false (show ¬ (10 ≤ x ∧ x ≤ 9 + g 5) by omega)]
          by_cases hx3 : x ≤ 3
          · rw [decide_eq_true (show 0 ≤ x ∧ x ≤ 3 by omega)]
            have : x = 0 ∨ x = 1 ∨ x = 2 ∨ x = 3 := by omega
            rcases this with rfl | rfl | rfl | rfl
            · rw [a1]; exact RT_s rfl
            · obtain ⟨a, b, ea, eb, e⟩ := RT_owed (ml := ml) a3
              rw [ea, cd_f, cd_f, cd_t, if_pos (show ¬ nI 1 = 0 by decide), show mX8_market_L85 (nI 1) 0 0 mO ml = some b from eb]
              exact RT_s e
            · obtain ⟨a, b, ea, eb, e⟩ := RT_allowed (ml := ml) a3
              rw [ea, cd_f, cd_f, cd_t, if_pos (show ¬ nI 2 = 0 by decide), show mX8_market_L85 (nI 2) 0 0 mO ml = some b from eb]
              exact RT_s e
            · have e85 : mX8_market_L85 (3 : Int32) (0 : Int32) (0 : Int32) mO ml = mX8_market_L131 (3 : Int32) (0 : Int32) (0 : Int32) mO ml := by
                have hit := itr_run (B := fun q : Int32 × Int32 => mX8_market_s85 (3 : Int32) mO ml q.1 q.2) (fun _ => ((0 : Int32), (0 : Int32))) (r := (0 : Int32)) (n := 0) (fun j hj => absurd hj (Nat.not_lt_zero j)) (by
                  show mX8_market_s85 (3 : Int32) mO ml (0 : Int32) (0 : Int32) = _
                  unfold mX8_market_s85
                  rw [if_neg (by decide), if_pos (by decide)]) 0 FU (Nat.zero_le _) (FU_gt (by omega))
                unfold mX8_market_L85
                rw [hit, bn_s, nm_d]
              rw [c_lost, cd_f, cd_f, cd_t, if_pos (show ¬ nI 3 = 0 by decide), show mX8_market_L85 (nI 3) 0 0 mO ml = _ from e85, o_lost n6 hM.2.2.2.2.2.1]
              refine RT_s ?_
              show sI (mM 2) 6 = sI (mO 9) (g 5)
              obtain ⟨d, hd⟩ : ∃ d, 6 = g 5 + d := ⟨6 - g 5, by omega⟩
              rw [hd, sI_z d (fun i i1 i2 => a3.2.1 i i1 (by omega))]
              exact sI_cg (g 5) (fun i hi => (a3.1 i (by omega)).2)
          · rw [decide_eq_false (show ¬ (0 ≤ x ∧ x ≤ 3) by omega)]
            have hne : ∀ a : Nat, a ≤ 3 → ¬ nI x = nI a := fun a ha e => by have := nI_inj hx (by omega) e; omega
            rw [if_neg (show ¬ nI x = (0 : Int32) from hne 0 (by omega)), if_neg (show ¬ nI x = (1 : Int32) from hne 1 (by omega)), if_neg (show ¬ nI x = (2 : Int32) from hne 2 (by omega)), if_neg (show ¬ nI x = (3 : Int32) from hne 3 (by omega))]
            exact RT_s rfl
        · rw [if_neg (by rw [show (10 : Int32) = nI 10 from rfl, n_lt hx (by decide)]; exact hx10), decide_eq_false (show ¬ (0 ≤ x ∧ x ≤ 3) by omega), show (10 : Int32) = nI 10 from rfl, pk_sub (by omega), inR_n (by omega)]
          by_cases hs : x - 10 < g 5
          · rw [decide_eq_true hs, decide_eq_true (show 10 ≤ x ∧ x ≤ 9 + g 5 by omega), cd_t, cd_t, gi_n (show x - 10 < 6 by omega) (by decide), gi_n (show x - 10 < 6 by omega) (by decide), nI_clamp (by omega)]
            exact RT_s (a3.1 (x - 10) (by omega)).1
          · rw [decide_eq_false hs, decide_eq_false (show ¬ (10 ≤ x ∧ x ≤ 9 + g 5) by omega)]
            exact RT_s rfl
      · rw [if_neg (by rw [show (20 : Int32) = nI 20 from rfl, n_lt hx (by decide)]; exact hx20), decide_eq_false (show ¬ (10 ≤ x ∧ x ≤ 9 + g 5) by omega), decide_eq_false (show ¬ (0 ≤ x ∧ x ≤ 3) by omega), show (20 : Int32) = nI 20 from rfl, pk_sub (by omega), inR_n (by omega)]
        by_cases hs : x - 20 < g 5
        · rw [decide_eq_true hs, decide_eq_true (show 20 ≤ x ∧ x ≤ 19 + g 5 by omega), cd_t, cd_f, cd_t, gi_n (show x - 20 < 6 by omega) (by decide), gi_n (show x - 20 < 6 by omega) (by decide), nI_clamp (by omega)]
          exact RT_s (a3.1 (x - 20) (by omega)).2
        · rw [decide_eq_false hs, decide_eq_false (show ¬ (20 ≤ x ∧ x ≤ 19 + g 5) by omega)]
          exact RT_s rfl
/-! bytes come -/
def vr (r : Nat) : Int32 := [24, 16, 8, 0, -8].getD r 0
def byt (x : Int32) (r : Nat) : Int32 := vp_nar .byte ((x >>> (vr r &&& 31)).toInt8.toInt32)
theorem vr_ok : ∀ r, r < 4 → ¬ vr r < 0 ∧ vr r + (-8) = vr (r + 1) := by decide
theorem vr_o : ∀ k, k < 20 → (24 : Int32) - ((8 : Int32) * (nI k - nI k / (4 : Int32) * (4 : Int32))) = vr (k % 4) := by decide
theorem c_app {mT : Mem} {l : Nat} (hl : l + 4 ≤ 500) (h1 : mT 0 1 = nI l) (x : Int32) : HT (mX5_append mT x) (fun m => m 0 1 = nI (l + 4) ∧ (∀ i, m 1 i = if l ≤ i ∧ i < l + 4 then byt x (i - l) else mT 1 i)) := by
  unfold mX5_append mX5_append_L3
  refine HT_b (Q := fun m => m 0 1 = nI (l + 4) ∧ (∀ i, m 1 i = if l ≤ i ∧ i < l + 4 then byt x (i - l) else mT 1 i)) (HT_itr (fun k (s : Int32 × Mem) => ∃ r, r ≤ 4 ∧ k = 4 - r ∧ s.1 = vr r ∧ s.2 0 1 = nI (l + r) ∧ (∀ i, s.2 1 i = if l ≤ i ∧ i < l + r then byt x (i - l) else mT 1 i)) ?_ FU 4 _ ⟨0, by omega, rfl, rfl, h1, fun i => by rw [if_neg (by omega)]⟩ (FU_gt (by omega))) (fun m hm => HT_s hm)
  rintro k ⟨s1, s2⟩ ⟨r, hr, rfl, e1, e2, hI⟩
  dsimp only at e1 e2 hI
  subst e1
  show HT (mX5_append_s3 x (vr r) s2) _
  unfold mX5_append_s3
  by_cases h4 : r = 4
  · subst h4
    rw [if_pos (by decide)]
    exact HT_s ⟨e2, hI⟩
  · obtain ⟨q1, q2⟩ := vr_ok r (by omega)
    rw [if_neg q1, e2, if_neg (show ¬ (500 : Int32) ≤ nI (l + r) by rw [show (500 : Int32) = nI 500 from rfl, n_le (by decide) (by omega)]; omega), gi_n (show l + r < 500 by omega) (by decide), nI_clamp (by omega)]
    simp only [nm_d]
    rw [q2, show (upi s2 1 (l + r) (vp_nar .byte ((x >>> (vr r &&& 31)).toInt8.toInt32))) 0 1 = s2 0 1 from rfl, e2, nI_s]
    refine HT_s ⟨4 - (r + 1), by omega, r + 1, by omega, rfl, rfl, rfl, fun i => ?_⟩
    show upd (s2 1) (l + r) (byt x r) i = _
    rw [upd_d, hI i]
    by_cases hi : i = l + r
    · rw [if_pos hi, if_pos (by omega), hi, show l + r - l = r from by omega]
    · rw [if_neg hi]
      by_cases hi2 : l ≤ i ∧ i < l + r
      · rw [if_pos hi2, if_pos (by omega)]
      · rw [if_neg hi2, if_neg (by omega)]
def arg5 (a b c d e : Int32) (q : Nat) : Int32 := if q = 0 then a else if q = 1 then b else if q = 2 then c else if q = 3 then d else e
def FB (a b c d e : Int32) (j : Nat) : Int32 := byt (arg5 a b c d e (j / 4)) (j % 4)
theorem app_next {a b c d e : Int32} {l k : Nat} {mT m m' : Mem} (h : ∀ i, m 1 i = if l ≤ i ∧ i < l + 4 * k then FB a b c d e (i - l) else mT 1 i) (h' : ∀ i, m' 1 i = if l + 4 * k ≤ i ∧ i < l + 4 * k + 4 then byt (arg5 a b c d e k) (i - (l + 4 * k)) else m 1 i) : ∀ i, m' 1 i = if l ≤ i ∧ i < l + 4 * (k + 1) then FB a b c d e (i - l) else mT 1 i := by
  intro i
  rw [h' i, h i]
  by_cases h1 : l + 4 * k ≤ i ∧ i < l + 4 * k + 4
  · rw [if_pos h1, if_pos (by omega)]
    unfold FB
    rw [show (i - l) / 4 = k from by omega, show (i - l) % 4 = i - (l + 4 * k) from by omega]
  · rw [if_neg h1]
    by_cases h2 : l ≤ i ∧ i < l + 4 * k
    · rw [if_pos h2, if_pos (by omega)]
    · rw [if_neg h2, if_neg (by omega)]
theorem o_s18 {mO : Mem} {ml : Lem} (a b c d e : Int32) {k : Nat} (hk : k < 20) : mX8_feed_s18 a b c d e ml (nI k) mO = mX8_feed_j71 a b c d e (nI k) (arg5 a b c d e (k / 4)) mO ml := by
  have le : ∀ n : Nat, n ≤ 20 → (nI n ≤ nI k ↔ n ≤ k) := fun n hn => n_le (by omega) (by omega)
  unfold mX8_feed_s18 arg5
  rw [if_neg (show ¬ (20 : Int32) ≤ nI k by rw [show (20 : Int32) = nI 20 from rfl, le 20 (by omega)]; omega)]
  by_cases h4 : 4 ≤ k
  · rw [if_pos (show (4 : Int32) ≤ nI k from (le 4 (by omega)).mpr h4), if_neg (show ¬ k / 4 = 0 by omega)]
    by_cases h8 : 8 ≤ k
    · rw [if_pos (show (8 : Int32) ≤ nI k from (le 8 (by omega)).mpr h8), if_neg (show ¬ k / 4 = 1 by omega)]
      by_cases h12 : 12 ≤ k
      · rw [if_pos (show (12 : Int32) ≤ nI k from (le 12 (by omega)).mpr h12), if_neg (show ¬ k / 4 = 2 by omega)]
        by_cases h16 : 16 ≤ k
        · rw [if_pos (show (16 : Int32) ≤ nI k from (le 16 (by omega)).mpr h16), if_neg (show ¬ k / 4 = 3 by omega)]
        · rw [if_neg (show ¬ (16 : Int32) ≤ nI k from fun q => h16 ((le 16 (by omega)).mp q)), if_pos (show k / 4 = 3 by omega)]
      · rw [if_neg (show ¬ (12 : Int32) ≤ nI k from fun q => h12 ((le 12 (by omega)).mp q)), if_pos (show k / 4 = 2 by omega)]
    · rw [if_neg (show ¬ (8 : Int32) ≤ nI k from fun q => h8 ((le 8 (by omega)).mp q)), if_pos (show k / 4 = 1 by omega)]
  · rw [if_neg (show ¬ (4 : Int32) ≤ nI k from fun q => h4 ((le 4 (by omega)).mp q)), if_pos (show k / 4 = 0 by omega)]
theorem o_bytes {mO : Mem} {ml : Lem} {l : Nat} (hl : l + 20 ≤ 500) (h1 : mO 0 1 = nI l) (a b c d e : Int32) : HT (itr (fun q => mX8_feed_s18 a b c d e ml q.1 q.2) FU ((0 : Int32), mO)) (fun m => m 0 1 = nI (l + 20) ∧ (∀ i, m 1 i = if l ≤ i ∧ i < l + 20 then FB a b c d e (i - l) else mO 1 i) ∧ Fr [1] [1] mO m) := by
  refine HT_itr (fun k (s : Int32 × Mem) => ∃ r, r ≤ 20 ∧ k = 20 - r ∧ s.1 = nI r ∧ s.2 0 1 = nI (l + r) ∧ (∀ i, s.2 1 i = if l ≤ i ∧ i < l + r then FB a b c d e (i - l) else mO 1 i) ∧ Fr [1] [1] mO s.2) ?_ FU 20 _ ⟨0, by omega, rfl, rfl, h1, fun i => by rw [if_neg (by omega)], Fr.rf⟩ (FU_gt (by omega))
  rintro k ⟨s1, s2⟩ ⟨r, hr, rfl, e1, e2, hI, hF⟩
  dsimp only at e1 e2 hI hF
  subst e1
  show HT (mX8_feed_s18 a b c d e ml (nI r) s2) _
  by_cases h20 : r = 20
  · subst h20
    unfold mX8_feed_s18
    rw [if_pos (by decide)]
    exact HT_s ⟨e2, hI, hF⟩
  · rw [o_s18 a b c d e (show r < 20 by omega)]
    unfold mX8_feed_j71
    rw [vr_o r (by omega), e2, gi_n (show l + r < 500 by omega) (by decide), nI_clamp (by omega)]
    simp only [nm_d]
    rw [show (upi s2 1 (l + r) (vp_nar .byte ((arg5 a b c d e (r / 4) >>> (vr (r % 4) &&& 31)).toInt8.toInt32))) 0 1 = s2 0 1 from rfl, e2, nI_s, nI_s]
    refine HT_s ⟨20 - (r + 1), by omega, r + 1, by omega, rfl, rfl, rfl, fun i => ?_, (hF.upi (by decide) (by decide)).upf (by decide)⟩
    show upd (s2 1) (l + r) (FB a b c d e r) i = _
    rw [upd_d, hI i]
    by_cases hi : i = l + r
    · rw [if_pos hi, if_pos (by omega), hi, show l + r - l = r from by omega]
    · rw [if_neg hi]
      by_cases hi2 : l ≤ i ∧ i < l + r
      · rw [if_pos hi2, if_pos (by omega)]
      · rw [if_neg hi2, if_neg (by omega)]
theorem V_feed {mX mT mL mM mB mS i0 i1 i2 mO : Mem} {ml : Lem} (h : INV mX mT mL mM mB mS i0 i1 i2 mO ml) (a b c d e : Int32) : RT (mX7_feed mX mT a b c d e) (mX8_feed mO ml a b c d e) (fun q q' => q.1 = q'.1 ∧ INV mX q.2 mL mM mB mS i0 i1 i2 q'.2 ml) := by
  obtain ⟨g, f, t, hM, hL, ⟨l, hl, t1, o1, hb⟩, h4, ⟨cc, h5⟩, h6, h7, h8, h9⟩ := id h
  unfold mX7_feed mX8_feed
  rw [t1, o1, show nI l + (20 : Int32) = nI (l + 20) from n_add l 20]
  refine RT_if Iff.rfl (fun hc => ?_) (fun _ => RT_s ⟨rfl, h⟩)
  rw [show (500 : Int32) = nI 500 from rfl, n_le (by omega) (by decide)] at hc
  obtain ⟨m1, e1, p1, q1⟩ := c_app (mT := mT) (show l + 4 ≤ 500 by omega) t1 a
  obtain ⟨m2, e2, p2, q2⟩ := c_app (mT := m1) (show l + 4 + 4 ≤ 500 by omega) p1 b
  obtain ⟨m3, e3, p3, q3⟩ := c_app (mT := m2) (show l + 4 + 4 + 4 ≤ 500 by omega) p2 c
  obtain ⟨m4, e4, p4, q4⟩ := c_app (mT := m3) (show l + 4 + 4 + 4 + 4 ≤ 500 by omega) p3 d
  obtain ⟨m5, e5, p5, q5⟩ := c_app (mT := m4) (show l + 4 + 4 + 4 + 4 + 4 ≤ 500 by omega) p4 e
  have r0 : ∀ i, mT 1 i = if l ≤ i ∧ i < l + 4 * 0 then FB a b c d e (i - l) else mT 1 i := fun i => by rw [if_neg (by omega)]
  have r1 := app_next (a := a) (b := b) (c := c) (d := d) (e := e) (k := 0) (m' := m1) r0 q1
  have r2 := app_next (a := a) (b := b) (c := c) (d := d) (e := e) (k := 1) (m' := m2) r1 q2
  have r3 := app_next (a := a) (b := b) (c := c) (d := d) (e := e) (k := 2) (m' := m3) r2 q3
  have r4 := app_next (a := a) (b := b) (c := c) (d := d) (e := e) (k := 3) (m' := m4) r3 q4
  have r5 := app_next (a := a) (b := b) (c := c) (d := d) (e := e) (k := 4) (m' := m5) r4 q5
  unfold mX8_feed_L18
  obtain ⟨w, ew, w1, w2, w3⟩ := o_bytes (ml := ml) hc o1 a b c d e
  rw [e1, bn_s, e2, bn_s, e3, bn_s, e4, bn_s, e5, bn_s, ew, bn_s]
  simp only [nm_d]
  refine RT_s ⟨p5.trans w1.symm, g, f, t, hM.fr w3 (by decide) (by decide) (by decide), hL, ⟨l + 20, hc, p5, w1, fun i hi => ?_⟩, h4.fr w3 (by decide) (by decide) (by decide) (by decide) rfl, ⟨cc, h5.fr Fr.rf w3 (by decide) (by decide) (by decide) (by decide) (by decide) (by decide) (x := []) (y := [])⟩, h6, h7.fr w3 (by decide) rfl, h8.fr w3 (by decide) rfl, h9.fr w3 (by decide) rfl⟩
  show w 1 i = m5 1 i
  rw [w2 i, r5 i, hb i hi]
theorem V_fault {mX mR mT mL mD mM mB mS i0 i1 i2 mO : Mem} {ml : Lem} (h : INV mX mT mL mM mB mS i0 i1 i2 mO ml) : RT (mX7_fault mX mR mT mD) (mX8_fault mO ml) (fun q q' => q.1 = q'.1 ∧ INV mX mT mL mM mB mS i0 i1 i2 q'.2.1 q'.2.2) := by
  obtain ⟨g, f, t, hM, hL, ⟨len, hT⟩, -⟩ := id h
  unfold mX7_fault
  obtain ⟨q, q', eq, eq', e1, e2, e3, -⟩ := RT_read (mR := mR) (mL := mD) (ml := ml) hT
  rw [eq, eq', bn_s]
  simp only [nm_d]
  exact RT_s ⟨e1, h.fr (e2.wk (by decide) (by decide)) e3 Fr.rf Fr.rf⟩
