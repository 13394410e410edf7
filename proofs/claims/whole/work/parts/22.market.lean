/-! the market: heaps, what was lost, loans -/
def HR (n : Nat) (mM : Mem) (h l r : Nat → Int32) : Prop :=
  (∀ j, j < 6 → mM 1 j = h j ∧ mM 2 j = l j) ∧ (∀ j, n ≤ j → j < 6 → mM 2 j = 0) ∧
  ∀ j, j < 40 → ∃ u, u ≤ 9999 ∧ mM 6 j = nI u ∧ r (6 * j + 3) = nI u ∧ (0 < u → ∃ a b k, a < n ∧ b < n ∧ k < 5 ∧ mM 3 j = nI a ∧ r (6 * j + 0) = nI a ∧ mM 4 j = nI b ∧ r (6 * j + 1) = nI b ∧ mM 5 j = nI k ∧ r (6 * j + 2) = nI k ∧ mM 7 j = r (6 * j + 4) ∧ mM 8 j = r (6 * j + 5))
def payH (h : Nat → Int32) (a b : Nat) (z o : Int32) : Nat → Int32 :=
  upd (upd (upd h b (h b + z)) b (upd h b (h b + z) b - (if o < upd h b (h b + z) b then o else upd h b (h b + z) b))) a (upd (upd h b (h b + z)) b (upd h b (h b + z) b - (if o < upd h b (h b + z) b then o else upd h b (h b + z) b)) a + (if o < upd h b (h b + z) b then o else upd h b (h b + z) b))
theorem upd_cg {f g : Nat → Int32} {n i : Nat} {v w : Int32} (h : ∀ j, j < n → f j = g j) (e : v = w) : ∀ j, j < n → upd f i v j = upd g i w j := by
  intro j hj
  rw [upd_d, upd_d, e, h j hj]
theorem payH_cg {h k : Nat → Int32} {a b n : Nat} {z o : Int32} (hc : ∀ j, j < n → h j = k j) (ha : a < n) (hb : b < n) : ∀ j, j < n → payH h a b z o j = payH k a b z o j := by
  have h1 : ∀ j, j < n → upd h b (h b + z) j = upd k b (k b + z) j := upd_cg hc (by rw [hc b hb])
  have e1 := h1 b hb
  have h2 := upd_cg (i := b) (v := upd h b (h b + z) b - (if o < upd h b (h b + z) b then o else upd h b (h b + z) b)) (w := upd k b (k b + z) b - (if o < upd k b (k b + z) b then o else upd k b (k b + z) b)) h1 (by rw [e1])
  exact upd_cg h2 (by rw [h2 a ha, e1])
theorem c_yield {mL : Mem} {g : Nat → Nat} {f t : Nat → Nat → Nat} (hC : LC mL g f t) (hR : LR g f t) {b : Nat} (hb : b < g 5) (v : Int32) : mX1_yieldOf mL (nI b) v = some (if f 2 b = 0 then 0 else v * nI (f 4 b) / nI (f 2 b)) := by
  obtain ⟨-, -, -, -, -, -, -, -, cs, -⟩ := hC
  obtain ⟨-, -, -, -, -, -, -, -, r5, -, -, rs, -⟩ := hR
  have w2 : mL 3 b = nI (f 2 b) := cs b hb 2 (by decide)
  have w4 : mL 5 b = nI (f 4 b) := cs b hb 4 (by decide)
  obtain ⟨-, -, -, k2, -, -, k4, -⟩ := rs b hb
  unfold mX1_yieldOf
  rw [gi_n (by omega) (by decide), gi_n (by omega) (by decide), gi_n (by omega) (by decide), nI_clamp (by omega), w2, w4]
  by_cases h0 : f 2 b = 0
  · rw [if_pos h0, h0, if_neg (by decide)]
  · rw [if_neg h0, if_pos (by rw [show (1 : Int32) = nI 1 from rfl, n_le (by decide) (by omega)]; omega), gz_t (by rw [n_eq0 (by omega)]; exact h0), nm_d]
theorem c_pay {mM mL : Mem} {j a b : Nat} {y : Int32} (hj : j < 40) (ha : a < 6) (hb : b < 6) (h3 : mM 3 j = nI a) (h4 : mM 4 j = nI b) (hy : mX1_yieldOf mL (nI b) (mM 6 j) = some y) : HT (mX2_payBack mM mL (nI j)) (fun m => m 1 = payH (mM 1) a b (y + mM 6 j) (mM 7 j) ∧ m 6 = upd (mM 6) j 0 ∧ Fr [1, 6] [] mM m) := by
  unfold mX2_payBack
  simp only [gi_n hj (show 40 < 2 ^ 31 by decide), gi_n ha (show 6 < 2 ^ 31 by decide), gi_n hb (show 6 < 2 ^ 31 by decide), nm_d, nI_clamp (show j < 2 ^ 31 by omega), nI_clamp (show a < 2 ^ 31 by omega), nI_clamp (show b < 2 ^ 31 by omega), h3, h4, hy, bn_s, upi_d, reduceIte, Nat.reduceEqDiff]
  refine HT_s ⟨rfl, rfl, ?_⟩
  exact (((Fr.rf.upi (by decide) (by decide)).upi (by decide) (by decide)).upi (by decide) (by decide)).upi (by decide) (by decide)
theorem ix_0 (j : Nat) : ((6 : Int32) * nI j) = nI (6 * j + 0) := by
  rw [show (6 : Int32) = nI 6 from rfl, n_mul]; rfl
theorem ix_1 (j : Nat) : (((6 : Int32) * nI j) + (1 : Int32)) = nI (6 * j + 1) := by
  rw [show (6 : Int32) = nI 6 from rfl, n_mul]; exact n_add _ 1
theorem ix_2 (j : Nat) : (((6 : Int32) * nI j) + (2 : Int32)) = nI (6 * j + 2) := by
  rw [show (6 : Int32) = nI 6 from rfl, n_mul]; exact n_add _ 2
theorem ix_3 (j : Nat) : (((6 : Int32) * nI j) + (3 : Int32)) = nI (6 * j + 3) := by
  rw [show (6 : Int32) = nI 6 from rfl, n_mul]; exact n_add _ 3
theorem ix_4 (j : Nat) : (((6 : Int32) * nI j) + (4 : Int32)) = nI (6 * j + 4) := by
  rw [show (6 : Int32) = nI 6 from rfl, n_mul]; exact n_add _ 4
theorem ix_5 (j : Nat) : (((6 : Int32) * nI j) + (5 : Int32)) = nI (6 * j + 5) := by
  rw [show (6 : Int32) = nI 6 from rfl, n_mul]; exact n_add _ 5

theorem o_pay {mO : Mem} {ml : Lem} {j a b w g4 : Nat} (hj : j < 40) (ha : a < 6) (hb : b < 6) (h0 : mO 10 (6 * j + 0) = nI a) (h1 : mO 10 (6 * j + 1) = nI b) (hw : mO 6 (6 * b + 2) = nI w) (hw2 : w ≤ 99) (hg : mO 6 (6 * b + 4) = nI g4) : HT (mX8_pays mO ml (nI j)) (fun m => m 8 = payH (mO 8) a b (mO 10 (6 * j + 3) + (if w = 0 then 0 else mO 10 (6 * j + 3) * nI g4 / nI w)) (mO 10 (6 * j + 4)) ∧ m 10 = upd (mO 10) (6 * j + 3) 0 ∧ Fr [8, 10] [] mO m) := by
  have key : ∀ z : Int32, HT (mX8_pays_j50 (nI j) (nI b) (nI b) (mO 8 b) (mO 10 (6 * j + 3)) z mO ml) (fun m => m 8 = payH (mO 8) a b (mO 10 (6 * j + 3) + z) (mO 10 (6 * j + 4)) ∧ m 10 = upd (mO 10) (6 * j + 3) 0 ∧ Fr [8, 10] [] mO m) := by
    intro z
    unfold mX8_pays_j50
    simp only [gi_n ha (show 6 < 2 ^ 31 by decide), gi_n hb (show 6 < 2 ^ 31 by decide), nm_d, nI_clamp (show a < 2 ^ 31 by omega), nI_clamp (show b < 2 ^ 31 by omega), o_la4 hj, o_la0 hj, ix_3, gi_n (show 6 * j + 3 < 240 by omega) (show 240 < 2 ^ 31 by decide), nI_clamp (show 6 * j + 3 < 2 ^ 31 by omega), bn_s, upi_d, h0, reduceIte, Nat.reduceEqDiff]
    refine HT_s ⟨rfl, rfl, ?_⟩
    exact (((Fr.rf.upi (by decide) (by decide)).upi (by decide) (by decide)).upi (by decide) (by decide)).upi (by decide) (by decide)
  unfold mX8_pays
  rw [o_la1 hj, bn_s, o_la3 hj, bn_s, h1, o_of2 hb, bn_s, hw, gi_n hb (by decide), nI_clamp (by omega)]
  by_cases hw0 : w = 0
  · rw [if_neg (by rw [hw0]; decide), if_pos hw0]
    exact key 0
  · rw [if_pos (by rw [n_eq0 (by omega)]; exact hw0), if_neg hw0, o_of4 hb, bn_s, gz_t (by rw [n_eq0 (by omega)]; exact hw0), hg]
    exact key _
