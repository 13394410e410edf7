/-! ways round: both sides in step -/
def spb (sp : Int32) (k : Nat) : Bool := decide (((sp >>> (nI k &&& 31)) &&& (1 : Int32)) = (1 : Int32))
theorem bit01 (x : Int32) : x &&& (1 : Int32) = 0 ∨ x &&& (1 : Int32) = 1 := by
  obtain ⟨j, hj, e⟩ := pk_andE x (m := (1 : Int32)) 1 (by decide)
  have : j = 0 ∨ j = 1 := by omega
  rcases this with rfl | rfl
  · exact Or.inl e
  · exact Or.inr e
theorem spb_t {sp : Int32} {k : Nat} (h : spb sp k = true) : (sp >>> (nI k &&& 31)) &&& (1 : Int32) = 1 := of_decide_eq_true h
theorem spb_f {sp : Int32} {k : Nat} (h : spb sp k = false) : (sp >>> (nI k &&& 31)) &&& (1 : Int32) = 0 := by
  have h1 := of_decide_eq_false h
  rcases bit01 (sp >>> (nI k &&& 31)) with h2 | h2
  · exact h2
  · exact absurd h2 h1
def WR (T : Nat) (sp : Int32) (mY mO : Mem) (W : Nat → Nat) : Prop := ∀ k, k < 5 → mO 25 k = nI (W k) ∧ ((spb sp k = true ∧ mY 1 k = 0 ∧ mY 2 k = 0 ∧ W k = 0) ∨ (spb sp k = false ∧ mY 1 k = -1 ∧ W k = 1000000) ∨ (spb sp k = false ∧ ∃ c l, c ≤ 99 * T ∧ 1 ≤ l ∧ l ≤ T ∧ mY 1 k = nI c ∧ mY 2 k = nI l ∧ W k = 100 * c + l))
def TI (sp : Int32) (n : Nat) (t : Nat → Nat → Nat) (W : Nat → Nat) : Prop := ∀ k, k < 5 → spb sp k = false → W k < 1000000 → ∃ i, i < n ∧ t 0 i = k ∧ W (t 1 i) + (100 * t 2 i + 1) ≤ W k
theorem WR.wk {T T' : Nat} {sp : Int32} {mY mO : Mem} {W : Nat → Nat} (h : WR T sp mY mO W) (hT : T ≤ T') : WR T' sp mY mO W := by
  intro k hk
  obtain ⟨h1, h2⟩ := h k hk
  refine ⟨h1, ?_⟩
  rcases h2 with h2 | h2 | ⟨h2, c, l, a, b, d, e⟩
  · exact Or.inl h2
  · exact Or.inr (Or.inl h2)
  · exact Or.inr (Or.inr ⟨h2, c, l, Nat.le_trans a (Nat.mul_le_mul_left 99 hT), b, by omega, e⟩)
theorem ix3 (j : Nat) : ((3 : Int32) * nI j) = nI (3 * j) := by
  rw [show (3 : Int32) = nI 3 from rfl, n_mul]
theorem nI_p2 (j : Nat) : nI j + (2 : Int32) = nI (j + 2) := n_add j 2
theorem way_n {W A : Nat} : (nI W + ((100 : Int32) * nI A)) + (1 : Int32) = nI (W + (100 * A + 1)) := by
  rw [show (100 : Int32) = nI 100 from rfl, n_mul, n_add, nI_s]; rfl
def WS (T : Nat) (sp : Int32) (n : Nat) (t : Nat → Nat → Nat) (W : Nat → Nat) (a b A : Nat) (mY mO : Mem) (m m' : Mem) : Prop := ∃ W', WR (T + 1) sp m m' W' ∧ (∀ k, W' k ≤ W k) ∧ (spb sp a = false → W' a ≤ W b + (100 * A + 1)) ∧ (TI sp n t W → TI sp n t W') ∧ Fr [1, 2] [] mY m ∧ Fr [25] [] mO m'
theorem RT_turn {mL mY mO : Mem} {ml : Lem} {g : Nat → Nat} {f t : Nat → Nat → Nat} (hR : LR g f t) (hC : LC mL g f t) (hM : LM mO g f t) {T : Nat} (hT : T ≤ 60) {sp : Int32} {W : Nat → Nat} (h : WR T sp mY mO W) {j : Nat} (hj : j < g 7) (v2 : Int32) :
    RT (mX6_tryTurn mY mL (nI j)) (mX8_finds_s44 sp v2 ml (nI j) mO) (fun m o => ∃ m', o = Sum.inl (nI (j + 1), m') ∧ WS T sp (g 7) t W (t 0 j) (t 1 j) (t 2 j) mY mO m m') := by
  obtain ⟨-, -, -, -, -, -, -, -, -, -, n12, -, rt⟩ := id hR
  obtain ⟨ta, tb, tA⟩ := rt j hj
  have c7 : mL 7 j = nI (t 0 j) := hC.2.2.2.2.2.2.2.2.2 j hj 0 (by decide)
  have c8 : mL 8 j = nI (t 1 j) := hC.2.2.2.2.2.2.2.2.2 j hj 1 (by decide)
  have c9 : mL 9 j = nI (t 2 j) := hC.2.2.2.2.2.2.2.2.2 j hj 2 (by decide)
  have r0 : mO 7 (3 * j) = nI (t 0 j) := hM.2.2.2.2.2.2.2.2.2 j hj 0 (by decide)
  have r1 : mO 7 (3 * j + 1) = nI (t 1 j) := hM.2.2.2.2.2.2.2.2.2 j hj 1 (by decide)
  have r2 : mO 7 (3 * j + 2) = nI (t 2 j) := hM.2.2.2.2.2.2.2.2.2 j hj 2 (by decide)
  have hi : t 0 j = t 0 j := rfl
  generalize ha : t 0 j = a at *
  generalize hb : t 1 j = b at *
  generalize hA : t 2 j = A at *
  unfold mX6_tryTurn mX8_finds_s44
  rw [hM.2.2.2.2.2.2.2.1, if_neg (by rw [n_le (by omega) (by omega)]; omega)]
  simp only [ix3, nI_p2, nI_s, gi_n (show j < 12 by omega) (show 12 < 2 ^ 31 by decide), gi_n (show 3 * j < 36 by omega) (show 36 < 2 ^ 31 by decide), gi_n (show 3 * j + 1 < 36 by omega) (show 36 < 2 ^ 31 by decide), gi_n (show 3 * j + 2 < 36 by omega) (show 36 < 2 ^ 31 by decide), nI_clamp (show j < 2 ^ 31 by omega), nI_clamp (show 3 * j < 2 ^ 31 by omega), nI_clamp (show 3 * j + 1 < 2 ^ 31 by omega), nI_clamp (show 3 * j + 2 < 2 ^ 31 by omega), c7, c8, c9, r0, r1, r2, nm_d, gi_n ta (show 5 < 2 ^ 31 by decide), gi_n tb (show 5 < 2 ^ 31 by decide), nI_clamp (show a < 2 ^ 31 by omega), nI_clamp (show b < 2 ^ 31 by omega), nI_s]
  obtain ⟨wb, hb2⟩ := h b tb
  obtain ⟨wa, ha2⟩ := h a ta
  rw [wb, way_n, wa]
  have same : (spb sp a = false → W a ≤ W b + (100 * A + 1)) → ∃ m', (Sum.inl (nI (j + 1), mO) : (Int32 × Mem) ⊕ Mem) = Sum.inl (nI (j + 1), m') ∧ WS T sp (g 7) t W a b A mY mO mY m' := fun hle => ⟨mO, rfl, W, h.wk (Nat.le_succ _), fun _ => Nat.le_refl _, hle, fun h => h, Fr.rf, Fr.rf⟩
  have hWa : W a ≤ 1000000 := by
    rcases ha2 with ⟨-, -, -, e⟩ | ⟨-, -, e⟩ | ⟨-, c, l, e1, -, e2, -, -, e⟩ <;> omega
  rcases Classical.em (mY 1 b = -1) with hn | hn
  · rw [if_neg (fun q => q hn)]
    have hWb : W b = 1000000 := by
      rcases hb2 with ⟨-, e, -, -⟩ | ⟨-, -, e⟩ | ⟨-, c, l, e1, -, e2, e3, -, e⟩
      · rw [e] at hn; exact absurd hn (by decide)
      · exact e
      · rw [e3] at hn; exact absurd hn (n_nm1 (by omega))
    cases hs : spb sp a with
    | true =>
      rw [if_pos (by rw [spb_t hs]; decide)]
      exact RT_s (same (fun _ => by omega))
    | false =>
      rw [if_neg (by rw [spb_f hs]; decide), if_pos (by rw [n_le (by omega) (by omega)]; omega)]
      exact RT_s (same (fun _ => by omega))
  · rw [if_pos hn]
    obtain ⟨c, l, e1, e2, y1, y2, eW⟩ : ∃ c l, c ≤ 99 * T ∧ l ≤ T ∧ mY 1 b = nI c ∧ mY 2 b = nI l ∧ W b = 100 * c + l := by
      rcases hb2 with ⟨-, e, e', e2⟩ | ⟨-, e, -⟩ | ⟨-, c, l, e1, -, e2, e3, e4, e⟩
      · exact ⟨0, 0, Nat.zero_le _, Nat.zero_le _, e, e', e2⟩
      · exact absurd e hn
      · exact ⟨c, l, e1, e2, e3, e4, e⟩
    rw [y1, y2, n_add, nI_s]
    have hset : spb sp a = false → W b + (100 * A + 1) < W a → ∃ m', (Sum.inl (nI (j + 1), upi mO 25 a (nI (W b + (100 * A + 1)))) : (Int32 × Mem) ⊕ Mem) = Sum.inl (nI (j + 1), m') ∧ WS T sp (g 7) t W a b A mY mO (upi (upi mY 1 a (nI (c + A))) 2 a (nI (l + 1))) m' := by
      intro hs hlt
      refine ⟨_, rfl, fun k => if k = a then W b + (100 * A + 1) else W k, fun k hk => ?_, fun k => ?_, fun _ => ?_, fun hTI k hk hk2 hk3 => ?_, (Fr.rf.upi (by decide) (by decide)).upi (by decide) (by decide), Fr.rf.upi (by decide) (by decide)⟩
      · simp only [upi_d, reduceIte, Nat.reduceEqDiff, upd_d]
        by_cases hka : k = a
        · subst hka
          simp only [reduceIte]
          exact ⟨trivial, Or.inr (Or.inr ⟨hs, c + A, l + 1, by omega, by omega, by omega, rfl, rfl, by omega⟩)⟩
        · simp only [if_neg hka]
          exact (h.wk (Nat.le_succ T)) k hk
      · dsimp only
        by_cases hka : k = a
        · rw [if_pos hka, hka]; omega
        · rw [if_neg hka]; exact Nat.le_refl _
      · dsimp only
        rw [if_pos rfl]; exact Nat.le_refl _
      · dsimp only at hk3 ⊢
        by_cases hka : k = a
        · refine ⟨j, hj, ha.trans hka.symm, ?_⟩
          rw [hb, hA, if_pos hka]
          by_cases hba : b = a
          · rw [if_pos hba]; rw [hba] at hlt; omega
          · rw [if_neg hba]; exact Nat.le_refl _
        · rw [if_neg hka] at hk3 ⊢
          obtain ⟨i, i1, i2, i3⟩ := hTI k hk hk2 hk3
          refine ⟨i, i1, i2, ?_⟩
          by_cases hba : t 1 i = a
          · rw [if_pos hba]; rw [hba] at i3; omega
          · rw [if_neg hba]; exact i3
    unfold mX6_tryTurn_j75 mX6_tryTurn_j80 mX6_tryTurn_j109
    simp only [gi_n ta (show 5 < 2 ^ 31 by decide), nI_clamp (show a < 2 ^ 31 by omega), nm_d]
    rw [if_pos (show ¬ (1 : Int32) = 0 by decide), if_neg (show ¬ ¬ True from fun q => q trivial)]
    rcases ha2 with ⟨hs, a1, a2, a3⟩ | ⟨hs, a1, a2⟩ | ⟨hs, c', l', d1, d2, d3, d4, d5, d6⟩
    · rw [if_pos (show ¬ (sp >>> (nI a &&& 31)) &&& (1 : Int32) = 0 by rw [spb_t hs]; decide), a1, a2, if_neg (by decide), if_pos (nI_pos' (by omega)), if_pos (nI_pos' (by omega)), ite_self]
      exact RT_s (same (fun q => absurd (hs.symm.trans q) (by decide)))
    · rw [if_neg (show ¬ ¬ (sp >>> (nI a &&& 31)) &&& (1 : Int32) = 0 by rw [spb_f hs]; decide), a1, if_pos rfl, if_neg (by rw [n_le (by omega) (by omega)]; omega)]
      exact RT_s (hset hs (by omega))
    · rw [if_neg (show ¬ ¬ (sp >>> (nI a &&& 31)) &&& (1 : Int32) = 0 by rw [spb_f hs]; decide), d4, d5, if_neg (n_nm1 (by omega))]
      by_cases hc1 : c' ≤ c + A
      · rw [if_pos (show nI c' ≤ nI (c + A) by rw [n_le (by omega) (by omega)]; exact hc1)]
        by_cases hc2 : c + A = c'
        · rw [if_neg (show ¬ ¬ nI (c + A) = nI c' by rw [hc2]; exact fun q => q rfl)]
          by_cases hc3 : l' ≤ l + 1
          · rw [if_pos (show nI l' ≤ nI (l + 1) by rw [n_le (by omega) (by omega)]; exact hc3), if_pos (by rw [n_le (by omega) (by omega)]; omega)]
            exact RT_s (same (fun _ => by omega))
          · rw [if_neg (show ¬ nI l' ≤ nI (l + 1) by rw [n_le (by omega) (by omega)]; exact hc3), if_neg (by rw [n_le (by omega) (by omega)]; omega)]
            exact RT_s (hset hs (by omega))
        · rw [if_pos (show ¬ nI (c + A) = nI c' by rw [n_eq (by omega) (by omega)]; exact hc2), if_pos (by rw [n_le (by omega) (by omega)]; omega)]
          exact RT_s (same (fun _ => by omega))
      · rw [if_neg (show ¬ nI c' ≤ nI (c + A) by rw [n_le (by omega) (by omega)]; exact hc1), if_neg (by rw [n_le (by omega) (by omega)]; omega)]
        exact RT_s (hset hs (by omega))
