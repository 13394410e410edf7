/-! class and reference, side by side -/
def IMR (n k : Nat) (m mO : Mem) (ml : Lem) : Prop := m 0 0 = mO 13 k ∧ (∃ x, x < 2 ^ 31 ∧ m 0 1 = nI x ∧ ml 17 k = lN x) ∧ HR n m (fun j => mO 14 (6 * k + j)) (fun j => mO 15 (6 * k + j)) (fun i => mO 16 (240 * k + i))
def IMK (n k : Nat) (mX m mO : Mem) (ml : Lem) : Prop := (mX 2 k = 0 ∧ mO 12 k = 0) ∨ (mX 2 k = 1 ∧ mO 12 k = 1 ∧ IMR n k m mO ml)
def BSs (g : Nat → Nat) (f t : Nat → Nat → Nat) (mS : Mem) : Prop := mS 0 6 = -1 ∨ ∃ a b Y, Y ≤ 88209000 ∧ BTP g f t a b Y ∧ mS 0 4 = a ∧ mS 0 5 = b ∧ mS 0 6 = nI Y
def LND (g : Nat → Nat) (f t : Nat → Nat → Nat) (mX mL : Mem) : Prop := (mX 0 10 = 0 ∧ ∀ i, g i = 0) ∨ (mX 0 10 = 1 ∧ LR g f t ∧ LC mL g f t)
def INV (mX mT mL mM mB mS i0 i1 i2 mO : Mem) (ml : Lem) : Prop := ∃ g f t, LM mO g f t ∧ LND g f t mX mL ∧ (∃ len, TXR len mT mO) ∧ MR (g 5) mM mO ml ∧ (∃ c, BK (g 5) c mB mO) ∧ BSs g f t mS ∧ IMK (g 5) 0 mX i0 mO ml ∧ IMK (g 5) 1 mX i1 mO ml ∧ IMK (g 5) 2 mX i2 mO ml
theorem IMK.fr {n k : Nat} {mX m mO mO' : Mem} {ml ml' : Lem} {x y : List Nat} (h : IMK n k mX m mO ml) (hO : Fr x y mO mO') (h12 : ∀ i ∈ [12, 13, 14, 15, 16], i ∉ x) (hl : ml' 17 k = ml 17 k) : IMK n k mX m mO' ml' := by
  have e : ∀ i ∈ [12, 13, 14, 15, 16], mO' i = mO i := fun i hi => hO.1 i (h12 i hi) (fun e => by rw [e] at hi; exact absurd hi (by decide))
  unfold IMK IMR at *
  rw [e 12 (by decide), e 13 (by decide), e 14 (by decide), e 15 (by decide), e 16 (by decide), hl]
  exact h
theorem MR.fr {n : Nat} {mM mO mO' : Mem} {ml ml' : Lem} {x y : List Nat} (h : MR n mM mO ml) (hO : Fr x y mO mO') (h8 : 8 ∉ x) (h9 : 9 ∉ x) (h10 : 10 ∉ x) (h23 : 23 ∉ y) (hl : ml' 0 27 = ml 0 27) : MR n mM mO' ml' := by
  unfold MR at *
  rw [hO.2 23 h23, hO.1 8 h8 (by decide), hO.1 9 h9 (by decide), hO.1 10 h10 (by decide), hl]
  exact h
theorem BSs.fr {g : Nat → Nat} {f t : Nat → Nat → Nat} {mS mS' : Mem} {x y : List Nat} (h : BSs g f t mS) (hS : Fr x y mS mS') (h4 : 4 ∉ y) (h5 : 5 ∉ y) (h6 : 6 ∉ y) : BSs g f t mS' := by
  unfold BSs at *
  rw [hS.2 4 h4, hS.2 5 h5, hS.2 6 h6]
  exact h
theorem INV.fr {mX mT mL mM mB mB' mS mS' i0 i1 i2 mO mO' : Mem} {ml ml' : Lem} (h : INV mX mT mL mM mB mS i0 i1 i2 mO ml) (hO : Fr [2, 4, 5, 18, 19, 20, 21, 22, 23, 24, 25] [2, 3, 4, 7, 10, 11, 36] mO mO') (hl : PL ml ml') (hS : Fr [1, 2, 3] [2, 3] mS mS') (hB : Fr [2, 5] [] mB mB') : INV mX mT mL mM mB' mS' i0 i1 i2 mO' ml' := by
  obtain ⟨g, f, t, h1, h2, ⟨len, h3⟩, h4, ⟨c, h5⟩, h6, h7, h8, h9⟩ := h
  have l17 : ∀ k, ml' 17 k = ml 17 k := fun k => hl 17 k (by decide) (fun e => absurd e.1 (by decide))
  exact ⟨g, f, t, h1.fr hO (by decide) (by decide) (by decide), h2, ⟨len, h3.fr hO (by decide) (by decide)⟩, h4.fr hO (by decide) (by decide) (by decide) (by decide) (hl 0 27 (by decide) (by decide)), ⟨c, h5.fr hB hO (by decide) (by decide) (by decide) (by decide) (by decide) (by decide)⟩, h6.fr hS (by decide) (by decide) (by decide), h7.fr hO (by decide) (l17 0), h8.fr hO (by decide) (l17 1), h9.fr hO (by decide) (l17 2)⟩
theorem LND.n {g : Nat → Nat} {f t : Nat → Nat → Nat} {mX mL : Mem} (h : LND g f t mX mL) : GX mX mL (g 5) ∧ g 5 ≤ 6 := by
  rcases h with ⟨h1, h2⟩ | ⟨h1, h2, h3⟩
  · exact ⟨Or.inl ⟨h1, h2 5⟩, by rw [h2 5]; omega⟩
  · exact ⟨Or.inr ⟨h1, h3.2.2.2.2.2.1, h2.2.2.2.2.2.2.2.1⟩, h2.2.2.2.2.2.2.2.2.1⟩
theorem LND.z {g : Nat → Nat} {f t : Nat → Nat → Nat} {mX mL mO : Mem} (h : LND g f t mX mL) (hM : LM mO g f t) : (mX 0 10 = 0 ∧ mO 0 18 = 0 ∧ g 5 = 0) ∨ (¬ mX 0 10 = 0 ∧ ¬ mO 0 18 = 0 ∧ ¬ mO 0 18 ≤ 0 ∧ 0 < g 5 ∧ LR g f t ∧ LC mL g f t) := by
  rcases h with ⟨h1, h2⟩ | ⟨h1, h2, h3⟩
  · exact Or.inl ⟨h1, by rw [hM.2.2.2.2.2.1, h2 5]; rfl, h2 5⟩
  · have a := h2.2.2.2.2.2.2.2.1
    have b := h2.2.2.2.2.2.2.2.2.1
    refine Or.inr ⟨by rw [h1]; decide, ?_, ?_, a, h2, h3⟩
    · rw [hM.2.2.2.2.2.1, n_eq0 (by omega)]; omega
    · rw [hM.2.2.2.2.2.1, n_le0 (by omega)]; omega
theorem RT_rf {α : Type} {o : Option α} {P : α → α → Prop} (h : ∃ a, o = some a) (hP : ∀ a, P a a) : RT o o P := by
  obtain ⟨a, rfl⟩ := h
  exact RT_s (hP a)
/-! what asks for no land -/
theorem V_holds {mX mO : Mem} {ml : Lem} (v1 v2 v3 : Int32) : RT (mX7_holds mX v1 v2 v3) (mX8_holds mO ml v1 v2 v3) (fun a b => a = b) := by
  unfold mX7_holds mX8_holds mX8_isGain
  rw [c_isIn, c_isIn, c_isIn, o_in, o_in, o_in]
  simp only [bn_s, it_b0, it_b1]
  cases btw v1 1 9999
  · exact RT_s rfl
  · cases btw v2 0 999
    · exact RT_s rfl
    · cases btw v3 0 15
      · exact RT_s rfl
      · simp only [cond_true, bn_s, show ¬ (1 : Int32) = 0 by decide, not_false_eq_true, reduceIte]
        exact RT_if Iff.rfl (fun _ => RT_s rfl) (fun _ => RT_s rfl)
theorem V_greatest {mX mO : Mem} {ml : Lem} (v1 v2 : Int32) : RT (mX7_greatest mX v1 v2) (mX8_greatest mO ml v1 v2) (fun a b => a = b) := by
  unfold mX7_greatest mX8_greatest mX8_isGain
  rw [c_isIn, c_isIn, o_in, o_in]
  simp only [bn_s, it_b0, it_b1]
  cases h1 : btw v1 0 999
  · exact RT_s rfl
  · cases h2 : btw v2 0 15
    · exact RT_s rfl
    · obtain ⟨a, a1, a2, rfl⟩ := btw_t (a := 0) (b := 999) (by decide) h1 (by decide)
      obtain ⟨w, w1, w2, rfl⟩ := btw_t (a := 0) (b := 15) (by decide) h2 (by decide)
      simp only [cond_true, bn_s, show ¬ (1 : Int32) = 0 by decide, reduceIte]
      have hm : a * w ≤ 999 * 15 := Nat.mul_le_mul a2 w2
      have hd : a * w / (16 - w) ≤ a * w := Nat.div_le_self _ _
      rw [show (16 : Int32) = nI 16 from rfl, pk_sub (by omega), gz_t (by rw [n_eq0 (by omega)]; omega), gz_t (by rw [n_eq0 (by omega)]; omega), n_mul, pk_div (by omega) (by omega) (by omega), nm_d, nm_d, if_pos (by rw [show (99999 : Int32) = nI 99999 from rfl, n_lt (by omega) (by decide)]; omega)]
      exact RT_s rfl
theorem V_part {mX mO : Mem} {ml : Lem} (v1 v2 v3 : Int32) : RT (mX7_part mX v1 v2 v3) (mX8_part mO ml v1 v2 v3) (fun a b => a = b) := by
  unfold mX7_part mX8_part mX7_asked mX8_partOf
  rw [c_isIn, c_isIn, c_isIn, o_in, o_in, o_in]
  simp only [bn_s, it_b0, it_b1]
  cases h1 : btw v1 0 99999
  · exact RT_s rfl
  · cases h2 : btw v2 1 20
    · exact RT_s rfl
    · obtain ⟨y, y1, y2, rfl⟩ := btw_t (a := 1) (b := 20) (by decide) h2 (by decide)
      cases h3 : btw v3 0 (nI y - 1)
      · exact RT_s rfl
      · simp only [cond_true]
        rw [if_pos (by rw [show (1 : Int32) = nI 1 from rfl, n_le (by decide) (by omega)]; exact y1), gz_t (by rw [n_eq0 (by omega)]; omega)]
        exact RT_s rfl
theorem V_shrunk {mX mO : Mem} {ml : Lem} (v1 v2 v3 v4 : Int32) : RT (mX7_shrunk mX v1 v2 v3 v4) (mX8_shrunk mO ml v1 v2 v3 v4) (fun a b => a = b) := by
  unfold mX7_shrunk mX8_shrunk
  rw [c_isIn, c_isIn, c_isIn, o_in, o_in, o_in, o_in]
  simp only [bn_s, it_b0, it_b1, nm_d, c_isIn]
  cases btw v1 0 99999
  · exact RT_s rfl
  · simp only [cond_true]
    by_cases hv : v2 < 0
    · rw [if_pos hv, if_pos hv]; exact RT_s rfl
    · obtain ⟨x, hx, rfl⟩ := nI_of hv
      rw [if_neg hv, if_neg hv, show (100 : Int32) = nI 100 from rfl, pk_rem hx (by decide) (by decide), pk_div hx (by decide) (by decide)]
      have hd : x / 100 < 2 ^ 31 := by omega
      have lt_le : (nI (x % 100) < nI (x / 100)) ↔ ¬ (nI (x / 100) ≤ nI (x % 100)) := by rw [n_lt (by omega) hd, n_le hd (by omega)]; omega
      cases h3 : btw v3 0 16
      · cases btw (nI (x / 100)) 1 20
        · exact RT_s rfl
        · simp only [cond_true, cond_false]
          by_cases hq : nI (x / 100) ≤ nI (x % 100)
          · rw [if_pos hq]; exact RT_s rfl
          · rw [if_neg hq]; exact RT_s rfl
      · cases h4 : btw v4 1 40
        · cases btw (nI (x / 100)) 1 20
          · exact RT_s rfl
          · simp only [cond_true, cond_false]
            by_cases hq : nI (x / 100) ≤ nI (x % 100)
            · rw [if_pos hq]; exact RT_s rfl
            · rw [if_neg hq]; exact RT_s rfl
        · cases hy : btw (nI (x / 100)) 1 20
          · exact RT_s rfl
          · simp only [cond_true]
            by_cases hq : nI (x / 100) ≤ nI (x % 100)
            · rw [if_pos hq, if_neg (by rw [lt_le]; exact fun q => q hq)]; exact RT_s rfl
            · rw [if_neg hq, if_pos (lt_le.mpr hq)]
              rw [n_le hd (by omega)] at hq
              obtain ⟨p, p1, p2, rfl⟩ := btw_t (a := 0) (b := 16) (by decide) h3 (by decide)
              obtain ⟨n, n1, n2, rfl⟩ := btw_t (a := 1) (b := 40) (by decide) h4 (by decide)
              generalize hyy : x / 100 = y at *
              generalize hkk : x % 100 = k at *
              rw [show (1 : Int32) = nI 1 from rfl, show (20 : Int32) = nI 20 from rfl, btw_n (by decide) (by decide) (by omega)] at hy
              have hy := of_decide_eq_true hy
              unfold mX7_shrunk_L76 mX8_shrunk_L80
              refine RT_b (Q := fun a b => a = b) (RT_itr (fun c (s t : Int32 × Int32 × Int32) => s = t ∧ ∃ i k, i ≤ n ∧ c = n - i ∧ k < y ∧ s.1 = nI k ∧ s.2.2 = nI i) ?_ FU n _ _ ⟨rfl, 0, k, by omega, rfl, by omega, rfl, rfl⟩ (FU_gt (by omega))) (fun a b hab => by rw [hab]; exact RT_s rfl)
              rintro c ⟨s1, s2, s3⟩ _ ⟨rfl, i, k', hi, rfl, hk', e1, e2⟩
              dsimp only at e1 e2
              subst e1; subst e2
              show RT (mX7_shrunk_s76 (nI p) (nI n) (nI y) mX (nI k') s2 (nI i)) (mX8_shrunk_s80 (nI p) (nI n) (nI y) mO ml (nI k') s2 (nI i)) _
              unfold mX7_shrunk_s76 mX8_shrunk_s80 mX7_asked mX8_partOf
              refine RT_if Iff.rfl (fun _ => RT_s rfl) (fun h => ?_)
              rw [n_le (by omega) (by omega)] at h
              rw [if_pos (by rw [show (1 : Int32) = nI 1 from rfl, n_le (by decide) (by omega)]; exact hy.1), gz_t (by rw [n_eq0 (by omega)]; omega)]
              simp only [nm_d, bn_s, nI_s]
              by_cases hr : k' + 1 = y
              · rw [if_neg (show ¬ ¬ nI (k' + 1) = nI y by rw [hr]; exact fun q => q rfl), if_pos (show nI y ≤ nI (k' + 1) by rw [hr]; exact Int32.le_refl _)]
                exact RT_s ⟨n - (i + 1), by omega, rfl, i + 1, 0, by omega, rfl, by omega, rfl, rfl⟩
              · rw [if_pos (show ¬ nI (k' + 1) = nI y by rw [n_eq (by omega) (by omega)]; exact hr), if_neg (show ¬ nI y ≤ nI (k' + 1) by rw [n_le (by omega) (by omega)]; omega)]
                exact RT_s ⟨n - (i + 1), by omega, rfl, i + 1, k' + 1, by omega, rfl, by omega, rfl, rfl⟩
theorem V_names {mX mO : Mem} {ml : Lem} (v1 v2 : Int32) : RT (mX7_names mX v1 v2) (mX8_names mO ml v1 v2) (fun a b => a = b) := by
  unfold mX7_names mX8_names
  rw [c_isIn, c_isIn, o_in, o_in]
  simp only [bn_s, it_b0, it_b1, nm_d]
  cases h1 : btw v1 1 60
  · exact RT_s rfl
  · cases h2 : btw v2 0 16
    · exact RT_s rfl
    · obtain ⟨n, n1, n2, rfl⟩ := btw_t (a := 1) (b := 60) (by decide) h1 (by decide)
      simp only [cond_true]
      rw [show (12 : Int32) = nI 12 from rfl, mn_i (by decide) (by omega)]
      unfold mX7_names_L38 mX8_names_L30
      refine RT_b (Q := fun a b => a = b) (RT_itr (fun c (s t : Int64 × Int64 × Int32) => s = t ∧ ∃ j, 1 ≤ j ∧ j ≤ 13 ∧ c = 13 - j ∧ s.2.2 = nI j) ?_ FU 12 _ _ ⟨rfl, 1, by omega, by omega, rfl, rfl⟩ (FU_gt (by omega))) (fun a b hab => by
        rw [hab]
        cases b with
        | inl x => exact RT_s rfl
        | inr x => exact RT_s rfl)
      rintro c ⟨s1, s2, s3⟩ _ ⟨rfl, j, j1, j2, rfl, e1⟩
      dsimp only at e1
      subst e1
      show RT (mX7_names_s38 v2 (nI (min 12 n)) mX s1 s2 (nI j)) (mX8_names_s30 (nI n) v2 mO ml s1 s2 (nI j)) _
      unfold mX7_names_s38 mX8_names_s30
      by_cases hj : min 12 n < j
      · rw [if_pos (by rw [n_lt (by omega) (by omega)]; exact hj)]
        by_cases hj2 : n < j
        · rw [if_pos (by rw [n_lt (by omega) (by omega)]; exact hj2)]; exact RT_s rfl
        · rw [if_neg (by rw [n_lt (by omega) (by omega)]; exact hj2), if_pos (by rw [show (12 : Int32) = nI 12 from rfl, n_lt (by decide) (by omega)]; omega)]; exact RT_s rfl
      · rw [if_neg (by rw [n_lt (by omega) (by omega)]; exact hj), if_neg (show ¬ nI n < nI j by rw [n_lt (by omega) (by omega)]; omega), if_neg (show ¬ (12 : Int32) < nI j by rw [show (12 : Int32) = nI 12 from rfl, n_lt (by decide) (by omega)]; omega)]
        simp only [nm_d, nI_s]
        rw [Int64.mul_comm (16 : Int64), Int64.mul_comm (12 : Int64)]
        refine RT_if Iff.rfl (fun _ => ?_) (fun _ => RT_s rfl)
        exact RT_s ⟨13 - (j + 1), by omega, rfl, j + 1, by omega, by omega, rfl, rfl⟩
