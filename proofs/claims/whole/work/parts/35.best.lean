/-! the best law -/
theorem bki_256 : ∀ k, bki 256 k = 1000
  | 0 => rfl
  | k + 1 => by
    show bki 256 k * 256 / 256 = 1000
    rw [bki_256 k]
theorem bk_no {g : Nat → Nat} {f : Nat → Nat → Nat} {i n S E W : Nat} (hn : n < g 0) (hW : f 3 i ≤ W) (hy : 1 ≤ f 3 i) (h : S = 0 ∨ g 0 - 1 + W ≤ g 0 * E) : bk g f i n S E = bk g f i n 0 1 := by
  have h0 : ∀ E, bk g f i n 0 E = bkv 1000 (f 5 i) := fun E => by
    unfold bk
    rw [show lft 0 (g 1) = 256 from by unfold lft; rw [Nat.zero_mul], bki_256]
  rw [h0 1]
  rcases h with rfl | h
  · exact h0 E
  · unfold bk
    have h1 : bkn (g 0 * E) n (f 3 i) = 0 := by
      unfold bkn
      rw [Nat.div_eq_of_lt (show n + f 3 i - 1 < g 0 * E by omega), Nat.zero_sub]
    rw [h1]
    rfl
theorem c_longest {mL : Mem} {g : Nat → Nat} {f t : Nat → Nat → Nat} (hR : LR g f t) (hC : LC mL g f t) : HT (mX1_longestWork mL) (fun v => ∃ W, W ≤ 60 ∧ v = nI W ∧ ∀ i, i < g 5 → f 3 i ≤ W) := by
  obtain ⟨-, -, -, -, -, -, -, -, n6, -, -, rs, -⟩ := id hR
  unfold mX1_longestWork mX1_longestWork_L4
  refine HT_b (Q := fun v => ∃ W, W ≤ 60 ∧ v = nI W ∧ ∀ i, i < g 5 → f 3 i ≤ W) (HT_itr (fun k (s : Int32 × Int32) => ∃ j W, j ≤ g 5 ∧ k = g 5 - j ∧ s.2 = nI j ∧ W ≤ 60 ∧ s.1 = nI W ∧ ∀ i, i < j → f 3 i ≤ W) ?_ FU (g 5) _ ⟨0, 0, by omega, rfl, rfl, by omega, rfl, fun i hi => absurd hi (Nat.not_lt_zero i)⟩ (FU_gt (by omega))) (fun m hm => HT_s hm)
  rintro k ⟨s1, s2⟩ ⟨j, W, hj, rfl, e1, hW, e2, hI⟩
  dsimp only at e1 e2
  subst e1; subst e2
  show HT (mX1_longestWork_s4 mL (nI W) (nI j)) _
  unfold mX1_longestWork_s4
  rw [hC.2.2.2.2.2.1]
  by_cases h0 : j = g 5
  · subst h0
    rw [if_pos (Int32.le_refl _)]
    exact HT_s ⟨W, hW, rfl, hI⟩
  · have y : mL 4 j = nI (f 3 j) := hC.2.2.2.2.2.2.2.2.1 j (by omega) 3 (by decide)
    have y2 := (rs j (by omega)).2.2.2.2.2.1
    rw [if_neg (by rw [n_le (by omega) (by omega)]; omega), gi_n (by omega) (by decide), nI_clamp (by omega), y, nm_d, nI_s, nm_d]
    by_cases h1 : W < f 3 j
    · rw [if_pos (by rw [n_lt (by omega) (by omega)]; exact h1)]
      refine HT_s ⟨g 5 - (j + 1), by omega, j + 1, f 3 j, by omega, rfl, rfl, y2, rfl, fun i hi => ?_⟩
      by_cases hij : i = j
      · rw [hij]; exact Nat.le_refl _
      · have := hI i (by omega); omega
    · rw [if_neg (by rw [n_lt (by omega) (by omega)]; exact h1)]
      refine HT_s ⟨g 5 - (j + 1), by omega, j + 1, W, by omega, rfl, rfl, hW, rfl, fun i hi => ?_⟩
      by_cases hij : i = j
      · rw [hij]; omega
      · exact hI i (by omega)
theorem YD_no {g : Nat → Nat} {f t : Nat → Nat → Nat} (hR : LR g f t) {S E W : Nat} (hS : S ≤ 16) (hE : 1 ≤ E) (hE2 : E ≤ 9) (hW : ∀ i, i < g 5 → f 3 i ≤ W) (h : S = 0 ∨ g 0 - 1 + W ≤ g 0 * E) : YD g f t S E = YD g f t 0 1 := by
  obtain ⟨p1, p2, -, -, -, -, -, -, n6, -, -, rs, -⟩ := id hR
  refine sm_cg (fun n hn => ?_) (g 0) (Nat.le_refl _)
  refine sm_cg (fun i hi => ?_) (g 5) (Nat.le_refl _)
  rw [TK_eq hR (show n ≤ 500 by omega) hS hE hE2 (show n ≤ 500 by omega) (show 0 ≤ 16 by omega) (show 1 ≤ 1 by omega) (show 1 ≤ 9 by omega) (fun i hi => bk_no hn (hW i hi) (rs i hi).2.2.2.2.1 h) i hi]
theorem c_strikes {mL : Mem} {g : Nat → Nat} {f t : Nat → Nat → Nat} (hR : LR g f t) (hC : LC mL g f t) {S E : Nat} (hS : S ≤ 16) (hE : 1 ≤ E) (hE2 : E ≤ 9) : HT (mX4_strikesLoansOfMoon mL (nI S) (nI E)) (fun v => v = 1 ∨ (v = 0 ∧ YD g f t S E = YD g f t 0 1)) := by
  obtain ⟨p1, p2, -, -, -, -, -, -, n6, -, -, rs, -⟩ := id hR
  unfold mX4_strikesLoansOfMoon
  by_cases h0 : S = 0
  · rw [if_pos (by rw [n_le0 (by omega)]; exact h0)]
    exact HT_s (Or.inr ⟨rfl, YD_no hR hS hE hE2 (W := 60) (fun i hi => (rs i hi).2.2.2.2.2.1) (Or.inl h0)⟩)
  · rw [if_neg (by rw [n_le0 (by omega)]; exact h0)]
    refine HT_b (c_longest hR hC) (fun v hv => ?_)
    obtain ⟨W, hW, rfl, hI⟩ := hv
    have hg : g 0 * E ≤ 270 := Nat.mul_le_mul p2 hE2
    rw [hC.1, show (1 : Int32) = nI 1 from rfl, pk_sub (by omega), n_add, n_mul]
    by_cases h1 : g 0 - 1 + W ≤ g 0 * E
    · rw [if_pos (by rw [n_le (by omega) (by omega)]; exact h1)]
      exact HT_s (Or.inr ⟨rfl, YD_no hR hS hE hE2 hI (Or.inr h1)⟩)
    · rw [if_neg (by rw [n_le (by omega) (by omega)]; exact h1)]
      exact HT_s (Or.inl rfl)
def BJ (y0 s e : Nat) (mS : Mem) (a b y : Int32) : Prop := (mS 0 6 = -1 ∧ y = -1 ∧ s = 0 ∧ e = 1) ∨ ∃ Y, Y ≤ 88209000 ∧ y0 ≤ Y ∧ y = nI Y ∧ mS 0 6 = nI Y ∧ mS 0 4 = a ∧ mS 0 5 = b
theorem RT_try {mL mS mO : Mem} {ml : Lem} {g : Nat → Nat} {f t : Nat → Nat → Nat} (hR : LR g f t) (hC : LC mL g f t) (hM : LM mO g f t) {v1 a b y : Int32} {s e : Nat} (hs : s ≤ 16) (he : 1 ≤ e) (he2 : e ≤ 9) (h : BJ (YD g f t 0 1) s e mS a b y) :
    RT (mX4_seekBest_s19 (nI s) mL (nI e) mS) (mX8_best_s38 v1 (nI s) ml a b y (nI e) mO) (LK (fun p q => p.1 = nI (e + 1) ∧ q.2.2.2.1 = nI (e + 1) ∧ (∃ Y, Y ≤ 88209000 ∧ YD g f t 0 1 ≤ Y ∧ q.2.2.1 = nI Y ∧ p.2 0 6 = nI Y ∧ p.2 0 4 = q.1 ∧ p.2 0 5 = q.2.1) ∧ Fr [1, 2, 3] [2, 3, 4, 5, 6] mS p.2 ∧ Fr [18, 19] [] mO q.2.2.2.2) (fun _ _ => False)) := by
  have hY := YD_le (f := f) (t := t) hR hs he he2
  obtain ⟨q, eq, q1, q2⟩ := o_moon (ml := ml) hR hM hs he he2 true
  have h9 : ¬ (9 : Int32) < nI e := by rw [show (9 : Int32) = nI 9 from rfl, n_lt (by decide) (by omega)]; omega
  have tl : ∀ Y0 : Int32, mS 0 6 = Y0 → HT (mX4_tryLaw mS mL (nI s) (nI e)) (fun m => Fr [1, 2, 3] [2, 3, 4, 5, 6] mS m ∧ ((nI (YD g f t s e) ≤ Y0 ∧ m 0 6 = Y0 ∧ m 0 4 = mS 0 4 ∧ m 0 5 = mS 0 5) ∨ (¬ nI (YD g f t s e) ≤ Y0 ∧ m 0 6 = nI (YD g f t s e) ∧ m 0 4 = nI s ∧ m 0 5 = nI e))) := by
    intro Y0 hY0
    unfold mX4_tryLaw
    refine HT_b (c_moon (mS := mS) hR hC hs he he2) (fun m hm => ?_)
    obtain ⟨⟨-, m3, -⟩, mF⟩ := hm
    rw [m3, mF.2 6 (by decide), hY0]
    by_cases hc : nI (YD g f t s e) ≤ Y0
    · rw [if_pos (show nI (sm (YDn g f t s e) (g 0)) ≤ Y0 from hc)]
      exact HT_s ⟨mF.wk (by decide) (by decide), Or.inl ⟨hc, (mF.2 6 (by decide)).trans hY0, mF.2 4 (by decide), mF.2 5 (by decide)⟩⟩
    · rw [if_neg (show ¬ nI (sm (YDn g f t s e) (g 0)) ≤ Y0 from hc)]
      exact HT_s ⟨(((mF.wk (by decide) (by decide)).upf (by decide)).upf (by decide)).upf (by decide), Or.inr ⟨hc, rfl, rfl, rfl⟩⟩
  unfold mX4_seekBest_s19 mX8_best_s38 mX4_seekBest_j42
  rw [if_neg h9, if_neg h9]
  rw [show (1 : Int32) = bI true from rfl, eq, show bI true = (1 : Int32) from rfl]
  simp only [bn_s, nm_d, nI_s]
  rw [q1]
  simp only [cond_true]
  have two : ∀ Y0 : Int32, y = Y0 → mS 0 6 = Y0 → (Y0 = -1 ∧ s = 0 ∧ e = 1 ∨ ∃ Y, Y0 = nI Y ∧ Y ≤ 88209000 ∧ YD g f t 0 1 ≤ Y ∧ mS 0 4 = a ∧ mS 0 5 = b) →
      RT (bn (mX4_tryLaw mS mL (nI s) (nI e)) fun mS_2 => some (Sum.inl (nI (e + 1), mS_2) : (Int32 × Mem) ⊕ Mem)) (if y < nI (YD g f t s e) then some (Sum.inl (nI s, nI e, nI (YD g f t s e), nI (e + 1), q.2) : (Int32 × Int32 × Int32 × Int32 × Mem) ⊕ (Int32 × Int32 × Int32 × Mem)) else some (Sum.inl (a, b, y, nI (e + 1), q.2))) (LK (fun p q => p.1 = nI (e + 1) ∧ q.2.2.2.1 = nI (e + 1) ∧ (∃ Y, Y ≤ 88209000 ∧ YD g f t 0 1 ≤ Y ∧ q.2.2.1 = nI Y ∧ p.2 0 6 = nI Y ∧ p.2 0 4 = q.1 ∧ p.2 0 5 = q.2.1) ∧ Fr [1, 2, 3] [2, 3, 4, 5, 6] mS p.2 ∧ Fr [18, 19] [] mO q.2.2.2.2) (fun _ _ => False)) := by
    intro Y0 hy hm hk
    refine RT_l (tl Y0 hm) (fun m hmm => ?_)
    obtain ⟨mF, hmm⟩ := hmm
    have hle : ∀ A, A ≤ 88209000 → nI A ≤ (-1 : Int32) → False := by
      intro A hA h1
      have h2 := Int32.le_iff_toInt_le.mp h1
      rw [nI_toInt (by omega)] at h2
      have : ((-1 : Int32)).toInt = -1 := by decide
      omega
    rcases hmm with ⟨c1, c2, c3, c4⟩ | ⟨c1, c2, c3, c4⟩
    · rw [if_neg (by rw [hy]; exact Int32.not_lt.mpr c1)]
      rcases hk with ⟨k1, -, -⟩ | ⟨Y, k1, o1, o2, o3, o4⟩
      · rw [k1] at c1
        exact absurd c1 (fun h => hle _ hY h)
      · exact RT_s ⟨rfl, rfl, ⟨Y, o1, o2, hy.trans k1, c2.trans k1, c3.trans o3, c4.trans o4⟩, mF, q2⟩
    · rw [if_pos (by rw [hy]; exact Int32.not_le.mp c1)]
      refine RT_s ⟨rfl, rfl, ⟨YD g f t s e, hY, ?_, rfl, c2, c3, c4⟩, mF, q2⟩
      rcases hk with ⟨-, rfl, rfl⟩ | ⟨Y, k1, o1, o2, o3, o4⟩
      · exact Nat.le_refl _
      · rw [k1, n_le (by omega) (by omega)] at c1
        omega
  rcases h with ⟨h1, h2, h3, h4⟩ | ⟨Y, y1, y2, y3, y4, y5, y6⟩
  · rw [if_pos h1]
    exact two (-1) h2 h1 (Or.inl ⟨rfl, h3, h4⟩)
  · rw [if_neg (by rw [y4]; exact n_nm1 (by omega))]
    refine RT_l (c_strikes hR hC hs he he2) (fun v hv => ?_)
    rcases hv with rfl | ⟨rfl, hv⟩
    · rw [if_neg (by decide)]
      exact two (nI Y) y3 y4 (Or.inr ⟨Y, rfl, y1, y2, y5, y6⟩)
    · rw [if_pos rfl, if_neg (by rw [y3, n_lt (by omega) (by omega)]; omega)]
      exact RT_s ⟨rfl, rfl, ⟨Y, y1, y2, y3, y4, y5, y6⟩, Fr.rf, q2⟩
theorem RT_seek {mL mS mO : Mem} {ml : Lem} {g : Nat → Nat} {f t : Nat → Nat → Nat} (hR : LR g f t) (hC : LC mL g f t) (hM : LM mO g f t) (h6 : mS 0 6 = -1) (v1 : Int32) :
    RT (mX4_seekBest mS mL) (itr (fun q => mX8_best_s28 v1 ml q.1 q.2.1 q.2.2.1 q.2.2.2.1 q.2.2.2.2) FU ((0 : Int32), (0 : Int32), (-1 : Int32), (0 : Int32), mO)) (fun m q => (∃ Y, Y ≤ 88209000 ∧ q.2.2.1 = nI Y ∧ m 0 6 = nI Y ∧ m 0 4 = q.1 ∧ m 0 5 = q.2.1) ∧ Fr [1, 2, 3] [2, 3, 4, 5, 6] mS m ∧ Fr [18, 19] [] mO q.2.2.2) := by
  unfold mX4_seekBest mX4_seekBest_L11
  rw [if_pos h6]
  have hb : ∀ (o : Option Mem) , bn o (fun ex => nm ex fun mS => some mS) = o := fun o => by cases o <;> rfl
  rw [hb]
  refine RT_itr (fun k (p : Int32 × Mem) (q : Int32 × Int32 × Int32 × Int32 × Mem) => ∃ s, s ≤ 17 ∧ k = 17 - s ∧ p.1 = nI s ∧ q.2.2.2.1 = nI s ∧ BJ (YD g f t 0 1) s 1 p.2 q.1 q.2.1 q.2.2.1 ∧ Fr [1, 2, 3] [2, 3, 4, 5, 6] mS p.2 ∧ Fr [18, 19] [] mO q.2.2.2.2) ?_ FU 17 _ _ ⟨0, by omega, rfl, rfl, rfl, Or.inl ⟨h6, rfl, rfl, rfl⟩, Fr.rf, Fr.rf⟩ (FU_gt (by omega))
  rintro k ⟨s1, s2⟩ ⟨a, b, y, t1, t2⟩ ⟨s, hs, rfl, e1, e2, hB, hF, hF'⟩
  dsimp only at e1 e2 hB hF hF'
  subst e1; subst e2
  show RT (mX4_seekBest_s11 mL (nI s) s2) (mX8_best_s28 v1 ml a b y (nI s) t2) _
  unfold mX4_seekBest_s11 mX8_best_s28 mX4_seekBest_L19 mX8_best_L38
  refine RT_if Iff.rfl (fun h => ?_) (fun h => ?_)
  · rw [show (16 : Int32) = nI 16 from rfl, n_lt (by decide) (by omega)] at h
    rcases hB with ⟨-, -, h3, -⟩ | ⟨Y, y1, y2, y3, y4, y5, y6⟩
    · omega
    · exact RT_s ⟨⟨Y, y1, y3, y4, y5, y6⟩, hF, hF'⟩
  · rw [show (16 : Int32) = nI 16 from rfl, n_lt (by decide) (by omega)] at h
    have hin : RT (itr (fun q => mX4_seekBest_s19 (nI s) mL q.1 q.2) FU ((1 : Int32), s2)) (itr (fun q => mX8_best_s38 v1 (nI s) ml q.1 q.2.1 q.2.2.1 q.2.2.2.1 q.2.2.2.2) FU (a, b, y, (1 : Int32), t2)) (fun m q => (∃ Y, Y ≤ 88209000 ∧ YD g f t 0 1 ≤ Y ∧ q.2.2.1 = nI Y ∧ m 0 6 = nI Y ∧ m 0 4 = q.1 ∧ m 0 5 = q.2.1) ∧ Fr [1, 2, 3] [2, 3, 4, 5, 6] s2 m ∧ Fr [18, 19] [] t2 q.2.2.2) := by
      refine RT_itr (fun k (p : Int32 × Mem) (q : Int32 × Int32 × Int32 × Int32 × Mem) => ∃ e, 1 ≤ e ∧ e ≤ 10 ∧ k = 10 - e ∧ p.1 = nI e ∧ q.2.2.2.1 = nI e ∧ BJ (YD g f t 0 1) s e p.2 q.1 q.2.1 q.2.2.1 ∧ Fr [1, 2, 3] [2, 3, 4, 5, 6] s2 p.2 ∧ Fr [18, 19] [] t2 q.2.2.2.2) ?_ FU 9 _ _ ⟨1, by omega, by omega, rfl, rfl, rfl, hB, Fr.rf, Fr.rf⟩ (FU_gt (by omega))
      rintro k ⟨p1, p2⟩ ⟨a', b', y', q1, q2⟩ ⟨e, he1, he, rfl, e1, e2, hB2, hG, hG'⟩
      dsimp only at e1 e2 hB2 hG hG'
      subst e1; subst e2
      show RT (mX4_seekBest_s19 (nI s) mL (nI e) p2) (mX8_best_s38 v1 (nI s) ml a' b' y' (nI e) q2) _
      by_cases h9 : e = 10
      · subst h9
        unfold mX4_seekBest_s19 mX8_best_s38
        rw [if_pos (by decide), if_pos (by decide)]
        rcases hB2 with ⟨-, -, -, h4⟩ | ⟨Y, y1, y2, y3, y4, y5, y6⟩
        · omega
        · exact RT_s ⟨⟨Y, y1, y2, y3, y4, y5, y6⟩, hG, hG'⟩
      · refine RT_m (RT_try (ml := ml) (v1 := v1) hR hC ((hM.fr hF' (by decide) (by decide) (by decide)).fr hG' (by decide) (by decide) (by decide)) (by omega) he1 (by omega) hB2) (fun o o' ho => ?_)
        cases o with
        | inr r => cases o' <;> exact absurd ho (fun h => h)
        | inl x =>
          cases o' with
          | inr r => exact absurd ho (fun h => h)
          | inl z =>
            obtain ⟨h1, h2, ⟨Y, y1, y2, y3, y4, y5, y6⟩, h4, h5⟩ := ho
            exact ⟨10 - (e + 1), by omega, e + 1, by omega, by omega, rfl, h1, h2, Or.inr ⟨Y, y1, y2, y3, y4, y5, y6⟩, hG.tr h4, hG'.tr h5⟩
    refine RT_b hin (fun m q hq => ?_)
    obtain ⟨⟨Y, y1, y2, y3, y4, y5, y6⟩, h4, h5⟩ := hq
    simp only [nm_d, nI_s]
    exact RT_s ⟨17 - (s + 1), by omega, s + 1, by omega, rfl, rfl, rfl, Or.inr ⟨Y, y1, y2, y3, y4, y5, y6⟩, hF.tr h4, hF'.tr h5⟩
/-- the best law depends on the land alone -/
def BTP (g : Nat → Nat) (f t : Nat → Nat → Nat) (a b : Int32) (Y : Nat) : Prop :=
  (∀ mS mL : Mem, LC mL g f t → mS 0 6 = -1 → HT (mX4_seekBest mS mL) (fun m => m 0 4 = a ∧ m 0 5 = b ∧ m 0 6 = nI Y ∧ Fr [1, 2, 3] [2, 3, 4, 5, 6] mS m)) ∧
  (∀ (mO : Mem) (ml : Lem) (v1 : Int32), LM mO g f t → HT (itr (fun q => mX8_best_s28 v1 ml q.1 q.2.1 q.2.2.1 q.2.2.2.1 q.2.2.2.2) FU ((0 : Int32), (0 : Int32), (-1 : Int32), (0 : Int32), mO)) (fun q => q.1 = a ∧ q.2.1 = b ∧ q.2.2.1 = nI Y ∧ Fr [18, 19] [] mO q.2.2.2))
theorem BT_ex {g : Nat → Nat} {f t : Nat → Nat → Nat} (hR : LR g f t) : ∃ a b Y, Y ≤ 88209000 ∧ BTP g f t a b Y := by
  obtain ⟨m0, q0, e0, e0', ⟨Y, y1, y2, y3, y4, y5⟩, -, -⟩ := RT_seek (mS := fun _ _ => -1) (ml := fun _ _ => 0) hR (mkL_ok g f t) (mkO_ok g f t) rfl (0 : Int32)
  refine ⟨q0.1, q0.2.1, Y, y1, fun mS mL hC h6 => ?_, fun mO ml v1 hM => ?_⟩
  · obtain ⟨m, q, e, e', ⟨Y', z1, z2, z3, z4, z5⟩, F1, F2⟩ := RT_seek (mS := mS) (ml := fun _ _ => 0) hR hC (mkO_ok g f t) h6 (0 : Int32)
    rw [e0'] at e'
    have := Option.some.inj e'
    subst this
    exact ⟨m, e, z4, z5, z3.trans (z2.symm.trans y2), F1⟩
  · obtain ⟨m, q, e, e', ⟨Y', z1, z2, z3, z4, z5⟩, F1, F2⟩ := RT_seek (mS := fun _ _ => -1) (ml := ml) hR (mkL_ok g f t) hM rfl v1
    rw [e0] at e
    have := Option.some.inj e
    subst this
    exact ⟨q, e', z4.symm.trans y4, z5.symm.trans y5, z2.trans (z3.symm.trans y3), F2⟩
