/-! all turns, five times -/
def WKp (sp : Int32) (n : Nat) (t : Nat → Nat → Nat) : Nat → Nat → Nat → Prop
  | 0, k, c => spb sp k = true ∧ c = 0
  | r + 1, k, c => (spb sp k = true ∧ c = 0) ∨ ∃ i c', i < n ∧ t 0 i = k ∧ WKp sp n t r (t 1 i) c' ∧ c = c' + (100 * t 2 i + 1)
theorem WKp_up {sp : Int32} {n : Nat} {t : Nat → Nat → Nat} : ∀ (r k c : Nat), WKp sp n t r k c → WKp sp n t (r + 1) k c
  | 0, _, _, h => Or.inl h
  | r + 1, k, c, h => by
    rcases h with h | ⟨i, c', h1, h2, h3, h4⟩
    · exact Or.inl h
    · exact Or.inr ⟨i, c', h1, h2, WKp_up r _ _ h3, h4⟩
theorem WKp_le {sp : Int32} {n : Nat} {t : Nat → Nat → Nat} {r r' k c : Nat} (h : WKp sp n t r k c) (hr : r ≤ r') : WKp sp n t r' k c := by
  obtain ⟨d, rfl⟩ : ∃ d, r' = r + d := ⟨r' - r, by omega⟩
  induction d with
  | zero => exact h
  | succ d ih => exact WKp_up _ _ _ (ih (by omega))
theorem RT_turns {mL mY mO : Mem} {ml : Lem} {g : Nat → Nat} {f t : Nat → Nat → Nat} (hR : LR g f t) (hC : LC mL g f t) (hM : LM mO g f t) {T : Nat} (hT : T + g 7 ≤ 60) {sp : Int32} {W : Nat → Nat} (h : WR T sp mY mO W) (hI : TI sp (g 7) t W) (v2 v3 : Int32) :
    RT (itr (fun q => mX6_measure_s50 v3 mL q.1 q.2) FU ((0 : Int32), mY)) (itr (fun q => mX8_finds_s44 sp v2 ml q.1 q.2) FU ((0 : Int32), mO)) (fun m m' => ∃ W', WR (T + g 7) sp m m' W' ∧ TI sp (g 7) t W' ∧ (∀ k, W' k ≤ W k) ∧ (∀ j, j < g 7 → spb sp (t 0 j) = false → W' (t 0 j) ≤ W (t 1 j) + (100 * t 2 j + 1)) ∧ Fr [1, 2] [] mY m ∧ Fr [25] [] mO m') := by
  have n12 : g 7 ≤ 12 := hR.2.2.2.2.2.2.2.2.2.2.1
  refine RT_itr (fun k (s : Int32 × Mem) (t' : Int32 × Mem) => ∃ j W', j ≤ g 7 ∧ k = g 7 - j ∧ s.1 = nI j ∧ t'.1 = nI j ∧ WR (T + j) sp s.2 t'.2 W' ∧ TI sp (g 7) t W' ∧ (∀ k, W' k ≤ W k) ∧ (∀ i, i < j → spb sp (t 0 i) = false → W' (t 0 i) ≤ W (t 1 i) + (100 * t 2 i + 1)) ∧ Fr [1, 2] [] mY s.2 ∧ Fr [25] [] mO t'.2) ?_ FU (g 7) _ _ ⟨0, W, Nat.zero_le _, rfl, rfl, rfl, h, hI, fun _ => Nat.le_refl _, fun i hi => absurd hi (Nat.not_lt_zero i), Fr.rf, Fr.rf⟩ (FU_gt (by omega))
  rintro k ⟨s1, s2⟩ ⟨t1, t2⟩ ⟨j, W', hj, rfl, e1, e2, h1, h2, h3, h4, hF, hF'⟩
  dsimp only at e1 e2 h1 hF hF'
  subst e1; subst e2
  show RT (mX6_measure_s50 v3 mL (nI j) s2) (mX8_finds_s44 sp v2 ml (nI j) t2) _
  have hM2 := hM.fr hF' (by decide) (by decide) (by decide)
  by_cases hlt : j = g 7
  · subst hlt
    unfold mX6_measure_s50 mX8_finds_s44
    rw [hC.2.2.2.2.2.2.2.1, hM2.2.2.2.2.2.2.2.1, if_pos (Int32.le_refl _), if_pos (Int32.le_refl _)]
    exact RT_s ⟨W', h1, h2, h3, h4, hF, hF'⟩
  · unfold mX6_measure_s50
    rw [hC.2.2.2.2.2.2.2.1, if_neg (by rw [n_le (by omega) (by omega)]; omega)]
    obtain ⟨m, o, em, eo, m', rfl, W'', w1, w2, w3, w4, w5, w6⟩ := RT_turn (ml := ml) hR hC hM2 (show T + j ≤ 60 by omega) h1 (show j < g 7 by omega) v2
    rw [em, eo]
    simp only [bn_s, nm_d, nI_s]
    refine RT_s ⟨g 7 - (j + 1), by omega, j + 1, W'', by omega, rfl, rfl, rfl, w1, w4 h2, fun k => Nat.le_trans (w2 k) (h3 k), fun i hi hs => ?_, hF.tr w5, hF'.tr w6⟩
    by_cases hij : i = j
    · subst hij
      exact Nat.le_trans (w3 hs) (Nat.add_le_add_right (h3 _) _)
    · exact Nat.le_trans (w2 _) (h4 i (by omega) hs)
theorem RT_start {mL mY mO : Mem} {ml : Lem} (sp : Int32) : RT (itr (fun q => mX6_measure_s2 sp mL q.1 q.2) FU ((0 : Int32), mY)) (itr (fun q => mX8_finds_s2 sp ml q.1 q.2) FU ((0 : Int32), mO)) (fun m m' => WR 0 sp m m' (fun k => cond (spb sp k) 0 1000000) ∧ Fr [1, 2] [] mY m ∧ Fr [25] [] mO m') := by
  refine RT_itr (fun k (s : Int32 × Mem) (t' : Int32 × Mem) => ∃ j, j ≤ 5 ∧ k = 5 - j ∧ s.1 = nI j ∧ t'.1 = nI j ∧ (∀ k, k < j → s.2 1 k = cond (spb sp k) 0 (-1) ∧ s.2 2 k = 0 ∧ t'.2 25 k = nI (cond (spb sp k) 0 1000000)) ∧ Fr [1, 2] [] mY s.2 ∧ Fr [25] [] mO t'.2) ?_ FU 5 _ _ ⟨0, Nat.zero_le _, rfl, rfl, rfl, fun i hi => absurd hi (Nat.not_lt_zero i), Fr.rf, Fr.rf⟩ (FU_gt (by omega))
  rintro k ⟨s1, s2⟩ ⟨t1, t2⟩ ⟨j, hj, rfl, e1, e2, h1, hF, hF'⟩
  dsimp only at e1 e2 h1 hF hF'
  subst e1; subst e2
  show RT (mX6_measure_s2 sp mL (nI j) s2) (mX8_finds_s2 sp ml (nI j) t2) _
  unfold mX6_measure_s2 mX8_finds_s2 mX6_measure_j26 mX8_finds_j28
  by_cases h5 : j = 5
  · subst h5
    rw [if_pos (by decide), if_pos (by decide)]
    refine RT_s ⟨fun k hk => ?_, hF, hF'⟩
    obtain ⟨a1, a2, a3⟩ := h1 k hk
    refine ⟨a3, ?_⟩
    cases hs : spb sp k with
    | true => rw [hs] at a1; exact Or.inl ⟨rfl, a1, a2, by dsimp only; rw [hs]; rfl⟩
    | false => rw [hs] at a1; exact Or.inr (Or.inl ⟨rfl, a1, by dsimp only; rw [hs]; rfl⟩)
  · rw [if_neg (show ¬ (5 : Int32) ≤ nI j by rw [show (5 : Int32) = nI 5 from rfl, n_le (by decide) (by omega)]; omega), if_neg (show ¬ (5 : Int32) ≤ nI j by rw [show (5 : Int32) = nI 5 from rfl, n_le (by decide) (by omega)]; omega)]
    simp only [gi_n (show j < 5 by omega) (show 5 < 2 ^ 31 by decide), nI_clamp (show j < 2 ^ 31 by omega), nm_d, nI_s]
    cases hs : spb sp j with
    | true =>
      rw [if_neg (show ¬ ¬ (sp >>> (nI j &&& 31)) &&& (1 : Int32) = 1 from fun q => q (spb_t hs)), if_neg (show ¬ ¬ (sp >>> (nI j &&& 31)) &&& (1 : Int32) = 1 from fun q => q (spb_t hs))]
      refine RT_s ⟨5 - (j + 1), by omega, j + 1, by omega, rfl, rfl, rfl, fun k hk => ?_, (hF.upi (by decide) (by decide)).upi (by decide) (by decide), hF'.upi (by decide) (by decide)⟩
      simp only [upi_d, reduceIte, Nat.reduceEqDiff, upd_d]
      by_cases hkj : k = j
      · subst hkj
        simp only [reduceIte, hs]
        exact ⟨rfl, trivial, rfl⟩
      · simp only [if_neg hkj]
        exact h1 k (by omega)
    | false =>
      rw [if_pos (show ¬ (sp >>> (nI j &&& 31)) &&& (1 : Int32) = 1 by rw [spb_f hs]; decide), if_pos (show ¬ (sp >>> (nI j &&& 31)) &&& (1 : Int32) = 1 by rw [spb_f hs]; decide)]
      refine RT_s ⟨5 - (j + 1), by omega, j + 1, by omega, rfl, rfl, rfl, fun k hk => ?_, (hF.upi (by decide) (by decide)).upi (by decide) (by decide), hF'.upi (by decide) (by decide)⟩
      simp only [upi_d, reduceIte, Nat.reduceEqDiff, upd_d]
      by_cases hkj : k = j
      · subst hkj
        simp only [reduceIte, hs]
        exact ⟨rfl, trivial, rfl⟩
      · simp only [if_neg hkj]
        exact h1 k (by omega)
def WF (sp : Int32) (n : Nat) (t : Nat → Nat → Nat) (mY mO : Mem) (W : Nat → Nat) : Prop := WR 60 sp mY mO W ∧ TI sp n t W ∧ ∀ k c, WKp sp n t 5 k c → W k ≤ c
theorem RT_measure {mL mY mO : Mem} {ml : Lem} {g : Nat → Nat} {f t : Nat → Nat → Nat} (hR : LR g f t) (hC : LC mL g f t) (hM : LM mO g f t) (sp : Int32) : RT (mX6_measure mY mL sp) (mX8_finds mO ml sp) (fun m m' => (∃ W, WF sp (g 7) t m m' W) ∧ Fr [1, 2] [] mY m ∧ Fr [25] [] mO m') := by
  have n12 : g 7 ≤ 12 := hR.2.2.2.2.2.2.2.2.2.2.1
  unfold mX6_measure mX6_measure_L2 mX8_finds mX8_finds_L2
  refine RT_b (RT_start (ml := ml) sp) (fun m0 m0' h0 => ?_)
  obtain ⟨a1, a2, a3⟩ := h0
  have hM0 := hM.fr a3 (by decide) (by decide) (by decide)
  simp only [nm_d]
  unfold mX6_measure_L42 mX8_finds_L37
  refine RT_b (Q := fun m m' => (∃ W, WF sp (g 7) t m m' W) ∧ Fr [1, 2] [] m0 m ∧ Fr [25] [] m0' m') (RT_itr (fun k (s : Int32 × Mem) (t' : Int32 × Mem) => ∃ r W, r ≤ 5 ∧ k = 5 - r ∧ s.1 = nI r ∧ t'.1 = nI r ∧ WR (r * g 7) sp s.2 t'.2 W ∧ TI sp (g 7) t W ∧ (∀ k c, WKp sp (g 7) t r k c → W k ≤ c) ∧ Fr [1, 2] [] m0 s.2 ∧ Fr [25] [] m0' t'.2) ?_ FU 5 _ _ ⟨0, _, Nat.zero_le _, rfl, rfl, rfl, by rw [Nat.zero_mul]; exact a1, ?_, ?_, Fr.rf, Fr.rf⟩ (FU_gt (by omega))) (fun m m' hm => RT_s ⟨hm.1, a2.tr hm.2.1, a3.tr hm.2.2⟩)
  · rintro k ⟨s1, s2⟩ ⟨t1, t2⟩ ⟨r, W, hr, rfl, e1, e2, h1, h2, h3, hF, hF'⟩
    dsimp only at e1 e2 h1 hF hF'
    subst e1; subst e2
    show RT (mX6_measure_s42 mL (nI r) s2) (mX8_finds_s37 sp ml (nI r) t2) _
    unfold mX6_measure_s42 mX8_finds_s37 mX6_measure_L50 mX8_finds_L44
    by_cases h5 : r = 5
    · subst h5
      rw [if_pos (by decide), if_pos (by decide)]
      exact RT_s ⟨⟨W, h1.wk (by omega), h2, h3⟩, hF, hF'⟩
    · rw [if_neg (show ¬ (5 : Int32) ≤ nI r by rw [show (5 : Int32) = nI 5 from rfl, n_le (by decide) (by omega)]; omega), if_neg (show ¬ (5 : Int32) ≤ nI r by rw [show (5 : Int32) = nI 5 from rfl, n_le (by decide) (by omega)]; omega)]
      have hb : r * g 7 ≤ 4 * 12 := Nat.mul_le_mul (by omega) n12
      refine RT_b (RT_turns (ml := ml) hR hC (hM0.fr hF' (by decide) (by decide) (by decide)) (show r * g 7 + g 7 ≤ 60 by omega) h1 h2 (nI r) (nI r)) (fun m m' hm => ?_)
      obtain ⟨W', w1, w2, w3, w4, w5, w6⟩ := hm
      simp only [nm_d, nI_s]
      refine RT_s ⟨5 - (r + 1), by omega, r + 1, W', by omega, rfl, rfl, rfl, by rw [Nat.succ_mul]; exact w1, w2, fun k c hk => ?_, hF.tr w5, hF'.tr w6⟩
      rcases hk with ⟨k1, k2⟩ | ⟨i, c', k1, k2, k3, k4⟩
      · have := h3 k c (WKp_le (r := 0) ⟨k1, k2⟩ (by omega))
        exact Nat.le_trans (w3 k) this
      · cases hs : spb sp k with
        | true =>
          have := h3 k 0 (WKp_le (r := 0) ⟨hs, rfl⟩ (by omega))
          have := w3 k
          omega
        | false =>
          have h5 := w4 i k1 (by rw [k2]; exact hs)
          have h6 := h3 _ _ k3
          rw [k2] at h5
          omega
  · intro k hk hs hW
    dsimp only at hW
    rw [hs] at hW
    exact absurd hW (by decide)
  · rintro k c ⟨h1, h2⟩
    rw [h1]
    exact Nat.zero_le _
/-! the turns of a best way -/
theorem sm_mono {h h' : Nat → Nat} : ∀ n, (∀ i, i < n → h i ≤ h' i) → sm h n ≤ sm h' n
  | 0, _ => Nat.le_refl _
  | n + 1, hh => Nat.add_le_add (sm_mono n (fun i hi => hh i (by omega))) (hh n (by omega))
theorem sm_lt {h h' : Nat → Nat} : ∀ n, (∀ i, i < n → h i ≤ h' i) → (∃ i, i < n ∧ h i < h' i) → sm h n < sm h' n
  | 0, _, ⟨i, hi, _⟩ => absurd hi (Nat.not_lt_zero i)
  | n + 1, hh, ⟨i, hi, hlt⟩ => by
    show sm h n + h n < sm h' n + h' n
    by_cases hin : i = n
    · subst hin
      have := sm_mono i (fun j hj => hh j (by omega))
      omega
    · have := sm_lt n (fun j hj => hh j (by omega)) ⟨i, by omega, hlt⟩
      have := hh n (by omega)
      omega
def rk (W : Nat → Nat) (k : Nat) : Nat := sm (fun j => if W j < W k then 1 else 0) 5
theorem rk_lt {W : Nat → Nat} {a k : Nat} (ha : a < 5) (h : W a < W k) : rk W a < rk W k := by
  refine sm_lt 5 (fun i _ => ?_) ⟨a, ha, ?_⟩
  · split
    · rw [if_pos (by omega)]; exact Nat.le_refl _
    · exact Nat.zero_le _
  · rw [if_neg (Nat.lt_irrefl _), if_pos h]; exact Nat.zero_lt_one
theorem rk_le {W : Nat → Nat} {k : Nat} (hk : k < 5) : rk W k ≤ 4 := by
  have : rk W k < sm (fun _ => 1) 5 := sm_lt 5 (fun i _ => by split <;> omega) ⟨k, hk, by rw [if_neg (Nat.lt_irrefl _)]; exact Nat.zero_lt_one⟩
  have e : sm (fun _ => 1) 5 = 5 := rfl
  omega
theorem chain {sp : Int32} {n : Nat} {t : Nat → Nat → Nat} {W : Nat → Nat} (ht : ∀ i, i < n → t 1 i < 5) (hI : TI sp n t W) : ∀ (r k : Nat), k < 5 → rk W k ≤ r → W k < 1000000 → ∃ c, c ≤ W k ∧ WKp sp n t r k c := by
  intro r
  induction r with
  | zero =>
    intro k hk hr hW
    cases hs : spb sp k with
    | true => exact ⟨0, Nat.zero_le _, hs, rfl⟩
    | false =>
      obtain ⟨i, i1, i2, i3⟩ := hI k hk hs hW
      have := rk_lt (W := W) (ht i i1) (show W (t 1 i) < W k by omega)
      omega
  | succ r ih =>
    intro k hk hr hW
    cases hs : spb sp k with
    | true => exact ⟨0, Nat.zero_le _, Or.inl ⟨hs, rfl⟩⟩
    | false =>
      obtain ⟨i, i1, i2, i3⟩ := hI k hk hs hW
      have := rk_lt (W := W) (ht i i1) (show W (t 1 i) < W k by omega)
      obtain ⟨c, c1, c2⟩ := ih (t 1 i) (ht i i1) (by omega) (by omega)
      exact ⟨c + (100 * t 2 i + 1), by omega, Or.inr ⟨i, c, i1, i2, c2, rfl⟩⟩
theorem tight {sp : Int32} {n : Nat} {t : Nat → Nat → Nat} {W : Nat → Nat} (ht : ∀ i, i < n → t 1 i < 5) (hI : TI sp n t W) (h5 : ∀ k c, WKp sp n t 5 k c → W k ≤ c) {k : Nat} (hk : k < 5) (hs : spb sp k = false) (hW : W k < 1000000) : ∃ i, i < n ∧ t 0 i = k ∧ W (t 1 i) + (100 * t 2 i + 1) = W k := by
  obtain ⟨i, i1, i2, i3⟩ := hI k hk hs hW
  refine ⟨i, i1, i2, ?_⟩
  obtain ⟨c, c1, c2⟩ := chain ht hI 4 (t 1 i) (ht i i1) (rk_le (ht i i1)) (by omega)
  have := h5 k (c + (100 * t 2 i + 1)) (Or.inr ⟨i, c, i1, i2, c2, rfl⟩)
  omega
