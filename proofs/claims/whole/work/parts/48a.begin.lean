/-! the market begins; a loan is made -/
theorem c_fill {n : Nat} {F : Nat → Int32} {v : Int32} (hn : n ≤ 500) : HT (mJ7_fill_53178 n F v) (fun f => ∀ i, i < n → f i = v) := by
  unfold mJ7_fill_53178 mJ7_fill_53178_L5
  rw [nm_d]
  refine HT_b (Q := fun f => ∀ i, i < n → f i = v) (HT_itr (fun k (s : Int32 × (Nat → Int32)) => ∃ j, j ≤ n ∧ k = n - j ∧ s.1 = nI j ∧ ∀ i, i < j → s.2 i = v) ?_ FU n _ ⟨0, by omega, rfl, rfl, fun i hi => absurd hi (Nat.not_lt_zero i)⟩ (FU_gt (by omega))) (fun m hm => HT_s hm)
  rintro k ⟨s1, s2⟩ ⟨j, hj, rfl, e1, hI⟩
  dsimp only at e1 hI
  subst e1
  show HT (mJ7_fill_53178_s5 v (nI n) n (nI j) s2) _
  unfold mJ7_fill_53178_s5
  by_cases h : j = n
  · subst h
    rw [if_pos (Int32.le_refl _)]
    exact HT_s hI
  · rw [if_neg (by rw [n_le (by omega) (by omega)]; omega), gi_n (by omega) (by omega), nI_clamp (by omega), nm_d, nI_s, nm_d]
    refine HT_s ⟨n - (j + 1), by omega, j + 1, by omega, rfl, rfl, fun i hi => ?_⟩
    dsimp only
    rw [upd_d]
    by_cases hij : i = j
    · rw [if_pos hij]
    · rw [if_neg hij]; exact hI i (by omega)
theorem RT_heaps {mL mM mO : Mem} {ml : Lem} {g : Nat → Nat} {f t : Nat → Nat → Nat} (hR : LR g f t) (hC : LC mL g f t) (hM : LM mO g f t) : RT (itr (fun q => mX2_begin_s7 mL q.1 q.2) FU ((0 : Int32), mM)) (itr (fun q => mX8_begins_s7 ml q.1 q.2) FU ((0 : Int32), mO)) (fun m m' => (∀ j, j < 6 → m 1 j = m' 8 j ∧ m 2 j = 0 ∧ m' 9 j = 0) ∧ Fr [1, 2] [] mM m ∧ Fr [8, 9] [] mO m') := by
  have n6 : g 5 ≤ 6 := hR.2.2.2.2.2.2.2.2.1
  refine RT_itr (fun k (s : Int32 × Mem) (t' : Int32 × Mem) => ∃ j, j ≤ 6 ∧ k = 6 - j ∧ s.1 = nI j ∧ t'.1 = nI j ∧ (∀ i, i < j → s.2 1 i = t'.2 8 i ∧ s.2 2 i = 0 ∧ t'.2 9 i = 0) ∧ Fr [1, 2] [] mM s.2 ∧ Fr [8, 9] [] mO t'.2) ?_ FU 6 _ _ ⟨0, by omega, rfl, rfl, rfl, fun i hi => absurd hi (Nat.not_lt_zero i), Fr.rf, Fr.rf⟩ (FU_gt (by omega))
  rintro k ⟨s1, s2⟩ ⟨t1, t2⟩ ⟨j, hj, rfl, e1, e2, hI, hF, hG⟩
  dsimp only at e1 e2 hI hF hG
  subst e1; subst e2
  show RT (mX2_begin_s7 mL (nI j) s2) (mX8_begins_s7 ml (nI j) t2) _
  have hM2 := hM.fr hG (by decide) (by decide) (by decide)
  by_cases h6 : j = 6
  · subst h6
    unfold mX2_begin_s7 mX8_begins_s7
    rw [if_pos (by decide), if_pos (by decide)]
    exact RT_s ⟨hI, hF, hG⟩
  · have hlt : j < 6 := by omega
    have key : ∀ x : Int32, RT (mX2_begin_j43 (nI j) (nI j) x s2 mL) (mX8_begins_j43 (nI j) (nI j) x t2 ml) (LK (fun (s t' : Int32 × Mem) => ∃ n', n' < 6 - j ∧ ∃ j', j' ≤ 6 ∧ n' = 6 - j' ∧ s.1 = nI j' ∧ t'.1 = nI j' ∧ (∀ i, i < j' → s.2 1 i = t'.2 8 i ∧ s.2 2 i = 0 ∧ t'.2 9 i = 0) ∧ Fr [1, 2] [] mM s.2 ∧ Fr [8, 9] [] mO t'.2) (fun (m m' : Mem) => (∀ j, j < 6 → m 1 j = m' 8 j ∧ m 2 j = 0 ∧ m' 9 j = 0) ∧ Fr [1, 2] [] mM m ∧ Fr [8, 9] [] mO m')) := by
      intro x
      unfold mX2_begin_j43 mX8_begins_j43
      simp only [gi_n hlt (show 6 < 2 ^ 31 by decide), nI_clamp (show j < 2 ^ 31 by omega), nm_d, nI_s]
      refine RT_s ⟨6 - (j + 1), by omega, j + 1, by omega, rfl, rfl, rfl, fun i hi => ?_, (hF.upi (by decide) (by decide)).upi (by decide) (by decide), (hG.upi (by decide) (by decide)).upi (by decide) (by decide)⟩
      simp only [upi_d, reduceIte, Nat.reduceEqDiff, upd_d]
      by_cases hij : i = j
      · simp only [if_pos hij]
        exact ⟨trivial, trivial, trivial⟩
      · simp only [if_neg hij]
        exact hI i (by omega)
    unfold mX2_begin_s7 mX8_begins_s7
    have hn : ¬ (6 : Int32) ≤ nI j := by rw [show (6 : Int32) = nI 6 from rfl, n_le (by decide) (by omega)]; omega
    rw [if_neg hn, if_neg hn, hC.2.2.2.2.2.1, hM2.2.2.2.2.2.1]
    refine RT_if Iff.rfl (fun _ => key 0) (fun h => ?_)
    rw [n_le (by omega) (by omega)] at h
    have c1 : mL 1 j = nI (f 0 j) := hC.2.2.2.2.2.2.2.2.1 j (by omega) 0 (by decide)
    have c2 : mL 2 j = nI (f 1 j) := hC.2.2.2.2.2.2.2.2.1 j (by omega) 1 (by decide)
    have r0 : t2 6 (6 * j + 0) = nI (f 0 j) := hM2.2.2.2.2.2.2.2.2.1 j (by omega) 0 (by decide)
    have r1 : t2 6 (6 * j + 1) = nI (f 1 j) := hM2.2.2.2.2.2.2.2.2.1 j (by omega) 1 (by decide)
    rw [gi_n hlt (by decide), gi_n hlt (by decide), nI_clamp (by omega), o_of0 hlt, bn_s, o_of1 hlt, bn_s, c1, c2, r0, r1]
    exact key _
theorem o_noloans {mO : Mem} {ml : Lem} : HT (mX8_begins_L59 (0 : Int32) mO ml) (fun m => (∀ j, j < 40 → m 10 (6 * j + 3) = 0) ∧ Fr [10] [] mO m) := by
  unfold mX8_begins_L59
  refine HT_b (Q := fun m => (∀ j, j < 40 → m 10 (6 * j + 3) = 0) ∧ Fr [10] [] mO m) (HT_itr (fun k (s : Int32 × Mem) => ∃ j, j ≤ 40 ∧ k = 40 - j ∧ s.1 = nI j ∧ (∀ i, i < j → s.2 10 (6 * i + 3) = 0) ∧ Fr [10] [] mO s.2) ?_ FU 40 _ ⟨0, by omega, rfl, rfl, fun i hi => absurd hi (Nat.not_lt_zero i), Fr.rf⟩ (FU_gt (by omega))) (fun m hm => HT_s hm)
  rintro k ⟨s1, s2⟩ ⟨j, hj, rfl, e1, hI, hF⟩
  dsimp only at e1 hI hF
  subst e1
  show HT (mX8_begins_s59 ml (nI j) s2) _
  unfold mX8_begins_s59
  by_cases h : j = 40
  · subst h
    rw [if_pos (by decide)]
    exact HT_s ⟨hI, hF⟩
  · rw [if_neg (by rw [show (40 : Int32) = nI 40 from rfl, n_le (by decide) (by omega)]; omega), ix_3, gi_n (by omega) (by decide), nI_clamp (by omega), nm_d, nI_s, nm_d]
    refine HT_s ⟨40 - (j + 1), by omega, j + 1, by omega, rfl, rfl, fun i hi => ?_, hF.upi (by decide) (by decide)⟩
    simp only [upi_d, reduceIte, upd_d]
    by_cases hij : i = j
    · rw [if_pos (by omega)]
    · rw [if_neg (by omega)]; exact hI i (by omega)
theorem RT_begin {mL mM mO : Mem} {ml : Lem} {g : Nat → Nat} {f t : Nat → Nat → Nat} (hR : LR g f t) (hC : LC mL g f t) (hM : LM mO g f t) : RT (mX2_begin mM mL) (mX8_begins mO ml) (fun m m' => HR (g 5) m (m' 8) (m' 9) (m' 10) ∧ (∀ j, j < 40 → m 6 j = 0) ∧ m 0 0 = 0 ∧ m' 0 23 = 0 ∧ Fr [1, 2, 6] [0] mM m ∧ Fr [8, 9, 10] [23] mO m') := by
  unfold mX2_begin mX2_begin_L7 mX8_begins mX8_begins_L7
  simp only [nm_d]
  have hM1 : LM (upf mO 23 0) g f t := hM.fr (cs := []) (fs := [23]) (Fr.rf.upf (by decide)) (by decide) (by decide) (by decide)
  refine RT_b (RT_heaps (mM := upf mM 0 0) (mO := upf mO 23 0) (ml := ml) hR hC hM1) (fun m m' hm => ?_)
  obtain ⟨a1, a2, a3⟩ := hm
  obtain ⟨F, eF, hF⟩ := c_fill (n := 40) (F := m 6) (v := 0) (by omega)
  obtain ⟨w, ew, w1, w2⟩ := o_noloans (mO := m') (ml := ml)
  rw [eF, ew, bn_s]
  refine RT_s ⟨⟨fun j hj => ?_, fun j _ hj => ?_, fun j hj => ?_⟩, hF, (a2.2 0 (by decide)).trans rfl, (w2.2 23 (by decide)).trans ((a3.2 23 (by decide)).trans rfl), ((Fr.rf.upf (by decide)).tr (a2.wk (by decide) (by decide))).ups (by decide) (by decide), ((Fr.rf.upf (by decide)).tr (a3.wk (by decide) (by decide))).tr (w2.wk (by decide) (by decide))⟩
  · show m 1 j = w 8 j ∧ m 2 j = w 9 j
    obtain ⟨b1, b2, b3⟩ := a1 j hj
    rw [w2.1 8 (by decide) (by decide), w2.1 9 (by decide) (by decide), b3]
    exact ⟨b1, b2⟩
  · exact (a1 j hj).2.1
  · exact ⟨0, by omega, hF j hj, w1 j hj, fun h => absurd h (by decide)⟩
theorem RT_free {n : Nat} {mM mO : Mem} {ml : Lem} (h : HR n mM (mO 8) (mO 9) (mO 10)) (v1 v2 v3 v4 v5 : Int32) : ∃ j, j ≤ 40 ∧ mX2_freeNumber mM = some (if j = 40 then -1 else nI j) ∧ itr (fun q => mX8_makes_s3 v1 v2 v3 v4 v5 mO ml q) FU (0 : Int32) = some (nI j) ∧ (j < 40 → mM 6 j = 0) := by
  have ex : ∃ j, j = 40 ∨ (j < 40 ∧ mM 6 j = 0) := ⟨40, Or.inl rfl⟩
  obtain ⟨j, j1, j2⟩ := pk_least (fun j => j = 40 ∨ (j < 40 ∧ mM 6 j = 0)) ex
  have hj : j ≤ 40 := by rcases j1 with e | ⟨e, -⟩ <;> omega
  have hb : ∀ i, i < j → ¬ mM 6 i = 0 := fun i hi e => j2 i hi (Or.inr ⟨by omega, e⟩)
  refine ⟨j, hj, ?_, ?_, fun h => by rcases j1 with e | ⟨-, e⟩; omega; exact e⟩
  · unfold mX2_freeNumber mX2_freeNumber_L2
    have hit := itr_run (B := fun q : Int32 => mX2_freeNumber_s2 mM q) (fun i => nI i) (r := if j = 40 then Sum.inr () else Sum.inl (nI j)) (n := j) (fun i hi => by
      show mX2_freeNumber_s2 mM (nI i) = _
      unfold mX2_freeNumber_s2
      rw [if_neg (by rw [show (40 : Int32) = nI 40 from rfl, n_le (by decide) (by omega)]; omega), gi_n (show i < 40 by omega) (by decide), nI_clamp (by omega), if_pos (hb i hi), nm_d, nI_s]) (by
      show mX2_freeNumber_s2 mM (nI j) = _
      unfold mX2_freeNumber_s2
      by_cases h40 : j = 40
      · rw [if_pos (by rw [h40]; decide), if_pos h40]
      · rw [if_neg (by rw [show (40 : Int32) = nI 40 from rfl, n_le (by decide) (by omega)]; omega), gi_n (show j < 40 by omega) (by decide), nI_clamp (by omega), if_neg (by
          rcases j1 with e | ⟨-, e⟩
          · exact absurd e h40
          · exact fun q => q e), if_neg h40]) 0 FU (Nat.zero_le _) (FU_gt (by omega))
    rw [show (0 : Int32) = nI 0 from rfl, hit, bn_s]
    by_cases h40 : j = 40
    · rw [if_pos h40, if_pos h40]; rfl
    · rw [if_neg h40, if_neg h40]; rfl
  · exact itr_run (B := fun q : Int32 => mX8_makes_s3 v1 v2 v3 v4 v5 mO ml q) (fun i => nI i) (r := nI j) (n := j) (fun i hi => by
      show mX8_makes_s3 v1 v2 v3 v4 v5 mO ml (nI i) = _
      unfold mX8_makes_s3
      obtain ⟨u, u1, u2, u3, -⟩ := h.2.2 i (by omega)
      have := hb i hi
      rw [u2, n_eq0 (by omega)] at this
      rw [if_neg (by rw [show (40 : Int32) = nI 40 from rfl, n_le (by decide) (by omega)]; omega), o_la3 (by omega), bn_s, u3, if_neg (by rw [n_le0 (by omega)]; exact this), nm_d, nI_s]) (by
      show mX8_makes_s3 v1 v2 v3 v4 v5 mO ml (nI j) = _
      unfold mX8_makes_s3
      by_cases h40 : j = 40
      · rw [if_pos (by rw [h40]; decide)]
      · obtain ⟨u, u1, u2, u3, -⟩ := h.2.2 j (by omega)
        have e0 : mM 6 j = 0 := by
          rcases j1 with e | ⟨-, e⟩
          · exact absurd e h40
          · exact e
        rw [u2, n_eq0 (by omega)] at e0
        rw [if_neg (by rw [show (40 : Int32) = nI 40 from rfl, n_le (by decide) (by omega)]; omega), o_la3 (by omega), bn_s, u3, if_pos (by rw [n_le0 (by omega)]; exact e0)]) 0 FU (Nat.zero_le _) (FU_gt (by omega))
theorem HR_make {n : Nat} {mM m mO m' : Mem} {j a b k u : Nat} {V4 V5 x : Int32} (h : HR n mM (mO 8) (mO 9) (mO 10)) (ha : a < n) (hb : b < n) (hk : k < 5) (hu : u ≤ 9999)
    (p1 : m 1 = upd (mM 1) a x) (p2 : m 2 = mM 2) (p3 : m 3 = upd (mM 3) j (nI a)) (p4 : m 4 = upd (mM 4) j (nI b)) (p5 : m 5 = upd (mM 5) j (nI k)) (p6 : m 6 = upd (mM 6) j (nI u)) (p7 : m 7 = upd (mM 7) j V4) (p8 : m 8 = upd (mM 8) j V5) (q8 : m' 8 = upd (mO 8) a x) (q9 : m' 9 = mO 9)
    (q10 : ∀ i, m' 10 i = if i = 6 * j + 5 then V5 else if i = 6 * j + 4 then V4 else if i = 6 * j + 3 then nI u else if i = 6 * j + 2 then nI k else if i = 6 * j + 1 then nI b else if i = 6 * j then nI a else mO 10 i) : HR n m (m' 8) (m' 9) (m' 10) := by
  refine ⟨fun i hi => ⟨?_, ?_⟩, fun i i1 i2 => ?_, fun i hi => ?_⟩
  · rw [p1, q8]
    exact upd_cg (n := 6) (fun i hi => (h.1 i hi).1) rfl i hi
  · rw [p2, q9]; exact (h.1 i hi).2
  · rw [p2]; exact h.2.1 i i1 i2
  · rw [p3, p4, p5, p6, p7, p8, upd_d, upd_d, upd_d, upd_d, upd_d, upd_d]
    by_cases hij : i = j
    · subst hij
      have e0 : m' 10 (6 * i + 0) = nI a := by rw [q10, if_neg (by omega), if_neg (by omega), if_neg (by omega), if_neg (by omega), if_neg (by omega), if_pos (by omega)]
      have e1 : m' 10 (6 * i + 1) = nI b := by rw [q10, if_neg (by omega), if_neg (by omega), if_neg (by omega), if_neg (by omega), if_pos (by omega)]
      have e2 : m' 10 (6 * i + 2) = nI k := by rw [q10, if_neg (by omega), if_neg (by omega), if_neg (by omega), if_pos (by omega)]
      have e3 : m' 10 (6 * i + 3) = nI u := by rw [q10, if_neg (by omega), if_neg (by omega), if_pos (by omega)]
      have e4 : m' 10 (6 * i + 4) = V4 := by rw [q10, if_neg (by omega), if_pos (by omega)]
      have e5 : m' 10 (6 * i + 5) = V5 := by rw [q10, if_pos (by omega)]
      rw [if_pos rfl, if_pos rfl, if_pos rfl, if_pos rfl, if_pos rfl, if_pos rfl, e0, e1, e2, e3, e4, e5]
      exact ⟨u, hu, rfl, rfl, fun _ => ⟨a, b, k, ha, hb, hk, rfl, rfl, rfl, rfl, rfl, rfl, rfl, rfl⟩⟩
    · have z : ∀ d, d < 6 → m' 10 (6 * i + d) = mO 10 (6 * i + d) := fun d hd => by
        rw [q10, if_neg (by omega), if_neg (by omega), if_neg (by omega), if_neg (by omega), if_neg (by omega), if_neg (by omega)]
      rw [if_neg hij, if_neg hij, if_neg hij, if_neg hij, if_neg hij, if_neg hij, z 0 (by omega), z 1 (by omega), z 2 (by omega), z 3 (by omega), z 4 (by omega), z 5 (by omega)]
      exact h.2.2 i hi
theorem RT_make {mL mM mO : Mem} {ml : Lem} {g : Nat → Nat} {f t : Nat → Nat → Nat} (hR : LR g f t) (hC : LC mL g f t) (hM : LM mO g f t) (h : HR (g 5) mM (mO 8) (mO 9) (mO 10)) (h0 : mM 0 0 = mO 0 23) {w k u p : Nat} (ha : w / 10 < g 5) (hb : w % 10 < g 5) (hk : k < 5) (hu1 : 1 ≤ u) (hu : u ≤ 9999) : RT (mX2_makeLoan mM mL (nI w) (nI k) (nI u) (nI p)) (mX8_makes mO ml (nI (w / 10)) (nI (w % 10)) (nI k) (nI u) (nI p)) (fun q q' => q.1 = q'.1 ∧ ((q.1 = -1 ∧ q.2 = mM ∧ q'.2 = mO) ∨ ∃ j, j < 40 ∧ q.1 = nI j ∧ (∀ i, i < 40 → i ≠ j → q.2 6 i = mM 6 i)) ∧ HR (g 5) q.2 (q'.2 8) (q'.2 9) (q'.2 10) ∧ Fr [1, 3, 4, 5, 6, 7, 8] [] mM q.2 ∧ Fr [8, 10] [] mO q'.2) := by
  have n6 : g 5 ≤ 6 := hR.2.2.2.2.2.2.2.2.1
  have hw : w < 2 ^ 31 := by omega
  obtain ⟨j, hj, e1, e2, e3⟩ := RT_free (ml := ml) h (nI (w / 10)) (nI (w % 10)) (nI k) (nI u) (nI p)
  generalize hA : w / 10 = a at *
  generalize hB : w % 10 = b at *
  unfold mX2_makeLoan mX8_makes mX8_makes_L3
  rw [show (10 : Int32) = nI 10 from rfl, pk_rem hw (by decide) (by decide), pk_div hw (by decide) (by decide), hA, hB, e1, e2]
  simp only [nm_d, bn_s]
  by_cases h40 : j = 40
  · rw [if_pos h40, if_pos rfl, h40, if_pos (show nI 40 = (40 : Int32) from rfl)]
    exact RT_s ⟨rfl, Or.inl ⟨rfl, rfl, rfl⟩, h, Fr.rf, Fr.rf⟩
  · have hlt : j < 40 := by omega
    rw [if_neg h40, if_neg (n_nm1 (by omega)), if_neg (show ¬ nI j = (40 : Int32) by rw [show (40 : Int32) = nI 40 from rfl, n_eq (by omega) (by decide)]; exact h40), c_hasSort hC.2.2.2.2.2.1 (by omega), bn_s, it_b0, inR_n (by omega), decide_eq_true ha, cd_t, c_hasSort hC.2.2.2.2.2.1 (by omega), bn_s, it_b0, inR_n (by omega), decide_eq_true hb, cd_t]
    simp only [gi_n (show a < 6 by omega) (show 6 < 2 ^ 31 by decide), nI_clamp (show a < 2 ^ 31 by omega)]
    rw [(h.1 a (by omega)).1]
    refine RT_if Iff.rfl (fun _ => ?_) (fun _ => RT_s ⟨rfl, Or.inl ⟨rfl, rfl, rfl⟩, h, Fr.rf, Fr.rf⟩)
    have u7 : ∀ (m : Mem) (k i : Nat) (x : Int32) (j : Nat), k ≠ 0 → upi m k i x 0 j = m 0 j := fun m k i x j hk => by rw [upi_d, if_neg (fun e => hk e.symm)]
    have c4 : mL 4 b = nI (f 3 b) := hC.2.2.2.2.2.2.2.2.1 b hb 3 (by decide)
    have i3 : ∀ x : Nat, nI x + (3 : Int32) = nI (x + 3) := fun x => n_add x 3
    have i4 : ∀ x : Nat, nI x + (4 : Int32) = nI (x + 4) := fun x => n_add x 4
    have i5 : ∀ x : Nat, nI x + (5 : Int32) = nI (x + 5) := fun x => n_add x 5
    have i6 : ∀ x : Nat, (6 : Int32) * nI x = nI (6 * x) := fun x => n_mul 6 x
    have hof : ∀ m : Mem, m 6 = mO 6 → mX8_of m ml (nI b) (3 : Int32) = some (nI (f 3 b)) := fun m hm => by
      rw [o_of3 (by omega), hm]
      exact congrArg some (hM.2.2.2.2.2.2.2.2.1 b hb 3 (by decide))
    simp only [gi_n (show a < 6 by omega) (show 6 < 2 ^ 31 by decide), gi_n (show b < 6 by omega) (show 6 < 2 ^ 31 by decide), gi_n hlt (show 40 < 2 ^ 31 by decide), nI_clamp (show j < 2 ^ 31 by omega), nI_clamp (show a < 2 ^ 31 by omega), nI_clamp (show b < 2 ^ 31 by omega), i6, nI_s, nI_p2, i3, i4, i5, gi_n (show 6 * j < 240 by omega) (show 240 < 2 ^ 31 by decide), gi_n (show 6 * j + 1 < 240 by omega) (show 240 < 2 ^ 31 by decide), gi_n (show 6 * j + 2 < 240 by omega) (show 240 < 2 ^ 31 by decide), gi_n (show 6 * j + 3 < 240 by omega) (show 240 < 2 ^ 31 by decide), gi_n (show 6 * j + 4 < 240 by omega) (show 240 < 2 ^ 31 by decide), gi_n (show 6 * j + 5 < 240 by omega) (show 240 < 2 ^ 31 by decide), nI_clamp (show 6 * j < 2 ^ 31 by omega), nI_clamp (show 6 * j + 1 < 2 ^ 31 by omega), nI_clamp (show 6 * j + 2 < 2 ^ 31 by omega), nI_clamp (show 6 * j + 3 < 2 ^ 31 by omega), nI_clamp (show 6 * j + 4 < 2 ^ 31 by omega), nI_clamp (show 6 * j + 5 < 2 ^ 31 by omega), c4]
    rw [hof (upi (upi (upi (upi (upi (upi mO 8 a (mO 8 a - nI u)) 10 (6 * j) (nI a)) 10 (6 * j + 1) (nI b)) 10 (6 * j + 2) (nI k)) 10 (6 * j + 3) (nI u)) 10 (6 * j + 4) (nI u + nI u * nI p / 100)) rfl, bn_s]
    rw [u7 _ _ _ _ _ (by decide), u7 _ _ _ _ _ (by decide), u7 _ _ _ _ _ (by decide), u7 _ _ _ _ _ (by decide), u7 _ _ _ _ _ (by decide), u7 _ _ _ _ _ (by decide), u7 _ _ _ _ _ (by decide), u7 _ _ _ _ _ (by decide), u7 _ _ _ _ _ (by decide), u7 _ _ _ _ _ (by decide), u7 _ _ _ _ _ (by decide), u7 _ _ _ _ _ (by decide), h0]
    refine RT_s ⟨rfl, Or.inr ⟨j, hlt, rfl, fun i hi hij => ?_⟩, HR_make (j := j) h ha hb hk hu rfl rfl rfl rfl rfl rfl rfl rfl rfl rfl (fun i => rfl), ((((((Fr.rf.upi (by decide) (by decide)).upi (by decide) (by decide)).upi (by decide) (by decide)).upi (by decide) (by decide)).upi (by decide) (by decide)).upi (by decide) (by decide)).upi (by decide) (by decide), ((((((Fr.rf.upi (by decide) (by decide)).upi (by decide) (by decide)).upi (by decide) (by decide)).upi (by decide) (by decide)).upi (by decide) (by decide)).upi (by decide) (by decide)).upi (by decide) (by decide)⟩
    show upd (mM 6) j (nI u) i = mM 6 i
    rw [upd_d, if_neg hij]
