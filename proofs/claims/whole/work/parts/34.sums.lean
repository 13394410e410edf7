/-! sums over sorts and nights -/
def sm (h : Nat → Nat) : Nat → Nat
  | 0 => 0
  | k + 1 => sm h k + h k
theorem sm_le {h : Nat → Nat} {B n : Nat} (hh : ∀ i, i < n → h i ≤ B) : ∀ k, k ≤ n → sm h k ≤ B * k := by
  intro k
  induction k with
  | zero => intro _; exact Nat.le_refl _
  | succ k ih =>
    intro hk
    have h1 := ih (by omega)
    have h2 := hh k (by omega)
    show sm h k + h k ≤ B * (k + 1)
    rw [Nat.mul_add, Nat.mul_one]
    omega
theorem sm_cg {h h' : Nat → Nat} {n : Nat} (hh : ∀ i, i < n → h i = h' i) : ∀ k, k ≤ n → sm h k = sm h' k := by
  intro k
  induction k with
  | zero => intro _; rfl
  | succ k ih =>
    intro hk
    show sm h k + h k = sm h' k + h' k
    rw [ih (by omega), hh k (by omega)]
def yl (f : Nat → Nat → Nat) (i v : Nat) : Nat := if f 2 i = 0 then 0 else v * f 4 i / f 2 i
theorem c_sown {mS mL : Mem} {g : Nat → Nat} {f t : Nat → Nat → Nat} (hR : LR g f t) (hC : LC mL g f t) {τ : Nat → Nat} (h : ∀ i, i < g 5 → mS 1 i = nI (τ i)) : mX4_sownTonight mS mL = some (nI (sm τ (g 5))) := by
  have n6 : g 5 ≤ 6 := hR.2.2.2.2.2.2.2.2.1
  have c5 := hC.2.2.2.2.2.1
  have hit := itr_run (B := fun q : Int32 × Int32 => mX4_sownTonight_s4 mS mL q.1 q.2) (fun j => (nI (sm τ j), nI j)) (r := nI (sm τ (g 5))) (n := g 5) (fun j hj => by
      show mX4_sownTonight_s4 mS mL (nI (sm τ j)) (nI j) = some (Sum.inl (nI (sm τ (j + 1)), nI (j + 1)))
      unfold mX4_sownTonight_s4
      rw [c5, if_neg (by rw [n_le (by omega) (by omega)]; omega), gi_n (by omega) (by decide), nI_clamp (by omega), h j hj, n_add, nm_d, nI_s, nm_d]
      rfl) (by
      show mX4_sownTonight_s4 mS mL (nI (sm τ (g 5))) (nI (g 5)) = _
      unfold mX4_sownTonight_s4
      rw [c5, if_pos (by rw [n_le (by omega) (by omega)]; omega)]) 0 FU (Nat.zero_le _) (FU_gt (by omega))
  unfold mX4_sownTonight mX4_sownTonight_L4
  rw [show ((0 : Int32), (0 : Int32)) = (nI (sm τ 0), nI 0) from rfl, hit, bn_s, nm_d]
theorem o_sown {mO : Mem} {ml : Lem} {g : Nat → Nat} {f t : Nat → Nat → Nat} (hR : LR g f t) (hM : LM mO g f t) {τ : Nat → Nat} (h : ∀ i, i < g 5 → mO 18 i = nI (τ i)) : mX8_sown mO ml = some (nI (sm τ (g 5))) := by
  have n6 : g 5 ≤ 6 := hR.2.2.2.2.2.2.2.2.1
  have c5 := hM.2.2.2.2.2.1
  have hit := itr_run (B := fun q : Int32 × Int32 => mX8_sown_s4 mO ml q.1 q.2) (fun j => (nI (sm τ j), nI j)) (r := nI (sm τ (g 5))) (n := g 5) (fun j hj => by
      show mX8_sown_s4 mO ml (nI (sm τ j)) (nI j) = some (Sum.inl (nI (sm τ (j + 1)), nI (j + 1)))
      unfold mX8_sown_s4
      rw [c5, if_neg (by rw [n_le (by omega) (by omega)]; omega), gi_n (by omega) (by decide), nI_clamp (by omega), h j hj, n_add, nm_d, nI_s, nm_d]
      rfl) (by
      show mX8_sown_s4 mO ml (nI (sm τ (g 5))) (nI (g 5)) = _
      unfold mX8_sown_s4
      rw [c5, if_pos (by rw [n_le (by omega) (by omega)]; omega)]) 0 FU (Nat.zero_le _) (FU_gt (by omega))
  unfold mX8_sown mX8_sown_L4
  rw [show ((0 : Int32), (0 : Int32)) = (nI (sm τ 0), nI 0) from rfl, hit, bn_s, nm_d]
theorem yl_i {f : Nat → Nat → Nat} {i v : Nat} (hv : v ≤ 4950) (h2 : f 2 i ≤ 99) (h4 : f 4 i ≤ 99) : (if f 2 i = 0 then 0 else nI v * nI (f 4 i) / nI (f 2 i)) = nI (yl f i v) := by
  unfold yl
  by_cases h0 : f 2 i = 0
  · rw [if_pos h0, if_pos h0]; rfl
  · have : v * f 4 i ≤ 4950 * 99 := Nat.mul_le_mul hv h4
    rw [if_neg h0, if_neg h0, n_mul, pk_div (by omega) (by omega) (by omega)]
theorem yl_le {f : Nat → Nat → Nat} {i v : Nat} (hv : v ≤ 4950) (h4 : f 4 i ≤ 99) : yl f i v ≤ 490050 := by
  unfold yl
  have : v * f 4 i ≤ 4950 * 99 := Nat.mul_le_mul hv h4
  split
  · omega
  · exact Nat.le_trans (Nat.div_le_self _ _) this
theorem tm_le {g : Nat → Nat} {f t : Nat → Nat → Nat} (hR : LR g f t) {i v : Nat} (hi : i < g 5) (h : v ≤ f 0 i * f 2 i) : v ≤ 4950 := by
  have rs := hR.2.2.2.2.2.2.2.2.2.2.2.1
  have hl : f 0 i * f 2 i ≤ 50 * 99 := Nat.mul_le_mul (rs i hi).2.1 (rs i hi).2.2.2.1
  omega
theorem c_yields {mS mL : Mem} {g : Nat → Nat} {f t : Nat → Nat → Nat} (hR : LR g f t) (hC : LC mL g f t) {τ : Nat → Nat} (hτ : ∀ i, i < g 5 → τ i ≤ f 0 i * f 2 i) (h : ∀ i, i < g 5 → mS 1 i = nI (τ i)) : mX4_yieldTonight mS mL = some (nI (sm (fun i => yl f i (τ i)) (g 5))) := by
  have n6 : g 5 ≤ 6 := hR.2.2.2.2.2.2.2.2.1
  have rs := hR.2.2.2.2.2.2.2.2.2.2.2.1
  have c5 := hC.2.2.2.2.2.1
  have hit := itr_run (B := fun q : Int32 × Int32 => mX4_yieldTonight_s4 mS mL q.1 q.2) (fun j => (nI (sm (fun i => yl f i (τ i)) j), nI j)) (r := nI (sm (fun i => yl f i (τ i)) (g 5))) (n := g 5) (fun j hj => by
      show mX4_yieldTonight_s4 mS mL (nI (sm (fun i => yl f i (τ i)) j)) (nI j) = some (Sum.inl (nI (sm (fun i => yl f i (τ i)) (j + 1)), nI (j + 1)))
      unfold mX4_yieldTonight_s4
      rw [c5, if_neg (by rw [n_le (by omega) (by omega)]; omega), gi_n (by omega) (by decide), nI_clamp (by omega), h j hj, c_yield hC hR hj, bn_s, yl_i (tm_le hR hj (hτ j hj)) (rs j hj).2.2.2.1 (rs j hj).2.2.2.2.2.2.1, n_add, nm_d, nI_s, nm_d]
      rfl) (by
      show mX4_yieldTonight_s4 mS mL (nI (sm (fun i => yl f i (τ i)) (g 5))) (nI (g 5)) = _
      unfold mX4_yieldTonight_s4
      rw [c5, if_pos (by rw [n_le (by omega) (by omega)]; omega)]) 0 FU (Nat.zero_le _) (FU_gt (by omega))
  unfold mX4_yieldTonight mX4_yieldTonight_L4
  rw [show ((0 : Int32), (0 : Int32)) = (nI (sm (fun i => yl f i (τ i)) 0), nI 0) from rfl, hit, bn_s, nm_d]
theorem o_yields {mO : Mem} {ml : Lem} {g : Nat → Nat} {f t : Nat → Nat → Nat} (hR : LR g f t) (hM : LM mO g f t) {τ : Nat → Nat} (hτ : ∀ i, i < g 5 → τ i ≤ f 0 i * f 2 i) (h : ∀ i, i < g 5 → mO 18 i = nI (τ i)) : mX8_yields mO ml = some (nI (sm (fun i => yl f i (τ i)) (g 5))) := by
  have n6 : g 5 ≤ 6 := hR.2.2.2.2.2.2.2.2.1
  have rs := hR.2.2.2.2.2.2.2.2.2.2.2.1
  have c5 := hM.2.2.2.2.2.1
  have hit := itr_run (B := fun q : Int32 × Int32 => mX8_yields_s4 mO ml q.1 q.2) (fun j => (nI (sm (fun i => yl f i (τ i)) j), nI j)) (r := nI (sm (fun i => yl f i (τ i)) (g 5))) (n := g 5) (fun j hj => by
      show mX8_yields_s4 mO ml (nI (sm (fun i => yl f i (τ i)) j)) (nI j) = some (Sum.inl (nI (sm (fun i => yl f i (τ i)) (j + 1)), nI (j + 1)))
      unfold mX8_yields_s4 mX8_yields_j46
      have r2 : mO 6 (6 * j + 2) = nI (f 2 j) := hM.2.2.2.2.2.2.2.2.1 j hj 2 (by decide)
      have r4 : mO 6 (6 * j + 4) = nI (f 4 j) := hM.2.2.2.2.2.2.2.2.1 j hj 4 (by decide)
      have ht := tm_le hR hj (hτ j hj)
      have hq := hτ j hj
      have w2 := (rs j hj).2.2.2.1
      have w4 := (rs j hj).2.2.2.2.2.2.1
      rw [c5, if_neg (by rw [n_le (by omega) (by omega)]; omega), gi_n (by omega) (by decide), gi_n (by omega) (by decide), nI_clamp (by omega), h j hj, o_of4 (by omega), bn_s, o_of2 (by omega), bn_s, r2, r4]
      by_cases h0 : τ j = 0
      · rw [if_neg (by rw [n_eq0 (by omega)]; exact fun q => q h0), nm_d, nI_s, nm_d]
        have : yl f j (τ j) = 0 := by
          unfold yl
          rw [h0, Nat.zero_mul, Nat.zero_div]
          split <;> rfl
        show some (Sum.inl (nI (sm (fun i => yl f i (τ i)) j) + 0, nI (j + 1))) = some (Sum.inl (nI (sm (fun i => yl f i (τ i)) j + yl f j (τ j)), nI (j + 1)))
        rw [this, show (0 : Int32) = nI 0 from rfl, n_add]
      · have hw : f 2 j ≠ 0 := by
          intro e
          rw [e, Nat.mul_zero] at hq
          omega
        have e := yl_i (f := f) (i := j) ht w2 w4
        rw [if_neg hw] at e
        rw [if_pos (by rw [n_eq0 (by omega)]; exact h0), gz_t (by rw [n_eq0 (by omega)]; exact hw), e, n_add, nm_d, nI_s, nm_d]
        rfl) (by
      show mX8_yields_s4 mO ml (nI (sm (fun i => yl f i (τ i)) (g 5))) (nI (g 5)) = _
      unfold mX8_yields_s4
      rw [c5, if_pos (by rw [n_le (by omega) (by omega)]; omega)]) 0 FU (Nat.zero_le _) (FU_gt (by omega))
  unfold mX8_yields mX8_yields_L4
  rw [show ((0 : Int32), (0 : Int32)) = (nI (sm (fun i => yl f i (τ i)) 0), nI 0) from rfl, hit, bn_s, nm_d]
/-! a moon -/
noncomputable def SWn (g : Nat → Nat) (f t : Nat → Nat → Nat) (S E n : Nat) : Nat := sm (TK g f t n S E) (g 5)
noncomputable def YDn (g : Nat → Nat) (f t : Nat → Nat → Nat) (S E n : Nat) : Nat := sm (fun i => yl f i (TK g f t n S E i)) (g 5)
noncomputable def SW (g : Nat → Nat) (f t : Nat → Nat → Nat) (S E : Nat) : Nat := sm (SWn g f t S E) (g 0)
noncomputable def YD (g : Nat → Nat) (f t : Nat → Nat → Nat) (S E : Nat) : Nat := sm (YDn g f t S E) (g 0)
noncomputable def GT (g : Nat → Nat) (f t : Nat → Nat → Nat) (S E i : Nat) : Nat := sm (fun n => TK g f t n S E i) (g 0)
theorem YD_le {g : Nat → Nat} {f t : Nat → Nat → Nat} (hR : LR g f t) {S E : Nat} (hS : S ≤ 16) (hE : 1 ≤ E) (hE2 : E ≤ 9) : YD g f t S E ≤ 88209000 := by
  obtain ⟨-, p2, -, -, -, -, -, -, n6, -, -, rs, -⟩ := id hR
  have h1 : ∀ n, n < g 0 → YDn g f t S E n ≤ 2940300 := fun n hn => by
    have h := TK_ok (n := n) hR (by omega) hS hE hE2
    have h2 := sm_le (h := fun i => yl f i (TK g f t n S E i)) (B := 490050) (n := g 5) (fun i hi => yl_le (tm_le hR hi (h.1 i hi)) (rs i hi).2.2.2.2.2.2.1) (g 5) (Nat.le_refl _)
    unfold YDn
    omega
  have h3 := sm_le h1 (g 0) (Nat.le_refl _)
  unfold YD
  omega
theorem c_moon0 {mS mL : Mem} (v2 v3 : Int32) : HT (itr (fun q => mX4_shareMoon_s13 v2 v3 mL q.1 q.2) FU ((0 : Int32), mS)) (fun m => (∀ i, i < 6 → m 2 i = 0) ∧ Fr [2] [] mS m) := by
  refine HT_itr (fun k (s : Int32 × Mem) => ∃ j, j ≤ 6 ∧ k = 6 - j ∧ s.1 = nI j ∧ (∀ i, i < j → s.2 2 i = 0) ∧ Fr [2] [] mS s.2) ?_ FU 6 _ ⟨0, by omega, rfl, rfl, fun i hi => absurd hi (Nat.not_lt_zero i), Fr.rf⟩ (FU_gt (by omega))
  rintro k ⟨s1, s2⟩ ⟨j, hj, rfl, e1, hI, hF⟩
  dsimp only at e1 hI hF
  subst e1
  show HT (mX4_shareMoon_s13 v2 v3 mL (nI j) s2) _
  unfold mX4_shareMoon_s13
  by_cases h : j = 6
  · subst h
    rw [if_pos (by decide)]
    exact HT_s ⟨hI, hF⟩
  · rw [if_neg (by rw [show (6 : Int32) = nI 6 from rfl, n_le (by decide) (by omega)]; omega), gi_n (by omega) (by decide), nI_clamp (by omega), nm_d, nI_s, nm_d]
    refine HT_s ⟨6 - (j + 1), by omega, j + 1, by omega, rfl, rfl, fun i hi => ?_, hF.upi (by decide) (by decide)⟩
    simp only [upi_d, reduceIte, upd_d]
    by_cases hij : i = j
    · rw [if_pos hij]
    · rw [if_neg hij]; exact hI i (by omega)
theorem c_moon1 {mS mL : Mem} {g : Nat → Nat} {f t : Nat → Nat → Nat} (hR : LR g f t) (hC : LC mL g f t) {τ σ : Nat → Nat} (h : ∀ i, i < g 5 → mS 1 i = nI (τ i)) (h' : ∀ i, i < g 5 → mS 2 i = nI (σ i)) (v2 v3 v4 : Int32) : HT (itr (fun q => mX4_shareMoon_s86 v2 v3 v4 mL q.1 q.2) FU ((0 : Int32), mS)) (fun m => (∀ i, i < g 5 → m 2 i = nI (σ i + τ i)) ∧ Fr [2] [] mS m) := by
  have n6 : g 5 ≤ 6 := hR.2.2.2.2.2.2.2.2.1
  refine HT_itr (fun k (s : Int32 × Mem) => ∃ j, j ≤ g 5 ∧ k = g 5 - j ∧ s.1 = nI j ∧ (∀ i, i < j → s.2 2 i = nI (σ i + τ i)) ∧ (∀ i, j ≤ i → i < g 5 → s.2 2 i = nI (σ i)) ∧ Fr [2] [] mS s.2) ?_ FU (g 5) _ ⟨0, by omega, rfl, rfl, fun i hi => absurd hi (Nat.not_lt_zero i), fun i _ hi => h' i hi, Fr.rf⟩ (FU_gt (by omega))
  rintro k ⟨s1, s2⟩ ⟨j, hj, rfl, e1, hI, hI2, hF⟩
  dsimp only at e1 hI hI2 hF
  subst e1
  show HT (mX4_shareMoon_s86 v2 v3 v4 mL (nI j) s2) _
  unfold mX4_shareMoon_s86
  rw [hC.2.2.2.2.2.1]
  by_cases h0 : j = g 5
  · subst h0
    rw [if_pos (Int32.le_refl _)]
    exact HT_s ⟨hI, hF⟩
  · rw [if_neg (by rw [n_le (by omega) (by omega)]; omega), gi_n (by omega) (by decide), gi_n (by omega) (by decide), gi_n (by omega) (by decide), nI_clamp (by omega), nm_d, nI_s, nm_d, hI2 j (Nat.le_refl _) (by omega), hF.1 1 (by decide) (by decide), h j (by omega), n_add]
    refine HT_s ⟨g 5 - (j + 1), by omega, j + 1, by omega, rfl, rfl, fun i hi => ?_, fun i h1 h2 => ?_, hF.upi (by decide) (by decide)⟩
    · simp only [upi_d, reduceIte, upd_d]
      by_cases hij : i = j
      · rw [if_pos hij, hij]
      · rw [if_neg hij]; exact hI i (by omega)
    · simp only [upi_d, reduceIte, upd_d]
      rw [if_neg (by omega)]; exact hI2 i (by omega) h2
def MNQ (g : Nat → Nat) (f t : Nat → Nat → Nat) (S E k : Nat) (m : Mem) : Prop := m 0 2 = nI (sm (SWn g f t S E) k) ∧ m 0 3 = nI (sm (YDn g f t S E) k) ∧ ∀ i, i < g 5 → m 2 i = nI (sm (fun n => TK g f t n S E i) k)
theorem c_moon {mS mL : Mem} {g : Nat → Nat} {f t : Nat → Nat → Nat} (hR : LR g f t) (hC : LC mL g f t) {S E : Nat} (hS : S ≤ 16) (hE : 1 ≤ E) (hE2 : E ≤ 9) : HT (mX4_shareMoon mS mL (nI S) (nI E)) (fun m => MNQ g f t S E (g 0) m ∧ Fr [1, 2, 3] [2, 3] mS m) := by
  obtain ⟨p1, p2, -, -, -, -, -, -, n6, -, -, rs, -⟩ := id hR
  unfold mX4_shareMoon mX4_shareMoon_L13
  simp only [nm_d]
  refine HT_b (c_moon0 (nI S) (nI E)) (fun m0 hm0 => ?_)
  obtain ⟨z1, z2⟩ := hm0
  unfold mX4_shareMoon_L37
  refine HT_b (Q := fun m => MNQ g f t S E (g 0) m ∧ Fr [1, 2, 3] [2, 3] m0 m) (HT_itr (fun k (s : Int32 × Mem) => ∃ j, j ≤ g 0 ∧ k = g 0 - j ∧ s.1 = nI j ∧ MNQ g f t S E j s.2 ∧ Fr [1, 2, 3] [2, 3] m0 s.2) ?_ FU (g 0) _ ⟨0, by omega, rfl, rfl, ⟨z2.2 2 (by decide), z2.2 3 (by decide), fun i hi => z1 i (by omega)⟩, Fr.rf⟩ (FU_gt (by omega))) (fun m hm => HT_s ⟨hm.1, (((Fr.rf.upf (by decide)).upf (by decide)).tr (z2.wk (by decide) (by decide))).tr hm.2⟩)
  rintro k ⟨s1, s2⟩ ⟨j, hj, rfl, e1, ⟨q1, q2, q3⟩, hF⟩
  dsimp only at e1 q1 q2 q3 hF
  subst e1
  show HT (mX4_shareMoon_s37 (nI S) (nI E) mL (nI j) s2) _
  unfold mX4_shareMoon_s37
  rw [hC.1]
  by_cases h0 : j = g 0
  · subst h0
    rw [if_pos (Int32.le_refl _)]
    exact HT_s ⟨⟨q1, q2, q3⟩, hF⟩
  · rw [if_neg (by rw [n_le (by omega) (by omega)]; omega)]
    have hk := TK_ok (n := j) hR (by omega) hS hE hE2
    refine HT_b (hk.2.1 s2 mL hC) (fun m hm => ?_)
    obtain ⟨a1, a2⟩ := hm
    rw [c_sown hR hC a1, bn_s, a2.2 2 (by decide), q1, n_add, nm_d, c_yields (mS := upf m 2 _) hR hC hk.1 a1, bn_s]
    simp only [nm_d]
    unfold mX4_shareMoon_L86
    refine HT_b (c_moon1 (mS := upf (upf m 2 _) 3 _) (σ := fun i => sm (fun n => TK g f t n S E i) j) (τ := TK g f t j S E) hR hC (fun i hi => a1 i hi) (fun i hi => ?_) (nI S) (nI E) (nI j)) (fun w hw => ?_)
    · show m 2 i = _
      rw [a2.1 2 (by decide) (by decide)]; exact q3 i hi
    · obtain ⟨b1, b2⟩ := hw
      rw [nm_d, nI_s, nm_d]
      refine HT_s ⟨g 0 - (j + 1), by omega, j + 1, by omega, rfl, rfl, ⟨?_, ?_, b1⟩, hF.tr ((a2.wk (by decide) (by decide)).tr (((Fr.rf.upf (by decide)).upf (by decide)).tr (b2.wk (by decide) (by decide))))⟩
      · exact (b2.2 2 (by decide)).trans rfl
      · refine (b2.2 3 (by decide)).trans ?_
        show m 0 3 + nI (YDn g f t S E j) = nI (sm (YDn g f t S E) j + YDn g f t S E j)
        rw [a2.2 3 (by decide), q2, n_add]
theorem o_moon {mO : Mem} {ml : Lem} {g : Nat → Nat} {f t : Nat → Nat → Nat} (hR : LR g f t) (hM : LM mO g f t) {S E : Nat} (hS : S ≤ 16) (hE : 1 ≤ E) (hE2 : E ≤ 9) (y : Bool) : HT (mX8_moonOf mO ml (nI S) (nI E) (bI y)) (fun q => q.1 = nI (cond y (YD g f t S E) (SW g f t S E)) ∧ Fr [18, 19] [] mO q.2) := by
  obtain ⟨p1, p2, -, -, -, -, -, -, n6, -, -, rs, -⟩ := id hR
  unfold mX8_moonOf mX8_moonOf_L6
  refine HT_b (Q := fun q : Int32 × Mem => q.1 = nI (cond y (YD g f t S E) (SW g f t S E)) ∧ Fr [18, 19] [] mO q.2) (HT_itr (fun k (s : Int32 × Int32 × Mem) => ∃ j, j ≤ g 0 ∧ k = g 0 - j ∧ s.2.1 = nI j ∧ s.1 = nI (sm (cond y (YDn g f t S E) (SWn g f t S E)) j) ∧ Fr [18, 19] [] mO s.2.2) ?_ FU (g 0) _ ⟨0, by omega, rfl, rfl, rfl, Fr.rf⟩ (FU_gt (by omega))) (fun m hm => HT_s hm)
  rintro k ⟨s1, s2, s3⟩ ⟨j, hj, rfl, e1, e2, hF⟩
  dsimp only at e1 e2 hF
  subst e1; subst e2
  have hM2 := hM.fr hF (by decide) (by decide) (by decide)
  show HT (mX8_moonOf_s6 (nI S) (nI E) (bI y) ml (nI (sm (cond y (YDn g f t S E) (SWn g f t S E)) j)) (nI j) s3) _
  unfold mX8_moonOf_s6
  rw [hM2.1]
  by_cases h0 : j = g 0
  · subst h0
    rw [if_pos (Int32.le_refl _)]
    refine HT_s ⟨?_, hF⟩
    cases y <;> rfl
  · rw [if_neg (by rw [n_le (by omega) (by omega)]; omega)]
    have hk := TK_ok (n := j) hR (by omega) hS hE hE2
    refine HT_b (hk.2.2 s3 ml hM2) (fun m hm => ?_)
    obtain ⟨a1, a2⟩ := hm
    have hM3 := hM2.fr a2 (by decide) (by decide) (by decide)
    rw [o_sown hR hM3 a1, bn_s, o_yields hR hM3 hk.1 a1, bn_s, it_b0]
    unfold mX8_moonOf_j40
    simp only [nm_d, nI_s, n_add]
    cases y with
    | true => exact HT_s ⟨g 0 - (j + 1), by omega, j + 1, by omega, rfl, rfl, rfl, hF.tr a2⟩
    | false => exact HT_s ⟨g 0 - (j + 1), by omega, j + 1, by omega, rfl, rfl, rfl, hF.tr a2⟩
