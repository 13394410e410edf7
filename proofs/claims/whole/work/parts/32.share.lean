/-! what is lent on a night: both sides in step -/
def cn (f : Nat → Nat → Nat) : Nat → Nat
  | 0 => 0
  | k + 1 => cn f k + f 0 k * f 1 k
theorem cn_le {f : Nat → Nat → Nat} {n : Nat} (h : ∀ s, s < n → f 0 s ≤ 50 ∧ f 1 s ≤ 99) : ∀ k, k ≤ n → cn f k ≤ 4950 * k := by
  intro k
  induction k with
  | zero => intro _; exact Nat.le_refl _
  | succ k ih =>
    intro hk
    have h1 := ih (by omega)
    obtain ⟨a, b⟩ := h k (by omega)
    have h2 : f 0 k * f 1 k ≤ 50 * 99 := Nat.mul_le_mul a b
    show cn f k + f 0 k * f 1 k ≤ _
    omega
theorem c_coin {mL : Mem} {g : Nat → Nat} {f t : Nat → Nat → Nat} (hR : LR g f t) (hC : LC mL g f t) : mX1_allCoin mL = some (nI (cn f (g 5))) := by
  obtain ⟨-, -, -, -, -, -, -, -, n6, -, -, rs, -⟩ := id hR
  obtain ⟨-, -, -, -, -, c5, -, -, cs, -⟩ := hC
  have hit := itr_run (B := fun q : Int32 × Int32 => mX1_allCoin_s4 mL q.1 q.2) (fun j => (nI (cn f j), nI j)) (r := nI (cn f (g 5))) (n := g 5) (fun j hj => by
      show mX1_allCoin_s4 mL (nI (cn f j)) (nI j) = some (Sum.inl (nI (cn f (j + 1)), nI (j + 1)))
      unfold mX1_allCoin_s4
      have e1 : mL 1 j = nI (f 0 j) := cs j hj 0 (by decide)
      have e2 : mL 2 j = nI (f 1 j) := cs j hj 1 (by decide)
      rw [c5, if_neg (by rw [n_le (by omega) (by omega)]; omega), gi_n (by omega) (by decide), gi_n (by omega) (by decide), nI_clamp (by omega), e1, e2, n_mul, n_add, nm_d, nI_s, nm_d]
      rfl) (by
      show mX1_allCoin_s4 mL (nI (cn f (g 5))) (nI (g 5)) = _
      unfold mX1_allCoin_s4
      rw [c5, if_pos (by rw [n_le (by omega) (by omega)]; omega)]) 0 FU (Nat.zero_le _) (FU_gt (by omega))
  unfold mX1_allCoin mX1_allCoin_L4
  rw [show ((0 : Int32), (0 : Int32)) = (nI (cn f 0), nI 0) from rfl, hit, bn_s, nm_d]
theorem nI_inj {a b : Nat} (ha : a < 2 ^ 31) (hb : b < 2 ^ 31) (h : nI a = nI b) : a = b := (n_eq ha hb).mp h
/-- the first loop -/
theorem RT_sh1 {mL mS mO : Mem} {ml : Lem} {g : Nat → Nat} {f t : Nat → Nat → Nat} (hR : LR g f t) (hC : LC mL g f t) (hM : LM mO g f t) {n S E n' S' E' : Nat} (hn : n ≤ 500) (hS : S ≤ 16) (hE : 1 ≤ E) (hE2 : E ≤ 9) (hn' : n' ≤ 500) (hS' : S' ≤ 16) (hE' : 1 ≤ E') (hE2' : E' ≤ 9) (hb : ∀ i, i < g 5 → bk g f i n S E = bk g f i n' S' E') :
    RT (itr (fun q => mX4_shareNight_s3 (nI n) (nI S) (nI E) mL q.1 q.2) FU ((0 : Int32), mS)) (itr (fun q => mX8_lends_s6 (nI n') (nI S') (nI E') ml q.1 q.2.1 q.2.2) FU ((0 : Int32), (0 : Int32), mO)) (fun m m' => m'.1 = nI (cn f (g 5)) ∧ (∀ i, i < g 5 → m 1 i = 0 ∧ m'.2 18 i = 0 ∧ MG (m 3 i) (m'.2 19 i)) ∧ Fr [1, 3] [] mS m ∧ Fr [18, 19] [] mO m'.2) := by
  obtain ⟨-, -, -, -, -, -, -, -, n6, -, -, rs, -⟩ := id hR
  refine RT_itr (fun k (s : Int32 × Mem) (t : Int32 × Int32 × Mem) => ∃ j, j ≤ g 5 ∧ k = g 5 - j ∧ s.1 = nI j ∧ t.2.1 = nI j ∧ t.1 = nI (cn f j) ∧ (∀ i, i < j → s.2 1 i = 0 ∧ t.2.2 18 i = 0 ∧ MG (s.2 3 i) (t.2.2 19 i)) ∧ Fr [1, 3] [] mS s.2 ∧ Fr [18, 19] [] mO t.2.2) ?_ FU (g 5) _ _ ⟨0, Nat.zero_le _, rfl, rfl, rfl, rfl, fun i hi => absurd hi (Nat.not_lt_zero i), Fr.rf, Fr.rf⟩ (FU_gt (by omega))
  rintro k ⟨s1, s2⟩ ⟨t1, t2, t3⟩ ⟨j, hj, rfl, e1, e2, e3, hI, hF, hG⟩
  dsimp only at e1 e2 e3 hI hF hG
  subst e1; subst e2; subst e3
  show RT (mX4_shareNight_s3 (nI n) (nI S) (nI E) mL (nI j) s2) (mX8_lends_s6 (nI n') (nI S') (nI E') ml (nI (cn f j)) (nI j) t3) _
  unfold mX4_shareNight_s3 mX8_lends_s6
  have hM2 := hM.fr hG (by decide) (by decide) (by decide)
  rw [hC.2.2.2.2.2.1, hM2.2.2.2.2.2.1]
  refine RT_if Iff.rfl (fun h => ?_) (fun h => ?_)
  · rw [n_le (by omega) (by omega)] at h
    have : j = g 5 := by omega
    subst this
    exact RT_s ⟨rfl, hI, hF, hG⟩
  · rw [n_le (by omega) (by omega)] at h
    have hlt : j < g 5 := by omega
    obtain ⟨-, -, -, w2, -, -, -, k1⟩ := rs j hlt
    have r0 : t3 6 (6 * j + 0) = nI (f 0 j) := hM2.2.2.2.2.2.2.2.2.1 j hlt 0 (by decide)
    have r1 : t3 6 (6 * j + 1) = nI (f 1 j) := hM2.2.2.2.2.2.2.2.2.1 j hlt 1 (by decide)
    have hM3 : LM (upi t3 18 j 0) g f t := hM2.fr (cs := [18]) (fs := []) (Fr.rf.upi (by decide) (by decide)) (by decide) (by decide) (by decide)
    have r2 : (upi t3 18 j 0) 6 (6 * j + 2) = nI (f 2 j) := hM3.2.2.2.2.2.2.2.2.1 j hlt 2 (by decide)
    simp only [nm_d, gi_n (show j < 6 by omega) (show 6 < 2 ^ 31 by decide), nI_clamp (show j < 2 ^ 31 by omega)]
    rw [c_margin hR hC hlt hn hS hE hE2, bn_s, o_of0 (by omega), bn_s, o_of1 (by omega), bn_s, o_back hR hM3 hlt hn' hS' hE' hE2', bn_s, o_least hR hM3 hlt (bk_le k1), bn_s, o_of2 (by omega), bn_s, r2, o_most hR hM3 hlt, bn_s, r0, r1, n_mul, n_add, ← hb j hlt]
    have hmg := mg_rel (w := f 2 j) (G := f 4 j) (lpr_cases (wtn g f j) (bk g f j n S E))
    have key : RT (some (Sum.inl (nI j + 1, upi (upi s2 1 j 0) 3 j (mgC (lpr (wtn g f j) (bk g f j n S E)) (mpr (f 2 j) (f 4 j))))) : Option ((Int32 × Mem) ⊕ Mem)) (mX8_lends_j95 (nI n') (nI S') (nI E') (nI (cn f j + f 0 j * f 1 j)) (nI j) (nI j) (mgO (f 2 j) (lpr (wtn g f j) (bk g f j n S E)) (mpr (f 2 j) (f 4 j))) (upi t3 18 j 0) ml) (LK (fun s t => ∃ n', n' < g 5 - j ∧ ∃ j', j' ≤ g 5 ∧ n' = g 5 - j' ∧ s.1 = nI j' ∧ t.2.1 = nI j' ∧ t.1 = nI (cn f j') ∧ (∀ i, i < j' → s.2 1 i = 0 ∧ t.2.2 18 i = 0 ∧ MG (s.2 3 i) (t.2.2 19 i)) ∧ Fr [1, 3] [] mS s.2 ∧ Fr [18, 19] [] mO t.2.2) (fun m m' => m'.1 = nI (cn f (g 5)) ∧ (∀ i, i < g 5 → m 1 i = 0 ∧ m'.2 18 i = 0 ∧ MG (m 3 i) (m'.2 19 i)) ∧ Fr [1, 3] [] mS m ∧ Fr [18, 19] [] mO m'.2)) := by
      unfold mX8_lends_j95
      rw [gi_n (show j < 6 by omega) (by decide), nI_clamp (show j < 2 ^ 31 by omega), nm_d, nI_s, nm_d]
      refine RT_s ⟨g 5 - (j + 1), by omega, j + 1, by omega, rfl, rfl, rfl, rfl, fun i hi => ?_, (hF.upi (by decide) (by decide)).upi (by decide) (by decide), (hG.upi (by decide) (by decide)).upi (by decide) (by decide)⟩
      simp only [upi_d, reduceIte, Nat.reduceEqDiff, upd_d]
      by_cases hij : i = j
      · subst hij
        simp only [reduceIte]
        exact ⟨trivial, trivial, hmg⟩
      · simp only [if_neg hij]
        exact hI i (by omega)
    unfold mX8_lends_j82
    unfold mgO at key
    by_cases h1 : lpr (wtn g f j) (bk g f j n S E) = -1
    · rw [if_pos h1] at key ⊢
      exact key
    · rw [if_neg h1] at key ⊢
      by_cases h2 : f 2 j = 0
      · rw [if_pos h2] at key
        rw [if_neg (by rw [n_eq0 (by omega)]; exact fun q => q h2)]
        exact key
      · rw [if_neg h2] at key
        rw [if_pos (by rw [n_eq0 (by omega)]; exact h2)]
        exact key
