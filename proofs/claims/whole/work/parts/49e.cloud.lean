/-! chances of clouds -/
theorem l_shr {n : Nat} (h : n < 2 ^ 63) (s : Int64) (k : Nat) (hs : (s.toBitVec.smod 64).toNat = k) : lN n >>> s = lN (n / 2 ^ k) := by
  apply Int64.toInt_inj.mp
  have h2 : n / 2 ^ k ≤ n := Nat.div_le_self _ _
  have e : (lN n >>> s).toInt = (lN n).toInt >>> k := by
    show ((lN n).toBitVec.sshiftRight (s.toBitVec.smod 64).toNat).toInt = _
    rw [hs, BitVec.toInt_sshiftRight]
    rfl
  rw [e, pk_lT h, pk_lT (by omega), Int.shiftRight_eq_div_pow]
  rfl
def chN (n k : Nat) : Nat → Nat
  | 0 => 1
  | i + 1 => chN n k i * (n - k + (i + 1)) / (i + 1)
theorem chN_le : ∀ n, n < 13 → ∀ k, k < 13 → ∀ i, i < 13 → k ≤ n → i ≤ k → chN n k i ≤ 1000 := by decide +kernel
theorem ch_step {n k i : Nat} (hn : n ≤ 12) (hk : k ≤ n) (hi : i < k) : (lN (chN n k i) * ((nI n - nI k) + nI (i + 1)).toInt64) / (nI (i + 1)).toInt64 = lN (chN n k (i + 1)) ∧ ¬ (nI (i + 1)).toInt64 = 0 := by
  have hb := chN_le n (by omega) k (by omega) i (by omega) hk (by omega)
  have hm : chN n k i * (n - k + (i + 1)) ≤ 1000 * 12 := Nat.mul_le_mul hb (by omega)
  rw [pk_sub hk, n_add, nI_l (by omega), nI_l (by omega), lN_mul, pk_lDiv (by omega) (by omega) (by omega)]
  refine ⟨rfl, ?_⟩
  rw [show (0 : Int64) = lN 0 from rfl, pk_lEQ (by omega) (by decide)]
  omega
theorem c_choices {n k : Nat} (hn : n ≤ 12) (hk : k ≤ n) : mX7_choices (nI n) (nI k) = some (lN (chN n k k)) := by
  have hit := itr_run (B := fun q : Int64 × Int32 => mX7_choices_s5 (nI n) (nI k) q.1 q.2) (fun j => (lN (chN n k j), nI (j + 1))) (r := lN (chN n k k)) (n := k) (fun j hj => by
      show mX7_choices_s5 (nI n) (nI k) (lN (chN n k j)) (nI (j + 1)) = some (Sum.inl (lN (chN n k (j + 1)), nI (j + 1 + 1)))
      unfold mX7_choices_s5
      obtain ⟨q1, q2⟩ := ch_step hn hk hj
      rw [if_neg (by rw [n_lt (by omega) (by omega)]; omega), gzl_t q2, q1, nm_d, nI_s, nm_d]) (by
      show mX7_choices_s5 (nI n) (nI k) (lN (chN n k k)) (nI (k + 1)) = _
      unfold mX7_choices_s5
      rw [if_pos (by rw [n_lt (by omega) (by omega)]; omega)]) 0 FU (Nat.zero_le _) (FU_gt (by omega))
  unfold mX7_choices mX7_choices_L5
  rw [show ((1 : Int64), (1 : Int32)) = (lN (chN n k 0), nI (0 + 1)) from rfl, hit, bn_s, nm_d]
theorem c_power {b k : Nat} (hb : b ≤ 16) (hk : k ≤ 12) : mX7_power (nI b) (nI k) = some (lN (b ^ k)) := by
  have hit := itr_run (B := fun q : Int64 × Int32 => mX7_power_s5 (nI b) (nI k) q.1 q.2) (fun j => (lN (b ^ j), nI j)) (r := lN (b ^ k)) (n := k) (fun j hj => by
      show mX7_power_s5 (nI b) (nI k) (lN (b ^ j)) (nI j) = some (Sum.inl (lN (b ^ (j + 1)), nI (j + 1)))
      unfold mX7_power_s5
      rw [if_neg (by rw [n_le (by omega) (by omega)]; omega), nI_l (by omega), lN_mul, nm_d, nI_s, nm_d, Nat.pow_succ]) (by
      show mX7_power_s5 (nI b) (nI k) (lN (b ^ k)) (nI k) = _
      unfold mX7_power_s5
      rw [if_pos (Int32.le_refl _)]) 0 FU (Nat.zero_le _) (FU_gt (by omega))
  unfold mX7_power mX7_power_L5
  rw [show ((1 : Int64), (0 : Int32)) = (lN (b ^ 0), nI 0) from by rw [Nat.pow_zero]; rfl, hit, bn_s, nm_d]
def tmN (n c j : Nat) : Nat := chN n j j * c ^ j * (16 - c) ^ (n - j)
def hsN (n c k : Nat) : Nat → Nat
  | 0 => 0
  | i + 1 => hsN n c k i + tmN n c (k + i)
theorem hsN_split (n c k : Nat) : ∀ i, hsN n c 0 (k + i) = hsN n c 0 k + hsN n c k i
  | 0 => rfl
  | i + 1 => by
    show hsN n c 0 (k + i) + tmN n c (0 + (k + i)) = hsN n c 0 k + (hsN n c k i + tmN n c (k + i))
    rw [hsN_split n c k i, Nat.zero_add, Nat.add_assoc]
theorem hsN_b : ∀ n, n < 13 → ∀ c, c < 16 → hsN n c 0 (n + 1) * 1000 < 2 ^ 63 := by decide +kernel
theorem o_ways {mO : Mem} {ml : Lem} {n j c : Nat} (hn : n ≤ 12) (hj : j ≤ n) (hc : c ≤ 15) (h14 : mO 0 14 = nI c) (v3 v5 : Int64) : mX8_cloudy_s57 (nI n) v3 mO ml v5 (nI j) = some (Sum.inl (v5 + lN (tmN n c j), nI (j + 1))) := by
  have hit := itr_run (B := fun q : Int64 × Int32 => mX8_cloudy_s69 (nI n) v3 v5 (nI j) mO ml q.1 q.2) (fun i => (lN (chN n j i), nI (i + 1))) (r := lN (chN n j j)) (n := j) (fun i hi => by
      show mX8_cloudy_s69 (nI n) v3 v5 (nI j) mO ml (lN (chN n j i)) (nI (i + 1)) = some (Sum.inl (lN (chN n j (i + 1)), nI (i + 1 + 1)))
      unfold mX8_cloudy_s69
      obtain ⟨q1, q2⟩ := ch_step hn hj hi
      rw [if_neg (by rw [n_lt (by omega) (by omega)]; omega), gzl_t q2, q1, nm_d, nI_s, nm_d]) (by
      show mX8_cloudy_s69 (nI n) v3 v5 (nI j) mO ml (lN (chN n j j)) (nI (j + 1)) = _
      unfold mX8_cloudy_s69
      rw [if_pos (by rw [n_lt (by omega) (by omega)]; omega)]) 0 FU (Nat.zero_le _) (FU_gt (by omega))
  have hit2 := itr_run (B := fun q : Int64 × Int32 => mX8_cloudy_s102 (nI n) v3 v5 (nI j) mO ml q.1 q.2) (fun i => (lN (chN n j j * c ^ (min i j) * (16 - c) ^ (i - j)), nI i)) (r := lN (tmN n c j)) (n := n) (fun i hi => by
      show mX8_cloudy_s102 (nI n) v3 v5 (nI j) mO ml (lN (chN n j j * c ^ (min i j) * (16 - c) ^ (i - j))) (nI i) = some (Sum.inl (lN (chN n j j * c ^ (min (i + 1) j) * (16 - c) ^ (i + 1 - j)), nI (i + 1)))
      unfold mX8_cloudy_s102
      rw [if_neg (by rw [n_le (by omega) (by omega)]; omega), h14]
      by_cases hij : j ≤ i
      · rw [if_pos (by rw [n_le (by omega) (by omega)]; exact hij), show (16 : Int32) = nI 16 from rfl, pk_sub (by omega), nI_l (by omega), lN_mul, nm_d, nI_s, nm_d, Nat.min_eq_right hij, Nat.min_eq_right (by omega), show i + 1 - j = (i - j) + 1 from by omega, Nat.pow_succ, Nat.mul_assoc]
      · rw [if_neg (by rw [n_le (by omega) (by omega)]; exact hij), nI_l (by omega), lN_mul, nm_d, nI_s, nm_d, Nat.min_eq_left (by omega), Nat.min_eq_left (by omega), show i + 1 - j = 0 from by omega, show i - j = 0 from by omega, Nat.pow_zero, Nat.mul_one, Nat.mul_one, Nat.pow_succ, Nat.mul_assoc]) (by
      show mX8_cloudy_s102 (nI n) v3 v5 (nI j) mO ml (lN (chN n j j * c ^ (min n j) * (16 - c) ^ (n - j))) (nI n) = _
      unfold mX8_cloudy_s102
      rw [if_pos (Int32.le_refl _), Nat.min_eq_right hj]
      rfl) 0 FU (Nat.zero_le _) (FU_gt (by omega))
  unfold mX8_cloudy_s57 mX8_cloudy_L69
  rw [if_neg (by rw [n_lt (by omega) (by omega)]; omega), show ((1 : Int64), (1 : Int32)) = (lN (chN n j 0), nI (0 + 1)) from rfl, hit, bn_s, nm_d]
  unfold mX8_cloudy_L102
  have e0 : (lN (chN n j j), (0 : Int32)) = (lN (chN n j j * c ^ (min 0 j) * (16 - c) ^ (0 - j)), nI 0) := by
    rw [Nat.zero_min, Nat.zero_sub, Nat.pow_zero, Nat.pow_zero, Nat.mul_one, Nat.mul_one]; rfl
  rw [e0, hit2, bn_s, nm_d, nm_d, nI_s, nm_d]
theorem V_cloudy {mX mT mL mM mB mS i0 i1 i2 mO : Mem} {ml : Lem} (h : INV mX mT mL mM mB mS i0 i1 i2 mO ml) (v1 v2 : Int32) : RT (mX7_cloudy mX mL v1 v2) (mX8_cloudy mO ml v1 v2) (fun a b => a = b) := by
  obtain ⟨g, f, t, hM, hL, -⟩ := id h
  unfold mX7_cloudy mX8_cloudy
  rw [c_isIn, c_isIn, o_in, o_in]
  simp only [bn_s, it_b0, it_b1]
  rcases hL.z hM with ⟨z1, z2, z3⟩ | ⟨z1, z2, z2', z3, hR, hC⟩
  · rw [if_pos z1, if_pos z2]
    exact RT_s rfl
  · rw [if_neg z1, if_neg z2]
    cases h1 : btw v1 1 12 with
    | false => exact RT_s rfl
    | true =>
      obtain ⟨n, n1, n2, rfl⟩ := btw_t (a := 1) (b := 12) (by decide) h1 (by decide)
      cases h2 : btw v2 0 (nI n) with
      | false => exact RT_s rfl
      | true =>
        obtain ⟨k, -, k2, rfl⟩ := btw_t (a := 0) (b := n) (by omega) h2 (by decide)
        rw [cd_t, cd_t, cd_t, cd_t]
        have hc : g 1 ≤ 15 := hR.2.2.1
        have hitC := itr_run (B := fun q : Int64 × Int32 => mX7_cloudy_s33 (nI n) mX mL q.1 q.2) (fun i => (lN (hsN n (g 1) k i), nI (k + i))) (r := lN (hsN n (g 1) k (n + 1 - k))) (n := n + 1 - k) (fun i hi => by
          show mX7_cloudy_s33 (nI n) mX mL (lN (hsN n (g 1) k i)) (nI (k + i)) = some (Sum.inl (lN (hsN n (g 1) k (i + 1)), nI (k + (i + 1))))
          unfold mX7_cloudy_s33
          rw [if_neg (by rw [n_lt (by omega) (by omega)]; omega), c_choices n2 (by omega), bn_s, hC.2.1, c_power (by omega) (by omega), bn_s, show (16 : Int32) = nI 16 from rfl, pk_sub (by omega), pk_sub (show k + i ≤ n by omega), c_power (by omega) (by omega), bn_s, lN_mul, lN_mul, lN_add, nm_d, nI_s, nm_d]
          rfl) (by
          show mX7_cloudy_s33 (nI n) mX mL (lN (hsN n (g 1) k (n + 1 - k))) (nI (k + (n + 1 - k))) = _
          unfold mX7_cloudy_s33
          rw [if_pos (by rw [n_lt (by omega) (by omega)]; omega)]) 0 FU (Nat.zero_le _) (FU_gt (by omega))
        have hitA := itr_run (B := fun q : Int64 × Int32 => mX8_cloudy_s36 (nI n) (nI k) (0 : Int64) mO ml q.1 q.2) (fun i => (lN (16 ^ i), nI i)) (r := lN (16 ^ n)) (n := n) (fun i hi => by
          show mX8_cloudy_s36 (nI n) (nI k) (0 : Int64) mO ml (lN (16 ^ i)) (nI i) = some (Sum.inl (lN (16 ^ (i + 1)), nI (i + 1)))
          unfold mX8_cloudy_s36
          rw [if_neg (by rw [n_le (by omega) (by omega)]; omega), show (16 : Int64) = lN 16 from rfl, lN_mul, nm_d, nI_s, nm_d, Nat.pow_succ]) (by
          show mX8_cloudy_s36 (nI n) (nI k) (0 : Int64) mO ml (lN (16 ^ n)) (nI n) = _
          unfold mX8_cloudy_s36
          rw [if_pos (Int32.le_refl _)]) 0 FU (Nat.zero_le _) (FU_gt (by omega))
        have hitO := itr_run (B := fun q : Int64 × Int32 => mX8_cloudy_s57 (nI n) (lN (16 ^ n)) mO ml q.1 q.2) (fun i => (lN (hsN n (g 1) k i), nI (k + i))) (r := lN (hsN n (g 1) k (n + 1 - k))) (n := n + 1 - k) (fun i hi => by
          show mX8_cloudy_s57 (nI n) (lN (16 ^ n)) mO ml (lN (hsN n (g 1) k i)) (nI (k + i)) = some (Sum.inl (lN (hsN n (g 1) k (i + 1)), nI (k + (i + 1))))
          rw [o_ways n2 (show k + i ≤ n by omega) hc hM.2.1, lN_add]
          rfl) (by
          show mX8_cloudy_s57 (nI n) (lN (16 ^ n)) mO ml (lN (hsN n (g 1) k (n + 1 - k))) (nI (k + (n + 1 - k))) = _
          unfold mX8_cloudy_s57
          rw [if_pos (by rw [n_lt (by omega) (by omega)]; omega)]) 0 FU (Nat.zero_le _) (FU_gt (by omega))
        have hb := hsN_b n (by omega) (g 1) (by omega)
        have hsp := hsN_split n (g 1) k (n + 1 - k)
        rw [show k + (n + 1 - k) = n + 1 from by omega] at hsp
        generalize hH : hsN n (g 1) k (n + 1 - k) = H at *
        have hH2 : H * 1000 < 2 ^ 63 := by
          have : H ≤ hsN n (g 1) 0 (n + 1) := by omega
          exact Nat.lt_of_le_of_lt (Nat.mul_le_mul_right 1000 this) hb
        have hp : (16 : Nat) ^ n = 2 ^ (4 * n) := by rw [Nat.pow_mul]
        have hp1 : 0 < (16 : Nat) ^ n := Nat.pow_pos (by decide)
        have hp2 : (16 : Nat) ^ n < 2 ^ 63 := by
          rw [hp]; exact Nat.pow_lt_pow_right (by decide) (by omega)
        unfold mX7_cloudy_L33 mX8_cloudy_L36 mX8_cloudy_L57
        rw [show ((0 : Int64), nI k) = (lN (hsN n (g 1) k 0), nI (k + 0)) from rfl, hitC, show ((1 : Int64), (0 : Int32)) = (lN (16 ^ 0), nI 0) from rfl, hitA]
        simp only [bn_s, nm_d]
        rw [hitO]
        simp only [bn_s, nm_d]
        rw [show (1000 : Int64) = lN 1000 from rfl, lN_mul, lN_mul, show (4 : Int32) * nI n = nI (4 * n) from n_mul 4 n, wb_c (4 * n) (by omega), l_shr hH2 (lN (4 * n)) (4 * n) (by rw [wb_tb, wb_sm (4 * n) (by omega), BitVec.toNat_ofNat, Nat.mod_eq_of_lt (by omega)]), gzl_t (by rw [show (0 : Int64) = lN 0 from rfl, pk_lEQ hp2 (by decide)]; omega), pk_lDiv (by rw [Nat.mul_comm]; exact hH2) hp1 hp2, ← hp, Nat.mul_comm 1000 H]
        exact RT_s rfl
