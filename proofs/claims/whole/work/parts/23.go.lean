/-! lots -/
theorem l_and (a b : Nat) : lN a &&& lN b = lN (a &&& b) := by
  apply Int64.toBitVec_inj.1
  show BitVec.ofNat 64 a &&& BitVec.ofNat 64 b = BitVec.ofNat 64 (a &&& b)
  apply BitVec.eq_of_getLsbD_eq
  intro i hi
  simp [hi]
theorem l_mask (n k : Nat) : lN n &&& lN (2 ^ k - 1) = lN (n % 2 ^ k) := by rw [l_and, Nat.and_two_pow_sub_one_eq_mod]
theorem nI_bv (n : Nat) : (nI n).toBitVec.toNat = n % 2 ^ 32 := by
  show (BitVec.ofNat 32 n).toNat = _
  rw [BitVec.toNat_ofNat]
noncomputable def nxt (k : Nat) : Nat := Classical.choose (⟨(k * 1103515245 + 12345) % 2147483648, rfl⟩ : ∃ n : Nat, n = (k * 1103515245 + 12345) % 2147483648)
theorem nxt_eq (k : Nat) : nxt k = (k * 1103515245 + 12345) % 2147483648 := Classical.choose_spec (⟨(k * 1103515245 + 12345) % 2147483648, rfl⟩ : ∃ n : Nat, n = (k * 1103515245 + 12345) % 2147483648)
noncomputable def lotN (k : Nat) : Nat := Classical.choose (⟨nxt k / 256 % 16, rfl⟩ : ∃ n : Nat, n = nxt k / 256 % 16)
theorem lotN_eq (k : Nat) : lotN k = nxt k / 256 % 16 := Classical.choose_spec (⟨nxt k / 256 % 16, rfl⟩ : ∃ n : Nat, n = nxt k / 256 % 16)
theorem nxt_lt (k : Nat) : nxt k < 2 ^ 31 := by rw [nxt_eq]; exact Nat.mod_lt _ (by decide)
theorem lotN_lt (k : Nat) : lotN k < 16 := by rw [lotN_eq]; exact Nat.mod_lt _ (by decide)
theorem c_lot {mM : Mem} {k : Nat} (h : mM 0 1 = nI k) : mX2_lotBelow16 mM = some (nI (lotN k), upf mM 1 (nI (nxt k))) := by
  have e1 : ((nI k * (1103515245 : Int32)) + (12345 : Int32)) &&& (2147483647 : Int32) = nI (nxt k) := by
    rw [show (1103515245 : Int32) = nI 1103515245 from rfl, show (12345 : Int32) = nI 12345 from rfl, n_mul, n_add, pk_and _ 31 (by decide), nI_bv]
    rw [nxt_eq, Nat.mod_mod_of_dvd _ (by decide : 2 ^ 31 ∣ 2 ^ 32)]
  have e2 : (nI (nxt k)) >>> ((8 : Int32) &&& 31) = nI (nxt k / 256) := pk_shrN (nxt_lt k) _ 8 (by decide)
  have hd : nxt k / 256 < 2 ^ 31 := Nat.lt_of_le_of_lt (Nat.div_le_self _ _) (nxt_lt k)
  unfold mX2_lotBelow16
  rw [h, e1, nm_d, nm_d, show (upf mM 1 (nI (nxt k))) 0 1 = nI (nxt k) from rfl, e2, show (16 : Int32) = nI 16 from rfl, pk_rem hd (by decide) (by decide), lotN_eq]
theorem o_draws {mO : Mem} {ml : Lem} {k : Nat} (hk : k < 2 ^ 31) (h : ml 0 27 = lN k) : mX8_draws mO ml = some (nI (lotN k), upfL ml 27 (lN (nxt k))) := by
  have e1 : ((lN k * (1103515245 : Int64)) + (12345 : Int64)) &&& (2147483647 : Int64) = lN (nxt k) := by
    rw [show (1103515245 : Int64) = lN 1103515245 from rfl, show (12345 : Int64) = lN 12345 from rfl, lN_mul, lN_add, nxt_eq]
    exact l_mask _ 31
  have h63 : nxt k < 2 ^ 63 := Nat.lt_of_lt_of_le (nxt_lt k) (by decide)
  have e2 : lN (nxt k) / (256 : Int64) = lN (nxt k / 256) := pk_lDiv (b := 256) h63 (by decide) (by decide)
  have hd : nxt k / 256 < 2 ^ 63 := Nat.lt_of_le_of_lt (Nat.div_le_self _ _) h63
  have e3 : lN (nxt k / 256) - lN (nxt k / 256) / (16 : Int64) * (16 : Int64) = lN (nxt k / 256 % 16) := pk_lRem (b := 16) hd (by decide) (by decide)
  unfold mX8_draws
  rw [h, e1, nm_d, nm_d, show (upfL ml 27 (lN (nxt k))) 0 27 = lN (nxt k) from rfl, e2, e3, lN_i, lotN_eq]
/-! striking -/
theorem c_strike {mM mL : Mem} {j a : Nat} (hj : j < 40) (ha : a < 6) (h3 : mM 3 j = nI a) : HT (mX2_strikeLoan mM mL (nI j)) (fun q => q.1 = mM 7 j * mL 0 2 / 16 ∧ q.2 7 = upd (mM 7) j (mM 7 j - mM 7 j * mL 0 2 / 16) ∧ q.2 2 = upd (mM 2) a (mM 2 a + mM 7 j * mL 0 2 / 16) ∧ Fr [2, 7] [] mM q.2) := by
  unfold mX2_strikeLoan
  simp only [gi_n hj (show 40 < 2 ^ 31 by decide), gi_n ha (show 6 < 2 ^ 31 by decide), nm_d, nI_clamp (show j < 2 ^ 31 by omega), nI_clamp (show a < 2 ^ 31 by omega), h3, upi_d, reduceIte, Nat.reduceEqDiff]
  exact HT_s ⟨rfl, rfl, rfl, (Fr.rf.upi (by decide) (by decide)).upi (by decide) (by decide)⟩
theorem o_strike0 {mO : Mem} {ml : Lem} {j a : Nat} (hj : j < 40) (ha : a < 6) (h0 : mO 10 (6 * j + 0) = nI a) : HT (mX8_strikes mO ml (nI j) 0) (fun m => m 10 = upd (mO 10) (6 * j + 4) (mO 10 (6 * j + 4) - mO 10 (6 * j + 4) * mO 0 15 / 16) ∧ m 9 = upd (mO 9) a (mO 9 a + mO 10 (6 * j + 4) * mO 0 15 / 16) ∧ Fr [9, 10] [] mO m) := by
  unfold mX8_strikes
  simp only [o_la4 hj, o_la0 hj, bn_s, nm_d, ix_4, gi_n (show 6 * j + 4 < 240 by omega) (show 240 < 2 ^ 31 by decide), nI_clamp (show 6 * j + 4 < 2 ^ 31 by omega), upi_d, upd_d, reduceIte, Nat.reduceEqDiff, show ¬ (6 * j + 0 = 6 * j + 4) by omega, h0, gi_n ha (show 6 < 2 ^ 31 by decide), nI_clamp (show a < 2 ^ 31 by omega)]
  exact HT_s ⟨rfl, rfl, (Fr.rf.upi (by decide) (by decide)).upi (by decide) (by decide)⟩
theorem o_strike1 {mO : Mem} {ml : Lem} {j a e : Nat} (hj : j < 40) (ha : a < 6) (h0 : mO 10 (6 * j + 0) = nI a) (he : e < 20) (h20 : mO 20 j = nI e) : HT (mX8_strikes mO ml (nI j) 1) (fun m => m 10 = upd (mO 10) (6 * j + 4) (mO 10 (6 * j + 4) - mO 10 (6 * j + 4) * mO 0 15 / 16) ∧ m 9 = upd (mO 9) a (mO 9 a + mO 10 (6 * j + 4) * mO 0 15 / 16) ∧ m 21 = upd (mO 21) e (mO 21 e + mO 10 (6 * j + 4) * mO 0 15 / 16) ∧ Fr [9, 10, 21] [] mO m) := by
  unfold mX8_strikes
  simp only [o_la4 hj, o_la0 hj, bn_s, nm_d, ix_4, gi_n (show 6 * j + 4 < 240 by omega) (show 240 < 2 ^ 31 by decide), nI_clamp (show 6 * j + 4 < 2 ^ 31 by omega), upi_d, upd_d, reduceIte, Nat.reduceEqDiff, show ¬ (6 * j + 0 = 6 * j + 4) by omega, h0, gi_n ha (show 6 < 2 ^ 31 by decide), nI_clamp (show a < 2 ^ 31 by omega), show ¬ ((1 : Int32) = 0) by decide, gi_n hj (show 40 < 2 ^ 31 by decide), nI_clamp (show j < 2 ^ 31 by omega), h20, gi_n he (show 20 < 2 ^ 31 by decide), nI_clamp (show e < 2 ^ 31 by omega)]
  exact HT_s ⟨rfl, rfl, rfl, ((Fr.rf.upi (by decide) (by decide)).upi (by decide) (by decide)).upi (by decide) (by decide)⟩
