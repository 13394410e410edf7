/-! striking by lots, on both sides -/
def FL (ml ml' : Lem) : Prop := ∀ k i, ¬ (k = 0 ∧ i = 27) → ml' k i = ml k i
theorem FL.rf {ml : Lem} : FL ml ml := fun _ _ _ => rfl
theorem FL.tr {a b c : Lem} (h1 : FL a b) (h2 : FL b c) : FL a c := fun k i h => (h2 k i h).trans (h1 k i h)
theorem FL.up {a b : Lem} {v : Int64} (h : FL a b) : FL a (upfL b 27 v) := by
  intro k i hk
  rw [upfL_d]
  by_cases h0 : k = 0
  · subst h0
    rw [if_pos rfl, upbL_d, if_neg (fun e => hk ⟨rfl, e⟩)]; exact h 0 i hk
  · rw [if_neg h0]; exact h k i hk
theorem HR.lot {n : Nat} {mM : Mem} {h l r : Nat → Int32} {v : Int32} (hh : HR n mM h l r) : HR n (upf mM 1 v) h l r := hh
theorem HR_strike {n : Nat} {mM m mO m' : Mem} {j a : Nat} {S : Int32} (hn : n ≤ 6) (h : HR n mM (mO 8) (mO 9) (mO 10)) (hj : j < 40) (h3 : mM 3 j = nI a) (ha : a < n) (hu : ¬ mM 6 j = 0)
    (p7 : m 7 = upd (mM 7) j (mM 7 j - mM 7 j * S / 16)) (p2 : m 2 = upd (mM 2) a (mM 2 a + mM 7 j * S / 16)) (pF : Fr [2, 7] [] mM m)
    (q10 : m' 10 = upd (mO 10) (6 * j + 4) (mO 10 (6 * j + 4) - mO 10 (6 * j + 4) * S / 16)) (q9 : m' 9 = upd (mO 9) a (mO 9 a + mO 10 (6 * j + 4) * S / 16)) (q8 : m' 8 = mO 8) : HR n m (m' 8) (m' 9) (m' 10) := by
  obtain ⟨h1, h2, h4⟩ := h
  have c7 : mM 7 j = mO 10 (6 * j + 4) := by
    obtain ⟨u, u1, u2, u3, u4⟩ := h4 j hj
    obtain ⟨a', b, k, -, -, -, -, -, -, -, -, -, c7, -⟩ := u4 (by rw [u2, n_eq0 (by omega)] at hu; omega)
    exact c7
  refine ⟨fun i hi => ⟨?_, ?_⟩, fun i i1 i2 => ?_, fun i hi => ?_⟩
  · rw [pF.1 1 (by decide) (by decide), q8]; exact (h1 i hi).1
  · rw [p2, q9, c7]
    exact upd_cg (n := 6) (fun i hi => (h1 i hi).2) (by rw [(h1 a (by omega)).2]) i hi
  · rw [p2, upd_d, if_neg (by omega)]; exact h2 i i1 i2
  · obtain ⟨u', v1, v2, v3, v4⟩ := h4 i hi
    refine ⟨u', v1, by rw [pF.1 6 (by decide) (by decide)]; exact v2, by rw [q10, upd_d, if_neg (by omega)]; exact v3, fun hu' => ?_⟩
    obtain ⟨a', b', k', w1, w2, w3, w4, w5, w6, w7, w8, w9, w10, w11⟩ := v4 hu'
    refine ⟨a', b', k', w1, w2, w3, by rw [pF.1 3 (by decide) (by decide)]; exact w4, by rw [q10, upd_d, if_neg (by omega)]; exact w5, by rw [pF.1 4 (by decide) (by decide)]; exact w6, by rw [q10, upd_d, if_neg (by omega)]; exact w7, by rw [pF.1 5 (by decide) (by decide)]; exact w8, by rw [q10, upd_d, if_neg (by omega)]; exact w9, ?_, by rw [pF.1 8 (by decide) (by decide), q10, upd_d, if_neg (by omega)]; exact w11⟩
    rw [p7, q10, upd_d, upd_d]
    by_cases hij : i = j
    · rw [if_pos hij, if_pos (by omega), c7]
    · rw [if_neg hij, if_neg (by omega)]; exact w10
/-- whether a kind is spared -/
def spr (sp k : Nat) : Bool := decide ((nI sp >>> (nI k &&& 31)) &&& (1 : Int32) = (1 : Int32))
theorem c_spared {mL : Mem} {sp k : Nat} (h : mL 0 12 = nI sp) : mX1_isSpared mL (nI k) = some (bI (spr sp k)) := by
  unfold mX1_isSpared spr
  rw [h]
  by_cases hc : (nI sp >>> (nI k &&& 31)) &&& (1 : Int32) = (1 : Int32)
  · rw [if_neg (fun q => q hc), decide_eq_true hc]; rfl
  · rw [if_pos hc, decide_eq_false hc]; rfl
theorem c_can {mM mL : Mem} {sp j k u : Nat} (h : mL 0 12 = nI sp) (hj : j < 40) (hu : mM 6 j = nI u) (hu2 : u ≤ 9999) (hk : 0 < u → mM 5 j = nI k) : mX2_canBeStruck mM mL (nI j) = some (bI (decide (0 < u) && !spr sp k)) := by
  unfold mX2_canBeStruck
  rw [gi_n hj (by decide), gi_n hj (by decide), nI_clamp (by omega), hu]
  by_cases h0 : 0 < u
  · rw [if_neg (by rw [n_le0 (by omega)]; omega), hk h0, c_spared h, bn_s, it_b1, cd_s', decide_eq_true h0]; rfl
  · rw [if_pos (by rw [n_le0 (by omega)]; omega), decide_eq_false h0]; rfl
