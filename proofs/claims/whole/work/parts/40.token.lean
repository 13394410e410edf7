theorem wb_tb (n : Nat) : (lN n).toBitVec = BitVec.ofNat 64 n := rfl
theorem wb_inj {a b : Int64} (h : a.toBitVec = b.toBitVec) : a = b := Int64.toBitVec_inj.mp h
theorem wb_tn {n : Nat} (h : n < 2 ^ 64) : (lN n).toBitVec.toNat = n := by rw [wb_tb, BitVec.toNat_ofNat, Nat.mod_eq_of_lt h]
theorem wb_c : ∀ k, k < 64 → ((nI k).toInt64 &&& 63) = lN k := by decide +kernel
theorem wb_sm : ∀ k, k < 64 → (BitVec.ofNat 64 k).smod 64 = BitVec.ofNat 64 k := by decide +kernel
theorem wb_lt2 {a b : Nat} (h : a < b) : 2 ^ a < 2 ^ b := Nat.pow_lt_pow_right (by decide) h
theorem wb_shl (n : Nat) {k : Nat} (hk : k < 64) : lN n <<< ((nI k).toInt64 &&& 63) = lN (n * 2 ^ k) := by
  rw [wb_c k hk]
  apply wb_inj
  rw [Int64.toBitVec_shiftLeft, wb_tb, wb_tb, wb_tb, wb_sm k hk]
  apply BitVec.eq_of_toNat_eq
  rw [BitVec.shiftLeft_eq', BitVec.toNat_shiftLeft, BitVec.toNat_ofNat, BitVec.toNat_ofNat, BitVec.toNat_ofNat, Nat.mod_eq_of_lt (show k < 2 ^ 64 by omega), Nat.shiftLeft_eq, Nat.mul_mod, Nat.mod_mod, ← Nat.mul_mod]
theorem wb_or {a b : Nat} (ha : a < 2 ^ 64) (hb : b < 2 ^ 64) : lN a ||| lN b = lN (a ||| b) := by
  apply wb_inj
  rw [Int64.toBitVec_or, wb_tb, wb_tb, wb_tb]
  apply BitVec.eq_of_toNat_eq
  rw [BitVec.toNat_or, BitVec.toNat_ofNat, BitVec.toNat_ofNat, BitVec.toNat_ofNat, Nat.mod_eq_of_lt ha, Nat.mod_eq_of_lt hb, Nat.mod_eq_of_lt (Nat.or_lt_two_pow ha hb)]
/-! tokens -/
theorem lc_0 (x y : Int64) : lg_cmp x y = 0 ↔ x = y := by
  unfold lg_cmp
  by_cases h : x > y
  · rw [if_pos h]
    exact ⟨fun e => absurd e (by decide), fun e => absurd h (by rw [e]; exact Int64.lt_irrefl)⟩
  · rw [if_neg h]
    by_cases h2 : x = y
    · rw [if_pos h2]; exact ⟨fun _ => h2, fun _ => rfl⟩
    · rw [if_neg h2]; exact ⟨fun e => absurd e (by decide), fun e => absurd e h2⟩
theorem lc_lt {a b : Nat} (ha : a < 2 ^ 63) (hb : b < 2 ^ 63) : lg_cmp (lN a) (lN b) < 0 ↔ a < b := by
  unfold lg_cmp
  by_cases h : lN a > lN b
  · rw [if_pos h]
    have h1 := (pk_lLT hb ha).mp h
    exact ⟨fun e => absurd e (by decide), fun e => by omega⟩
  · rw [if_neg h]
    have h1 : ¬ b < a := fun q => h ((pk_lLT hb ha).mpr q)
    by_cases h2 : lN a = lN b
    · rw [if_pos h2]
      have h3 := (pk_lEQ ha hb).mp h2
      exact ⟨fun e => absurd e (by decide), fun e => by omega⟩
    · rw [if_neg h2]
      have h3 : a ≠ b := fun q => h2 ((pk_lEQ ha hb).mpr q)
      exact ⟨fun _ => by omega, fun _ => by decide⟩
theorem lc_le {a b : Nat} (ha : a < 2 ^ 63) (hb : b < 2 ^ 63) : lg_cmp (lN a) (lN b) ≤ 0 ↔ a ≤ b := by
  unfold lg_cmp
  by_cases h : lN a > lN b
  · rw [if_pos h]
    have h1 := (pk_lLT hb ha).mp h
    exact ⟨fun e => absurd e (by decide), fun e => by omega⟩
  · rw [if_neg h]
    have h1 : ¬ b < a := fun q => h ((pk_lLT hb ha).mpr q)
    by_cases h2 : lN a = lN b
    · rw [if_pos h2]
      have h3 := (pk_lEQ ha hb).mp h2
      exact ⟨fun _ => by omega, fun _ => by decide⟩
    · rw [if_neg h2]
      exact ⟨fun _ => by omega, fun _ => by decide⟩
def isL (x : Int32) : Bool := btw x 97 122
def isD (x : Int32) : Bool := btw x 48 57
theorem c_let (x : Int32) : mX3_isLetter x = some (bI (isL x)) := c_isIn x 97 122
theorem c_dig (x : Int32) : mX3_isDigit x = some (bI (isD x)) := c_isIn x 48 57
theorem o_let (x : Int32) : mX8_isLetter x = some (bI (isL x)) := c_isIn x 97 122
theorem o_dig (x : Int32) : mX8_isDigit x = some (bI (isD x)) := c_isIn x 48 57
theorem isL_n {x : Int32} (h : isL x = true) : ∃ c, 97 ≤ c ∧ c ≤ 122 ∧ x = nI c := btw_t (a := 97) (b := 122) (by decide) h (by decide)
theorem isD_n {x : Int32} (h : isD x = true) : ∃ c, 48 ≤ c ∧ c ≤ 57 ∧ x = nI c := btw_t (a := 48) (b := 57) (by decide) h (by decide)
def cdN (b : Nat → Int32) (i : Nat) : Nat := (b i).toNatClampNeg
def pkn (c : Nat → Nat) (s : Nat) : Nat → Nat
  | 0 => 0
  | n + 1 => pkn c s n * 256 + c (s + n)
theorem pkn_lt {c : Nat → Nat} {s : Nat} : ∀ n, (∀ i, i < n → c (s + i) < 256) → pkn c s n < 256 ^ n
  | 0, _ => Nat.zero_lt_one
  | n + 1, h => by
    have h1 := pkn_lt n (fun i hi => h i (by omega))
    have h2 := h n (by omega)
    show pkn c s n * 256 + c (s + n) < 256 ^ (n + 1)
    rw [Nat.pow_succ]
    omega
theorem pkn_8 {c : Nat → Nat} {s n : Nat} (hn : n ≤ 7) (h : ∀ i, i < n → c (s + i) < 256) : pkn c s n < 2 ^ 56 := by
  have h1 := pkn_lt n h
  have h2 : 256 ^ n ≤ 256 ^ 7 := Nat.pow_le_pow_right (by decide) hn
  have h3 : (256 : Nat) ^ 7 = 2 ^ 56 := by decide
  omega
theorem pkn_63 {c : Nat → Nat} {s n : Nat} (hn : n ≤ 8) (h : ∀ i, i < n → c (s + i) < 128) : pkn c s n < 2 ^ 63 := by
  cases n with
  | zero => exact Nat.pow_pos (by decide)
  | succ n =>
    have key : ∀ m, m ≤ 7 → m ≤ n → pkn c s (m + 1) < 128 * 256 ^ m := by
      intro m
      induction m with
      | zero =>
        intro _ _
        show 0 * 256 + c (s + 0) < 128 * 1
        have := h 0 (by omega)
        omega
      | succ m ih =>
        intro h7 hm
        have h1 := ih (by omega) (by omega)
        have h2 := h (m + 1) (by omega)
        show pkn c s (m + 1) * 256 + c (s + (m + 1)) < 128 * 256 ^ (m + 1)
        rw [Nat.pow_succ]
        omega
    have h1 := key n (by omega) (Nat.le_refl _)
    have h2 : 256 ^ n ≤ 256 ^ 7 := Nat.pow_le_pow_right (by decide) (by omega)
    have h3 : 128 * (256 : Nat) ^ 7 = 2 ^ 63 := by decide
    omega
theorem l_pack {v c : Nat} (hv : v < 2 ^ 56) (hc : c < 256) : (lN v <<< ((8 : Int32).toInt64 &&& 63)) ||| (nI c).toInt64 = lN (v * 256 + c) := by
  rw [show (8 : Int32) = nI 8 from rfl, wb_shl v (by decide), nI_l (by omega), wb_or (by omega) (by omega)]
  congr 1
  have := Nat.two_pow_add_eq_or_of_lt (i := 8) (b := c) (by omega) v
  rw [Nat.mul_comm v (2 ^ 8), ← this]
/-- the text on both sides -/
def TXR (len : Nat) (mT mO : Mem) : Prop := len ≤ 500 ∧ mT 0 1 = nI len ∧ mO 0 1 = nI len ∧ ∀ i, i < 500 → mO 1 i = mT 1 i
def F5 (ml ml' : Lem) : Prop := ∀ k i, ¬ (k = 0 ∧ i = 5) → ml' k i = ml k i
theorem F5.rf {ml : Lem} : F5 ml ml := fun _ _ _ => rfl
theorem F5.tr {a b c : Lem} (h1 : F5 a b) (h2 : F5 b c) : F5 a c := fun k i h => (h2 k i h).trans (h1 k i h)
theorem F5.up {a b : Lem} {v : Int64} (h : F5 a b) : F5 a (upfL b 5 v) := by
  intro k i hk
  rw [upfL_d]
  by_cases h0 : k = 0
  · subst h0
    rw [if_pos rfl, upbL_d, if_neg (fun e => hk ⟨rfl, e⟩)]; exact h 0 i hk
  · rw [if_neg h0]; exact h k i hk
theorem upf_0 (m : Mem) (i : Nat) (v : Int32) (j : Nat) : upf m i v 0 j = if j = i then v else m 0 j := by
  rw [upf_d, if_pos rfl, upb_d]
theorem upf_k (m : Mem) (i : Nat) (v : Int32) (k : Nat) (hk : k ≠ 0) : upf m i v k = m k := by
  rw [upf_d, if_neg hk]
theorem upfL_0 (m : Lem) (i : Nat) (v : Int64) (j : Nat) : upfL m i v 0 j = if j = i then v else m 0 j := by
  rw [upfL_d, if_pos rfl, upbL_d]
theorem RT_blank {len : Nat} {mR mT mO : Mem} {ml : Lem} (hT : TXR len mT mO) {p : Nat} (hp : p ≤ len) (h6 : mR 0 6 = nI p) (h2 : mO 0 2 = nI p) :
    RT (itr (fun q => mX3_skipBlanks_s0 mT q) FU mR) (itr (fun q => mX8_leads_s0 ml q) FU mO) (fun m m' => ∃ p', p ≤ p' ∧ p' ≤ len ∧ m 0 6 = nI p' ∧ m' 0 2 = nI p' ∧ Fr [] [6] mR m ∧ Fr [] [2] mO m') := by
  obtain ⟨hl, t1, o1, hb⟩ := hT
  refine RT_itr (fun k (s t : Mem) => ∃ p', p ≤ p' ∧ p' ≤ len ∧ k = len - p' ∧ s 0 6 = nI p' ∧ t 0 2 = nI p' ∧ Fr [] [6] mR s ∧ Fr [] [2] mO t) ?_ FU (len - p) _ _ ⟨p, Nat.le_refl _, hp, rfl, h6, h2, Fr.rf, Fr.rf⟩ (FU_gt (by omega))
  rintro k s t ⟨q, q1, q2, rfl, q3, q4, hF, hG⟩
  show RT (mX3_skipBlanks_s0 mT s) (mX8_leads_s0 ml t) _
  unfold mX3_skipBlanks_s0 mX8_leads_s0 mX3_skipBlanks_j48 mX8_leads_j39
  rw [t1, hG.2 1 (by decide), o1, q3, q4]
  refine RT_if Iff.rfl (fun h => RT_s ⟨q, q1, q2, q3, q4, hF, hG⟩) (fun h => ?_)
  rw [n_le (by omega) (by omega)] at h
  rw [gi_n (show q < 500 by omega) (by decide), gi_n (show q < 500 by omega) (by decide), gi_n (show q < 500 by omega) (by decide), gi_n (show q < 500 by omega) (by decide), nI_clamp (by omega), hG.1 1 (by decide) (by decide), hb q (by omega)]
  simp only [nm_d, nI_s]
  have next : LK (fun (s t : Mem) => ∃ n', n' < len - q ∧ ∃ p', p ≤ p' ∧ p' ≤ len ∧ n' = len - p' ∧ s 0 6 = nI p' ∧ t 0 2 = nI p' ∧ Fr [] [6] mR s ∧ Fr [] [2] mO t) (fun (m m' : Mem) => ∃ p', p ≤ p' ∧ p' ≤ len ∧ m 0 6 = nI p' ∧ m' 0 2 = nI p' ∧ Fr [] [6] mR m ∧ Fr [] [2] mO m') (Sum.inl (upf s 6 (nI (q + 1)))) (Sum.inl (upf t 2 (nI (q + 1)))) :=
    ⟨len - (q + 1), by omega, q + 1, by omega, by omega, rfl, rfl, rfl, hF.upf (by decide), hG.upf (by decide)⟩
  refine RT_if Iff.rfl (fun _ => RT_s next) (fun _ => ?_)
  exact RT_if Iff.rfl (fun _ => RT_s ⟨q, q1, q2, q3, q4, hF, hG⟩) (fun _ => RT_s next)
