/-! prices -/
def wtn (g : Nat → Nat) (f : Nat → Nat → Nat) (i : Nat) : Nat := 100 + g 4 * f 3 i / 10
def lpp (W b : Nat) : Nat := (W * 1000 + b - 1) / b - 100
def lpr (W b : Nat) : Int32 := if b = 0 then -1 else if lpp W b ≤ 400 then nI (lpp W b) else -1
theorem wtn_le {g : Nat → Nat} {f : Nat → Nat → Nat} {i : Nat} (h : g 4 ≤ 50) (h3 : f 3 i ≤ 60) : 100 ≤ wtn g f i ∧ wtn g f i ≤ 400 := by
  have : g 4 * f 3 i ≤ 50 * 60 := Nat.mul_le_mul h h3
  unfold wtn
  omega
theorem lpr_cases (W b : Nat) : lpr W b = -1 ∨ ∃ p, p ≤ 400 ∧ lpr W b = nI p := by
  unfold lpr
  by_cases h : b = 0
  · rw [if_pos h]; exact Or.inl rfl
  · rw [if_neg h]
    by_cases h2 : lpp W b ≤ 400
    · rw [if_pos h2]; exact Or.inr ⟨_, h2, rfl⟩
    · rw [if_neg h2]; exact Or.inl rfl
theorem wtn_i {g : Nat → Nat} {f : Nat → Nat → Nat} {i : Nat} (h : g 4 ≤ 50) (h3 : f 3 i ≤ 60) : (100 : Int32) + ((nI (g 4) * nI (f 3 i)) / (10 : Int32)) = nI (wtn g f i) := by
  have : g 4 * f 3 i ≤ 50 * 60 := Nat.mul_le_mul h h3
  rw [n_mul, show (10 : Int32) = nI 10 from rfl, pk_div (by omega) (by decide) (by decide), show (100 : Int32) = nI 100 from rfl, n_add]
  rfl
theorem c_least {mL : Mem} {g : Nat → Nat} {f t : Nat → Nat → Nat} (hR : LR g f t) (hC : LC mL g f t) {i b : Nat} (hi : i < g 5) (hb : b ≤ 1000) : mX4_leastPrice mL (nI i) (nI b) = some (lpr (wtn g f i) b) := by
  obtain ⟨-, -, -, -, -, -, z1, -, n6, -, -, rs, -⟩ := id hR
  obtain ⟨-, -, -, -, y1, y2, -, k1⟩ := rs i hi
  obtain ⟨-, -, -, -, c4, -, -, -, cs, -⟩ := hC
  have y : mL 4 i = nI (f 3 i) := cs i hi 3 (by decide)
  obtain ⟨w1, w2⟩ := wtn_le (i := i) z1 y2
  unfold mX4_leastPrice lpr
  by_cases h0 : b = 0
  · rw [if_pos h0, h0, if_neg (by decide)]
  · rw [if_neg h0, if_pos (by rw [show (1 : Int32) = nI 1 from rfl, n_le (by decide) (by omega)]; omega), gi_n (by omega) (by decide), nI_clamp (by omega), y, c4, wtn_i z1 y2, show (1000 : Int32) = nI 1000 from rfl, n_mul, nm_d, gz_t (by rw [n_eq0 (by omega)]; exact h0), n_add, show (1 : Int32) = nI 1 from rfl, pk_sub (by omega), pk_div (by omega) (by omega) (by omega)]
    have hc : 100 ≤ (wtn g f i * 1000 + b - 1) / b := by
      rw [Nat.le_div_iff_mul_le (by omega)]
      omega
    have hu : (wtn g f i * 1000 + b - 1) / b ≤ wtn g f i * 1000 + b - 1 := Nat.div_le_self _ _
    rw [show (100 : Int32) = nI 100 from rfl, pk_sub hc, nm_d]
    show (if nI (lpp (wtn g f i) b) ≤ 400 then some (nI (lpp (wtn g f i) b)) else some (-1)) = _
    have hl : lpp (wtn g f i) b ≤ wtn g f i * 1000 + b - 1 := Nat.le_trans (Nat.sub_le _ _) hu
    by_cases h2 : lpp (wtn g f i) b ≤ 400
    · rw [if_pos h2, if_pos (by rw [show (400 : Int32) = nI 400 from rfl, n_le (by omega) (by decide)]; exact h2)]
    · rw [if_neg h2, if_neg (by rw [show (400 : Int32) = nI 400 from rfl, n_le (by omega) (by decide)]; exact h2)]; rfl
theorem lp_iff {W b j : Nat} (hb : 0 < b) : W ≤ (100 + j) * b / 1000 ↔ lpp W b ≤ j := by
  rw [Nat.le_div_iff_mul_le (by decide)]
  unfold lpp
  have e : (W * 1000 + b - 1) / b ≤ 100 + j ↔ W * 1000 ≤ (100 + j) * b := by
    rw [← Nat.lt_succ_iff, Nat.div_lt_iff_lt_mul hb, Nat.succ_mul]
    omega
  omega
theorem o_least {mO : Mem} {ml : Lem} {g : Nat → Nat} {f t : Nat → Nat → Nat} (hR : LR g f t) (hM : LM mO g f t) {i b : Nat} (hi : i < g 5) (hb : b ≤ 1000) : mX8_leastOf mO ml (nI i) (nI b) = some (lpr (wtn g f i) b) := by
  obtain ⟨-, -, -, -, -, -, z1, -, n6, -, -, rs, -⟩ := id hR
  obtain ⟨-, -, -, -, y1, y2, -, k1⟩ := rs i hi
  obtain ⟨-, -, -, -, c4, -, -, -, cs, -⟩ := hM
  have y : mO 6 (6 * i + 3) = nI (f 3 i) := cs i hi 3 (by decide)
  obtain ⟨w1, w2⟩ := wtn_le (i := i) z1 y2
  obtain ⟨N, hN, hN1, hN2⟩ : ∃ N, N ≤ 401 ∧ (∀ j, j < N → ¬ wtn g f i ≤ (100 + j) * b / 1000) ∧ (N ≤ 400 → wtn g f i ≤ (100 + N) * b / 1000) := by
    by_cases h0 : b = 0
    · exact ⟨401, Nat.le_refl _, fun j hj => by rw [h0, Nat.mul_zero]; omega, fun h => absurd h (by decide)⟩
    · by_cases h1 : lpp (wtn g f i) b ≤ 400
      · exact ⟨lpp (wtn g f i) b, by omega, fun j hj => by rw [lp_iff (by omega)]; omega, fun _ => by rw [lp_iff (by omega)]; exact Nat.le_refl _⟩
      · exact ⟨401, Nat.le_refl _, fun j hj => by rw [lp_iff (by omega)]; omega, fun h => absurd h (by decide)⟩
  have hx : ∀ j, j ≤ 400 → ((((100 : Int32) + nI j) * nI b) / (1000 : Int32)) = nI ((100 + j) * b / 1000) ∧ (100 + j) * b / 1000 ≤ 500 := by
    intro j hj
    have h1 : (100 + j) * b ≤ 500 * 1000 := Nat.mul_le_mul (by omega) hb
    rw [show (100 : Int32) = nI 100 from rfl, n_add, n_mul, show (1000 : Int32) = nI 1000 from rfl, pk_div (by omega) (by decide) (by decide)]
    exact ⟨rfl, by omega⟩
  have hit := itr_run (B := fun q : Int32 => mX8_leastOf_s2 (nI i) (nI b) mO ml q) (fun j => nI j) (r := nI N) (n := N) (fun j hj => by
      show mX8_leastOf_s2 (nI i) (nI b) mO ml (nI j) = some (Sum.inl (nI (j + 1)))
      unfold mX8_leastOf_s2
      obtain ⟨x1, x2⟩ := hx j (by omega)
      rw [if_neg (by rw [show (400 : Int32) = nI 400 from rfl, n_lt (by decide) (by omega)]; omega), o_of3 (by omega), bn_s, y, c4, wtn_i z1 y2, x1, if_neg (by rw [n_le (by omega) (by omega)]; exact hN1 j hj), nI_s, nm_d]) (by
      show mX8_leastOf_s2 (nI i) (nI b) mO ml (nI N) = _
      unfold mX8_leastOf_s2
      by_cases h4 : N ≤ 400
      · obtain ⟨x1, x2⟩ := hx N h4
        rw [if_neg (by rw [show (400 : Int32) = nI 400 from rfl, n_lt (by decide) (by omega)]; omega), o_of3 (by omega), bn_s, y, c4, wtn_i z1 y2, x1, if_pos (by rw [n_le (by omega) (by omega)]; exact hN2 h4)]
      · rw [if_pos (by rw [show (400 : Int32) = nI 400 from rfl, n_lt (by decide) (by omega)]; omega)]) 0 FU (Nat.zero_le _) (FU_gt (by omega))
  unfold mX8_leastOf mX8_leastOf_L2
  rw [show (0 : Int32) = nI 0 from rfl, hit, bn_s, nm_d, show (400 : Int32) = nI 400 from rfl]
  unfold lpr
  by_cases h4 : N ≤ 400
  · have h5 := hN2 h4
    have hb0 : ¬ b = 0 := by
      intro e
      rw [e, Nat.mul_zero] at h5
      omega
    have h6 : lpp (wtn g f i) b = N := by
      rw [lp_iff (by omega)] at h5
      rcases Nat.lt_or_ge (lpp (wtn g f i) b) N with h7 | h7
      · exact absurd ((lp_iff (by omega)).mpr (Nat.le_refl _)) (hN1 _ h7)
      · omega
    rw [if_pos (by rw [n_le (by omega) (by decide)]; exact h4), if_neg hb0, h6, if_pos h4]
  · rw [if_neg (by rw [n_le (by omega) (by decide)]; exact h4)]
    by_cases hb0 : b = 0
    · rw [if_pos hb0]
    · rw [if_neg hb0, if_neg]
      intro h
      exact hN1 _ (show lpp (wtn g f i) b < N by omega) ((lp_iff (by omega)).mpr (Nat.le_refl _))
def mpn (w G : Nat) : Nat := if G * 100 / w < 400 then G * 100 / w else 400
def mpr (w G : Nat) : Int32 := if w = 0 then -1 else nI (mpn w G)
theorem mpn_le (w G : Nat) : mpn w G ≤ 400 := by
  unfold mpn
  split <;> omega
theorem mpn_i {w G : Nat} (h0 : 0 < w) (hw : w ≤ 99) (hG : G ≤ 99) : (if (nI G * (100 : Int32)) / nI w < (400 : Int32) then (nI G * (100 : Int32)) / nI w else (400 : Int32)) = nI (mpn w G) := by
  have h1 : G * 100 / w ≤ G * 100 := Nat.div_le_self _ _
  rw [show (100 : Int32) = nI 100 from rfl, n_mul, pk_div (by omega) h0 (by omega), show (400 : Int32) = nI 400 from rfl]
  unfold mpn
  by_cases h : G * 100 / w < 400
  · rw [if_pos h, if_pos (by rw [n_lt (by omega) (by decide)]; exact h)]
  · rw [if_neg h, if_neg (by rw [n_lt (by omega) (by decide)]; exact h)]
theorem c_most {mL : Mem} {g : Nat → Nat} {f t : Nat → Nat → Nat} (hR : LR g f t) (hC : LC mL g f t) {i : Nat} (hi : i < g 5) : mX4_mostPrice mL (nI i) = some (mpr (f 2 i) (f 4 i)) := by
  obtain ⟨-, -, -, -, -, -, -, -, n6, -, -, rs, -⟩ := id hR
  obtain ⟨-, -, -, w2, -, -, g2, -⟩ := rs i hi
  obtain ⟨-, -, -, -, -, -, -, -, cs, -⟩ := hC
  have w : mL 3 i = nI (f 2 i) := cs i hi 2 (by decide)
  have y : mL 5 i = nI (f 4 i) := cs i hi 4 (by decide)
  unfold mX4_mostPrice mpr
  rw [gi_n (by omega) (by decide), gi_n (by omega) (by decide), gi_n (by omega) (by decide), nI_clamp (by omega), w, y]
  by_cases h0 : f 2 i = 0
  · rw [if_pos h0, h0, if_neg (by decide)]
  · rw [if_neg h0, if_pos (by rw [show (1 : Int32) = nI 1 from rfl, n_le (by decide) (by omega)]; omega), gz_t (by rw [n_eq0 (by omega)]; exact h0), mpn_i (by omega) w2 g2, nm_d]
theorem o_most {mO : Mem} {ml : Lem} {g : Nat → Nat} {f t : Nat → Nat → Nat} (hR : LR g f t) (hM : LM mO g f t) {i : Nat} (hi : i < g 5) : mX8_mostPrice mO ml (nI i) = some (mpr (f 2 i) (f 4 i)) := by
  obtain ⟨-, -, -, -, -, -, -, -, n6, -, -, rs, -⟩ := id hR
  obtain ⟨-, -, -, w2, -, -, g2, -⟩ := rs i hi
  obtain ⟨-, -, -, -, -, -, -, -, cs, -⟩ := hM
  have w : mO 6 (6 * i + 2) = nI (f 2 i) := cs i hi 2 (by decide)
  have y : mO 6 (6 * i + 4) = nI (f 4 i) := cs i hi 4 (by decide)
  unfold mX8_mostPrice mpr
  rw [o_of2 (by omega), bn_s, o_of4 (by omega), bn_s, w, y]
  by_cases h0 : f 2 i = 0
  · rw [if_pos h0, h0, if_neg (by decide)]
  · rw [if_neg h0, if_pos (by rw [n_eq0 (by omega)]; exact h0), gz_t (by rw [n_eq0 (by omega)]; exact h0), mpn_i (by omega) w2 g2, nm_d]
/-! margins -/
def mgC (lp mp : Int32) : Int32 := if lp = -1 then -1 else if lp ≤ mp then mp - lp else -1
def mgO (w : Nat) (lp mp : Int32) : Int32 := if lp = -1 then -1 else if w = 0 then -1 else mp - lp
def MG (c o : Int32) : Prop := (∃ k, k ≤ 400 ∧ c = nI k ∧ o = nI k) ∨ (c = -1 ∧ o < 0)
theorem mg_rel {w G : Nat} {lp : Int32} (h : lp = -1 ∨ ∃ p, p ≤ 400 ∧ lp = nI p) : MG (mgC lp (mpr w G)) (mgO w lp (mpr w G)) := by
  unfold mgC mgO mpr
  rcases h with h | ⟨p, hp, rfl⟩
  · rw [if_pos h, if_pos h]; exact Or.inr ⟨rfl, by decide⟩
  · rw [if_neg (n_nm1 (by omega)), if_neg (n_nm1 (by omega))]
    by_cases h0 : w = 0
    · rw [if_pos h0, if_pos h0, if_neg]
      · exact Or.inr ⟨rfl, by decide⟩
      · intro h1
        have h2 := Int32.le_iff_toInt_le.mp h1
        rw [nI_toInt (by omega)] at h2
        have : ((-1 : Int32)).toInt = -1 := by decide
        omega
    · rw [if_neg h0, if_neg h0]
      have hm := mpn_le w G
      by_cases h1 : p ≤ mpn w G
      · rw [if_pos (by rw [n_le (by omega) (by omega)]; exact h1), pk_sub h1]
        exact Or.inl ⟨_, by omega, rfl, rfl⟩
      · rw [if_neg (by rw [n_le (by omega) (by omega)]; exact h1)]
        exact Or.inr ⟨rfl, pk_sneg (by omega) (by omega)⟩
theorem c_margin {mL : Mem} {g : Nat → Nat} {f t : Nat → Nat → Nat} (hR : LR g f t) (hC : LC mL g f t) {i n S E : Nat} (hi : i < g 5) (hn : n ≤ 500) (hS : S ≤ 16) (hE : 1 ≤ E) (hE2 : E ≤ 9) : mX4_marginOf mL (nI i) (nI n) (nI S) (nI E) = some (mgC (lpr (wtn g f i) (bk g f i n S E)) (mpr (f 2 i) (f 4 i))) := by
  have hk : f 5 i ≤ 16 := (hR.2.2.2.2.2.2.2.2.2.2.2.1 i hi).2.2.2.2.2.2.2
  unfold mX4_marginOf mgC
  rw [c_most hR hC hi, bn_s, c_back hR hC hi hn hS hE hE2, bn_s, c_least hR hC hi (bk_le hk), bn_s]
  by_cases h1 : lpr (wtn g f i) (bk g f i n S E) = -1
  · rw [if_pos h1, if_pos h1]
  · rw [if_neg h1, if_neg h1]
    by_cases h2 : lpr (wtn g f i) (bk g f i n S E) ≤ mpr (f 2 i) (f 4 i)
    · rw [if_pos h2, if_pos h2, nm_d]
    · rw [if_neg h2, if_neg h2]
