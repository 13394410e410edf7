/-! what comes back of a loan -/
def lft (S Q : Nat) : Nat := 256 - S * (16 - Q)
def bki (L : Nat) : Nat → Nat
  | 0 => 1000
  | k + 1 => bki L k * L / 256
def bkn (gap n Y : Nat) : Nat := (n + Y - 1) / gap - n / gap
def bkv (b K : Nat) : Nat := b + (1000 - b) * K / 16
def bk (g : Nat → Nat) (f : Nat → Nat → Nat) (i n S E : Nat) : Nat := bkv (bki (lft S (g 1)) (bkn (g 0 * E) n (f 3 i))) (f 5 i)
theorem bki_le {L : Nat} (h : L ≤ 256) (k : Nat) : bki L k ≤ 1000 := by
  induction k with
  | zero => exact Nat.le_refl _
  | succ k ih =>
    show bki L k * L / 256 ≤ 1000
    have : bki L k * L ≤ 1000 * 256 := Nat.mul_le_mul ih h
    omega
theorem bkv_le {b K : Nat} (hb : b ≤ 1000) (hK : K ≤ 16) : bkv b K ≤ 1000 := by
  have : (1000 - b) * K ≤ (1000 - b) * 16 := Nat.mul_le_mul (Nat.le_refl _) hK
  unfold bkv
  omega
theorem lft_le (S Q : Nat) : lft S Q ≤ 256 := Nat.sub_le _ _
theorem bk_le {g : Nat → Nat} {f : Nat → Nat → Nat} {i n S E : Nat} (hK : f 5 i ≤ 16) : bk g f i n S E ≤ 1000 := bkv_le (bki_le (lft_le _ _) _) hK
theorem lft_i {S Q : Nat} (hS : S ≤ 16) (hQ : Q ≤ 15) : (256 : Int32) - nI S * ((16 : Int32) - nI Q) = nI (lft S Q) := by
  have h : S * (16 - Q) ≤ 16 * 16 := Nat.mul_le_mul hS (by omega)
  rw [show (16 : Int32) = nI 16 from rfl, pk_sub (by omega), n_mul, show (256 : Int32) = nI 256 from rfl, pk_sub (by omega)]
  rfl
theorem bkv_i {b K : Nat} (hb : b ≤ 1000) (hK : K ≤ 16) : nI b + ((((1000 : Int32) - nI b) * nI K) / (16 : Int32)) = nI (bkv b K) := by
  have : (1000 - b) * K ≤ 1000 * 16 := Nat.mul_le_mul (by omega) hK
  rw [show (1000 : Int32) = nI 1000 from rfl, pk_sub hb, n_mul, show (16 : Int32) = nI 16 from rfl, pk_div (by omega) (by decide) (by decide), n_add]
  rfl
theorem bki_i {L b : Nat} (hb : b ≤ 1000) (hL : L ≤ 256) : (nI b * nI L) / (256 : Int32) = nI (b * L / 256) := by
  have : b * L ≤ 1000 * 256 := Nat.mul_le_mul hb hL
  rw [n_mul, show (256 : Int32) = nI 256 from rfl, pk_div (by omega) (by decide) (by decide)]
theorem dv_s {a b : Nat} (hb : 0 < b) (h : (a + 1) % b = 0) : (a + 1) / b = a / b + 1 := by
  have h1 := Nat.div_add_mod (a + 1) b
  rw [h, Nat.add_zero] at h1
  have hq : 0 < (a + 1) / b := by
    rcases Nat.eq_zero_or_pos ((a + 1) / b) with h0 | h0
    · rw [h0] at h1; omega
    · exact h0
  generalize (a + 1) / b = q at h1 hq
  obtain ⟨r, rfl⟩ : ∃ r, q = r + 1 := ⟨q - 1, by omega⟩
  congr 1
  symm
  apply Nat.div_eq_of_lt_le
  · rw [Nat.mul_comm]; rw [Nat.mul_add] at h1; omega
  · rw [Nat.mul_comm]; omega
theorem dv_n {a b : Nat} (hb : 0 < b) (h : ¬ (a + 1) % b = 0) : (a + 1) / b = a / b := by
  have h1 := Nat.div_add_mod (a + 1) b
  have h2 := Nat.mod_lt (a + 1) hb
  symm
  apply Nat.div_eq_of_lt_le
  · rw [Nat.mul_comm]; omega
  · rw [Nat.mul_comm, Nat.mul_add]; omega
theorem c_back {mL : Mem} {g : Nat → Nat} {f t : Nat → Nat → Nat} (hR : LR g f t) (hC : LC mL g f t) {i n S E : Nat} (hi : i < g 5) (hn : n ≤ 500) (hS : S ≤ 16) (hE : 1 ≤ E) (hE2 : E ≤ 9) : mX4_backOf mL (nI i) (nI n) (nI S) (nI E) = some (nI (bk g f i n S E)) := by
  obtain ⟨p1, p2, q1, -, -, -, -, -, n6, -, -, rs, -⟩ := id hR
  obtain ⟨-, -, -, -, y1, y2, -, k1⟩ := rs i hi
  obtain ⟨c0, c1, -, -, -, -, -, -, cs, -⟩ := hC
  have y : mL 4 i = nI (f 3 i) := cs i hi 3 (by decide)
  have k : mL 6 i = nI (f 5 i) := cs i hi 5 (by decide)
  have hg1 : 5 ≤ g 0 * E := Nat.le_trans p1 (Nat.le_mul_of_pos_right _ hE)
  have hg2 : g 0 * E ≤ 270 := Nat.mul_le_mul p2 hE2
  unfold bk
  generalize hgap : g 0 * E = gap at hg1 hg2
  have hL : lft S (g 1) ≤ 256 := lft_le _ _
  have hd0 : n / gap ≤ n := Nat.div_le_self _ _
  unfold mX4_backOf
  rw [c0, n_mul, hgap, nm_d, if_pos (by rw [show (1 : Int32) = nI 1 from rfl, n_le (by decide) (by omega)]; omega), gi_n (by omega) (by decide), nI_clamp (by omega), y, c1, n_add, nm_d, lft_i hS q1, nm_d, gz_t (by rw [n_eq0 (by omega)]; omega), pk_div (by omega) (by omega) (by omega), nI_s, n_mul, nm_d]
  generalize lft S (g 1) = L at hL
  have hN : bkn gap n (f 3 i) < 1000 := by
    have h1 : (n + f 3 i - 1) / gap ≤ n + f 3 i - 1 := Nat.div_le_self _ _
    have h2 : bkn gap n (f 3 i) ≤ (n + f 3 i - 1) / gap := Nat.sub_le _ _
    exact Nat.lt_of_le_of_lt (Nat.le_trans h2 h1) (by omega)
  have hmono : n / gap ≤ (n + f 3 i - 1) / gap := Nat.div_le_div_right (by omega)
  have hb : ∀ j, j ≤ bkn gap n (f 3 i) → (n / gap + 1 + j) * gap ≤ n + f 3 i - 1 + gap := by
    intro j hj
    have h1 : n / gap + 1 + j ≤ (n + f 3 i - 1) / gap + 1 := by unfold bkn at hj; omega
    have h2 := Nat.mul_le_mul_right gap h1
    have h3 := Nat.div_mul_le_self (n + f 3 i - 1) gap
    rw [Nat.add_mul ((n + f 3 i - 1) / gap) 1 gap, Nat.one_mul] at h2
    omega
  have hit := itr_run (B := fun q : Int32 × Int32 => mX4_backOf_s60 (nI i) (nI gap) (nI (n + f 3 i)) (nI L) mL q.1 q.2) (fun j => (nI (bki L j), nI ((n / gap + 1 + j) * gap))) (r := nI (bki L (bkn gap n (f 3 i)))) (n := bkn gap n (f 3 i)) (fun j hj => by
      have h0 := hb j (by omega)
      have h1 : n / gap + 1 + j ≤ (n + f 3 i - 1) / gap := by unfold bkn at hj; omega
      have h2 := Nat.mul_le_mul_right gap h1
      have h3 := Nat.div_mul_le_self (n + f 3 i - 1) gap
      show mX4_backOf_s60 (nI i) (nI gap) (nI (n + f 3 i)) (nI L) mL (nI (bki L j)) (nI ((n / gap + 1 + j) * gap)) = _
      unfold mX4_backOf_s60
      rw [if_neg (by rw [n_le (by omega) (by omega)]; omega), bki_i (bki_le hL j) hL, nm_d, n_add, nm_d, show (n / gap + 1 + j) * gap + gap = (n / gap + 1 + (j + 1)) * gap from by rw [← Nat.add_assoc, Nat.add_mul _ 1 gap, Nat.one_mul]]
      rfl) (by
      have h0 := hb _ (Nat.le_refl _)
      show mX4_backOf_s60 (nI i) (nI gap) (nI (n + f 3 i)) (nI L) mL (nI (bki L _)) (nI ((n / gap + 1 + bkn gap n (f 3 i)) * gap)) = _
      unfold mX4_backOf_s60
      rw [if_pos]
      rw [n_le (by omega) (by omega)]
      have h1 : n / gap + 1 + bkn gap n (f 3 i) = (n + f 3 i - 1) / gap + 1 := by unfold bkn; omega
      rw [h1]
      have h2 : (n + f 3 i - 1) / gap < (n + f 3 i - 1) / gap + 1 := Nat.lt_succ_self _
      rw [Nat.div_lt_iff_lt_mul (by omega)] at h2
      omega) 0 FU (Nat.zero_le _) (FU_gt (by omega))
  unfold mX4_backOf_L60
  rw [show n / gap + 1 = n / gap + 1 + 0 from rfl, show (1000 : Int32) = nI (bki L 0) from rfl, hit, bn_s, nm_d, gi_n (by omega) (by decide), nI_clamp (by omega), k, show nI (bki L 0) = (1000 : Int32) from rfl, bkv_i (bki_le hL _) k1, nm_d]
theorem o_back {mO : Mem} {ml : Lem} {g : Nat → Nat} {f t : Nat → Nat → Nat} (hR : LR g f t) (hM : LM mO g f t) {i n S E : Nat} (hi : i < g 5) (hn : n ≤ 500) (hS : S ≤ 16) (hE : 1 ≤ E) (hE2 : E ≤ 9) : mX8_backOf mO ml (nI i) (nI n) (nI S) (nI E) = some (nI (bk g f i n S E)) := by
  obtain ⟨p1, p2, q1, -, -, -, -, -, n6, -, -, rs, -⟩ := id hR
  obtain ⟨-, -, -, -, y1, y2, -, k1⟩ := rs i hi
  obtain ⟨c0, c1, -, -, -, -, -, -, cs, -⟩ := hM
  have y : mO 6 (6 * i + 3) = nI (f 3 i) := cs i hi 3 (by decide)
  have k : mO 6 (6 * i + 5) = nI (f 5 i) := cs i hi 5 (by decide)
  have hg1 : 5 ≤ g 0 * E := Nat.le_trans p1 (Nat.le_mul_of_pos_right _ hE)
  have hg2 : g 0 * E ≤ 270 := Nat.mul_le_mul p2 hE2
  have hst := fun v => o_struck (ml := ml) c0 (show 0 < g 0 by omega) p2 (show 0 < E by omega) hE2 v
  unfold bk
  generalize hgap : g 0 * E = gap at hg1 hg2 hst
  have hL : lft S (g 1) ≤ 256 := lft_le _ _
  unfold mX8_backOf
  rw [nI_s, nm_d]
  have hb : (256 : Int32) - nI S * ((16 : Int32) - mO 0 14) = nI (lft S (g 1)) := by rw [c1]; exact lft_i hS q1
  generalize lft S (g 1) = L at hL hb
  have hit := itr_run (B := fun q : Int32 × Int32 => mX8_backOf_s10 (nI i) (nI n) (nI S) (nI E) mO ml q.1 q.2) (fun j => (nI (bki L ((n + j) / gap - n / gap)), nI (n + 1 + j))) (r := nI (bki L (bkn gap n (f 3 i)))) (n := f 3 i - 1) (fun j hj => by
      show mX8_backOf_s10 (nI i) (nI n) (nI S) (nI E) mO ml (nI (bki L ((n + j) / gap - n / gap))) (nI (n + 1 + j)) = some (Sum.inl (nI (bki L ((n + (j + 1)) / gap - n / gap)), nI (n + 1 + (j + 1))))
      unfold mX8_backOf_s10
      have hm : n / gap ≤ (n + j) / gap := Nat.div_le_div_right (by omega)
      rw [o_of3 (by omega), bn_s, y, n_add, if_neg (by rw [n_le (by omega) (by omega)]; omega), hst, bn_s, it_b0, stk_n (by omega), decide_eq_true (show 0 < n + 1 + j by omega), Bool.true_and, show n + 1 + j = n + j + 1 from by omega, show n + (j + 1) = n + j + 1 from by omega]
      by_cases hc : (n + j + 1) % gap = 0
      · rw [decide_eq_true hc, cd_t, hb, bki_i (bki_le hL _) hL, nm_d, nI_s, nm_d, dv_s (by omega) hc, show (n + j) / gap + 1 - n / gap = ((n + j) / gap - n / gap) + 1 from by omega, show n + 1 + (j + 1) = n + j + 1 + 1 from by omega]
        rfl
      · rw [decide_eq_false hc, cd_f, nI_s, nm_d, dv_n (by omega) hc, show n + 1 + (j + 1) = n + j + 1 + 1 from by omega]) (by
      show mX8_backOf_s10 (nI i) (nI n) (nI S) (nI E) mO ml (nI (bki L ((n + (f 3 i - 1)) / gap - n / gap))) (nI (n + 1 + (f 3 i - 1))) = _
      unfold mX8_backOf_s10
      rw [o_of3 (by omega), bn_s, y, n_add, if_pos (by rw [n_le (by omega) (by omega)]; omega), show n + (f 3 i - 1) = n + f 3 i - 1 from by omega]
      rfl) 0 FU (Nat.zero_le _) (FU_gt (by omega))
  unfold mX8_backOf_L10
  have e0 : nI (bki L ((n + 0) / gap - n / gap)) = (1000 : Int32) := by
    rw [Nat.add_zero, Nat.sub_self]; rfl
  rw [e0] at hit
  rw [show n + 1 = n + 1 + 0 from rfl, hit, bn_s, nm_d, o_of5 (by omega), bn_s, k, bkv_i (bki_le hL _) k1, nm_d]
