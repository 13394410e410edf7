/-! booleans and ranges -/
def bI (b : Bool) : Int32 := cond b 1 0
theorem bI_01 (b : Bool) : bI b = 0 ∨ bI b = 1 := by cases b; exact Or.inl rfl; exact Or.inr rfl
theorem it_b0 {α : Type} {b : Bool} {A B : α} : (if bI b = 0 then A else B) = cond b B A := by cases b <;> rfl
theorem it_b1 {α : Type} {b : Bool} {A B : α} : (if ¬ bI b = 0 then A else B) = cond b A B := by cases b <;> rfl
theorem gb_b {α : Type} {b : Bool} {k : Option α} : gb (bI b) k = k := gb_t (bI_01 b)
theorem cd_t {α : Type} {A B : α} : cond true A B = A := rfl
theorem cd_f {α : Type} {A B : α} : cond false A B = B := rfl
theorem cd_s {b : Bool} : (cond b (some 1) (some 0) : Option Int32) = some (bI b) := by cases b <;> rfl
theorem cd_s' {b : Bool} : (cond b (some 0) (some 1) : Option Int32) = some (bI (!b)) := by cases b <;> rfl
theorem cd_f0 {b c : Bool} : (cond b (some (bI c)) (some 0) : Option Int32) = some (bI (b && c)) := by cases b <;> rfl
def btw (v a b : Int32) : Bool := decide (a ≤ v ∧ v ≤ b)
theorem c_isIn (v a b : Int32) : mX7_isIn v a b = some (bI (btw v a b)) := by
  unfold mX7_isIn btw
  by_cases h1 : v < a
  · rw [if_pos h1, decide_eq_false (fun h => Int32.not_lt.mpr h.1 h1)]; rfl
  · rw [if_neg h1]
    by_cases h2 : b < v
    · rw [if_pos h2, decide_eq_false (fun h => Int32.not_lt.mpr h.2 h2)]; rfl
    · rw [if_neg h2, decide_eq_true ⟨Int32.not_lt.mp h1, Int32.not_lt.mp h2⟩]; rfl
theorem o_in (v a b : Int32) : mX8_in v a b = some (bI (btw v a b)) := c_isIn v a b
theorem btw_t {v : Int32} {a b : Nat} (hb : b < 2 ^ 31) (h : btw v (nI a) (nI b) = true) (ha : a < 2 ^ 31) : ∃ w, a ≤ w ∧ w ≤ b ∧ v = nI w := by
  have h := of_decide_eq_true h
  rcases i_cases v with hv | ⟨n, hn, rfl⟩
  · exact absurd h.1 (neg_nle hv ha)
  · exact ⟨n, (n_le ha hn).mp h.1, (n_le hn hb).mp h.2, rfl⟩
theorem btw_f {v : Int32} {a b : Nat} (hb : b < 2 ^ 31) (ha : a < 2 ^ 31) (h : btw v (nI a) (nI b) = false) : ∀ w, a ≤ w → w ≤ b → v ≠ nI w := by
  intro w h1 h2 e
  have h := of_decide_eq_false h
  rw [e] at h
  exact h ⟨(n_le ha (by omega)).mpr h1, (n_le (by omega) hb).mpr h2⟩
theorem btw_n {w a b : Nat} (hb : b < 2 ^ 31) (ha : a < 2 ^ 31) (hw : w < 2 ^ 31) : btw (nI w) (nI a) (nI b) = decide (a ≤ w ∧ w ≤ b) := by
  unfold btw
  by_cases h : a ≤ w ∧ w ≤ b
  · rw [decide_eq_true h, decide_eq_true ⟨(n_le ha hw).mpr h.1, (n_le hw hb).mpr h.2⟩]
  · rw [decide_eq_false h, decide_eq_false (fun q => h ⟨(n_le ha hw).mp q.1, (n_le hw hb).mp q.2⟩)]
theorem inR_t {v : Int32} {n : Nat} (hn : n < 2 ^ 31) (h : inR v n = true) : ∃ j, j < n ∧ v = nI j := vp_in_of (inR_iff.mp h) hn
theorem inR_n {j n : Nat} (hj : j < 2 ^ 31) : inR (nI j) n = decide (j < n) := by
  unfold inR
  have e := nI_clamp hj
  by_cases h : j < n
  · rw [decide_eq_true h, decide_eq_true]
    rintro (q | q)
    · exact nI_pos hj q
    · rw [e] at q; omega
  · rw [decide_eq_false h, decide_eq_false]
    intro q
    exact q (Or.inr (by rw [e]; omega))
theorem inR_neg {v : Int32} {n : Nat} (h : v < 0) : inR v n = false := by
  unfold inR
  rw [decide_eq_false (fun q => q (Or.inl h))]
theorem inR_0 (v : Int32) : inR v 0 = false := by
  unfold inR
  rw [decide_eq_false (fun q => q (Or.inr (Nat.zero_le _)))]
theorem inR_f {v : Int32} {n : Nat} (h : inR v n = false) {j : Nat} (hj : j < n) (hn : n < 2 ^ 31) : v ≠ nI j := by
  intro e
  rw [e, inR_n (by omega), decide_eq_true hj] at h
  exact Bool.noConfusion h
theorem btw_R {v : Int32} {n : Nat} (hn : n < 1000) : btw v 0 (nI n - 1) = inR v n := by
  rcases i_cases v with hv | ⟨k, hk, rfl⟩
  · rw [inR_neg hv]; unfold btw
    rw [decide_eq_false (fun h => neg_nle (a := 0) hv (by decide) h.1)]
  · rw [inR_n hk]
    cases n with
    | zero =>
      unfold btw
      rw [decide_eq_false, decide_eq_false]
      · omega
      · rintro ⟨-, h⟩
        rw [show nI 0 - 1 = (-1 : Int32) from by decide] at h
        have e1 := Int32.le_iff_toInt_le.mp h
        rw [nI_toInt hk] at e1
        have : ((-1 : Int32)).toInt = -1 := by decide
        omega
    | succ n =>
      rw [nI_pred, show (0 : Int32) = nI 0 from rfl, btw_n (by omega) (by decide) hk]
      by_cases h : k < n + 1
      · rw [decide_eq_true h, decide_eq_true]; omega
      · rw [decide_eq_false h, decide_eq_false]; omega
/-! the land -/
def LR (g : Nat → Nat) (f t : Nat → Nat → Nat) : Prop := 5 ≤ g 0 ∧ g 0 ≤ 30 ∧ g 1 ≤ 15 ∧ g 2 ≤ 16 ∧ 1 ≤ g 3 ∧ g 3 ≤ 9 ∧ g 4 ≤ 50 ∧ 1 ≤ g 5 ∧ g 5 ≤ 6 ∧ g 6 < 32 ∧ g 7 ≤ 12 ∧ (∀ s, s < g 5 → 1 ≤ f 0 s ∧ f 0 s ≤ 50 ∧ f 1 s ≤ 99 ∧ f 2 s ≤ 99 ∧ 1 ≤ f 3 s ∧ f 3 s ≤ 60 ∧ f 4 s ≤ 99 ∧ f 5 s ≤ 16) ∧ (∀ k, k < g 7 → t 0 k < 5 ∧ t 1 k < 5 ∧ t 2 k ≤ 99)
def LC (mL : Mem) (g : Nat → Nat) (f t : Nat → Nat → Nat) : Prop := mL 0 0 = nI (g 0) ∧ mL 0 1 = nI (g 1) ∧ mL 0 2 = nI (g 2) ∧ mL 0 3 = nI (g 3) ∧ mL 0 4 = nI (g 4) ∧ mL 0 5 = nI (g 5) ∧ mL 0 12 = nI (g 6) ∧ mL 0 13 = nI (g 7) ∧ (∀ s, s < g 5 → ∀ w, w < 6 → mL (w + 1) s = nI (f w s)) ∧ (∀ k, k < g 7 → ∀ w, w < 3 → mL (w + 7) k = nI (t w k))
def LM (mO : Mem) (g : Nat → Nat) (f t : Nat → Nat → Nat) : Prop := mO 0 13 = nI (g 0) ∧ mO 0 14 = nI (g 1) ∧ mO 0 15 = nI (g 2) ∧ mO 0 16 = nI (g 3) ∧ mO 0 17 = nI (g 4) ∧ mO 0 18 = nI (g 5) ∧ mO 0 20 = nI (g 6) ∧ mO 0 21 = nI (g 7) ∧ (∀ s, s < g 5 → ∀ w, w < 6 → mO 6 (6 * s + w) = nI (f w s)) ∧ (∀ k, k < g 7 → ∀ w, w < 3 → mO 7 (3 * k + w) = nI (t w k))
theorem LM.fr {mO mO' : Mem} {g : Nat → Nat} {f t : Nat → Nat → Nat} {cs fs : List Nat} (h : LM mO g f t) (hF : Fr cs fs mO mO') (h6 : 6 ∉ cs) (h7 : 7 ∉ cs) (hf : ∀ i ∈ [13, 14, 15, 16, 17, 18, 20, 21], i ∉ fs) : LM mO' g f t := by
  obtain ⟨a1, a2, a3, a4, a5, a6, a7, a8, a9, a10⟩ := h
  have e : ∀ i ∈ [13, 14, 15, 16, 17, 18, 20, 21], mO' 0 i = mO 0 i := fun i hi => hF.2 i (hf i hi)
  refine ⟨(e 13 (by decide)).trans a1, (e 14 (by decide)).trans a2, (e 15 (by decide)).trans a3, (e 16 (by decide)).trans a4, (e 17 (by decide)).trans a5, (e 18 (by decide)).trans a6, (e 20 (by decide)).trans a7, (e 21 (by decide)).trans a8, ?_, ?_⟩
  · rw [hF.1 6 h6 (by decide)]; exact a9
  · rw [hF.1 7 h7 (by decide)]; exact a10
theorem c_hasSort {mL : Mem} {n : Nat} (h : mL 0 5 = nI n) (hn : n < 1000) (v : Int32) : mX1_hasSort mL v = some (bI (inR v n)) := by
  unfold mX1_hasSort
  rw [h]
  rcases i_cases v with hv | ⟨k, hk, rfl⟩
  · rw [if_pos hv, inR_neg hv]; rfl
  · rw [if_neg (nI_pos hk), inR_n hk]
    by_cases hc : k < n
    · rw [if_neg (by rw [n_le (by omega) hk]; omega), decide_eq_true hc]; rfl
    · rw [if_pos (by rw [n_le (by omega) hk]; omega), decide_eq_false hc]; rfl
def GX (mX mL : Mem) (n : Nat) : Prop := (mX 0 10 = 0 ∧ n = 0) ∨ (mX 0 10 = 1 ∧ mL 0 5 = nI n ∧ 0 < n)
theorem c_isSort {mX mL : Mem} {n : Nat} (h : GX mX mL n) (hn : n < 1000) (v : Int32) : mX7_isSort mX mL v = some (bI (inR v n)) := by
  unfold mX7_isSort
  rcases h with ⟨h1, h2⟩ | ⟨h1, h2, h3⟩
  · rw [if_pos h1, h2, inR_0]; rfl
  · rw [if_neg (by rw [h1]; decide), c_hasSort h2 hn, bn_s, it_b0, cd_s]
theorem o_isSort {mO : Mem} {ml : Lem} {n : Nat} (h : mO 0 18 = nI n) (hn : n < 1000) (v : Int32) : mX8_isSort mO ml v = some (bI (inR v n)) := by
  unfold mX8_isSort
  rw [o_in, bn_s, gb_b, h, btw_R hn]
theorem c_isNight (v : Int32) : mX7_isNight v = some (bI (btw v 0 500)) := by
  unfold mX7_isNight
  rw [c_isIn, bn_s, gb_b]
theorem o_isNight {mO : Mem} {ml : Lem} {n : Nat} (h : mO 0 18 = nI n) (hn : n < 1000) (v : Int32) : mX8_isNight mO ml v = some (bI (decide (0 < n) && btw v 0 500)) := by
  unfold mX8_isNight
  rw [h, o_in, bn_s, it_b0, cd_s]
  by_cases h0 : 0 < n
  · rw [if_neg (by rw [n_le0 (by omega)]; omega), decide_eq_true h0]; rfl
  · rw [if_pos (by rw [n_le0 (by omega)]; omega), decide_eq_false h0]; rfl
theorem o_of {mO : Mem} {ml : Lem} {s : Nat} (w : Nat) (hw : w < 6) (hs : s < 6) : mX8_of mO ml (nI s) (nI w) = some (mO 6 (6 * s + w)) := by
  unfold mX8_of
  rw [show ((6 : Int32) * nI s) + nI w = nI (6 * s + w) from by rw [show (6 : Int32) = nI 6 from rfl, n_mul, n_add], gi_n (by omega) (by omega), nm_d, nI_clamp (by omega)]
theorem o_la {mO : Mem} {ml : Lem} {s : Nat} (w : Nat) (hw : w < 6) (hs : s < 40) : mX8_loanAt mO ml (nI s) (nI w) = some (mO 10 (6 * s + w)) := by
  unfold mX8_loanAt
  rw [show ((6 : Int32) * nI s) + nI w = nI (6 * s + w) from by rw [show (6 : Int32) = nI 6 from rfl, n_mul, n_add], gi_n (by omega) (by omega), nm_d, nI_clamp (by omega)]
theorem o_of0 {mO : Mem} {ml : Lem} {s : Nat} (hs : s < 6) : mX8_of mO ml (nI s) (0 : Int32) = some (mO 6 (6 * s + 0)) := o_of 0 (by decide) hs
theorem o_la0 {mO : Mem} {ml : Lem} {s : Nat} (hs : s < 40) : mX8_loanAt mO ml (nI s) (0 : Int32) = some (mO 10 (6 * s + 0)) := o_la 0 (by decide) hs
theorem o_of1 {mO : Mem} {ml : Lem} {s : Nat} (hs : s < 6) : mX8_of mO ml (nI s) (1 : Int32) = some (mO 6 (6 * s + 1)) := o_of 1 (by decide) hs
theorem o_la1 {mO : Mem} {ml : Lem} {s : Nat} (hs : s < 40) : mX8_loanAt mO ml (nI s) (1 : Int32) = some (mO 10 (6 * s + 1)) := o_la 1 (by decide) hs
theorem o_of2 {mO : Mem} {ml : Lem} {s : Nat} (hs : s < 6) : mX8_of mO ml (nI s) (2 : Int32) = some (mO 6 (6 * s + 2)) := o_of 2 (by decide) hs
theorem o_la2 {mO : Mem} {ml : Lem} {s : Nat} (hs : s < 40) : mX8_loanAt mO ml (nI s) (2 : Int32) = some (mO 10 (6 * s + 2)) := o_la 2 (by decide) hs
theorem o_of3 {mO : Mem} {ml : Lem} {s : Nat} (hs : s < 6) : mX8_of mO ml (nI s) (3 : Int32) = some (mO 6 (6 * s + 3)) := o_of 3 (by decide) hs
theorem o_la3 {mO : Mem} {ml : Lem} {s : Nat} (hs : s < 40) : mX8_loanAt mO ml (nI s) (3 : Int32) = some (mO 10 (6 * s + 3)) := o_la 3 (by decide) hs
theorem o_of4 {mO : Mem} {ml : Lem} {s : Nat} (hs : s < 6) : mX8_of mO ml (nI s) (4 : Int32) = some (mO 6 (6 * s + 4)) := o_of 4 (by decide) hs
theorem o_la4 {mO : Mem} {ml : Lem} {s : Nat} (hs : s < 40) : mX8_loanAt mO ml (nI s) (4 : Int32) = some (mO 10 (6 * s + 4)) := o_la 4 (by decide) hs
theorem o_of5 {mO : Mem} {ml : Lem} {s : Nat} (hs : s < 6) : mX8_of mO ml (nI s) (5 : Int32) = some (mO 6 (6 * s + 5)) := o_of 5 (by decide) hs
theorem o_la5 {mO : Mem} {ml : Lem} {s : Nat} (hs : s < 40) : mX8_loanAt mO ml (nI s) (5 : Int32) = some (mO 10 (6 * s + 5)) := o_la 5 (by decide) hs

/-! nights at which is struck -/
def stk (v : Int32) (gap : Nat) : Bool := decide (0 < v) && decide (v.toNatClampNeg % gap = 0)
theorem stk_n {t gap : Nat} (ht : t < 2 ^ 31) : stk (nI t) gap = (decide (0 < t) && decide (t % gap = 0)) := by
  unfold stk
  rw [nI_clamp ht]
  by_cases h : 0 < t
  · rw [decide_eq_true h, decide_eq_true (by rw [show (0 : Int32) = nI 0 from rfl, n_lt (by decide) ht]; exact h)]
  · rw [decide_eq_false h, decide_eq_false (by rw [show (0 : Int32) = nI 0 from rfl, n_lt (by decide) ht]; exact h)]
theorem stk_neg {v : Int32} (h : v ≤ 0) (gap : Nat) : stk v gap = false := by
  unfold stk
  rw [decide_eq_false (Int32.not_lt.mpr h)]; rfl
theorem pos_nI {v : Int32} (h : ¬ v ≤ 0) : ∃ t : Nat, 0 < t ∧ t < 2 ^ 31 ∧ v = nI t := by
  rcases i_cases v with hv | ⟨t, ht, rfl⟩
  · exact absurd (Int32.le_of_lt hv) h
  · exact ⟨t, by rw [n_le0 ht] at h; omega, ht, rfl⟩
theorem mod_two (t P e : Nat) : t % (P * e) = 0 ↔ t % P = 0 ∧ t / P % e = 0 := by
  rw [Nat.mod_mul]
  constructor
  · intro h
    have h1 : t % P = 0 := by omega
    refine ⟨h1, ?_⟩
    rw [h1, Nat.zero_add] at h
    by_cases hP : P = 0
    · subst hP
      rw [Nat.mod_zero] at h1
      rw [h1]; simp
    · exact (Nat.mul_eq_zero.mp h).resolve_left hP
  · rintro ⟨h1, h2⟩
    rw [h1, h2]; simp
theorem c_struck {mL : Mem} {P e : Nat} (h0 : mL 0 0 = nI P) (h3 : mL 0 3 = nI e) (hP : 0 < P) (hP2 : P ≤ 30) (he : 0 < e) (he2 : e ≤ 9) (v : Int32) : mX1_isStruckAt mL v = some (bI (stk v (P * e))) := by
  unfold mX1_isStruckAt
  have hb : P * e ≤ 270 := Nat.mul_le_mul hP2 he2
  have hp : 0 < P * e := Nat.mul_pos hP he
  rw [h0, h3, n_mul, nm_d, if_neg (by rw [n_le0 (by omega)]; omega)]
  by_cases hv : v ≤ 0
  · rw [if_pos hv, stk_neg hv]; rfl
  · obtain ⟨t, ht0, ht, rfl⟩ := pos_nI hv
    rw [if_neg hv, gz_t (by rw [n_eq0 (by omega)]; omega), pk_rem ht hp (by omega), stk_n ht, decide_eq_true ht0]
    have hm : t % (P * e) < P * e := Nat.mod_lt _ hp
    by_cases hc : t % (P * e) = 0
    · rw [if_neg (fun q => q (by rw [n_eq0 (by omega)]; exact hc)), decide_eq_true hc]; rfl
    · rw [if_pos (by rw [n_eq0 (by omega)]; exact hc), decide_eq_false hc]; rfl
theorem o_struck {mO : Mem} {ml : Lem} {P e : Nat} (h0 : mO 0 13 = nI P) (hP : 0 < P) (hP2 : P ≤ 30) (he : 0 < e) (he2 : e ≤ 9) (v : Int32) : mX8_isStruck mO ml v (nI e) = some (bI (stk v (P * e))) := by
  unfold mX8_isStruck
  by_cases hv : v ≤ 0
  · rw [if_pos hv, stk_neg hv]; rfl
  · obtain ⟨t, ht0, ht, rfl⟩ := pos_nI hv
    have hd : t / P < 2 ^ 31 := Nat.lt_of_le_of_lt (Nat.div_le_self _ _) ht
    have hm1 : t % P < P := Nat.mod_lt _ hP
    have hm2 : t / P % e < e := Nat.mod_lt _ he
    rw [if_neg hv, h0, gz_t (by rw [n_eq0 (by omega)]; omega), gz_t (by rw [n_eq0 (by omega)]; omega), gz_t (by rw [n_eq0 (by omega)]; omega), pk_rem ht hP (by omega), pk_div ht hP (by omega), pk_rem hd he (by omega), stk_n ht, decide_eq_true ht0]
    by_cases hc : t % P = 0
    · rw [if_neg (fun q => q (by rw [n_eq0 (by omega)]; exact hc))]
      by_cases hc2 : t / P % e = 0
      · rw [if_neg (fun q => q (by rw [n_eq0 (by omega)]; exact hc2)), decide_eq_true ((mod_two t P e).mpr ⟨hc, hc2⟩)]; rfl
      · rw [if_pos (by rw [n_eq0 (by omega)]; exact hc2), decide_eq_false (fun q => hc2 ((mod_two t P e).mp q).2)]; rfl
    · rw [if_pos (by rw [n_eq0 (by omega)]; exact hc), decide_eq_false (fun q => hc ((mod_two t P e).mp q).1)]; rfl
