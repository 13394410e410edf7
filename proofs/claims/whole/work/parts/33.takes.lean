/-! who gets it -/
theorem RT_max {mS mO : Mem} {ml : Lem} {n : Nat} (hn : n ≤ 6) (h18 : mO 0 18 = nI n) (h : ∀ i, i < n → MG (mS 3 i) (mO 19 i)) (v4 v5 : Int32) :
    RT (itr (fun q => mX4_greatestMargin_s7 (nI n) mS q.1 q.2.1 q.2.2) FU ((-1 : Int32), (-1 : Int32), (0 : Int32))) (itr (fun q => mX8_lends_s120 v4 v5 mO ml q.1 q.2) FU ((-1 : Int32), (0 : Int32))) (fun a b => a = b ∧ (a = -1 ∨ ∃ m, m < n ∧ a = nI m)) := by
  refine RT_itr (fun k (s : Int32 × Int32 × Int32) (t : Int32 × Int32) => ∃ j, j ≤ n ∧ k = n - j ∧ s.2.2 = nI j ∧ t.2 = nI j ∧ s.1 = t.1 ∧ ((s.1 = -1 ∧ s.2.1 = -1) ∨ ∃ m q, m < j ∧ q ≤ 400 ∧ s.1 = nI m ∧ s.2.1 = nI q ∧ mO 19 m = nI q)) ?_ FU n _ _ ⟨0, Nat.zero_le _, rfl, rfl, rfl, rfl, Or.inl ⟨rfl, rfl⟩⟩ (FU_gt (by omega))
  rintro k ⟨s1, s2, s3⟩ ⟨t1, t2⟩ ⟨j, hj, rfl, e1, e2, e3, hI⟩
  dsimp only at e1 e2 e3 hI
  subst e1; subst e2; subst e3
  show RT (mX4_greatestMargin_s7 (nI n) mS s1 s2 (nI j)) (mX8_lends_s120 v4 v5 mO ml s1 (nI j)) _
  unfold mX4_greatestMargin_s7 mX8_lends_s120
  rw [h18]
  refine RT_if Iff.rfl (fun h1 => ?_) (fun h1 => ?_)
  · rw [n_le (by omega) (by omega)] at h1
    refine RT_s ⟨rfl, ?_⟩
    rcases hI with ⟨a, -⟩ | ⟨m, q, a, -, b, -⟩
    · exact Or.inl a
    · exact Or.inr ⟨m, by omega, b⟩
  · rw [n_le (by omega) (by omega)] at h1
    simp only [gi_n (show j < 6 by omega) (show 6 < 2 ^ 31 by decide), nI_clamp (show j < 2 ^ 31 by omega), nm_d, nI_s, mX8_lends_j162]
    have hm1 : ((-1 : Int32)).toInt = -1 := by decide
    rcases h j (by omega) with ⟨q0, q1, q2, q3⟩ | ⟨q2, q3⟩
    · rw [q2, q3, if_neg (show ¬ nI q0 < 0 from nI_pos (by omega))]
      rcases hI with ⟨a, b⟩ | ⟨m, q, a, b, c, d, e⟩
      · rw [a, b, if_neg, if_pos rfl]
        · exact RT_s ⟨n - (j + 1), by omega, j + 1, by omega, rfl, rfl, rfl, rfl, Or.inr ⟨j, q0, by omega, q1, rfl, rfl, q3⟩⟩
        · intro h2
          have h3 := Int32.le_iff_toInt_le.mp h2
          rw [nI_toInt (by omega)] at h3
          omega
      · rw [c, d, if_neg (n_nm1 (show m < 2 ^ 31 by omega)), gi_n (show m < 6 by omega) (by decide), nI_clamp (show m < 2 ^ 31 by omega), e]
        refine RT_if Iff.rfl (fun _ => ?_) (fun _ => ?_)
        · exact RT_s ⟨n - (j + 1), by omega, j + 1, by omega, rfl, rfl, rfl, rfl, Or.inr ⟨m, q, by omega, b, rfl, rfl, e⟩⟩
        · exact RT_s ⟨n - (j + 1), by omega, j + 1, by omega, rfl, rfl, rfl, rfl, Or.inr ⟨j, q0, by omega, q1, rfl, rfl, q3⟩⟩
    · rw [q2, if_pos q3, if_pos]
      · refine RT_s ⟨n - (j + 1), by omega, j + 1, by omega, rfl, rfl, rfl, rfl, ?_⟩
        rcases hI with ⟨a, b⟩ | ⟨m, q, a, b, c, d, e⟩
        · exact Or.inl ⟨a, b⟩
        · exact Or.inr ⟨m, q, by omega, b, c, d, e⟩
      · rcases hI with ⟨a, b⟩ | ⟨m, q, a, b, c, d, e⟩
        · rw [b]; exact Int32.le_refl _
        · rw [d, Int32.le_iff_toInt_le, nI_toInt (by omega)]; omega
def TKQ (g : Nat → Nat) (f : Nat → Nat → Nat) (m m' : Mem) : Prop := ∀ i, i < g 5 → ∃ τ, τ ≤ f 0 i * f 2 i ∧ m 1 i = nI τ ∧ m' 18 i = nI τ
def SQ {α β : Type} (P : α → β → Prop) (a : α ⊕ α) (b : β ⊕ β) : Prop := ∃ m m', (a = .inl m ∨ a = .inr m) ∧ (b = .inl m' ∨ b = .inr m') ∧ P m m'
theorem mn_i {a c : Nat} (ha : a < 2 ^ 31) (hc : c < 2 ^ 31) : (if nI a < nI c then nI a else nI c) = nI (min a c) := by
  by_cases h : a < c
  · rw [if_pos (by rw [n_lt ha hc]; exact h), Nat.min_eq_left (by omega)]
  · rw [if_neg (by rw [n_lt ha hc]; exact h), Nat.min_eq_right (by omega)]
theorem RT_sh2 {mL mS mO : Mem} {ml : Lem} {g : Nat → Nat} {f t : Nat → Nat → Nat} (hR : LR g f t) (hC : LC mL g f t) (hM : LM mO g f t) {c : Nat} (hc : c ≤ 29700) (h1 : TKQ g f mS mO) (h2 : ∀ i, i < g 5 → MG (mS 3 i) (mO 19 i)) :
    RT (itr (fun q => mX4_shareNight_s52 mL q.1 q.2.1 q.2.2) FU (nI c, (0 : Int32), mS)) (itr (fun q => mX8_lends_s105 ml q.1 q.2.1 q.2.2) FU (nI c, (0 : Int32), mO)) (SQ (fun m m' => TKQ g f m m' ∧ Fr [1, 3] [] mS m ∧ Fr [18, 19] [] mO m')) := by
  obtain ⟨-, -, -, -, -, -, -, -, n6, -, -, rs, -⟩ := id hR
  refine RT_itr (fun k (s : Int32 × Int32 × Mem) (t : Int32 × Int32 × Mem) => ∃ j c, j ≤ g 5 ∧ c ≤ 29700 ∧ k = g 5 - j ∧ s.1 = nI c ∧ t.1 = nI c ∧ s.2.1 = nI j ∧ t.2.1 = nI j ∧ TKQ g f s.2.2 t.2.2 ∧ (∀ i, i < g 5 → MG (s.2.2 3 i) (t.2.2 19 i)) ∧ Fr [1, 3] [] mS s.2.2 ∧ Fr [18, 19] [] mO t.2.2) ?_ FU (g 5) _ _ ⟨0, c, Nat.zero_le _, hc, rfl, rfl, rfl, rfl, rfl, h1, h2, Fr.rf, Fr.rf⟩ (FU_gt (by omega))
  rintro k ⟨s1, s2, s3⟩ ⟨t1, t2, t3⟩ ⟨j, c, hj, hc, rfl, e1, e2, e3, e4, hT, hG, hF, hF'⟩
  dsimp only at e1 e2 e3 e4 hT hG hF hF'
  subst e1; subst e2; subst e3; subst e4
  show RT (mX4_shareNight_s52 mL (nI c) (nI j) s3) (mX8_lends_s105 ml (nI c) (nI j) t3) _
  unfold mX4_shareNight_s52 mX8_lends_s105 mX8_lends_L120 mX4_greatestMargin mX4_greatestMargin_L7
  have hM2 := hM.fr hF' (by decide) (by decide) (by decide)
  rw [hC.2.2.2.2.2.1, hM2.2.2.2.2.2.1]
  refine RT_if Iff.rfl (fun h => ?_) (fun h => ?_)
  · exact RT_s ⟨s3, t3, Or.inr rfl, Or.inr rfl, hT, hF, hF'⟩
  · rw [n_le (by omega) (by omega)] at h
    obtain ⟨a, b, ea, eb, rfl, hab⟩ := RT_max (ml := ml) n6 hM2.2.2.2.2.2.1 hG (nI c) (nI j)
    rw [ea, eb]
    simp only [bn_s, nm_d]
    rcases hab with rfl | ⟨m, hm, rfl⟩
    · rw [if_neg (fun q => q rfl), if_neg (fun q => q rfl)]
      exact RT_s ⟨s3, t3, Or.inl rfl, Or.inl rfl, hT, hF, hF'⟩
    · obtain ⟨-, m50, -, w99, -⟩ := rs m hm
      have hp : f 0 m * f 2 m ≤ 50 * 99 := Nat.mul_le_mul m50 w99
      have c1 : mL 1 m = nI (f 0 m) := hC.2.2.2.2.2.2.2.2.1 m hm 0 (by decide)
      have c3 : mL 3 m = nI (f 2 m) := hC.2.2.2.2.2.2.2.2.1 m hm 2 (by decide)
      have r0 : t3 6 (6 * m + 0) = nI (f 0 m) := hM2.2.2.2.2.2.2.2.2.1 m hm 0 (by decide)
      have r2 : t3 6 (6 * m + 2) = nI (f 2 m) := hM2.2.2.2.2.2.2.2.2.1 m hm 2 (by decide)
      rw [if_pos (n_nm1 (by omega)), if_pos (n_nm1 (by omega)), o_of0 (by omega), bn_s, o_of2 (by omega), bn_s]
      simp only [gi_n (show m < 6 by omega) (show 6 < 2 ^ 31 by decide), nI_clamp (show m < 2 ^ 31 by omega), c1, c3, r0, r2, n_mul, nI_s, mn_i (show f 0 m * f 2 m < 2 ^ 31 by omega) (show c < 2 ^ 31 by omega), upi_d, reduceIte, upd_d, pk_sub (Nat.min_le_right (f 0 m * f 2 m) c)]
      refine RT_s ⟨g 5 - (j + 1), by omega, j + 1, c - min (f 0 m * f 2 m) c, by omega, by omega, rfl, rfl, rfl, rfl, rfl, fun i hi => ?_, fun i hi => ?_, (hF.upi (by decide) (by decide)).upi (by decide) (by decide), (hF'.upi (by decide) (by decide)).upi (by decide) (by decide)⟩
      · simp only [upi_d, reduceIte, Nat.reduceEqDiff, upd_d]
        by_cases him : i = m
        · subst him
          simp only [reduceIte]
          exact ⟨_, Nat.min_le_left _ _, rfl, rfl⟩
        · simp only [if_neg him]
          exact hT i hi
      · simp only [upi_d, reduceIte, Nat.reduceEqDiff, upd_d]
        by_cases him : i = m
        · subst him
          simp only [reduceIte]
          exact Or.inr ⟨rfl, by decide⟩
        · simp only [if_neg him]
          exact hG i hi
theorem RT_lends {mL mS mO : Mem} {ml : Lem} {g : Nat → Nat} {f t : Nat → Nat → Nat} (hR : LR g f t) (hC : LC mL g f t) (hM : LM mO g f t) {n S E n' S' E' : Nat} (hn : n ≤ 500) (hS : S ≤ 16) (hE : 1 ≤ E) (hE2 : E ≤ 9) (hn' : n' ≤ 500) (hS' : S' ≤ 16) (hE' : 1 ≤ E') (hE2' : E' ≤ 9) (hb : ∀ i, i < g 5 → bk g f i n S E = bk g f i n' S' E') :
    RT (mX4_shareNight mS mL (nI n) (nI S) (nI E)) (mX8_lends mO ml (nI n') (nI S') (nI E')) (fun m m' => TKQ g f m m' ∧ Fr [1, 3] [] mS m ∧ Fr [18, 19] [] mO m') := by
  unfold mX4_shareNight mX4_shareNight_L3 mX8_lends mX8_lends_L6
  refine RT_b (RT_sh1 (mS := mS) (ml := ml) hR hC hM hn hS hE hE2 hn' hS' hE' hE2' hb) (fun m m' hm => ?_)
  obtain ⟨a1, a2, a3, a4⟩ := hm
  simp only [nm_d]
  rw [c_coin hR hC, bn_s, a1]
  unfold mX4_shareNight_L52 mX8_lends_L105
  have n6 : g 5 ≤ 6 := hR.2.2.2.2.2.2.2.2.1
  have rs := hR.2.2.2.2.2.2.2.2.2.2.2.1
  have hcn := cn_le (f := f) (n := g 5) (fun s hs => ⟨(rs s hs).2.1, (rs s hs).2.2.1⟩) (g 5) (Nat.le_refl _)
  refine RT_b (RT_sh2 (ml := ml) hR hC (hM.fr a4 (by decide) (by decide) (by decide)) (show cn f (g 5) ≤ 29700 by omega) (fun i hi => ⟨0, Nat.zero_le _, (a2 i hi).1, (a2 i hi).2.1⟩) (fun i hi => (a2 i hi).2.2)) (fun x y hxy => ?_)
  obtain ⟨z, z', hz, hz', b1, b2, b3⟩ := hxy
  have r1 : Sum.elim (fun mS => some mS) (fun mS => some mS) x = some z := by rcases hz with rfl | rfl <;> rfl
  have r2 : Sum.elim (fun mS => some mS) (fun mS => some mS) y = some z' := by rcases hz' with rfl | rfl <;> rfl
  rw [r1, r2]
  exact RT_s ⟨b1, a3.tr b2, a4.tr b3⟩
/-! a land in memories of its own -/
def mkO (g : Nat → Nat) (f t : Nat → Nat → Nat) : Mem := fun k i => if k = 0 then (if i = 13 then nI (g 0) else if i = 14 then nI (g 1) else if i = 15 then nI (g 2) else if i = 16 then nI (g 3) else if i = 17 then nI (g 4) else if i = 18 then nI (g 5) else if i = 20 then nI (g 6) else if i = 21 then nI (g 7) else 0) else if k = 6 then nI (f (i % 6) (i / 6)) else if k = 7 then nI (t (i % 3) (i / 3)) else 0
def mkL (g : Nat → Nat) (f t : Nat → Nat → Nat) : Mem := fun k i => if k = 0 then (if i = 0 then nI (g 0) else if i = 1 then nI (g 1) else if i = 2 then nI (g 2) else if i = 3 then nI (g 3) else if i = 4 then nI (g 4) else if i = 5 then nI (g 5) else if i = 12 then nI (g 6) else if i = 13 then nI (g 7) else 0) else if k ≤ 6 then nI (f (k - 1) i) else nI (t (k - 7) i)
theorem mkO_ok (g : Nat → Nat) (f t : Nat → Nat → Nat) : LM (mkO g f t) g f t := by
  refine ⟨rfl, rfl, rfl, rfl, rfl, rfl, rfl, rfl, fun s hs w hw => ?_, fun s hs w hw => ?_⟩
  · show nI (f ((6 * s + w) % 6) ((6 * s + w) / 6)) = _
    rw [show (6 * s + w) % 6 = w from by omega, show (6 * s + w) / 6 = s from by omega]
  · show nI (t ((3 * s + w) % 3) ((3 * s + w) / 3)) = _
    rw [show (3 * s + w) % 3 = w from by omega, show (3 * s + w) / 3 = s from by omega]
theorem mkL_ok (g : Nat → Nat) (f t : Nat → Nat → Nat) : LC (mkL g f t) g f t := by
  refine ⟨rfl, rfl, rfl, rfl, rfl, rfl, rfl, rfl, fun s hs w hw => ?_, fun s hs w hw => ?_⟩
  · unfold mkL
    rw [if_neg (by omega), if_pos (by omega), Nat.add_sub_cancel]
  · unfold mkL
    rw [if_neg (by omega), if_neg (by omega), Nat.add_sub_cancel]
/-! what is taken depends on the land, the night and the law alone -/
def TKP (g : Nat → Nat) (f t : Nat → Nat → Nat) (n S E : Nat) (τ : Nat → Nat) : Prop :=
  (∀ i, i < g 5 → τ i ≤ f 0 i * f 2 i) ∧
  (∀ mS mL : Mem, LC mL g f t → HT (mX4_shareNight mS mL (nI n) (nI S) (nI E)) (fun m => (∀ i, i < g 5 → m 1 i = nI (τ i)) ∧ Fr [1, 3] [] mS m)) ∧
  (∀ (mO : Mem) (ml : Lem), LM mO g f t → HT (mX8_lends mO ml (nI n) (nI S) (nI E)) (fun m => (∀ i, i < g 5 → m 18 i = nI (τ i)) ∧ Fr [18, 19] [] mO m))
theorem tk_two {g : Nat → Nat} {f t : Nat → Nat → Nat} (hR : LR g f t) {n S E n' S' E' : Nat} (hn : n ≤ 500) (hS : S ≤ 16) (hE : 1 ≤ E) (hE2 : E ≤ 9) (hn' : n' ≤ 500) (hS' : S' ≤ 16) (hE' : 1 ≤ E') (hE2' : E' ≤ 9) (hb : ∀ i, i < g 5 → bk g f i n S E = bk g f i n' S' E') : ∃ τ, TKP g f t n S E τ ∧ TKP g f t n' S' E' τ := by
  have n6 : g 5 ≤ 6 := hR.2.2.2.2.2.2.2.2.1
  have rs := hR.2.2.2.2.2.2.2.2.2.2.2.1
  have hlt : ∀ i, i < g 5 → f 0 i * f 2 i < 2 ^ 31 := fun i hi => by
    have : f 0 i * f 2 i ≤ 50 * 99 := Nat.mul_le_mul (rs i hi).2.1 (rs i hi).2.2.2.1
    omega
  obtain ⟨m0, m0', e0, e0', q0, -, -⟩ := RT_lends (mS := fun _ _ => 0) (ml := fun _ _ => 0) hR (mkL_ok g f t) (mkO_ok g f t) hn hS hE hE2 hn hS hE hE2 (fun _ _ => rfl)
  refine ⟨fun i => (m0 1 i).toNatClampNeg, ?_, ?_⟩
  all_goals
    have hτ : ∀ i, i < g 5 → (m0 1 i).toNatClampNeg ≤ f 0 i * f 2 i ∧ m0 1 i = nI (m0 1 i).toNatClampNeg := fun i hi => by
      obtain ⟨τ, t1, t2, t3⟩ := q0 i hi
      have := hlt i hi
      rw [t2, nI_clamp (by omega)]
      exact ⟨t1, rfl⟩
    have hτ' : ∀ i, i < g 5 → m0' 18 i = nI (m0 1 i).toNatClampNeg := fun i hi => by
      obtain ⟨τ, t1, t2, t3⟩ := q0 i hi
      have := hlt i hi
      rw [t2, nI_clamp (by omega)]
      exact t3
    refine ⟨fun i hi => (hτ i hi).1, fun mS mL hC => ?_, fun mO ml hM => ?_⟩
  · obtain ⟨m, m', e, e', q, F1, F2⟩ := RT_lends (mS := mS) (mO := mkO g f t) (ml := fun _ _ => 0) hR hC (mkO_ok g f t) hn hS hE hE2 hn hS hE hE2 (fun _ _ => rfl)
    rw [e0'] at e'
    rw [← Option.some.inj e'] at q
    refine ⟨m, e, fun i hi => ?_, F1⟩
    obtain ⟨τ, t1, t2, t3⟩ := q i hi
    rw [t2, ← t3]; exact hτ' i hi
  · obtain ⟨m, m', e, e', q, F1, F2⟩ := RT_lends (mS := fun _ _ => 0) (mL := mkL g f t) (ml := ml) hR (mkL_ok g f t) hM hn hS hE hE2 hn hS hE hE2 (fun _ _ => rfl)
    rw [e0] at e
    rw [← Option.some.inj e] at q
    refine ⟨m', e', fun i hi => ?_, F2⟩
    obtain ⟨τ, t1, t2, t3⟩ := q i hi
    rw [t3, ← t2]; exact (hτ i hi).2
  · obtain ⟨m1, m1', e1, e1', q1, -, -⟩ := RT_lends (mS := fun _ _ => 0) (ml := fun _ _ => 0) hR (mkL_ok g f t) (mkO_ok g f t) hn hS hE hE2 hn' hS' hE' hE2' hb
    obtain ⟨m, m', e, e', q, F1, F2⟩ := RT_lends (mS := mS) (mO := mkO g f t) (ml := fun _ _ => 0) hR hC (mkO_ok g f t) hn' hS' hE' hE2' hn' hS' hE' hE2' (fun _ _ => rfl)
    rw [e0] at e1
    rw [← Option.some.inj e1] at q1
    rw [e1'] at e'
    rw [← Option.some.inj e'] at q
    refine ⟨m, e, fun i hi => ?_, F1⟩
    obtain ⟨τ, t1, t2, t3⟩ := q i hi
    obtain ⟨τ', u1, u2, u3⟩ := q1 i hi
    rw [t2, ← t3, u3, ← u2]; exact (hτ i hi).2
  · obtain ⟨m, m', e, e', q, F1, F2⟩ := RT_lends (mS := fun _ _ => 0) (mL := mkL g f t) (ml := ml) hR (mkL_ok g f t) hM hn hS hE hE2 hn' hS' hE' hE2' hb
    rw [e0] at e
    rw [← Option.some.inj e] at q
    refine ⟨m', e', fun i hi => ?_, F2⟩
    obtain ⟨τ, t1, t2, t3⟩ := q i hi
    rw [t3, ← t2]; exact (hτ i hi).2
noncomputable def TK (g : Nat → Nat) (f t : Nat → Nat → Nat) (n S E : Nat) : Nat → Nat := Classical.epsilon (TKP g f t n S E)
theorem TK_ok {g : Nat → Nat} {f t : Nat → Nat → Nat} (hR : LR g f t) {n S E : Nat} (hn : n ≤ 500) (hS : S ≤ 16) (hE : 1 ≤ E) (hE2 : E ≤ 9) : TKP g f t n S E (TK g f t n S E) := by
  obtain ⟨τ, h, -⟩ := tk_two hR hn hS hE hE2 hn hS hE hE2 (fun _ _ => rfl)
  exact Classical.epsilon_spec (p := TKP g f t n S E) ⟨τ, h⟩
theorem tkp_eq {g : Nat → Nat} {f t : Nat → Nat → Nat} (hR : LR g f t) {n S E : Nat} {τ τ' : Nat → Nat} (h : TKP g f t n S E τ) (h' : TKP g f t n S E τ') : ∀ i, i < g 5 → τ i = τ' i := by
  have rs := hR.2.2.2.2.2.2.2.2.2.2.2.1
  intro i hi
  have hl : f 0 i * f 2 i ≤ 50 * 99 := Nat.mul_le_mul (rs i hi).2.1 (rs i hi).2.2.2.1
  obtain ⟨m, e, a, -⟩ := h.2.1 (fun _ _ => 0) (mkL g f t) (mkL_ok g f t)
  obtain ⟨m', e', a', -⟩ := h'.2.1 (fun _ _ => 0) (mkL g f t) (mkL_ok g f t)
  rw [e] at e'
  have := Option.some.inj e'
  subst this
  have b := h.1 i hi
  have b' := h'.1 i hi
  exact nI_inj (by omega) (by omega) ((a i hi).symm.trans (a' i hi))
theorem TK_eq {g : Nat → Nat} {f t : Nat → Nat → Nat} (hR : LR g f t) {n S E n' S' E' : Nat} (hn : n ≤ 500) (hS : S ≤ 16) (hE : 1 ≤ E) (hE2 : E ≤ 9) (hn' : n' ≤ 500) (hS' : S' ≤ 16) (hE' : 1 ≤ E') (hE2' : E' ≤ 9) (hb : ∀ i, i < g 5 → bk g f i n S E = bk g f i n' S' E') : ∀ i, i < g 5 → TK g f t n S E i = TK g f t n' S' E' i := by
  obtain ⟨τ, h1, h2⟩ := tk_two hR hn hS hE hE2 hn' hS' hE' hE2' hb
  intro i hi
  rw [tkp_eq hR (TK_ok hR hn hS hE hE2) h1 i hi, tkp_eq hR (TK_ok hR hn' hS' hE' hE2') h2 i hi]
