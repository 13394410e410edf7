/-- a night of the class, as go does it -/
noncomputable def cNight (mM mL : Mem) : Option Mem := bn (mX2_passNight mM mL) fun m => bn (mX1_isStruckAt mL (m 0 0)) fun x => if x = 0 then some m else mX2_strikeByLots m mL
theorem go_step (v1 v2 : Int32) (mX mL mM : Mem) : mX7_go_s22 v1 mX mL v2 mM = if v1 ≤ v2 then some (Sum.inr mM) else bn (cNight mM mL) fun m => some (Sum.inl (v2 + 1, m)) := by
  unfold mX7_go_s22 cNight
  by_cases h : v1 ≤ v2
  · rw [if_pos h, if_pos h]
  · rw [if_neg h, if_neg h]
    cases mX2_passNight mM mL with
    | none => rfl
    | some m =>
      simp only [bn_s]
      cases mX1_isStruckAt mL (m 0 0) with
      | none => rfl
      | some x =>
        simp only [bn_s]
        by_cases hx : x = 0
        · rw [if_pos hx, if_pos hx]; rfl
        · rw [if_neg hx, if_neg hx]; rfl
theorem HR.up0 {n : Nat} {mM : Mem} {h l r : Nat → Int32} {i : Nat} {v : Int32} (hh : HR n mM h l r) : HR n (upf mM i v) h l r := hh
theorem RT_night {mL mM mO : Mem} {ml : Lem} {g : Nat → Nat} {f t : Nat → Nat → Nat} (hR : LR g f t) (hC : LC mL g f t) (hM : LM mO g f t) (h : MR (g 5) mM mO ml) : RT (cNight mM mL) (mX8_goesOn mO ml (0 : Int32)) (fun m m' => MR (g 5) m m'.1 m'.2 ∧ Fr [8, 9, 10] [23] mO m'.1 ∧ FL ml m'.2) := by
  obtain ⟨h0, hx, hH⟩ := h
  have hM1 : LM (upf mO 23 (mO 0 23 + 1)) g f t := hM.fr (cs := []) (fs := [23]) (Fr.rf.upf (by decide)) (by decide) (by decide) (by decide)
  unfold cNight mX2_passNight mX8_goesOn mX2_passNight_L12 mX8_goesOn_L12
  simp only [nm_d]
  obtain ⟨m, m', e, e', r1, r2, r3, -⟩ := RT_pass (mM := upf mM 0 (mM 0 0 + 1)) (mO := upf mO 23 (mO 0 23 + 1)) (ml := ml) hR hC hM1 hH (by show mM 0 0 + 1 = mO 0 23 + 1; rw [h0]) (0 : Int32)
  rw [e, e']
  simp only [bn_s]
  have hM2 := hM1.fr r3 (by decide) (by decide) (by decide)
  have n1 : m 0 0 = m' 0 23 := by
    rw [r2.2 0 (by decide), r3.2 23 (by decide)]
    show mM 0 0 + 1 = mO 0 23 + 1
    rw [h0]
  have nx : ∃ k, k < 2 ^ 31 ∧ m 0 1 = nI k ∧ ml 0 27 = lN k := by
    obtain ⟨k, k1, k2, k3⟩ := hx
    exact ⟨k, k1, (r2.2 1 (by decide)).trans k2, k3⟩
  have fr3 : Fr [8, 9, 10] [23] mO m' := (Fr.rf.upf (by decide)).tr (r3.wk (by decide) (by decide))
  obtain ⟨b1, b2, b3, b4, b5, b6, b7, b8, b9, b10, b11, b12, b13⟩ := id hR
  rw [c_struck hC.1 hC.2.2.2.1 (by omega) b2 (by omega) b6, hM2.2.2.2.1, o_struck hM2.1 (by omega) b2 (by omega) b6, n1]
  simp only [bn_s, it_b0, it_b1]
  cases stk (m' 0 23) (g 0 * g 3) with
  | false =>
    rw [cd_f, cd_f]
    exact RT_s ⟨⟨n1, nx, r1⟩, fr3, FL.rf⟩
  | true =>
    rw [cd_t, cd_t, if_neg (by decide)]
    obtain ⟨k, k1, k2, k3⟩ := nx
    unfold mX2_strikeByLots
    rw [c_lot k2, o_draws k1 k3]
    simp only [bn_s, nm_d]
    rw [hC.2.1, hM2.2.1]
    have hlk := lotN_lt k
    refine RT_if Iff.rfl (fun _ => ?_) (fun _ => ?_)
    · unfold mX2_strikeByLots_L14 mX8_goesOn_j83 mX8_goesOn_L85
      obtain ⟨w, w', ew, ew', s1, s2, s3, s4, s5⟩ := RT_lots (mM := upf m 1 (nI (nxt k))) (mO := m') (ml := upfL ml 27 (lN (nxt k))) hR hC hM2 r1 ⟨nxt k, nxt_lt k, rfl, rfl⟩
      rw [ew, ew']
      simp only [bn_s, nm_d]
      refine RT_s ⟨⟨?_, s5, s1⟩, fr3.tr (s3.wk (by decide) (by decide)), (FL.rf.up).tr s4⟩
      rw [s2.2 0 (by decide), s3.2 23 (by decide)]
      exact n1
    · exact RT_s ⟨⟨n1, ⟨nxt k, nxt_lt k, rfl, rfl⟩, r1⟩, fr3, FL.rf.up⟩
theorem RT_go {mX mL mM mO : Mem} {ml : Lem} {g : Nat → Nat} {f t : Nat → Nat → Nat} (hR : LR g f t) (hC : LC mL g f t) (hM : LM mO g f t) (h : MR (g 5) mM mO ml) {c : Nat} (hc : c ≤ 200) : RT (itr (fun q => mX7_go_s22 (nI c) mX mL q.1 q.2) FU ((0 : Int32), mM)) (itr (fun q => mX8_go_s22 (nI c) q.1 q.2.1 q.2.2) FU ((0 : Int32), mO, ml)) (fun m m' => MR (g 5) m m'.1 m'.2 ∧ Fr [8, 9, 10] [23] mO m'.1 ∧ FL ml m'.2) := by
  refine RT_itr (fun n (s : Int32 × Mem) (t : Int32 × Mem × Lem) => ∃ j, j ≤ c ∧ n = c - j ∧ s.1 = nI j ∧ t.1 = nI j ∧ MR (g 5) s.2 t.2.1 t.2.2 ∧ Fr [8, 9, 10] [23] mO t.2.1 ∧ FL ml t.2.2) ?_ FU c _ _ ⟨0, by omega, rfl, rfl, rfl, h, Fr.rf, FL.rf⟩ (FU_gt (by omega))
  rintro n ⟨s1, s2⟩ ⟨t1, t2, t3⟩ ⟨j, hj, rfl, e1, e2, hH, hG, hL⟩
  dsimp only at e1 e2 hH hG hL
  subst e1; subst e2
  show RT (mX7_go_s22 (nI c) mX mL (nI j) s2) (mX8_go_s22 (nI c) (nI j) t2 t3) _
  rw [go_step]
  unfold mX8_go_s22
  refine RT_if Iff.rfl (fun _ => RT_s ⟨hH, hG, hL⟩) (fun hjc => ?_)
  rw [n_le (by omega) (by omega)] at hjc
  refine RT_b (RT_night hR hC (hM.fr hG (by decide) (by decide) (by decide)) hH) (fun m m' hm => ?_)
  simp only [nm_d]
  rw [nI_s]
  exact RT_s ⟨c - (j + 1), by omega, j + 1, by omega, rfl, rfl, rfl, hm.1, hG.tr hm.2.1, hL.tr hm.2.2⟩
