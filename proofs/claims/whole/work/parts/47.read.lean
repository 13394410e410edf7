/-! lines, and the whole text -/
theorem wrapG {len p : Nat} {b : Nat → Int32} {mO : Mem} {ml : Lem} {A : Option (Int32 × Mem × Mem)} {B : Option (Int32 × Mem × Lem)} (h : RT A B (LQ len b p mO ml)) : RT (bn A fun q => nm q.1 fun x => nm q.2.1 fun r => nm q.2.2 fun l => gb x (some (x, r, l))) (bn B fun q => nm q.1 fun x => nm q.2.1 fun r => nm q.2.2 fun l => gb x (some (x, r, l))) (LQ len b p mO ml) := by
  refine RT_b h (fun q q' hq => ?_)
  simp only [nm_d]
  have h1 : (q.1 = 0 ∨ q.1 = 1) ∧ (q'.1 = 0 ∨ q'.1 = 1) := by
    rcases hq.2.2 with ⟨a, b, -⟩ | ⟨a, b, -⟩
    · exact ⟨Or.inl a, Or.inl b⟩
    · exact ⟨Or.inr a, Or.inr b⟩
  rw [gb_t h1.1, gb_t h1.2]
  exact RT_s hq
theorem wrapT {len p : Nat} {b : Nat → Int32} {mO : Mem} {ml : Lem} {A : Option (Int32 × Mem × Mem)} {B : Option (Int32 × Mem × Lem)} (h : RT A B (LQ len b p mO ml)) : RT (bn A fun q => nm q.1 fun x => nm q.2.1 fun r => nm q.2.2 fun l => if x = 0 then some ((0 : Int32), r, l) else some ((1 : Int32), r, l)) (bn B fun q => nm q.1 fun x => nm q.2.1 fun r => nm q.2.2 fun l => if x = 0 then some ((0 : Int32), r, l) else some ((1 : Int32), r, l)) (LQ len b p mO ml) := by
  refine RT_b h (fun q q' hq => ?_)
  simp only [nm_d]
  obtain ⟨h1, h2, h3⟩ := hq
  rcases h3 with ⟨a, b, c⟩ | ⟨a, b, c⟩
  · rw [if_pos a, if_pos b]
    exact RT_s ⟨h1, h2, Or.inl ⟨rfl, rfl, c⟩⟩
  · rw [if_neg (by rw [a]; decide), if_neg (by rw [b]; decide)]
    exact RT_s ⟨h1, h2, Or.inr ⟨rfl, rfl, c⟩⟩
theorem RT_line {len p : Nat} {mR mT mL mO : Mem} {ml : Lem} (hT : TXR len mT mO) (h : TOK len (mT 1) p mR mO ml) (hk : ¬ mR 0 7 = 0) (hD : RD len (mT 1) mR mL mO ml) : RT (mX3_readLine mR mT mL) (mX8_line mO ml) (LQ len (mT 1) p mO ml) := by
  obtain ⟨z, hz⟩ := tok_w hT.1 h
  unfold mX3_readLine mX8_line
  rw [(hz 0 (by decide)).1, (hz 1 (by decide)).1, (hz 2 (by decide)).1, (hz 3 (by decide)).1, (hz 4 (by decide)).1, (hz 5 (by decide)).1, (hz 0 (by decide)).2, (hz 1 (by decide)).2, (hz 2 (by decide)).2, (hz 3 (by decide)).2, (hz 4 (by decide)).2, (hz 5 (by decide)).2]
  simp only [bn_s, it_b0]
  cases z 0
  · cases z 1
    · cases z 2
      · cases z 3
        · cases z 4
          · cases z 5
            · exact LQ_f hT.1 h Fr.rf PL.rf
            · exact wrapT (RT_turnL hT h hk hD)
          · exact wrapG (RT_spareL hT h hk hD)
        · exact wrapG (RT_sortL hT h hk hD)
      · exact wrapG (RT_waitL hT h hk hD)
    · exact wrapG (RT_strikeL hT h hk hD)
  · exact wrapG (RT_moonL hT h hk hD)
/-- a land that is told whole, as the reference keeps it -/
def NL (g : Nat → Nat) (f t : Nat → Nat → Nat) (mO : Mem) : Prop := mO 2 0 = nI (g 0) ∧ mO 2 1 = nI (g 1) ∧ ((mO 2 2 = -1 ∧ g 2 = 16 ∧ g 3 = 1) ∨ (mO 2 2 = nI (g 2) ∧ mO 2 3 = nI (g 3))) ∧ ((mO 2 4 = -1 ∧ g 4 = 0) ∨ mO 2 4 = nI (g 4)) ∧ mO 0 7 = nI (g 5) ∧ mO 0 10 = nI (g 6) ∧ mO 0 11 = nI (g 7) ∧ (∀ s, s < g 5 → ∀ w, w < 6 → mO 4 (6 * s + w) = nI (f w s)) ∧ (∀ k, k < g 7 → ∀ w, w < 3 → mO 5 (3 * k + w) = nI (t w k))
def FQ (mO : Mem) (ml : Lem) (q : Int32 × Mem × Mem) (q' : Int32 × Mem × Lem) : Prop := q.1 = q'.1 ∧ PFr mO q'.2.1 ∧ PL ml q'.2.2 ∧ (q.1 = -1 → ∃ g f t, LR g f t ∧ LC q.2.2 g f t ∧ NL g f t q'.2.1)
theorem RD_land {len : Nat} {b : Nat → Int32} {mR mL mO : Mem} {ml : Lem} (h : RD len b mR mL mO ml) (h10 : mR 0 10 = 1) (h5 : ¬ mO 0 7 = 0) : ∃ g f t, LR g f t ∧ LC mL g f t ∧ NL g f t mO := by
  obtain ⟨n, f, k, t, sp, ⟨a1, a2, a3, a4, a5, a6⟩, ⟨b1, b2, b3, b4, b5, b6⟩, ⟨c1, c2, c3⟩, cM, cK, cW, -⟩ := h
  have hn : 1 ≤ n := by
    rcases Nat.eq_zero_or_pos n with e | e
    · rw [a3, e] at h5; exact absurd rfl h5
    · exact e
  rcases cM with ⟨e, -⟩ | ⟨-, P, Q, m1, m2, m3, m4, m5, m6, m7⟩
  · rw [h10] at e; exact absurd e (by decide)
  · obtain ⟨S, E, k1, k2, k3, k4, k5, k6⟩ : ∃ S E, S ≤ 16 ∧ 1 ≤ E ∧ E ≤ 9 ∧ mL 0 2 = nI S ∧ mL 0 3 = nI E ∧ ((mO 2 2 = -1 ∧ S = 16 ∧ E = 1) ∨ (mO 2 2 = nI S ∧ mO 2 3 = nI E)) := by
      rcases cK with ⟨-, e1, e2, e3⟩ | ⟨-, S, E, e1, e2, e3, e4, e5, e6, e7⟩
      · exact ⟨16, 1, by omega, by omega, by omega, e2, e3, Or.inl ⟨e1, rfl, rfl⟩⟩
      · exact ⟨S, E, e1, e2, e3, e4, e5, Or.inr ⟨e6, e7⟩⟩
    obtain ⟨Z, z1, z2, z3⟩ : ∃ Z, Z ≤ 50 ∧ mL 0 4 = nI Z ∧ ((mO 2 4 = -1 ∧ Z = 0) ∨ mO 2 4 = nI Z) := by
      rcases cW with ⟨-, e1, e2⟩ | ⟨-, Z, e1, e2, e3⟩
      · exact ⟨0, by omega, e2, Or.inl ⟨e1, rfl⟩⟩
      · exact ⟨Z, e1, e2, Or.inr e3⟩
    refine ⟨fun i => if i = 0 then P else if i = 1 then Q else if i = 2 then S else if i = 3 then E else if i = 4 then Z else if i = 5 then n else if i = 6 then sp else k, f, t, ?_, ?_, ?_⟩
    · exact ⟨m1, m2, m3, k1, k2, k3, z1, hn, a1, c1, b1, a4, b4⟩
    · exact ⟨m4, m5, k4, k5, z2, a2, c2, b2, a5, b5⟩
    · exact ⟨m6, m7, k6, z3, a3, c3, b3, a6, b6⟩
theorem RT_reads {len : Nat} {mR mT mL mO : Mem} {ml : Lem} (hT : TXR len mT mO) (h : TOK len (mT 1) 0 mR mO ml) (hD : RD len (mT 1) mR mL mO ml) : RT (mX3_read_L38 (0 : Int32) mR mT mL) (mX8_fault_L44 mO ml) (FQ mO ml) := by
  have hl := hT.1
  unfold mX3_read_L38 mX8_fault_L44
  refine RT_b (Q := fun (o : (Mem × Mem) ⊕ (Mem × Mem)) (o' : (Mem × Lem) ⊕ (Mem × Lem)) => ∃ r l q, PFr mO q.1 ∧ PL ml q.2 ∧ ((o = Sum.inl (r, l) ∧ o' = Sum.inl q ∧ ∃ st, st ≤ 500 ∧ r 0 5 = nI st ∧ q.1 0 4 = nI st) ∨ (o = Sum.inr (r, l) ∧ o' = Sum.inr q ∧ RD len (mT 1) r l q.1 q.2 ∧ TOK len (mT 1) 0 r q.1 q.2 ∧ r 0 7 = 0))) (RT_itr (fun k (s : Int32 × Mem × Mem) (t : Mem × Lem) => ∃ j p, j ≤ p ∧ k = len - p ∧ s.1 = nI j ∧ TOK len (mT 1) p s.2.1 t.1 t.2 ∧ RD len (mT 1) s.2.1 s.2.2 t.1 t.2 ∧ PFr mO t.1 ∧ PL ml t.2) ?_ FU len _ _ ⟨0, 0, Nat.le_refl _, rfl, rfl, h, hD, Fr.rf, PL.rf⟩ (FU_gt (by omega))) (fun o o' ho => ?_)
  · rintro k ⟨s1, s2, s3⟩ ⟨t1, t2⟩ ⟨j, p, hjp, rfl, e1, hK, hR, hF, hP⟩
    dsimp only at e1 hK hR hF hP
    subst e1
    obtain ⟨st, pl, kk, a1, a2, a3, a4, a5, a6, a7, a8, a9, a10⟩ := id hK
    obtain ⟨b1, b2, b3⟩ := a10.k4
    show RT (mX3_read_s38 mT (nI j) s2 s3) (mX8_fault_s44 t1 t2) _
    unfold mX3_read_s38 mX8_fault_s44
    rw [if_neg (show ¬ (500 : Int32) < nI j by rw [show (500 : Int32) = nI 500 from rfl, n_lt (by decide) (by omega)]; omega)]
    by_cases hk : kk = 0
    · rw [if_pos (show s2 0 7 = 0 by rw [a8, hk]; rfl), if_pos (show t1 0 3 = 0 by rw [a9, hk]; rfl)]
      exact RT_s ⟨s2, s3, (t1, t2), hF, hP, Or.inr ⟨rfl, rfl, hR, hK.wk (Nat.zero_le _), by rw [a8, hk]; rfl⟩⟩
    · have hk7 : ¬ s2 0 7 = 0 := by rw [a8, n_eq0 (by omega)]; exact hk
      rw [if_neg hk7, if_neg (show ¬ t1 0 3 = 0 by rw [a9, n_eq0 (by omega)]; exact hk)]
      refine RT_b (RT_line (hT.fr hF (by decide) (by decide)) hK hk7 hR) (fun q q' hq => ?_)
      obtain ⟨h1, h2, h3⟩ := hq
      simp only [nm_d, nI_s]
      rcases h3 with ⟨c1, c2, c3⟩ | ⟨c1, c2, c3, c4⟩
      · rw [c1, c2, if_neg (show ¬ ¬ (0 : Int32) = 0 from fun q => q rfl), if_neg (show ¬ ¬ (0 : Int32) = 0 from fun q => q rfl)]
        exact RT_s ⟨q.2.1, q.2.2, (q'.2.1, q'.2.2), hF.tr h1, hP.tr h2, Or.inl ⟨rfl, rfl, c3⟩⟩
      · rw [c1, c2, if_pos (show ¬ (1 : Int32) = 0 by decide), if_pos (show ¬ (1 : Int32) = 0 by decide)]
        obtain ⟨st', pl', k', d1, d2, d3, -⟩ := id c4
        exact RT_s ⟨len - (p + 1), by omega, j + 1, p + 1, by omega, rfl, rfl, c4, c3, hF.tr h1, hP.tr h2⟩
  · obtain ⟨r, l, q, h1, h2, h3⟩ := ho
    rcases h3 with ⟨rfl, rfl, st, c1, c2, c3⟩ | ⟨rfl, rfl, c1, c2, c3⟩
    · simp only [Sum.elim_inl, nm_d]
      rw [c2, c3]
      exact RT_s ⟨rfl, h1, h2, fun e => absurd e (n_nm1 (by omega))⟩
    · simp only [Sum.elim_inr, nm_d]
      obtain ⟨st, pl, kk, a1, a2, a3, a4, a5, a6, a7, a8, a9, a10⟩ := id c2
      have hst : st = len := by
        rcases a10 with ⟨-, e, -⟩ | ⟨e, -⟩ | ⟨e, -⟩ | ⟨e, -⟩
        · exact e
        · rw [a8, e] at c3; exact absurd c3 (by decide)
        · rw [a8, e] at c3; exact absurd c3 (by decide)
        · rw [a8] at c3
          rcases e with e | e <;> (rw [e] at c3; exact absurd c3 (by decide))
      rw [gi_l (x := (0 : Int32)) (j := 0) rfl (by decide) (by decide), show (0 : Int32).toNatClampNeg = 0 from by decide, hT.2.1, a6, hst]
      obtain ⟨n, f, k, t, sp, b1, b2, b3, cM, -⟩ := id c1
      rcases cM with ⟨m1, m2⟩ | ⟨m1, P, Q, x1, x2, x3, x4, x5, x6, x7⟩
      · rw [if_pos m1, if_pos m2]
        exact RT_s ⟨rfl, h1, h2, fun e => absurd e (n_nm1 (by omega))⟩
      · have hb := b1.1
        rw [if_neg (show ¬ r 0 10 = 0 by rw [m1]; decide), if_neg (show ¬ q.1 2 0 = -1 by rw [x6]; exact n_nm1 (by omega)), b1.2.1, b1.2.2.1]
        by_cases hn : n = 0
        · rw [if_pos (by rw [n_le0 (by omega)]; exact hn), if_neg (show ¬ ¬ nI n = 0 by rw [hn]; exact fun q => q rfl)]
          exact RT_s ⟨rfl, h1, h2, fun e => absurd e (n_nm1 (by omega))⟩
        · rw [if_neg (by rw [n_le0 (by omega)]; exact hn), if_pos (show ¬ nI n = 0 by rw [n_eq0 (by omega)]; exact hn)]
          exact RT_s ⟨rfl, h1, h2, fun _ => RD_land c1 m1 (by rw [b1.2.2.1, n_eq0 (by omega)]; exact hn)⟩
theorem o_newlaw {mO : Mem} {ml : Lem} : HT (itr (fun q => mX8_fault_s2 ml q.1 q.2) FU ((0 : Int32), mO)) (fun m => (∀ i, i < 5 → m 2 i = -1) ∧ Fr [2] [] mO m) := by
  refine HT_itr (fun k (s : Int32 × Mem) => ∃ j, j ≤ 5 ∧ k = 5 - j ∧ s.1 = nI j ∧ (∀ i, i < j → s.2 2 i = -1) ∧ Fr [2] [] mO s.2) ?_ FU 5 _ ⟨0, by omega, rfl, rfl, fun i hi => absurd hi (Nat.not_lt_zero i), Fr.rf⟩ (FU_gt (by omega))
  rintro k ⟨s1, s2⟩ ⟨j, hj, rfl, e1, hI, hF⟩
  dsimp only at e1 hI hF
  subst e1
  show HT (mX8_fault_s2 ml (nI j) s2) _
  unfold mX8_fault_s2
  by_cases h : j = 5
  · subst h
    rw [if_pos (by decide)]
    exact HT_s ⟨hI, hF⟩
  · rw [if_neg (by rw [show (5 : Int32) = nI 5 from rfl, n_le (by decide) (by omega)]; omega), gi_n (by omega) (by decide), nI_clamp (by omega), nm_d, nI_s, nm_d]
    refine HT_s ⟨5 - (j + 1), by omega, j + 1, by omega, rfl, rfl, fun i hi => ?_, hF.upi (by decide) (by decide)⟩
    simp only [upi_d, reduceIte, upd_d]
    by_cases hij : i = j
    · rw [if_pos hij]
    · rw [if_neg hij]; exact hI i (by omega)
theorem RT_read {len : Nat} {mR mT mL mO : Mem} {ml : Lem} (hT : TXR len mT mO) : RT (mX3_read mR mT mL) (mX8_fault mO ml) (FQ mO ml) := by
  unfold mX3_read mX1_empty mX8_fault mX8_fault_L2
  obtain ⟨m, em, z1, z2⟩ := o_newlaw (mO := mO) (ml := ml)
  rw [em]
  simp only [bn_s, nm_d]
  have g1 : PFr mO (upf (upf (upf (upf m 7 0) 10 0) 11 0) 2 0) := ((((z2.wk (by decide) (by decide)).upf (by decide)).upf (by decide)).upf (by decide)).upf (by decide)
  have hT1 := hT.fr g1 (by decide) (by decide)
  refine RT_b (RT_step (mR := upf (upf (upf (upf mR 10 0) 11 0) 12 0) 6 0) (mO := upf (upf (upf (upf m 7 0) 10 0) 11 0) 2 0) (ml := ml) (p := 0) hT1 (Nat.zero_le _) rfl rfl) (fun r o ho => ?_)
  obtain ⟨t1, f1, g2, e1⟩ := ho
  have hT2 := hT1.fr g2 (by decide) (by decide)
  have o2 : ∀ i, i < 5 → o.1 2 i = -1 := fun i hi => by rw [g2.1 2 (by decide) (by decide)]; exact z1 i hi
  refine RT_m (RT_reads hT2 t1 ⟨0, fun _ _ => 0, 0, fun _ _ => 0, 0, ⟨by omega, rfl, (g2.2 7 (by decide)).trans rfl, fun s hs => absurd hs (Nat.not_lt_zero s), fun s hs => absurd hs (Nat.not_lt_zero s), fun s hs => absurd hs (Nat.not_lt_zero s)⟩, ⟨by omega, rfl, (g2.2 11 (by decide)).trans rfl, fun s hs => absurd hs (Nat.not_lt_zero s), fun s hs => absurd hs (Nat.not_lt_zero s), fun s hs => absurd hs (Nat.not_lt_zero s)⟩, ⟨by omega, rfl, (g2.2 10 (by decide)).trans rfl⟩, Or.inl ⟨(f1.2 10 (by decide)).trans rfl, o2 0 (by decide)⟩, Or.inl ⟨(f1.2 11 (by decide)).trans rfl, o2 2 (by decide), rfl, rfl⟩, Or.inl ⟨(f1.2 12 (by decide)).trans rfl, o2 4 (by decide), rfl⟩, fun i hi => absurd hi (Nat.not_lt_zero i)⟩) (fun q q' hq => ?_)
  obtain ⟨h1, h2, h3, h4⟩ := hq
  exact ⟨h1, (g1.tr (g2.wk (by decide) (by decide))).tr h2, e1.pl.tr h3, h4⟩
