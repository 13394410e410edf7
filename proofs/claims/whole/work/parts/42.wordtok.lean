/-! words of the text against words of the land -/
theorem pk_inj {f h : Nat → Nat} {a c : Nat} : ∀ n m : Nat, (∀ i, i < n → 0 < f (a + i) ∧ f (a + i) < 256) → (∀ i, i < m → 0 < h (c + i) ∧ h (c + i) < 256) → pkn f a n = pkn h c m → n = m ∧ ∀ i, i < n → f (a + i) = h (c + i)
  | 0, 0, _, _, _ => ⟨rfl, fun i hi => absurd hi (Nat.not_lt_zero i)⟩
  | 0, m + 1, _, h2, e => by
    have e' : 0 = pkn h c m * 256 + h (c + m) := e
    have := h2 m (by omega)
    omega
  | n + 1, 0, h1, _, e => by
    have e' : pkn f a n * 256 + f (a + n) = 0 := e
    have := h1 n (by omega)
    omega
  | n + 1, m + 1, h1, h2, e => by
    have e' : pkn f a n * 256 + f (a + n) = pkn h c m * 256 + h (c + m) := e
    have b1 := h1 n (by omega)
    have b2 := h2 m (by omega)
    obtain ⟨r1, r2⟩ := pk_inj n m (fun i hi => h1 i (by omega)) (fun i hi => h2 i (by omega)) (by omega)
    subst r1
    refine ⟨rfl, fun i hi => ?_⟩
    by_cases hin : i = n
    · subst hin; omega
    · exact r2 i (by omega)
theorem pk_cg {f h : Nat → Nat} {a c : Nat} : ∀ n, (∀ i, i < n → f (a + i) = h (c + i)) → pkn f a n = pkn h c n
  | 0, _ => rfl
  | n + 1, e => by
    show pkn f a n * 256 + f (a + n) = pkn h c n * 256 + h (c + n)
    rw [pk_cg n (fun i hi => e i (by omega)), e n (by omega)]
theorem pk_pos {f : Nat → Nat} {a n : Nat} (hn : 0 < n) (h : ∀ i, i < n → 0 < f (a + i)) : 0 < pkn f a n := by
  obtain ⟨m, rfl⟩ : ∃ m, n = m + 1 := ⟨n - 1, by omega⟩
  show 0 < pkn f a m * 256 + f (a + m)
  have := h m (by omega)
  omega
def wln (w : Nat) : Nat := lenS.getD w 0
def wch (w i : Nat) : Nat := (sch w i).toNatClampNeg
theorem wd_ok : ∀ w, w < 11 → (4 ≤ wln w ∧ wln w ≤ 6) ∧ ∀ i, i < wln w → 97 ≤ wch w i ∧ wch w i ≤ 122 ∧ sch w i = nI (wch w i) := by decide +kernel
theorem o_packed {w : Nat} (hw : w < 11) : mX8_packed w = some (lN (pkn (wch w) 0 (wln w))) := by
  obtain ⟨⟨w1, w2⟩, w3⟩ := wd_ok w hw
  have hit := itr_run (B := fun q : Int64 × Int32 => mX8_packed_s4 w q.1 q.2) (fun j => (lN (pkn (wch w) 0 j), nI j)) (r := lN (pkn (wch w) 0 (wln w))) (n := wln w) (fun j hj => by
      show mX8_packed_s4 w (lN (pkn (wch w) 0 j)) (nI j) = some (Sum.inl (lN (pkn (wch w) 0 (j + 1)), nI (j + 1)))
      unfold mX8_packed_s4
      obtain ⟨c1, c2, c3⟩ := w3 j hj
      rw [show slen w = nI (wln w) from rfl, if_neg (by rw [n_le (by omega) (by omega)]; omega), gi_n (show j < lenS.getD w 0 from hj) (show wln w < 2 ^ 31 by omega), nI_clamp (by omega), c3, l_pack (pkn_8 (by omega) (fun i hi => by have := (w3 i (by omega)).2.1; rw [Nat.zero_add]; omega)) (by omega), nm_d, nI_s, nm_d]
      show _ = some (Sum.inl (lN (pkn (wch w) 0 j * 256 + wch w (0 + j)), nI (j + 1)))
      rw [Nat.zero_add]) (by
      show mX8_packed_s4 w (lN (pkn (wch w) 0 (wln w))) (nI (wln w)) = _
      unfold mX8_packed_s4
      rw [show slen w = nI (wln w) from rfl, if_pos (Int32.le_refl _)]) 0 FU (Nat.zero_le _) (FU_gt (by omega))
  unfold mX8_packed mX8_packed_L4
  rw [gs_t hw, show ((0 : Int64), (0 : Int32)) = (lN (pkn (wch w) 0 0), nI 0) from rfl, hit, bn_s, nm_d]
def isW (b : Nat → Int32) (st pl w : Nat) : Bool := decide (pl - st = wln w ∧ ∀ i, i < wln w → cdN b (st + i) = wch w i)
theorem isW_v {b : Nat → Int32} {st pl w : Nat} (hw : w < 11) (h : LTS b st pl) (hs : st < pl) : lN (wdv (cdN b) st pl) = lN (pkn (wch w) 0 (wln w)) ↔ isW b st pl w = true := by
  obtain ⟨⟨w1, w2⟩, w3⟩ := wd_ok w hw
  have hb2 : pkn (wch w) 0 (wln w) < 2 ^ 63 := pkn_63 (by omega) (fun i hi => by rw [Nat.zero_add]; have := (w3 i hi).2.1; omega)
  have hp : 0 < pkn (wch w) 0 (wln w) := pk_pos (by omega) (fun i hi => by rw [Nat.zero_add]; have := (w3 i hi).1; omega)
  unfold isW wdv
  rw [decide_eq_true_iff]
  by_cases h8 : pl - st ≤ 8
  · have hb1 : pkn (cdN b) st (pl - st) < 2 ^ 63 := pkn_63 h8 (fun i hi => by have := h.cd (i := st + i) (by omega) (by omega); omega)
    rw [if_pos h8, pk_lEQ hb1 hb2]
    constructor
    · intro e
      obtain ⟨e1, e2⟩ := pk_inj (pl - st) (wln w) (fun i hi => by have := h.cd (i := st + i) (by omega) (by omega); omega) (fun i hi => by rw [Nat.zero_add]; have := w3 i hi; omega) e
      refine ⟨e1, fun i hi => ?_⟩
      have := e2 i (by omega)
      rw [Nat.zero_add] at this
      exact this
    · rintro ⟨e1, e2⟩
      rw [e1]
      exact pk_cg (wln w) (fun i hi => by rw [Nat.zero_add]; exact e2 i hi)
  · rw [if_neg h8, pk_lEQ (by decide) hb2]
    constructor
    · intro e; omega
    · rintro ⟨e1, -⟩; omega
theorem c_tokIs {len : Nat} {mR mT : Mem} {st pl k w : Nat} (hw : w < 11) (hl : len ≤ 500) (hsp : st ≤ pl) (hpl : pl ≤ len) (h5 : mR 0 5 = nI st) (h6 : mR 0 6 = nI pl) (h7 : mR 0 7 = nI k) (hk : k ≤ 4) (h1 : k = 1 → LTS (mT 1) st pl) : mX3_tokenIs mR mT w = some (bI (decide (k = 1) && isW (mT 1) st pl w)) := by
  obtain ⟨⟨w1, w2⟩, w3⟩ := wd_ok w hw
  unfold mX3_tokenIs
  rw [gs_t hw, h7]
  by_cases hk1 : k = 1
  · subst hk1
    rw [if_neg (show ¬ ¬ nI 1 = (1 : Int32) from fun q => q rfl), h5, h6, pk_sub hsp, show slen w = nI (wln w) from rfl, decide_eq_true rfl, Bool.true_and]
    have hL := h1 rfl
    by_cases he : pl - st = wln w
    · rw [if_pos (show nI (pl - st) = nI (wln w) by rw [he])]
      unfold mX3_tokenIs_L28
      have step : ∀ i, i < wln w → mX3_tokenIs_s28 w mR mT (nI i) = if cdN (mT 1) (st + i) = wch w i then some (Sum.inl (nI (i + 1))) else some (Sum.inr (Sum.inl ())) := by
        intro i hi
        obtain ⟨c1, c2, c3⟩ := w3 i hi
        obtain ⟨d1, d2, d3⟩ := hL.cd (i := st + i) (by omega) (by omega)
        unfold mX3_tokenIs_s28
        rw [show slen w = nI (wln w) from rfl, if_neg (by rw [n_le (by omega) (by omega)]; omega), h5, n_add, gi_n (show st + i < 500 by omega) (by decide), gi_n (show i < lenS.getD w 0 from hi) (show wln w < 2 ^ 31 by omega), nI_clamp (show st + i < 2 ^ 31 by omega), nI_clamp (show i < 2 ^ 31 by omega), c3, d3, nm_d, nI_s]
        by_cases hc : cdN (mT 1) (st + i) = wch w i
        · rw [if_pos hc, if_pos (by rw [hc])]
        · rw [if_neg hc, if_neg (by rw [n_eq (by omega) (by omega)]; exact hc)]
      by_cases hall : ∀ i, i < wln w → cdN (mT 1) (st + i) = wch w i
      · have hit := itr_run (B := fun q : Int32 => mX3_tokenIs_s28 w mR mT q) (fun j => nI j) (r := Sum.inr ()) (n := wln w) (fun j hj => by
          show mX3_tokenIs_s28 w mR mT (nI j) = _
          rw [step j hj, if_pos (hall j hj)]) (by
          show mX3_tokenIs_s28 w mR mT (nI (wln w)) = _
          unfold mX3_tokenIs_s28
          rw [show slen w = nI (wln w) from rfl, if_pos (Int32.le_refl _)]) 0 FU (Nat.zero_le _) (FU_gt (by omega))
        rw [show (0 : Int32) = nI 0 from rfl, hit, bn_s]
        unfold isW
        rw [decide_eq_true ⟨he, hall⟩]
        rfl
      · obtain ⟨j, ⟨j1, j2⟩, j3⟩ := pk_least (fun i => i < wln w ∧ ¬ cdN (mT 1) (st + i) = wch w i) (by
          apply Classical.byContradiction
          intro hn
          apply hall
          intro i hi
          apply Classical.byContradiction
          intro hc
          exact hn ⟨i, hi, hc⟩)
        have hit := itr_run (B := fun q : Int32 => mX3_tokenIs_s28 w mR mT q) (fun j => nI j) (r := Sum.inl ()) (n := j) (fun i hi => by
          show mX3_tokenIs_s28 w mR mT (nI i) = _
          rw [step i (by omega), if_pos (Classical.byContradiction (fun hc => j3 i hi ⟨by omega, hc⟩))]) (by
          show mX3_tokenIs_s28 w mR mT (nI j) = _
          rw [step j j1, if_neg j2]) 0 FU (Nat.zero_le _) (FU_gt (by omega))
        rw [show (0 : Int32) = nI 0 from rfl, hit, bn_s]
        unfold isW
        rw [decide_eq_false (fun q => hall q.2)]
        rfl
    · rw [if_neg (show ¬ nI (pl - st) = nI (wln w) by rw [n_eq (by omega) (by omega)]; exact he)]
      unfold isW
      rw [decide_eq_false (fun q => he q.1)]
      rfl
  · rw [if_pos (show ¬ nI k = (1 : Int32) by rw [show (1 : Int32) = nI 1 from rfl, n_eq (by omega) (by decide)]; exact hk1), decide_eq_false hk1]
    rfl
theorem o_isWord {mO : Mem} {ml : Lem} {b : Nat → Int32} {st pl k w : Nat} (hw : w < 11) (h3 : mO 0 3 = nI k) (hk : k ≤ 4) (h1 : k = 1 → st < pl ∧ LTS b st pl ∧ ml 0 5 = lN (wdv (cdN b) st pl)) : mX8_isWord mO ml w = some (bI (decide (k = 1) && isW b st pl w)) := by
  unfold mX8_isWord
  rw [gs_t hw, h3]
  by_cases hk1 : k = 1
  · subst hk1
    obtain ⟨a1, a2, a3⟩ := h1 rfl
    rw [if_neg (show ¬ ¬ nI 1 = (1 : Int32) from fun q => q rfl), o_packed hw, bn_s, a3, decide_eq_true rfl, Bool.true_and]
    have e := isW_v hw a2 a1
    cases hi : isW b st pl w with
    | true =>
      rw [if_neg (fun q => q ((lc_0 _ _).mpr (e.mpr hi)))]
      rfl
    | false =>
      rw [if_pos (fun q => absurd (e.mp ((lc_0 _ _).mp q)) (by rw [hi]; decide))]
      rfl
  · rw [if_pos (show ¬ nI k = (1 : Int32) by rw [show (1 : Int32) = nI 1 from rfl, n_eq (by omega) (by decide)]; exact hk1), decide_eq_false hk1]
    rfl
theorem TKD.k4 {b : Nat → Int32} {len st pl k : Nat} {v : Int32} {w : Int64} (h : TKD b len st pl k v w) : k ≤ 4 ∧ (k = 1 → st < pl ∧ LTS b st pl ∧ w = lN (wdv (cdN b) st pl)) ∧ (k ≠ 0 → st < pl) := by
  rcases h with ⟨rfl, h1, h2⟩ | ⟨rfl, h1, h2, h3⟩ | ⟨rfl, h1, h2⟩ | ⟨h1, h2⟩
  · exact ⟨by omega, fun h => absurd h (by decide), fun h => absurd rfl h⟩
  · exact ⟨by omega, fun _ => ⟨h1, h2, h3⟩, fun _ => h1⟩
  · exact ⟨by omega, fun h => absurd h (by decide), fun _ => h1⟩
  · exact ⟨by omega, fun h => by omega, fun _ => h2⟩
/-- a word is asked for on both sides -/
theorem tok_w {len p : Nat} {mR mT mO : Mem} {ml : Lem} (hl : len ≤ 500) (h : TOK len (mT 1) p mR mO ml) : ∃ z : Nat → Bool, (∀ w, w < 11 → mX3_tokenIs mR mT w = some (bI (z w)) ∧ mX8_isWord mO ml w = some (bI (z w))) := by
  obtain ⟨st, pl, k, a1, a2, a3, a4, a5, a6, a7, a8, a9, a10⟩ := h
  obtain ⟨b1, b2, b3⟩ := a10.k4
  refine ⟨fun w => decide (k = 1) && isW (mT 1) st pl w, fun w hw => ⟨?_, ?_⟩⟩
  · exact c_tokIs hw hl a2 a3 a4 a5 a8 b1 (fun hk => (b2 hk).2.1)
  · exact o_isWord hw a9 b1 b2
theorem tok_kind {len p : Nat} {mR mT mO : Mem} {ml : Lem} (hl : len ≤ 500) (h : TOK len (mT 1) p mR mO ml) : ∃ v, mX3_tokenKind mR mT = some v ∧ mX8_kindHere mO ml = some v ∧ (v = -1 ∨ ∃ k, k < 5 ∧ v = nI k) := by
  obtain ⟨z, hz⟩ := tok_w hl h
  unfold mX3_tokenKind mX8_kindHere
  rw [(hz 6 (by decide)).1, (hz 7 (by decide)).1, (hz 8 (by decide)).1, (hz 9 (by decide)).1, (hz 10 (by decide)).1, (hz 6 (by decide)).2, (hz 7 (by decide)).2, (hz 8 (by decide)).2, (hz 9 (by decide)).2, (hz 10 (by decide)).2]
  simp only [bn_s, it_b0]
  cases z 6
  · cases z 7
    · cases z 8
      · cases z 9
        · cases z 10
          · exact ⟨-1, rfl, rfl, Or.inl rfl⟩
          · exact ⟨4, rfl, rfl, Or.inr ⟨4, by decide, rfl⟩⟩
        · exact ⟨3, rfl, rfl, Or.inr ⟨3, by decide, rfl⟩⟩
      · exact ⟨2, rfl, rfl, Or.inr ⟨2, by decide, rfl⟩⟩
    · exact ⟨1, rfl, rfl, Or.inr ⟨1, by decide, rfl⟩⟩
  · exact ⟨0, rfl, rfl, Or.inr ⟨0, by decide, rfl⟩⟩
/-! names -/
def NM (len : Nat) (b : Nat → Int32) (n : Nat) (mR : Mem) (ml : Lem) : Prop := ∀ i, i < n → ∃ a e, a < e ∧ e ≤ len ∧ e - a ≤ 8 ∧ LTS b a e ∧ mR 1 i = nI a ∧ mR 2 i = nI e ∧ ml 3 i = lN (pkn (cdN b) a (e - a))
theorem c_isName {len : Nat} {mR mT : Mem} {ml : Lem} {n st pl i : Nat} (hl : len ≤ 500) (hn : n ≤ 6) (hN : NM len (mT 1) n mR ml) (hi : i < n) (hs : st < pl) (hpl : pl ≤ len) (h8 : pl - st ≤ 8) (hL : LTS (mT 1) st pl) (h5 : mR 0 5 = nI st) (h6 : mR 0 6 = nI pl) : ∃ z : Bool, mX3_tokenIsName mR mT (nI i) = some (bI z) ∧ (z = true ↔ ml 3 i = lN (pkn (cdN (mT 1)) st (pl - st))) := by
  obtain ⟨a, e, e1, e2, e3, e4, e5, e6, e7⟩ := hN i hi
  have cdb : ∀ s q, LTS (mT 1) s q → ∀ j, j < q - s → 0 < cdN (mT 1) (s + j) ∧ cdN (mT 1) (s + j) < 128 := fun s q hq j hj => by
    have := hq.cd (i := s + j) (by omega) (by omega); omega
  have iff1 : ml 3 i = lN (pkn (cdN (mT 1)) st (pl - st)) ↔ (pl - st = e - a ∧ ∀ j, j < e - a → cdN (mT 1) (st + j) = cdN (mT 1) (a + j)) := by
    rw [e7, pk_lEQ (pkn_63 e3 (fun j hj => (cdb a e e4 j hj).2)) (pkn_63 h8 (fun j hj => (cdb st pl hL j hj).2))]
    constructor
    · intro q
      obtain ⟨q1, q2⟩ := pk_inj (pl - st) (e - a) (fun j hj => by have := cdb st pl hL j hj; omega) (fun j hj => by have := cdb a e e4 j hj; omega) q.symm
      exact ⟨q1, fun j hj => q2 j (by omega)⟩
    · rintro ⟨q1, q2⟩
      rw [q1]
      exact (pk_cg (e - a) q2).symm
  unfold mX3_tokenIsName
  rw [gi_n (show i < 6 by omega) (by decide), gi_n (show i < 6 by omega) (by decide), nI_clamp (by omega), e5, e6, pk_sub (by omega), nm_d, h5, h6, pk_sub (by omega)]
  by_cases he : pl - st = e - a
  · rw [if_pos (by rw [he])]
    unfold mX3_tokenIsName_L31
    have step : ∀ j, j < e - a → mX3_tokenIsName_s31 (nI i) (nI (e - a)) mR mT (nI j) = if cdN (mT 1) (st + j) = cdN (mT 1) (a + j) then some (Sum.inl (nI (j + 1))) else some (Sum.inr (Sum.inl ())) := by
      intro j hj
      obtain ⟨c1, c2, c3⟩ := e4.cd (i := a + j) (by omega) (by omega)
      obtain ⟨d1, d2, d3⟩ := hL.cd (i := st + j) (by omega) (by omega)
      unfold mX3_tokenIsName_s31
      rw [if_neg (by rw [n_le (by omega) (by omega)]; omega), h5, n_add, gi_n (show st + j < 500 by omega) (by decide), gi_n (show i < 6 by omega) (by decide), nI_clamp (show i < 2 ^ 31 by omega), e5, n_add, gi_n (show a + j < 500 by omega) (by decide), nI_clamp (show st + j < 2 ^ 31 by omega), nI_clamp (show a + j < 2 ^ 31 by omega), c3, d3, nm_d, nI_s]
      by_cases hc : cdN (mT 1) (st + j) = cdN (mT 1) (a + j)
      · rw [if_pos hc, if_pos (by rw [hc])]
      · rw [if_neg hc, if_neg (by rw [n_eq (by omega) (by omega)]; exact hc)]
    by_cases hall : ∀ j, j < e - a → cdN (mT 1) (st + j) = cdN (mT 1) (a + j)
    · have hit := itr_run (B := fun q : Int32 => mX3_tokenIsName_s31 (nI i) (nI (e - a)) mR mT q) (fun j => nI j) (r := Sum.inr ()) (n := e - a) (fun j hj => by
        show mX3_tokenIsName_s31 (nI i) (nI (e - a)) mR mT (nI j) = _
        rw [step j hj, if_pos (hall j hj)]) (by
        show mX3_tokenIsName_s31 (nI i) (nI (e - a)) mR mT (nI (e - a)) = _
        unfold mX3_tokenIsName_s31
        rw [if_pos (Int32.le_refl _)]) 0 FU (Nat.zero_le _) (FU_gt (by omega))
      rw [show (0 : Int32) = nI 0 from rfl, hit, bn_s]
      exact ⟨true, rfl, fun _ => iff1.mpr ⟨he, hall⟩, fun _ => rfl⟩
    · obtain ⟨j, ⟨j1, j2⟩, j3⟩ := pk_least (fun j => j < e - a ∧ ¬ cdN (mT 1) (st + j) = cdN (mT 1) (a + j)) (by
        apply Classical.byContradiction
        intro hn
        apply hall
        intro j hj
        apply Classical.byContradiction
        intro hc
        exact hn ⟨j, hj, hc⟩)
      have hit := itr_run (B := fun q : Int32 => mX3_tokenIsName_s31 (nI i) (nI (e - a)) mR mT q) (fun j => nI j) (r := Sum.inl ()) (n := j) (fun q hq => by
        show mX3_tokenIsName_s31 (nI i) (nI (e - a)) mR mT (nI q) = _
        rw [step q (by omega), if_pos (Classical.byContradiction (fun hc => j3 q hq ⟨by omega, hc⟩))]) (by
        show mX3_tokenIsName_s31 (nI i) (nI (e - a)) mR mT (nI j) = _
        rw [step j j1, if_neg j2]) 0 FU (Nat.zero_le _) (FU_gt (by omega))
      rw [show (0 : Int32) = nI 0 from rfl, hit, bn_s]
      exact ⟨false, rfl, fun q => absurd q (by decide), fun q => absurd (iff1.mp q).2 hall⟩
  · rw [if_neg (by rw [n_eq (by omega) (by omega)]; exact he)]
    exact ⟨false, rfl, fun q => absurd q (by decide), fun q => absurd (iff1.mp q).1 he⟩
