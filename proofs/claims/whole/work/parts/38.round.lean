/-! the cheapest way, turn by turn -/
theorem WR.at {sp : Int32} {mY mO : Mem} {W : Nat → Nat} (h : WR 60 sp mY mO W) {k : Nat} (hk : k < 5) : (mY 1 k = -1 ∧ W k = 1000000 ∧ spb sp k = false) ∨ ∃ c l, c ≤ 5940 ∧ l ≤ 60 ∧ mY 1 k = nI c ∧ mY 2 k = nI l ∧ W k = 100 * c + l ∧ (l = 0 ↔ spb sp k = true) ∧ (l = 0 → c = 0) := by
  obtain ⟨-, h2⟩ := h k hk
  rcases h2 with ⟨a, b, c, d⟩ | ⟨a, b, c⟩ | ⟨a, c, l, b1, b2, b3, b4, b5, b6⟩
  · exact Or.inr ⟨0, 0, by omega, by omega, b, c, d, ⟨fun _ => a, fun _ => rfl⟩, fun _ => rfl⟩
  · exact Or.inl ⟨b, c, a⟩
  · exact Or.inr ⟨c, l, by omega, b3, b4, b5, b6, ⟨fun e => by omega, fun e => absurd (a.symm.trans e) (by decide)⟩, fun e => by omega⟩
abbrev TGp (t : Nat → Nat → Nat) (W : Nat → Nat) (u i : Nat) : Prop := t 0 i = u ∧ W (t 1 i) + (100 * t 2 i + 1) = W u
def FTp (n : Nat) (t : Nat → Nat → Nat) (W : Nat → Nat) (u i : Nat) : Prop := i < n ∧ TGp t W u i ∧ ∀ j, j < i → ¬ TGp t W u j
theorem FT_ex {sp : Int32} {n : Nat} {t : Nat → Nat → Nat} {W : Nat → Nat} {mY mO : Mem} (ht : ∀ i, i < n → t 1 i < 5) (h : WF sp n t mY mO W) {k : Nat} (hk : k < 5) (hs : spb sp k = false) (hW : W k < 1000000) : ∃ i, FTp n t W k i := by
  obtain ⟨i, i1, i2, i3⟩ := tight ht h.2.1 h.2.2 hk hs hW
  obtain ⟨j, j1, j2⟩ := pk_least (TGp t W k) ⟨i, i2, i3⟩
  refine ⟨j, ?_, j1, j2⟩
  rcases Nat.lt_or_ge i j with h1 | h1
  · exact absurd ⟨i2, i3⟩ (j2 i h1)
  · omega
theorem FT_un {n : Nat} {t : Nat → Nat → Nat} {W : Nat → Nat} {u i i' : Nat} (h : FTp n t W u i) (h' : FTp n t W u i') : i = i' := by
  rcases Nat.lt_trichotomy i i' with h1 | h1 | h1
  · exact absurd h.2.1 (h'.2.2 i h1)
  · exact h1
  · exact absurd h'.2.1 (h.2.2 i' h1)
theorem c_first {mL mY mO : Mem} {g : Nat → Nat} {f t : Nat → Nat → Nat} (hR : LR g f t) (hC : LC mL g f t) {sp : Int32} {W : Nat → Nat} (h : WF sp (g 7) t mY mO W) {u i : Nat} (hu : u < 5) (hi : FTp (g 7) t W u i) : mX6_firstTurn mY mL (nI u) = some (nI i) := by
  obtain ⟨-, -, -, -, -, -, -, -, -, -, n12, -, rt⟩ := id hR
  obtain ⟨i1, ⟨i2, i3⟩, i4⟩ := hi
  have hu2 : ∃ c l, c ≤ 5940 ∧ l ≤ 60 ∧ mY 1 u = nI c ∧ mY 2 u = nI l ∧ W u = 100 * c + l := by
    rcases h.1.at hu with ⟨-, b, -⟩ | ⟨c, l, a1, a2, a3, a4, a5, -⟩
    · exfalso
      have ht := rt i i1
      rcases h.1.at ht.2.1 with ⟨-, b', -⟩ | ⟨c, l, a1, a2, a3, a4, a5, -⟩ <;> omega
    · exact ⟨c, l, a1, a2, a3, a4, a5⟩
  obtain ⟨c', l', u1, u2, u3, u4, u5⟩ := hu2
  have step : ∀ j, j < g 7 → mX6_firstTurn_s2 (nI u) mY mL (nI j) = if TGp t W u j then some (Sum.inr (Sum.inl (nI j))) else some (Sum.inl (nI (j + 1))) := by
    intro j hj
    obtain ⟨ta, tb, tA⟩ := rt j hj
    have c7 : mL 7 j = nI (t 0 j) := hC.2.2.2.2.2.2.2.2.2 j hj 0 (by decide)
    have c8 : mL 8 j = nI (t 1 j) := hC.2.2.2.2.2.2.2.2.2 j hj 1 (by decide)
    have c9 : mL 9 j = nI (t 2 j) := hC.2.2.2.2.2.2.2.2.2 j hj 2 (by decide)
    unfold mX6_firstTurn_s2
    rw [hC.2.2.2.2.2.2.2.1, if_neg (by rw [n_le (by omega) (by omega)]; omega)]
    simp only [gi_n (show j < 12 by omega) (show 12 < 2 ^ 31 by decide), nI_clamp (show j < 2 ^ 31 by omega), c7, c8, c9, nm_d, gi_n tb (show 5 < 2 ^ 31 by decide), nI_clamp (show t 1 j < 2 ^ 31 by omega), gi_n hu (show 5 < 2 ^ 31 by decide), nI_clamp (show u < 2 ^ 31 by omega), nI_s, u3, u4]
    by_cases h0 : t 0 j = u
    · rw [if_neg (show ¬ ¬ nI (t 0 j) = nI u by rw [h0]; exact fun q => q rfl)]
      rcases h.1.at tb with ⟨a, b, -⟩ | ⟨c, l, a1, a2, a3, a4, a5, -⟩
      · rw [if_pos a, if_neg]
        rintro ⟨-, q⟩
        omega
      · rw [a3, a4, if_neg (n_nm1 (by omega)), n_add, nI_s]
        by_cases h1 : c + t 2 j = c'
        · rw [if_neg (show ¬ ¬ nI (c + t 2 j) = nI c' by rw [h1]; exact fun q => q rfl)]
          by_cases h2 : l + 1 = l'
          · rw [if_neg (show ¬ ¬ nI (l + 1) = nI l' by rw [h2]; exact fun q => q rfl), if_pos ⟨h0, by omega⟩]
          · rw [if_pos (show ¬ nI (l + 1) = nI l' by rw [n_eq (by omega) (by omega)]; exact h2), if_neg]
            rintro ⟨-, q⟩
            omega
        · rw [if_pos (show ¬ nI (c + t 2 j) = nI c' by rw [n_eq (by omega) (by omega)]; exact h1), if_neg]
          rintro ⟨-, q⟩
          omega
    · rw [if_pos (show ¬ nI (t 0 j) = nI u by rw [n_eq (by omega) (by omega)]; exact h0), if_neg]
      exact fun q => h0 q.1
  have hit := itr_run (B := fun q : Int32 => mX6_firstTurn_s2 (nI u) mY mL q) (fun j => nI j) (r := Sum.inl (nI i)) (n := i) (fun j hj => by
      show mX6_firstTurn_s2 (nI u) mY mL (nI j) = _
      rw [step j (by omega), if_neg (i4 j hj)]) (by
      show mX6_firstTurn_s2 (nI u) mY mL (nI i) = _
      rw [step i i1, if_pos ⟨i2, i3⟩]) 0 FU (Nat.zero_le _) (FU_gt (by omega))
  unfold mX6_firstTurn mX6_firstTurn_L2
  rw [show (0 : Int32) = nI 0 from rfl, hit, bn_s]
  rfl
theorem o_first {mY mO : Mem} {ml : Lem} {g : Nat → Nat} {f t : Nat → Nat → Nat} (hR : LR g f t) (hM : LM mO g f t) {sp : Int32} {W : Nat → Nat} (h : WF sp (g 7) t mY mO W) {u i : Nat} (hu : u < 5) (hi : FTp (g 7) t W u i) (v2 v4 : Int32) : itr (fun q => mX8_round_s77 v2 (nI u) v4 mO ml q) FU (0 : Int32) = some (nI i) := by
  obtain ⟨-, -, -, -, -, -, -, -, -, -, n12, -, rt⟩ := id hR
  obtain ⟨i1, ⟨i2, i3⟩, i4⟩ := hi
  have hWu : ∀ k, k < 5 → W k ≤ 1000000 := by
    intro k hk
    rcases h.1.at hk with ⟨-, b, -⟩ | ⟨c, l, a1, a2, a3, a4, a5, -⟩ <;> omega
  have step : ∀ j, j < g 7 → mX8_round_s77 v2 (nI u) v4 mO ml (nI j) = if TGp t W u j then some (Sum.inr (nI j)) else some (Sum.inl (nI (j + 1))) := by
    intro j hj
    obtain ⟨ta, tb, tA⟩ := rt j hj
    have r0 : mO 7 (3 * j) = nI (t 0 j) := hM.2.2.2.2.2.2.2.2.2 j hj 0 (by decide)
    have r1 : mO 7 (3 * j + 1) = nI (t 1 j) := hM.2.2.2.2.2.2.2.2.2 j hj 1 (by decide)
    have r2 : mO 7 (3 * j + 2) = nI (t 2 j) := hM.2.2.2.2.2.2.2.2.2 j hj 2 (by decide)
    unfold mX8_round_s77
    simp only [ix3, nI_p2, nI_s, gi_n (show 3 * j < 36 by omega) (show 36 < 2 ^ 31 by decide), gi_n (show 3 * j + 1 < 36 by omega) (show 36 < 2 ^ 31 by decide), gi_n (show 3 * j + 2 < 36 by omega) (show 36 < 2 ^ 31 by decide), nI_clamp (show 3 * j < 2 ^ 31 by omega), nI_clamp (show 3 * j + 1 < 2 ^ 31 by omega), nI_clamp (show 3 * j + 2 < 2 ^ 31 by omega), r0, r1, r2, nm_d, gi_n tb (show 5 < 2 ^ 31 by decide), nI_clamp (show t 1 j < 2 ^ 31 by omega), gi_n hu (show 5 < 2 ^ 31 by decide), nI_clamp (show u < 2 ^ 31 by omega)]
    have hb := hWu _ tb
    have hu' := hWu u hu
    rw [(h.1 _ tb).1, (h.1 u hu).1, way_n]
    by_cases h0 : t 0 j = u
    · rw [if_neg (show ¬ ¬ nI (t 0 j) = nI u by rw [h0]; exact fun q => q rfl)]
      by_cases h1 : W (t 1 j) + (100 * t 2 j + 1) = W u
      · rw [if_pos (show nI (W (t 1 j) + (100 * t 2 j + 1)) = nI (W u) by rw [h1]), if_pos ⟨h0, h1⟩]
      · rw [if_neg (show ¬ nI (W (t 1 j) + (100 * t 2 j + 1)) = nI (W u) by rw [n_eq (by omega) (by omega)]; exact h1), if_neg (fun q => h1 q.2)]
    · rw [if_pos (show ¬ nI (t 0 j) = nI u by rw [n_eq (by omega) (by omega)]; exact h0), if_neg (fun q => h0 q.1)]
  exact itr_run (B := fun q : Int32 => mX8_round_s77 v2 (nI u) v4 mO ml q) (fun j => nI j) (r := nI i) (n := i) (fun j hj => by
      show mX8_round_s77 v2 (nI u) v4 mO ml (nI j) = _
      rw [step j (by omega), if_neg (i4 j hj)]) (by
      show mX8_round_s77 v2 (nI u) v4 mO ml (nI i) = _
      rw [step i i1, if_pos ⟨i2, i3⟩]) 0 FU (Nat.zero_le _) (FU_gt (by omega))
def PT (n : Nat) (t : Nat → Nat → Nat) (W : Nat → Nat) : Nat → Nat → Nat → Prop
  | 0, u, i => FTp n t W u i
  | d + 1, u, i => ∃ i0, FTp n t W u i0 ∧ PT n t W d (t 1 i0) i
theorem ln_tg {sp : Int32} {n : Nat} {t : Nat → Nat → Nat} {mY mO : Mem} {W : Nat → Nat} (h : WF sp n t mY mO W) {u i : Nat} (hb : t 1 i < 5) (hu : W u ≤ 1000000) (hi : TGp t W u i) : W (t 1 i) < 1000000 ∧ W u % 100 = W (t 1 i) % 100 + 1 := by
  obtain ⟨-, i3⟩ := hi
  rcases h.1.at hb with ⟨-, b', -⟩ | ⟨c, l, a1, a2, a3, a4, a5, -⟩ <;> omega
theorem PT_ex {sp : Int32} {n : Nat} {t : Nat → Nat → Nat} {mY mO : Mem} {W : Nat → Nat} (ht : ∀ i, i < n → t 1 i < 5) (h : WF sp n t mY mO W) : ∀ (d u : Nat), u < 5 → W u < 1000000 → d < W u % 100 → ∃ i, PT n t W d u i := by
  intro d
  induction d with
  | zero =>
    intro u hu hW hd
    cases hs : spb sp u with
    | true =>
      rcases h.1.at hu with ⟨-, b', c⟩ | ⟨c, l, a1, a2, a3, a4, a5, a6, a7⟩
      · rw [hs] at c; exact absurd c (by decide)
      · have := a6.mpr hs; have := a7 this; omega
    | false => exact FT_ex ht h hu hs hW
  | succ d ih =>
    intro u hu hW hd
    cases hs : spb sp u with
    | true =>
      rcases h.1.at hu with ⟨-, b', c⟩ | ⟨c, l, a1, a2, a3, a4, a5, a6, a7⟩
      · rw [hs] at c; exact absurd c (by decide)
      · have := a6.mpr hs; have := a7 this; omega
    | false =>
      obtain ⟨i, hi⟩ := FT_ex ht h hu hs hW
      obtain ⟨b1, b2⟩ := ln_tg h (ht i hi.1) (by omega) hi.2.1
      obtain ⟨i', hi'⟩ := ih (t 1 i) (ht i hi.1) b1 (by omega)
      exact ⟨i', i, hi, hi'⟩
theorem c_path {mL mY mO : Mem} {g : Nat → Nat} {f t : Nat → Nat → Nat} (hR : LR g f t) (hC : LC mL g f t) {sp : Int32} {W : Nat → Nat} (h : WF sp (g 7) t mY mO W) {K : Nat} (hK : K < 1000) : ∀ (d u j N i0 i : Nat), u < 5 → FTp (g 7) t W u i0 → PT (g 7) t W d u i → j + d = K → d < N → itr (fun q => mX6_turnAt_s33 (nI K) mY mL q.1 q.2) N (nI i0, nI j) = some (nI i) := by
  obtain ⟨-, -, -, -, -, -, -, -, -, -, n12, -, rt⟩ := id hR
  intro d
  induction d with
  | zero =>
    intro u j N i0 i hu hf hp hj hN
    obtain ⟨N, rfl⟩ : ∃ N', N = N' + 1 := ⟨N - 1, by omega⟩
    rw [FT_un hf hp]
    show bn (mX6_turnAt_s33 (nI K) mY mL (nI i) (nI j)) _ = _
    unfold mX6_turnAt_s33
    rw [if_pos (by rw [n_le (by omega) (by omega)]; omega)]
    rfl
  | succ d ih =>
    intro u j N i0 i hu hf hp hj hN
    obtain ⟨N, rfl⟩ : ∃ N', N = N' + 1 := ⟨N - 1, by omega⟩
    obtain ⟨i1, hf1, hp1⟩ := hp
    have := FT_un hf hf1
    subst this
    have c8 : mL 8 i0 = nI (t 1 i0) := hC.2.2.2.2.2.2.2.2.2 i0 hf.1 1 (by decide)
    have hi0 := hf.1
    have tb := (rt i0 hf.1).2.1
    have hf2 : ∃ i2, FTp (g 7) t W (t 1 i0) i2 := by
      cases d with
      | zero => exact ⟨i, hp1⟩
      | succ d => obtain ⟨i2, h2, -⟩ := hp1; exact ⟨i2, h2⟩
    obtain ⟨i2, hf2⟩ := hf2
    show bn (mX6_turnAt_s33 (nI K) mY mL (nI i0) (nI j)) _ = _
    unfold mX6_turnAt_s33
    rw [if_neg (by rw [n_le (by omega) (by omega)]; omega), if_neg (n_nm1 (by omega)), gi_n (show i0 < 12 by omega) (by decide), nI_clamp (by omega), c8, c_first hR hC h tb hf2, bn_s, nm_d, nI_s, bn_s]
    exact ih (t 1 i0) (j + 1) N i2 i tb hf2 hp1 (by omega) (by omega)
theorem o_path {mY mO : Mem} {ml : Lem} {g : Nat → Nat} {f t : Nat → Nat → Nat} (hR : LR g f t) (hM : LM mO g f t) {sp : Int32} {W : Nat → Nat} (h : WF sp (g 7) t mY mO W) {K : Nat} (hK : K < 1000) : ∀ (d u j N i : Nat), u < 5 → PT (g 7) t W d u i → j + d = K → d < N → itr (fun q => mX8_round_s65 (nI K) mO ml q.1 q.2) N (nI u, nI j) = some (Sum.inl (nI i)) := by
  obtain ⟨-, -, -, -, -, -, -, -, -, -, n12, -, rt⟩ := id hR
  have hWu : ∀ k, k < 5 → W k ≤ 1000000 := by
    intro k hk
    rcases h.1.at hk with ⟨-, b, -⟩ | ⟨c, l, a1, a2, a3, a4, a5, -⟩ <;> omega
  intro d
  induction d with
  | zero =>
    intro u j N i hu hp hj hN
    obtain ⟨N, rfl⟩ : ∃ N', N = N' + 1 := ⟨N - 1, by omega⟩
    have h1 := hWu u hu
    have h2 := hp.2.1.2
    show bn (mX8_round_s65 (nI K) mO ml (nI u) (nI j)) _ = _
    unfold mX8_round_s65 mX8_round_L77
    rw [gi_n hu (by decide), nI_clamp (by omega), (h.1 u hu).1, if_neg (by rw [n_le0 (by omega)]; omega), o_first hR hM h hu hp, bn_s, nm_d, if_neg (by rw [n_eq (by omega) (by omega)]; omega)]
    rfl
  | succ d ih =>
    intro u j N i hu hp hj hN
    obtain ⟨N, rfl⟩ : ∃ N', N = N' + 1 := ⟨N - 1, by omega⟩
    obtain ⟨i0, hf, hp1⟩ := hp
    have h1 := hWu u hu
    have h2 := hf.2.1.2
    have hi0 := hf.1
    have r1 : mO 7 (3 * i0 + 1) = nI (t 1 i0) := hM.2.2.2.2.2.2.2.2.2 i0 hi0 1 (by decide)
    show bn (mX8_round_s65 (nI K) mO ml (nI u) (nI j)) _ = _
    unfold mX8_round_s65 mX8_round_L77
    rw [gi_n hu (by decide), nI_clamp (by omega), (h.1 u hu).1, if_neg (by rw [n_le0 (by omega)]; omega), o_first hR hM h hu hf, bn_s, nm_d, if_pos (by rw [n_eq (by omega) (by omega)]; omega), nI_s, nm_d, ix3, nI_s, gi_n (by omega) (by decide), nI_clamp (by omega), r1, nm_d, bn_s]
    exact ih (t 1 i0) (j + 1) N i (rt i0 hi0).2.1 hp1 (by omega) (by omega)
theorem o_pathN {mY mO : Mem} {ml : Lem} {g : Nat → Nat} {f t : Nat → Nat → Nat} (hR : LR g f t) (hM : LM mO g f t) {sp : Int32} {W : Nat → Nat} (h : WF sp (g 7) t mY mO W) {K : Nat} (hK : K < 2 ^ 31) : ∀ (l u j N : Nat), u < 5 → W u < 1000000 → W u % 100 = l → j + l ≤ K → l < N → itr (fun q => mX8_round_s65 (nI K) mO ml q.1 q.2) N (nI u, nI j) = some (Sum.inr ()) := by
  obtain ⟨-, -, -, -, -, -, -, -, -, -, n12, -, rt⟩ := id hR
  intro l
  induction l with
  | zero =>
    intro u j N hu hW hl hj hN
    obtain ⟨N, rfl⟩ : ∃ N', N = N' + 1 := ⟨N - 1, by omega⟩
    have h0 : W u = 0 := by
      rcases h.1.at hu with ⟨-, b, -⟩ | ⟨c, l, a1, a2, a3, a4, a5, a6, a7⟩
      · omega
      · have := a7 (by omega); omega
    show bn (mX8_round_s65 (nI K) mO ml (nI u) (nI j)) _ = _
    unfold mX8_round_s65
    rw [gi_n hu (by decide), nI_clamp (by omega), (h.1 u hu).1, h0, if_pos (by decide)]
    rfl
  | succ l ih =>
    intro u j N hu hW hl hj hN
    obtain ⟨N, rfl⟩ : ∃ N', N = N' + 1 := ⟨N - 1, by omega⟩
    obtain ⟨i0, hf⟩ : ∃ i, FTp (g 7) t W u i := PT_ex (fun i hi => (rt i hi).2.1) h 0 u hu hW (by omega)
    obtain ⟨b1, b2⟩ := ln_tg h (rt i0 hf.1).2.1 (by omega) hf.2.1
    have h2 := hf.2.1.2
    have hi0 := hf.1
    have r1 : mO 7 (3 * i0 + 1) = nI (t 1 i0) := hM.2.2.2.2.2.2.2.2.2 i0 hi0 1 (by decide)
    show bn (mX8_round_s65 (nI K) mO ml (nI u) (nI j)) _ = _
    unfold mX8_round_s65 mX8_round_L77
    rw [gi_n hu (by decide), nI_clamp (by omega), (h.1 u hu).1, if_neg (by rw [n_le0 (by omega)]; omega), o_first hR hM h hu hf, bn_s, nm_d, if_pos (by rw [n_eq (by omega) (by omega)]; omega), nI_s, nm_d, ix3, nI_s, gi_n (by omega) (by decide), nI_clamp (by omega), r1, nm_d, bn_s]
    exact ih (t 1 i0) (j + 1) N (rt i0 hi0).2.1 b1 (by omega) (by omega) (by omega)
theorem c_turnAt {mL mY mO : Mem} {ml : Lem} {g : Nat → Nat} {f t : Nat → Nat → Nat} (hR : LR g f t) (hC : LC mL g f t) (hM : LM mO g f t) {sp : Int32} {W : Nat → Nat} (h : WF sp (g 7) t mY mO W) {u K : Nat} (hu : u < 5) (hK : K < 2 ^ 31) : (mX6_turnAt mY mL (nI u) (nI K) = some (-1) ∧ (W u = 1000000 ∨ (W u < 1000000 ∧ mX8_round_L65 (nI K) (nI u) (0 : Int32) mO ml = some (-1, mO)))) ∨ (W u < 1000000 ∧ ∃ i, mX6_turnAt mY mL (nI u) (nI K) = some (nI i) ∧ mX8_round_L65 (nI K) (nI u) (0 : Int32) mO ml = some (nI i, mO)) := by
  obtain ⟨-, -, -, -, -, -, -, -, -, -, n12, -, rt⟩ := id hR
  unfold mX6_turnAt mX8_round_L65 mX6_turnAt_L33
  rw [gi_n hu (by decide), gi_n hu (by decide), nI_clamp (by omega)]
  rcases h.1.at hu with ⟨a, b, -⟩ | ⟨c, l, a1, a2, a3, a4, a5, a6, a7⟩
  · rw [if_pos a]
    exact Or.inl ⟨rfl, Or.inl b⟩
  · rw [a3, a4, if_neg (n_nm1 (by omega))]
    have hWu : W u < 1000000 := by omega
    by_cases hk : K < l
    · obtain ⟨i, hi⟩ := PT_ex (fun i hi => (rt i hi).2.1) h K u hu hWu (by omega)
      obtain ⟨i0, hi0⟩ : ∃ i, FTp (g 7) t W u i := PT_ex (fun i hi => (rt i hi).2.1) h 0 u hu hWu (by omega)
      refine Or.inr ⟨hWu, i, ?_, ?_⟩
      · rw [if_pos (by rw [n_lt (by omega) (by omega)]; exact hk), c_first hR hC h hu hi0, bn_s, show (0 : Int32) = nI 0 from rfl, c_path hR hC h (K := K) (by omega) K u 0 FU i0 i hu hi0 hi (by omega) (FU_gt (by omega))]
        rfl
      · rw [show (0 : Int32) = nI 0 from rfl, o_path hR hM h (K := K) (by omega) K u 0 FU i hu hi (by omega) (FU_gt (by omega))]
        rfl
    · refine Or.inl ⟨?_, Or.inr ⟨hWu, ?_⟩⟩
      · rw [if_neg (by rw [n_lt (by omega) (by omega)]; exact hk)]
      · rw [show (0 : Int32) = nI 0 from rfl, o_pathN hR hM h hK (W u % 100) u 0 FU hu hWu rfl (by omega) (FU_gt (by omega))]
        rfl
