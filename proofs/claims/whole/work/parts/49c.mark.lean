/-! the market, the book, ways -/
theorem V_end {mX mT mL mM mB mS i0 i1 i2 mO : Mem} {ml : Lem} (h : INV mX mT mL mM mB mS i0 i1 i2 mO ml) (v1 : Int32) : RT (mX7_end mX mT v1) (mX8_end mO ml v1) (fun q q' => q.1 = q'.1 ∧ INV mX q.2 mL mM mB mS i0 i1 i2 q'.2 ml) := by
  obtain ⟨g, f, t, hM, hL, ⟨len, hT⟩, h4, ⟨c, h5⟩, h6, h7, h8, h9⟩ := id h
  unfold mX7_end mX8_end
  rw [o_in, bn_s, it_b1, hT.2.1, hT.2.2.1]
  have hl := hT.1
  rcases i_cases v1 with hv | ⟨n, hn, rfl⟩
  · rw [if_pos hv]
    have : btw v1 0 (nI len) = false := by
      unfold btw
      rw [decide_eq_false (fun q => neg_nle (a := 0) hv (by decide) q.1)]
    rw [this]
    exact RT_s ⟨rfl, h⟩
  · rw [if_neg (nI_pos hn), show (0 : Int32) = nI 0 from rfl, btw_n (by omega) (by decide) hn]
    by_cases hc : n ≤ len
    · rw [if_pos (by rw [n_le hn (by omega)]; exact hc), decide_eq_true ⟨Nat.zero_le _, hc⟩]
      have hF : Fr [] [1] mO (upf mO 1 (nI n)) := Fr.rf.upf (by decide)
      exact RT_s ⟨rfl, g, f, t, hM.fr hF (by decide) (by decide) (by decide), hL, ⟨n, by omega, rfl, rfl, hT.2.2.2⟩, h4.fr hF (by decide) (by decide) (by decide) (by decide) rfl, ⟨c, h5.fr Fr.rf hF (by decide) (by decide) (by decide) (by decide) (by decide) (by decide) (x := []) (y := [])⟩, h6, h7.fr hF (by decide) rfl, h8.fr hF (by decide) rfl, h9.fr hF (by decide) rfl⟩
    · rw [if_neg (by rw [n_le hn (by omega)]; exact hc), decide_eq_false (fun q => hc q.2)]
      exact RT_s ⟨rfl, h⟩
theorem IMK.frl {n k : Nat} {mX m mO : Mem} {ml ml' : Lem} (h : IMK n k mX m mO ml) (hl : ml' 17 k = ml 17 k) : IMK n k mX m mO ml' := by
  unfold IMK IMR at *
  rw [hl]
  exact h
theorem V_seed {mX mT mL mM mB mS i0 i1 i2 mO : Mem} {ml : Lem} (h : INV mX mT mL mM mB mS i0 i1 i2 mO ml) (v1 : Int32) : RT (mX7_seed mX mM v1) (mX8_seed mO ml v1) (fun q q' => q.1 = q'.1 ∧ INV mX mT mL q.2 mB mS i0 i1 i2 mO q'.2) := by
  obtain ⟨g, f, t, hM, hL, h3, ⟨a1, a2, a3⟩, h5, h6, h7, h8, h9⟩ := id h
  unfold mX7_seed mX8_seed
  rw [c_isIn, o_in, bn_s, bn_s, it_b1, it_b1]
  cases h1 : btw v1 0 1000000 with
  | false => exact RT_s ⟨rfl, h⟩
  | true =>
    obtain ⟨x, x1, x2, rfl⟩ := btw_t (a := 0) (b := 1000000) (by decide) h1 (by decide)
    rw [cd_t, cd_t, nI_l (by omega), nm_d, nm_d]
    exact RT_s ⟨rfl, g, f, t, hM, hL, h3, ⟨a1, ⟨x, by omega, rfl, rfl⟩, a3⟩, h5, h6, h7.frl rfl, h8.frl rfl, h9.frl rfl⟩
theorem c_canLoan {mX mL : Mem} {n : Nat} (hG : GX mX mL n) (hn : n ≤ 6) (v1 v2 v3 v4 : Int32) : ∃ z : Bool, mX7_canBeLoan mX mL v1 v2 v3 v4 = some (bI z) ∧ (∀ (mO : Mem) (ml : Lem), mO 0 18 = nI n → mX8_isLoan mO ml v1 v2 v3 v4 = some (bI z)) ∧ (z = true → ∃ w k u p, w < 2 ^ 31 ∧ w / 10 < n ∧ w % 10 < n ∧ k < 5 ∧ 1 ≤ u ∧ u ≤ 9999 ∧ p ≤ 400 ∧ v1 = nI w ∧ v2 = nI k ∧ v3 = nI u ∧ v4 = nI p) := by
  unfold mX7_canBeLoan mX8_isLoan
  by_cases hv : v1 < 0
  · rw [if_pos hv]
    exact ⟨false, rfl, fun mO ml hO => by rw [if_pos hv]; rfl, fun e => absurd e (by decide)⟩
  · obtain ⟨w, hw, rfl⟩ := nI_of hv
    rw [if_neg hv, show (10 : Int32) = nI 10 from rfl, pk_rem hw (by decide) (by decide), pk_div hw (by decide) (by decide), c_isSort hG (by omega), c_isSort hG (by omega), c_isIn, c_isIn, c_isIn]
    have hd : w / 10 < 2 ^ 31 := by omega
    have key : ∀ (mO : Mem) (ml : Lem), mO 0 18 = nI n → (if nI w < 0 then some 0 else bn (mX8_isSort mO ml (nI (w / 10))) fun x_2 => if x_2 = 0 then some 0 else bn (mX8_isSort mO ml (nI (w % 10))) fun x_6 => if x_6 = 0 then some 0 else if nI (w / 10) = nI (w % 10) then some 0 else bn (mX8_in v2 0 4) fun x_11 => if x_11 = 0 then some 0 else bn (mX8_in v3 1 9999) fun x_15 => if x_15 = 0 then some 0 else bn (mX8_in v4 0 400) fun x_19 => if x_19 = 0 then some 0 else some 1) = some (bI (inR (nI (w / 10)) n && (inR (nI (w % 10)) n && (!decide (nI (w / 10) = nI (w % 10)) && (btw v2 0 4 && (btw v3 1 9999 && btw v4 0 400)))))) := by
      intro mO ml hO
      rw [if_neg hv, o_isSort hO (by omega), o_isSort hO (by omega), o_in, o_in, o_in]
      simp only [bn_s, it_b0]
      by_cases he : nI (w / 10) = nI (w % 10)
      · rw [if_pos he, decide_eq_true he]
        cases inR (nI (w / 10)) n <;> cases inR (nI (w % 10)) n <;> rfl
      · rw [if_neg he, decide_eq_false he]
        cases inR (nI (w / 10)) n <;> cases inR (nI (w % 10)) n <;> cases btw v2 0 4 <;> cases btw v3 1 9999 <;> cases btw v4 0 400 <;> rfl
    refine ⟨inR (nI (w / 10)) n && (inR (nI (w % 10)) n && (!decide (nI (w / 10) = nI (w % 10)) && (btw v2 0 4 && (btw v3 1 9999 && btw v4 0 400)))), ?_, fun mO ml hO => ?_, fun hz => ?_⟩
    · simp only [bn_s, it_b0]
      by_cases he : nI (w / 10) = nI (w % 10)
      · rw [if_neg (fun q => q he), decide_eq_true he]
        cases inR (nI (w / 10)) n <;> cases inR (nI (w % 10)) n <;> rfl
      · rw [if_pos he, decide_eq_false he]
        cases inR (nI (w / 10)) n <;> cases inR (nI (w % 10)) n <;> cases btw v2 0 4 <;> cases btw v3 1 9999 <;> cases btw v4 0 400 <;> rfl
    · exact key mO ml hO
    · simp only [Bool.and_eq_true] at hz
      obtain ⟨z1, z2, -, z4, z5, z6⟩ := hz
      rw [inR_n (by omega)] at z1 z2
      obtain ⟨k, -, k2, rfl⟩ := btw_t (a := 0) (b := 4) (by decide) z4 (by decide)
      obtain ⟨u, u1, u2, rfl⟩ := btw_t (a := 1) (b := 9999) (by decide) z5 (by decide)
      obtain ⟨p, -, p2, rfl⟩ := btw_t (a := 0) (b := 400) (by decide) z6 (by decide)
      exact ⟨w, k, u, p, hw, of_decide_eq_true z1, of_decide_eq_true z2, by omega, u1, u2, p2, rfl, rfl, rfl, rfl⟩
theorem LND.in {g : Nat → Nat} {f t : Nat → Nat → Nat} {mX mL : Mem} (h : LND g f t mX mL) {s : Nat} (hs : s < g 5) : LR g f t ∧ LC mL g f t ∧ mX 0 10 = 1 := by
  rcases h with ⟨-, z⟩ | ⟨z0, z, z'⟩
  · rw [z 5] at hs; omega
  · exact ⟨z, z', z0⟩
theorem INV.mk' {mX mT mL mM' mB mS i0 i1 i2 mO mO' : Mem} {ml ml' : Lem} {g : Nat → Nat} {f t : Nat → Nat → Nat} {x y : List Nat} (hM : LM mO g f t) (hL : LND g f t mX mL) (h3 : ∃ len, TXR len mT mO) (h5 : ∃ c, BK (g 5) c mB mO) (h6 : BSs g f t mS) (h7 : IMK (g 5) 0 mX i0 mO ml) (h8 : IMK (g 5) 1 mX i1 mO ml) (h9 : IMK (g 5) 2 mX i2 mO ml) (hF : Fr x y mO mO') (c1 : ∀ k ∈ [1, 6, 7, 11, 12, 13, 14, 15, 16], k ∉ x) (c2 : ∀ k ∈ [1, 13, 14, 15, 16, 17, 18, 20, 21, 28], k ∉ y) (hl : ∀ k, ml' 17 k = ml 17 k) (h4 : MR (g 5) mM' mO' ml') : INV mX mT mL mM' mB mS i0 i1 i2 mO' ml' := by
  obtain ⟨len, h3⟩ := h3
  obtain ⟨c, h5⟩ := h5
  have sub : ∀ k ∈ [12, 13, 14, 15, 16], k ∉ x := fun k hk => c1 k (by
    have : k = 12 ∨ k = 13 ∨ k = 14 ∨ k = 15 ∨ k = 16 := by simpa using hk
    rcases this with rfl | rfl | rfl | rfl | rfl <;> decide)
  have sub2 : ∀ i ∈ [13, 14, 15, 16, 17, 18, 20, 21], i ∉ y := fun k hk => c2 k (by
    have : k = 13 ∨ k = 14 ∨ k = 15 ∨ k = 16 ∨ k = 17 ∨ k = 18 ∨ k = 20 ∨ k = 21 := by simpa using hk
    rcases this with rfl | rfl | rfl | rfl | rfl | rfl | rfl | rfl <;> decide)
  exact ⟨g, f, t, hM.fr hF (c1 6 (by decide)) (c1 7 (by decide)) sub2, hL, ⟨len, h3.fr hF (c1 1 (by decide)) (c2 1 (by decide))⟩, h4, ⟨c, h5.fr Fr.rf hF (by decide) (by decide) (by decide) (by decide) (c1 11 (by decide)) (c2 28 (by decide)) (x := []) (y := [])⟩, h6, h7.fr hF sub (hl 0), h8.fr hF sub (hl 1), h9.fr hF sub (hl 2)⟩
theorem V_lend {mX mT mL mM mB mS i0 i1 i2 mO : Mem} {ml : Lem} (h : INV mX mT mL mM mB mS i0 i1 i2 mO ml) (v1 v2 v3 v4 : Int32) : RT (mX7_lend mX mM mL v1 v2 v3 v4) (mX8_lend mO ml v1 v2 v3 v4) (fun q q' => q.1 = q'.1 ∧ INV mX mT mL q.2 mB mS i0 i1 i2 q'.2 ml) := by
  obtain ⟨g, f, t, hM, hL, h3, ⟨a1, a2, a3⟩, h5, h6, h7, h8, h9⟩ := id h
  obtain ⟨hG, n6⟩ := hL.n
  obtain ⟨z, z1, z2, z3⟩ := c_canLoan hG n6 v1 v2 v3 v4
  unfold mX7_lend mX8_lend
  rw [z1, z2 mO ml hM.2.2.2.2.2.1, bn_s, bn_s, it_b1, it_b0]
  cases z with
  | false => exact RT_s ⟨rfl, h⟩
  | true =>
    obtain ⟨w, k, u, p, w1, w2, w3, k1, u1, u2, p1, rfl, rfl, rfl, rfl⟩ := z3 rfl
    obtain ⟨hR, hC, -⟩ := hL.in w2
    rw [cd_t, cd_t, show (10 : Int32) = nI 10 from rfl, pk_rem w1 (by decide) (by decide), pk_div w1 (by decide) (by decide)]
    refine RT_b (RT_make (ml := ml) (p := p) hR hC hM a3 a1 w2 w3 k1 u1 u2) (fun q q' hq => ?_)
    obtain ⟨q1, q2, q3, q4, q5⟩ := hq
    simp only [nm_d]
    refine RT_s ⟨q1, INV.mk' hM hL h3 h5 h6 h7 h8 h9 q5 (by decide) (by decide) (fun _ => rfl) ⟨?_, ?_, q3⟩⟩
    · show q.2 0 0 = q'.2 0 23
      rw [q4.2 0 (by decide), q5.2 23 (by decide)]; exact a1
    · obtain ⟨x, x1, x2, x3⟩ := a2
      exact ⟨x, x1, (q4.2 1 (by decide)).trans x2, x3⟩
theorem V_go {mX mT mL mM mB mS i0 i1 i2 mO : Mem} {ml : Lem} (h : INV mX mT mL mM mB mS i0 i1 i2 mO ml) (v1 : Int32) : RT (mX7_go mX mM mL v1) (mX8_go mO ml v1) (fun q q' => q.1 = q'.1 ∧ INV mX mT mL q.2 mB mS i0 i1 i2 q'.2.1 q'.2.2) := by
  obtain ⟨g, f, t, hM, hL, h3, h4, h5, h6, h7, h8, h9⟩ := id h
  unfold mX7_go mX8_go
  rw [c_isIn, o_in]
  simp only [bn_s, it_b1]
  rcases hL.z hM with ⟨z1, z2, z3⟩ | ⟨z1, z2, z2', z3, hR, hC⟩
  · rw [if_pos z1, if_pos z2]
    exact RT_s ⟨rfl, h⟩
  · rw [if_neg z1, if_neg z2]
    cases h1 : btw v1 1 200 with
    | false => exact RT_s ⟨rfl, h⟩
    | true =>
      obtain ⟨n, n1, n2, rfl⟩ := btw_t (a := 1) (b := 200) (by decide) h1 (by decide)
      rw [cd_t, cd_t]
      unfold mX7_go_L22 mX8_go_L22
      refine RT_b (RT_go (ml := ml) hR hC hM h4 n2) (fun m m' hm => ?_)
      obtain ⟨m1, m2, m3⟩ := hm
      simp only [nm_d]
      exact RT_s ⟨m1.1, INV.mk' hM hL h3 h5 h6 h7 h8 h9 m2 (by decide) (by decide) (fun k => m3 17 k (fun e => absurd e.1 (by decide))) m1⟩
theorem V_loan {mX mT mL mM mB mS i0 i1 i2 mO : Mem} {ml : Lem} (h : INV mX mT mL mM mB mS i0 i1 i2 mO ml) (v1 v2 : Int32) : RT (mX7_loan mX mM v1 v2) (mX8_loan mO ml v1 v2) (fun a b => a = b) := by
  obtain ⟨g, f, t, hM, hL, h3, ⟨a1, a2, a3⟩, -⟩ := id h
  unfold mX7_loan mX8_loan mX2_isOwed
  rw [o_in, o_in]
  simp only [bn_s, it_b0]
  have hlow : ∀ (o' : Option Int32), (o' = some (-1)) → (¬ ∃ j, j < 40 ∧ v1 = nI j) → RT (bn (if v1 < 0 then some (0 : Int32) else if (40 : Int32) ≤ v1 then some (0 : Int32) else gi v1 40 (if mM 6 v1.toNatClampNeg ≤ 0 then some (0 : Int32) else some (1 : Int32))) fun x_1 => if x_1 = 0 then some (-1) else bn (mX2_numberOf mM v1 v2) fun x_5 => some x_5) o' (fun a b => a = b) := by
    intro o' ho' hn
    rw [ho']
    rcases pk_ix v1 (n := 40) (by decide) with hv | hv | hv
    · rw [if_pos hv]; exact RT_s rfl
    · by_cases h0 : v1 < 0
      · rw [if_pos h0]; exact RT_s rfl
      · rw [if_neg h0, if_pos (show (40 : Int32) ≤ v1 from hv)]; exact RT_s rfl
    · exact absurd hv hn
  have n39 : btw v1 0 39 = inR v1 40 := by
    have := btw_R (v := v1) (n := 40) (by decide)
    exact this
  rw [n39]
  by_cases hj : ∃ j, j < 40 ∧ v1 = nI j
  · obtain ⟨j, hj, rfl⟩ := hj
    obtain ⟨u, u1, u2, u3, u4⟩ := a3.2.2 j hj
    rw [if_neg (nI_pos (by omega)), if_neg (show ¬ (40 : Int32) ≤ nI j by rw [show (40 : Int32) = nI 40 from rfl, n_le (by decide) (by omega)]; omega), gi_n hj (by decide), nI_clamp (by omega), u2, inR_n (by omega), decide_eq_true hj, o_la3 hj, bn_s, u3]
    by_cases hu : u = 0
    · rw [if_pos (show nI u ≤ 0 by rw [n_le0 (by omega)]; exact hu), if_pos (show nI u ≤ 0 by rw [n_le0 (by omega)]; exact hu), bn_s, if_pos (show (0 : Int32) = 0 from rfl)]
      cases btw v2 0 5 <;> simp only [cond_true, cond_false, ite_self] <;> exact RT_s rfl
    · obtain ⟨a, b, k, b1, b2, b3, d3, r0, d4, r1, d5, r2, d7, d8⟩ := u4 (by omega)
      rw [if_neg (by rw [n_le0 (by omega)]; exact hu), if_neg (show ¬ nI u ≤ 0 by rw [n_le0 (by omega)]; exact hu), bn_s, if_neg (show ¬ (1 : Int32) = 0 by decide), if_neg (show ¬ mO 0 18 ≤ 0 by rw [hM.2.2.2.2.2.1, n_le0 (by have := hL.n.2; omega)]; omega)]
      unfold mX2_numberOf
      simp only [gi_n hj (show 40 < 2 ^ 31 by decide), nI_clamp (show j < 2 ^ 31 by omega), nm_d, cond_true]
      cases h2 : btw v2 0 5 with
      | true =>
        obtain ⟨w, w1, w2, rfl⟩ := btw_t (a := 0) (b := 5) (by decide) h2 (by decide)
        rw [cd_t, o_la w (by omega) hj]
        have hw : w = 0 ∨ w = 1 ∨ w = 2 ∨ w = 3 ∨ w = 4 ∨ w = 5 := by omega
        rcases hw with rfl | rfl | rfl | rfl | rfl | rfl
        · exact RT_s (d3.trans r0.symm)
        · exact RT_s (d4.trans r1.symm)
        · exact RT_s (d5.trans r2.symm)
        · exact RT_s (u2.trans u3.symm)
        · exact RT_s d7
        · exact RT_s d8
      | false =>
        have nw := btw_f (a := 0) (b := 5) (by decide) (by decide) h2
        rw [cd_f, if_neg (show ¬ v2 = (0 : Int32) from nw 0 (by omega) (by omega)), if_neg (show ¬ v2 = (1 : Int32) from nw 1 (by omega) (by omega)), if_neg (show ¬ v2 = (2 : Int32) from nw 2 (by omega) (by omega)), if_neg (show ¬ v2 = (3 : Int32) from nw 3 (by omega) (by omega)), if_neg (show ¬ v2 = (4 : Int32) from nw 4 (by omega) (by omega)), if_neg (show ¬ v2 = (5 : Int32) from nw 5 (by omega) (by omega))]
        exact RT_s rfl
  · refine hlow _ ?_ hj
    have : inR v1 40 = false := by
      cases hi : inR v1 40 with
      | false => rfl
      | true => exact absurd (inR_t (by decide) hi) hj
    rw [this, cd_f, ite_self]
theorem V_entry {mX mT mL mM mB mS i0 i1 i2 mO : Mem} {ml : Lem} (h : INV mX mT mL mM mB mS i0 i1 i2 mO ml) (v1 v2 v3 : Int32) : RT (mX7_entry mX mB mL v1 v2 v3) (mX8_entry mO ml v1 v2 v3) (fun q q' => q.1 = q'.1 ∧ INV mX mT mL mM q.2 mS i0 i1 i2 q'.2 ml) := by
  obtain ⟨g, f, t, hM, hL, ⟨len, h3⟩, h4, ⟨c, h5⟩, h6, h7, h8, h9⟩ := id h
  obtain ⟨hG, n6⟩ := hL.n
  obtain ⟨c20, b0, o28, hall⟩ := id h5
  have jj : ∀ n, n ≤ 500 → v1 = nI n → c < 20 → ¬ v2 < 0 → ¬ v3 < 0 → RT (mX7_entry_j62 v1 v2 v3 mX mB mL) (mX8_entry_j60 v1 v2 v3 mO ml) (fun q q' => q.1 = q'.1 ∧ INV mX mT mL mM q.2 mS i0 i1 i2 q'.2 ml) := by
    intro n hn e1 hc hv2 hv3
    subst e1
    obtain ⟨A, hA, rfl⟩ := nI_of hv2
    obtain ⟨D, hD, rfl⟩ := nI_of hv3
    unfold mX7_entry_j62 mX8_entry_j60
    rw [show (1000 : Int32) = nI 1000 from rfl, show (100 : Int32) = nI 100 from rfl, show (10 : Int32) = nI 10 from rfl, pk_rem hA (by decide) (by decide), pk_div hA (by decide) (by decide), pk_rem hA (by decide) (by decide), pk_rem hD (by decide) (by decide), pk_div hD (by decide) (by decide)]
    obtain ⟨z, z1, z2, z3⟩ := c_canLoan hG n6 (nI (A % 100)) (nI (A / 100)) (nI (D / 1000)) (nI (D % 1000))
    rw [z1, z2 mO ml hM.2.2.2.2.2.1, bn_s, bn_s, it_b1, it_b1]
    cases z with
    | false => exact RT_s ⟨rfl, h⟩
    | true =>
      obtain ⟨w, k, u, p, w1, w2, w3, k1, u1, u2, p1, ew, ek, eu, ep⟩ := z3 rfl
      have ew := nI_inj (by omega) w1 ew
      have ek := nI_inj (by omega) (by omega) ek
      have eu := nI_inj (by omega) (by omega) eu
      have ep := nI_inj (by omega) (by omega) ep
      rw [cd_t, cd_t]
      unfold mX0_append
      rw [b0, o28, if_neg (show ¬ (20 : Int32) ≤ nI c by rw [show (20 : Int32) = nI 20 from rfl, n_le (by decide) (by omega)]; omega), pk_div (show A % 100 < 2 ^ 31 by omega) (by decide) (by decide)]
      have u7 : ∀ (m : Mem) (k i : Nat) (x : Int32) (j : Nat), k ≠ 0 → upi m k i x 0 j = m 0 j := fun m k i x j hk => by rw [upi_d, if_neg (fun e => hk e.symm)]
      have i3 : ∀ x : Nat, nI x + (3 : Int32) = nI (x + 3) := fun x => n_add x 3
      have i4 : ∀ x : Nat, nI x + (4 : Int32) = nI (x + 4) := fun x => n_add x 4
      have i5 : ∀ x : Nat, nI x + (5 : Int32) = nI (x + 5) := fun x => n_add x 5
      have i6 : ∀ x : Nat, (6 : Int32) * nI x = nI (6 * x) := fun x => n_mul 6 x
      simp only [nm_d, bn_s, u7 _ _ _ _ _ (show (1 : Nat) ≠ 0 by decide), u7 _ _ _ _ _ (show (3 : Nat) ≠ 0 by decide), u7 _ _ _ _ _ (show (4 : Nat) ≠ 0 by decide), u7 _ _ _ _ _ (show (11 : Nat) ≠ 0 by decide), b0, o28, i6, nI_s, nI_p2, i3, i4, i5, gi_n (show c < 20 by omega) (show 20 < 2 ^ 31 by decide), nI_clamp (show c < 2 ^ 31 by omega), gi_n (show 6 * c < 120 by omega) (show 120 < 2 ^ 31 by decide), gi_n (show 6 * c + 1 < 120 by omega) (show 120 < 2 ^ 31 by decide), gi_n (show 6 * c + 2 < 120 by omega) (show 120 < 2 ^ 31 by decide), gi_n (show 6 * c + 3 < 120 by omega) (show 120 < 2 ^ 31 by decide), gi_n (show 6 * c + 4 < 120 by omega) (show 120 < 2 ^ 31 by decide), gi_n (show 6 * c + 5 < 120 by omega) (show 120 < 2 ^ 31 by decide), nI_clamp (show 6 * c < 2 ^ 31 by omega), nI_clamp (show 6 * c + 1 < 2 ^ 31 by omega), nI_clamp (show 6 * c + 2 < 2 ^ 31 by omega), nI_clamp (show 6 * c + 3 < 2 ^ 31 by omega), nI_clamp (show 6 * c + 4 < 2 ^ 31 by omega), nI_clamp (show 6 * c + 5 < 2 ^ 31 by omega)]
      have hF : Fr [11] [28] mO (upf (upi (upi (upi (upi (upi (upi mO 11 (6 * c) (nI n)) 11 (6 * c + 1) (nI (A % 100 / 10))) 11 (6 * c + 2) (nI (A % 10))) 11 (6 * c + 3) (nI (A / 100))) 11 (6 * c + 4) (nI (D / 1000))) 11 (6 * c + 5) (nI (D % 1000))) 28 (nI (c + 1))) := ((((((Fr.rf.upi (by decide) (by decide)).upi (by decide) (by decide)).upi (by decide) (by decide)).upi (by decide) (by decide)).upi (by decide) (by decide)).upi (by decide) (by decide)).upf (by decide)
      refine RT_s ⟨rfl, g, f, t, hM.fr hF (by decide) (by decide) (by decide), hL, ⟨len, h3.fr hF (by decide) (by decide)⟩, h4.fr hF (by decide) (by decide) (by decide) (by decide) rfl, ⟨c + 1, by omega, rfl, rfl, fun i hi => ?_⟩, h6, h7.fr hF (by decide) rfl, h8.fr hF (by decide) rfl, h9.fr hF (by decide) rfl⟩
      have q11 : ∀ x, (upf (upi (upi (upi (upi (upi (upi mO 11 (6 * c) (nI n)) 11 (6 * c + 1) (nI (A % 100 / 10))) 11 (6 * c + 2) (nI (A % 10))) 11 (6 * c + 3) (nI (A / 100))) 11 (6 * c + 4) (nI (D / 1000))) 11 (6 * c + 5) (nI (D % 1000))) 28 (nI (c + 1))) 11 x = if x = 6 * c + 5 then nI (D % 1000) else if x = 6 * c + 4 then nI (D / 1000) else if x = 6 * c + 3 then nI (A / 100) else if x = 6 * c + 2 then nI (A % 10) else if x = 6 * c + 1 then nI (A % 100 / 10) else if x = 6 * c then nI n else mO 11 x := fun x => rfl
      show ∃ nt w k u p, nt ≤ 500 ∧ w < 100 ∧ w / 10 < g 5 ∧ w % 10 < g 5 ∧ k < 5 ∧ 1 ≤ u ∧ u ≤ 9999 ∧ p ≤ 400 ∧ upd (mB 1) c (nI n) i = nI nt ∧ upd (mB 3) c (nI A) i = nI (k * 100 + w) ∧ upd (mB 4) c (nI D) i = nI (u * 1000 + p) ∧ _
      dsimp only
      rw [q11, q11, q11, q11, q11, q11, upd_d, upd_d, upd_d]
      by_cases hic : i = c
      · subst hic
        rw [if_pos rfl, if_pos rfl, if_pos rfl, if_neg (show ¬ 6 * i = 6 * i + 5 by omega), if_neg (show ¬ 6 * i = 6 * i + 4 by omega), if_neg (show ¬ 6 * i = 6 * i + 3 by omega), if_neg (show ¬ 6 * i = 6 * i + 2 by omega), if_neg (show ¬ 6 * i = 6 * i + 1 by omega), if_pos rfl, if_neg (show ¬ 6 * i + 1 = 6 * i + 5 by omega), if_neg (show ¬ 6 * i + 1 = 6 * i + 4 by omega), if_neg (show ¬ 6 * i + 1 = 6 * i + 3 by omega), if_neg (show ¬ 6 * i + 1 = 6 * i + 2 by omega), if_pos rfl, if_neg (show ¬ 6 * i + 2 = 6 * i + 5 by omega), if_neg (show ¬ 6 * i + 2 = 6 * i + 4 by omega), if_neg (show ¬ 6 * i + 2 = 6 * i + 3 by omega), if_pos rfl, if_neg (show ¬ 6 * i + 3 = 6 * i + 5 by omega), if_neg (show ¬ 6 * i + 3 = 6 * i + 4 by omega), if_pos rfl, if_neg (show ¬ 6 * i + 4 = 6 * i + 5 by omega), if_pos rfl, if_pos rfl]
        refine ⟨n, A % 100, A / 100, D / 1000, D % 1000, hn, by omega, by omega, by omega, by omega, by omega, by omega, by omega, rfl, ?_, ?_, rfl, rfl, ?_, rfl, rfl, rfl⟩
        · rw [show A / 100 * 100 + A % 100 = A from by omega]
        · rw [show D / 1000 * 1000 + D % 1000 = D from by omega]
        · rw [show A % 100 % 10 = A % 10 from by omega]
      · rw [if_neg hic, if_neg hic, if_neg hic]
        have zz : ∀ d, d < 6 → (if 6 * i + d = 6 * c + 5 then nI (D % 1000) else if 6 * i + d = 6 * c + 4 then nI (D / 1000) else if 6 * i + d = 6 * c + 3 then nI (A / 100) else if 6 * i + d = 6 * c + 2 then nI (A % 10) else if 6 * i + d = 6 * c + 1 then nI (A % 100 / 10) else if 6 * i + d = 6 * c then nI n else mO 11 (6 * i + d)) = mO 11 (6 * i + d) := fun d hd => by
          rw [if_neg (by omega), if_neg (by omega), if_neg (by omega), if_neg (by omega), if_neg (by omega), if_neg (by omega)]
        have z0 := zz 0 (by omega)
        rw [Nat.add_zero] at z0
        rw [z0, zz 1 (by omega), zz 2 (by omega), zz 3 (by omega), zz 4 (by omega), zz 5 (by omega)]
        exact hall i (by omega)
  unfold mX7_entry mX8_entry
  rw [c_isNight, o_isNight hM.2.2.2.2.2.1 (by omega), bn_s, bn_s, it_b0, it_b0, b0, o28]
  rcases hL.z hM with ⟨z1, z2, z3⟩ | ⟨z1, z2, z2', z3, hR, hC⟩
  · rw [if_pos z2]
    have no : ∀ a b cc d, mX7_canBeLoan mX mL a b cc d = some 0 := fun a b cc d => by
      obtain ⟨z, y1, y2, y3⟩ := c_canLoan hG n6 a b cc d
      cases z with
      | false => exact y1
      | true =>
        obtain ⟨w, k, u, p, w1, w2, -⟩ := y3 rfl
        rw [z3] at w2; omega
    have j0 : mX7_entry_j62 v1 v2 v3 mX mB mL = some (-1, mB) := by
      unfold mX7_entry_j62
      rw [no, bn_s, if_neg (fun q => q rfl)]
    rw [j0]
    cases btw v1 0 500 with
    | false => exact RT_s ⟨rfl, h⟩
    | true =>
      rw [cd_t]
      by_cases hc0 : c = 0
      · rw [hc0, if_pos (show nI 0 ≤ 0 by decide)]
        by_cases q1 : v2 < 0
        · rw [if_pos q1]; exact RT_s ⟨rfl, h⟩
        · rw [if_neg q1]
          by_cases q2 : v3 < 0
          · rw [if_pos q2]; exact RT_s ⟨rfl, h⟩
          · rw [if_neg q2, if_pos (show nI 0 < (20 : Int32) by decide)]; exact RT_s ⟨rfl, h⟩
      · obtain ⟨nt, w, k, u, p, -, -, e, -⟩ := hall 0 (by omega)
        rw [z3] at e; omega
  · rw [if_neg z2, decide_eq_true z3, Bool.true_and]
    cases h1 : btw v1 0 500 with
    | false => exact RT_s ⟨rfl, h⟩
    | true =>
      obtain ⟨n, n1, n2, rfl⟩ := btw_t (a := 0) (b := 500) (by decide) h1 (by decide)
      rw [cd_t, cd_t]
      refine RT_if Iff.rfl (fun _ => RT_s ⟨rfl, h⟩) (fun hv2 => ?_)
      refine RT_if Iff.rfl (fun _ => RT_s ⟨rfl, h⟩) (fun hv3 => ?_)
      by_cases hc : c = 20
      · rw [hc, if_neg (show ¬ nI 20 < (20 : Int32) by decide), if_pos (show nI 20 = (20 : Int32) from rfl)]
        exact RT_s ⟨rfl, h⟩
      · rw [if_pos (show nI c < (20 : Int32) by rw [show (20 : Int32) = nI 20 from rfl, n_lt (by omega) (by decide)]; omega), if_neg (show ¬ nI c = (20 : Int32) by rw [show (20 : Int32) = nI 20 from rfl, n_eq (by omega) (by decide)]; exact hc)]
        refine RT_if Iff.rfl (fun _ => jj n n2 rfl (by omega) hv2 hv3) (fun hc0 => ?_)
        rw [n_le0 (by omega)] at hc0
        obtain ⟨nt, w, k, u, p, y1, -, -, -, -, -, -, -, y9, -, -, y12, -⟩ := hall (c - 1) (by omega)
        rw [show (6 : Int32) * nI c = nI (6 * c) from n_mul 6 c, show (1 : Int32) = nI 1 from rfl, pk_sub (by omega), show (6 : Int32) = nI 6 from rfl, pk_sub (by omega), gi_n (show c - 1 < 20 by omega) (by decide), gi_n (show 6 * c - 6 < 120 by omega) (by decide), nI_clamp (by omega), nI_clamp (by omega), y9, show 6 * c - 6 = 6 * (c - 1) from by omega, y12]
        exact RT_if Iff.rfl (fun _ => jj n n2 rfl (by omega) hv2 hv3) (fun _ => RT_s ⟨rfl, h⟩)
theorem V_clear {mX mT mL mM mB mS i0 i1 i2 mO : Mem} {ml : Lem} (h : INV mX mT mL mM mB mS i0 i1 i2 mO ml) : RT (mX7_clear mX mB) (mX8_clear mO ml) (fun q q' => q.1 = q'.1 ∧ INV mX mT mL mM q.2 mS i0 i1 i2 q'.2 ml) := by
  obtain ⟨g, f, t, hM, hL, ⟨len, h3⟩, h4, ⟨c, h5⟩, h6, h7, h8, h9⟩ := id h
  have hF : Fr [] [28] mO (upf mO 28 0) := Fr.rf.upf (by decide)
  exact RT_s ⟨h5.2.1.trans h5.2.2.1.symm, g, f, t, hM.fr hF (by decide) (by decide) (by decide), hL, ⟨len, h3.fr hF (by decide) (by decide)⟩, h4.fr hF (by decide) (by decide) (by decide) (by decide) rfl, ⟨0, by omega, rfl, rfl, fun i hi => absurd hi (Nat.not_lt_zero i)⟩, h6, h7.fr hF (by decide) rfl, h8.fr hF (by decide) rfl, h9.fr hF (by decide) rfl⟩
theorem V_judge {mX mT mL mM mB mJ mS i0 i1 i2 mO : Mem} {ml : Lem} (h : INV mX mT mL mM mB mS i0 i1 i2 mO ml) (v1 : Int32) : RT (mX7_judge mX mB mJ mL v1) (mX8_judge mO ml v1) (fun q q' => q.1 = q'.1 ∧ INV mX mT mL mM q.2.1 mS i0 i1 i2 q'.2.1 q'.2.2) := by
  obtain ⟨g, f, t, hM, hL, ⟨len, h3⟩, ⟨a1, a2, a3⟩, ⟨c, h5⟩, h6, h7, h8, h9⟩ := id h
  have c20 := h5.1
  unfold mX7_judge mX8_judge mX8_judge_j19
  rw [o_in, bn_s, it_b0, h5.2.1, h5.2.2.1, btw_R (by omega)]
  rcases hL.z hM with ⟨z1, z2, z3⟩ | ⟨z1, z2, z2', z3, hR, hC⟩
  · rw [if_pos z1, if_neg (show ¬ ¬ mO 0 18 = 0 from fun q => q z2)]
    cases inR v1 c <;> simp only [cond_true, cond_false, ite_self] <;> exact RT_s ⟨rfl, h⟩
  · rw [if_neg z1, if_pos z2, nm_d]
    have main : (v1 = -1 ∨ ∃ k, k < c ∧ v1 = nI k) → RT (bn (mX0_judgeAll mB mJ mL) fun q_8 => nm q_8.1 fun x_4 => nm q_8.2.1 fun mB_5 => nm q_8.2.2 fun mJ_6 => if ¬ v1 = (-1 : Int32) then gi v1 20 (nm (mB_5 2 v1.toNatClampNeg) fun x_10 => some (x_10, mB_5, mJ_6)) else some (x_4, mB_5, mJ_6)) (mX8_judge_L35 v1 (mO 0 23) (0 : Int32) mO ml) (fun q q' => q.1 = q'.1 ∧ INV mX mT mL mM q.2.1 mS i0 i1 i2 q'.2.1 q'.2.2) := by
      intro hv
      obtain ⟨q, q', eq, eq', j1, j2, j3, j4, j5, j6, j7, j8, j9⟩ := RT_judgeAll (mJ := mJ) (ml := ml) hR hC hM h5 hv
      rw [eq, bn_s]
      simp only [nm_d]
      have hI : INV mX mT mL mM q.2.1 mS i0 i1 i2 q'.2.1 q'.2.2 := by
        rw [j9]
        refine ⟨g, f, t, hM.fr j8 (by decide) (by decide) (by decide), hL, ⟨len, h3.fr j8 (by decide) (by decide)⟩, ⟨a1.trans j4.symm, a2, HR_cg a3 j5 j6 j7⟩, ⟨c, h5.fr j3 j8 (by decide) (by decide) (by decide) (by decide) (by decide) (by decide)⟩, h6, h7.fr j8 (by decide) rfl, h8.fr j8 (by decide) rfl, h9.fr j8 (by decide) rfl⟩
      rcases hv with rfl | ⟨k, hk, rfl⟩
      · rw [if_neg (fun q => q rfl)]
        exact ⟨_, q', rfl, eq', (j1 rfl).symm, hI⟩
      · rw [if_pos (n_nm1 (show k < 2 ^ 31 by omega)), gi_n (show k < 20 by omega) (by decide), nI_clamp (by omega)]
        exact ⟨_, q', rfl, eq', (j2 k hk rfl).symm, hI⟩
    by_cases hm : v1 = -1
    · rw [if_pos hm, if_neg (show ¬ v1 < (-1 : Int32) by rw [hm]; decide), if_pos (show v1 < nI c by
        rw [hm, Int32.lt_iff_toInt_lt, nI_toInt (by omega)]
        have : ((-1 : Int32)).toInt = -1 := by decide
        omega)]
      exact main (Or.inl hm)
    · rw [if_neg hm]
      cases hi : inR v1 c with
      | true =>
        obtain ⟨k, hk, rfl⟩ := inR_t (by omega) hi
        rw [cd_t, if_neg (show ¬ nI k < (-1 : Int32) by
          rw [Int32.lt_iff_toInt_lt, nI_toInt (by omega)]
          have : ((-1 : Int32)).toInt = -1 := by decide
          omega), if_pos (by rw [n_lt (by omega) (by omega)]; exact hk)]
        exact main (Or.inr ⟨k, hk, rfl⟩)
      | false =>
        rw [cd_f]
        by_cases hlow : v1 < (-1 : Int32)
        · rw [if_pos hlow]; exact RT_s ⟨rfl, h⟩
        · rw [if_neg hlow]
          rcases i_cases v1 with hv | ⟨k, hk, rfl⟩
          · exfalso
            apply hlow
            rw [Int32.lt_iff_toInt_lt]
            have e1 := Int32.lt_iff_toInt_lt.mp hv
            have e2 : v1.toInt ≠ ((-1 : Int32)).toInt := ne_toInt hm
            have : ((-1 : Int32)).toInt = -1 := by decide
            have : ((0 : Int32)).toInt = 0 := by decide
            omega
          · rw [inR_n hk] at hi
            have := of_decide_eq_false hi
            rw [if_neg (by rw [n_lt hk (by omega)]; exact this)]
            exact RT_s ⟨rfl, h⟩
theorem V_round {mX mT mL mM mB mS mY i0 i1 i2 mO : Mem} {ml : Lem} (h : INV mX mT mL mM mB mS i0 i1 i2 mO ml) (v1 v2 : Int32) : RT (mX7_round mX mY mL v1 v2) (mX8_round mO ml v1 v2) (fun q q' => q.1 = q'.1 ∧ INV mX mT mL mM mB mS i0 i1 i2 q'.2 ml) := by
  obtain ⟨g, f, t, hM, hL, -⟩ := id h
  unfold mX7_round mX8_round
  rw [c_isIn, o_in]
  simp only [bn_s, it_b0]
  rcases hL.z hM with ⟨z1, z2, z3⟩ | ⟨z1, z2, z2', z3, hR, hC⟩
  · rw [if_pos z1, if_pos z2]
    exact RT_s ⟨rfl, h⟩
  · rw [if_neg z1, if_neg z2]
    cases h1 : btw v1 0 4 with
    | false => exact RT_s ⟨rfl, h⟩
    | true =>
      obtain ⟨u, -, u4, rfl⟩ := btw_t (a := 0) (b := 4) (by decide) h1 (by decide)
      rw [cd_t, cd_t]
      refine RT_if Iff.rfl (fun hv2 => ?_) (fun _ => RT_s ⟨rfl, h⟩)
      rw [hC.2.2.2.2.2.2.1, hM.2.2.2.2.2.2.1]
      refine RT_b (RT_measure (mY := mY) (ml := ml) hR hC hM (nI (g 6))) (fun m m' hm => ?_)
      obtain ⟨⟨W, hW⟩, F1, F2⟩ := hm
      have hM2 := hM.fr F2 (by decide) (by decide) (by decide)
      have hI : INV mX mT mL mM mB mS i0 i1 i2 m' ml := h.fr (F2.wk (by decide) (by decide)) PL.rf Fr.rf Fr.rf
      have hu : u < 5 := by omega
      have wu := (hW.1 u hu).1
      rw [gi_n hu (by decide), gi_n hu (by decide), gi_n hu (by decide), nI_clamp (by omega), wu]
      by_cases hm1 : v2 = -1
      · rw [if_neg (fun q => q hm1), if_neg (show ¬ ¬ v2 = -1 from fun q => q hm1)]
        rcases hW.1.at hu with ⟨a, b, -⟩ | ⟨c, l, b1, b2, b3, b4, b5, -⟩
        · rw [b, if_neg (show ¬ nI 1000000 < (1000000 : Int32) by decide), a]
          exact RT_s ⟨rfl, hI⟩
        · rw [if_pos (show nI (W u) < (1000000 : Int32) by rw [show (1000000 : Int32) = nI 1000000 from rfl, n_lt (by omega) (by decide)]; omega), show (100 : Int32) = nI 100 from rfl, pk_div (by omega) (by decide) (by decide), b3, show W u / 100 = c from by omega]
          exact RT_s ⟨rfl, hI⟩
      · rw [if_pos hm1, if_pos (show ¬ v2 = -1 from hm1)]
        obtain ⟨K, hK, rfl⟩ : ∃ K, K < 2 ^ 31 ∧ v2 = nI K := by
          rcases i_cases v2 with hv | hv
          · exfalso
            have e1 := Int32.lt_iff_toInt_lt.mp hv
            have e2 := Int32.le_iff_toInt_le.mp hv2
            have e3 : v2.toInt ≠ ((-1 : Int32)).toInt := ne_toInt hm1
            have : ((-1 : Int32)).toInt = -1 := by decide
            have : ((0 : Int32)).toInt = 0 := by decide
            omega
          · exact hv
        have hlt : ∀ x, x < 1000000 → nI x < (1000000 : Int32) := fun x hx => by rw [show (1000000 : Int32) = nI 1000000 from rfl, n_lt (by omega) (by decide)]; exact hx
        rcases c_turnAt (ml := ml) hR hC hM2 hW hu hK with ⟨e1, e2 | ⟨e2, e3⟩⟩ | ⟨e2, i, e1, e3⟩
        · rw [e1, e2, if_neg (show ¬ nI 1000000 < (1000000 : Int32) by decide)]
          exact RT_s ⟨rfl, hI⟩
        · rw [e1, if_pos (hlt _ e2), e3]
          exact RT_s ⟨rfl, hI⟩
        · rw [e1, if_pos (hlt _ e2), e3]
          exact RT_s ⟨rfl, hI⟩
theorem V_words {mX mT mL mM mB mS mY i0 i1 i2 mO : Mem} {ml : Lem} (h : INV mX mT mL mM mB mS i0 i1 i2 mO ml) (v1 v2 : Int32) : RT (mX7_words mX mY mL v1 v2) (mX8_words mO ml v1 v2) (fun q q' => q.1 = q'.1 ∧ INV mX mT mL mM mB mS i0 i1 i2 q'.2 ml) := by
  obtain ⟨g, f, t, hM, hL, -⟩ := id h
  unfold mX7_words mX8_words
  rw [c_isIn, c_isIn, o_in, o_in]
  simp only [bn_s, it_b0, it_b1]
  rcases hL.z hM with ⟨z1, z2, z3⟩ | ⟨z1, z2, z2', z3, hR, hC⟩
  · rw [if_pos z1, if_pos z2]
    exact RT_s ⟨rfl, h⟩
  · rw [if_neg z1, if_neg z2]
    cases h1 : btw v1 0 31 with
    | false => exact RT_s ⟨rfl, h⟩
    | true =>
      cases h2 : btw v2 0 2000 with
      | false => exact RT_s ⟨rfl, h⟩
      | true =>
        obtain ⟨u, -, u4, rfl⟩ := btw_t (a := 0) (b := 2000) (by decide) h2 (by decide)
        rw [cd_t, cd_t, cd_t, cd_t]
        obtain ⟨q, q', eq, eq', e1, F1, F2⟩ := RT_words (mY := mY) (ml := ml) hR hC hM v1 u4
        rw [eq, eq', bn_s]
        exact RT_s ⟨e1, h.fr (F2.wk (by decide) (by decide)) PL.rf Fr.rf Fr.rf⟩
