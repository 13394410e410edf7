theorem ev_ex : ∀ i, i < 11 → Cond.exactly (Term.string "MoonDebts$Reader" (ixR.getD i 0)) "java/lang/String" ∈ flatC (Jvm.Cond.and given_1 narrow_1) := by decide +kernel
theorem ev_co : ∀ i, i < 11 → Cond.eq (.field (Term.string "MoonDebts$Reader" (ixR.getD i 0)) "java/lang/String" "coder" "B") (.int 0) ∈ flatC (Jvm.Cond.and given_1 narrow_1) := by decide +kernel
theorem ev_ar : ∀ i, i < 11 → Cond.arrayOf (Term.field (Term.string "MoonDebts$Reader" (ixR.getD i 0)) "java/lang/String" "value" "[B") .byte ∈ flatC (Jvm.Cond.and given_1 narrow_1) := by decide +kernel
theorem ev_le : ∀ i, i < 11 → Cond.eq (.length (Term.field (Term.string "MoonDebts$Reader" (ixR.getD i 0)) "java/lang/String" "value" "[B")) (.int (Int32.ofNat (lenS.getD i 0))) ∈ flatC (Jvm.Cond.and given_1 narrow_1) := by decide +kernel
theorem ev_el : ∀ i, i < 11 → ∀ j, j < lenS.getD i 0 → Cond.eq (.elem (Term.field (Term.string "MoonDebts$Reader" (ixR.getD i 0)) "java/lang/String" "value" "[B") (.int (Int32.ofNat j))) (.int ((bytS.getD i []).getD j 0)) ∈ flatC (Jvm.Cond.and given_1 narrow_1) := by decide +kernel
theorem ev_n0 : ∀ j, j < 11 → 0 < j → Cond.not (Cond.eq (Term.string "MoonDebts$Reader" (ixR.getD 0 0)) (Term.string "MoonDebts$Reader" (ixR.getD j 0))) ∈ flatC (Jvm.Cond.and given_1 narrow_1) := by decide +kernel
theorem ev_n1 : ∀ j, j < 11 → 1 < j → Cond.not (Cond.eq (Term.string "MoonDebts$Reader" (ixR.getD 1 0)) (Term.string "MoonDebts$Reader" (ixR.getD j 0))) ∈ flatC (Jvm.Cond.and given_1 narrow_1) := by decide +kernel
theorem ev_n2 : ∀ j, j < 11 → 2 < j → Cond.not (Cond.eq (Term.string "MoonDebts$Reader" (ixR.getD 2 0)) (Term.string "MoonDebts$Reader" (ixR.getD j 0))) ∈ flatC (Jvm.Cond.and given_1 narrow_1) := by decide +kernel
theorem ev_n3 : ∀ j, j < 11 → 3 < j → Cond.not (Cond.eq (Term.string "MoonDebts$Reader" (ixR.getD 3 0)) (Term.string "MoonDebts$Reader" (ixR.getD j 0))) ∈ flatC (Jvm.Cond.and given_1 narrow_1) := by decide +kernel
theorem ev_n4 : ∀ j, j < 11 → 5 < j → Cond.not (Cond.eq (Term.string "MoonDebts$Reader" (ixR.getD j 0)) (Term.string "MoonDebts$Reader" (ixR.getD 4 0))) ∈ flatC (Jvm.Cond.and given_1 narrow_1) := by decide +kernel
theorem ev_n45 : Cond.not (Cond.eq (Term.string "MoonDebts$Reader" (ixR.getD 4 0)) (Term.string "MoonDebts$Reader" (ixR.getD 5 0))) ∈ flatC (Jvm.Cond.and given_1 narrow_1) := by decide +kernel
theorem ev_n5 : ∀ j, j < 11 → 5 < j → Cond.not (Cond.eq (Term.string "MoonDebts$Reader" (ixR.getD j 0)) (Term.string "MoonDebts$Reader" (ixR.getD 5 0))) ∈ flatC (Jvm.Cond.and given_1 narrow_1) := by decide +kernel
theorem ev_n6 : ∀ j, j < 11 → 6 < j → Cond.not (Cond.eq (Term.string "MoonDebts$Reader" (ixR.getD 6 0)) (Term.string "MoonDebts$Reader" (ixR.getD j 0))) ∈ flatC (Jvm.Cond.and given_1 narrow_1) := by decide +kernel
theorem ev_n7 : ∀ j, j < 11 → 7 < j → Cond.not (Cond.eq (Term.string "MoonDebts$Reader" (ixR.getD 7 0)) (Term.string "MoonDebts$Reader" (ixR.getD j 0))) ∈ flatC (Jvm.Cond.and given_1 narrow_1) := by decide +kernel
theorem ev_n8 : ∀ j, j < 11 → 8 < j → Cond.not (Cond.eq (Term.string "MoonDebts$Reader" (ixR.getD 8 0)) (Term.string "MoonDebts$Reader" (ixR.getD j 0))) ∈ flatC (Jvm.Cond.and given_1 narrow_1) := by decide +kernel
theorem ev_n9 : ∀ j, j < 11 → 9 < j → Cond.not (Cond.eq (Term.string "MoonDebts$Reader" (ixR.getD 9 0)) (Term.string "MoonDebts$Reader" (ixR.getD j 0))) ∈ flatC (Jvm.Cond.and given_1 narrow_1) := by decide +kernel
theorem ev_nl : ∀ i j, i < 11 → j < 11 → i < j → (Cond.not (Cond.eq (Term.string "MoonDebts$Reader" (ixR.getD i 0)) (Term.string "MoonDebts$Reader" (ixR.getD j 0))) ∈ flatC (Jvm.Cond.and given_1 narrow_1) ∨ Cond.not (Cond.eq (Term.string "MoonDebts$Reader" (ixR.getD j 0)) (Term.string "MoonDebts$Reader" (ixR.getD i 0))) ∈ flatC (Jvm.Cond.and given_1 narrow_1)) := fun i j hi hj hij => match i, hi, hij with
  | 0, _, h => Or.inl (ev_n0 j hj h)
  | 1, _, h => Or.inl (ev_n1 j hj h)
  | 2, _, h => Or.inl (ev_n2 j hj h)
  | 3, _, h => Or.inl (ev_n3 j hj h)
  | 4, _, h => (Nat.lt_or_ge 5 j).elim (fun g => Or.inr (ev_n4 j hj g)) (fun g => by rcases (show j = 5 from Nat.le_antisymm g h) with rfl; exact Or.inl ev_n45)
  | 5, _, h => Or.inr (ev_n5 j hj h)
  | 6, _, h => Or.inl (ev_n6 j hj h)
  | 7, _, h => Or.inl (ev_n7 j hj h)
  | 8, _, h => Or.inl (ev_n8 j hj h)
  | 9, _, h => Or.inl (ev_n9 j hj h)
  | i + 10, _, h => absurd h (by omega)
theorem ev_ne : ∀ i j, i < 11 → j < 11 → i ≠ j → (Cond.not (Cond.eq (Term.string "MoonDebts$Reader" (ixR.getD i 0)) (Term.string "MoonDebts$Reader" (ixR.getD j 0))) ∈ flatC (Jvm.Cond.and given_1 narrow_1) ∨ Cond.not (Cond.eq (Term.string "MoonDebts$Reader" (ixR.getD j 0)) (Term.string "MoonDebts$Reader" (ixR.getD i 0))) ∈ flatC (Jvm.Cond.and given_1 narrow_1)) := fun i j hi hj hn => (Nat.lt_or_gt_of_ne hn).elim (ev_nl i j hi hj) (fun h => (ev_nl j i hj hi h).symm)
theorem ev_on : ∀ i, i < 11 → Cond.eq (Term.string "MoonDebts$Reader" (ixR.getD i 0)) (Term.string "MoonDebtsModel" (ixO.getD i 0)) ∈ flatC (Jvm.Cond.and given_1 narrow_1) := by decide +kernel
theorem ev_sr : ∀ i, i < 11 → Cond.stringRef RX3 (ixR.getD i 0) (txS.getD i "") ∈ lw_tbl := by decide +kernel
theorem ev_so : ∀ i, i < 11 → Cond.stringRef RX8 (ixO.getD i 0) (txS.getD i "") ∈ lw_tbl := by decide +kernel
theorem ev_tL : ∀ j, j < 6 → Cond.eq (.elem (.static RX3 "LEAST_OF_SORT" "[I") (.int (Int32.ofNat j))) (.int (tabL j)) ∈ flatC (Jvm.Cond.and given_1 narrow_1) := by decide +kernel
theorem ev_tM : ∀ j, j < 6 → Cond.eq (.elem (.static RX3 "MOST_OF_SORT" "[I") (.int (Int32.ofNat j))) (.int (tabM j)) ∈ flatC (Jvm.Cond.and given_1 narrow_1) := by decide +kernel
