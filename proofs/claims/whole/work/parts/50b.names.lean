theorem ilX0_init_wsX0_init_r1 : ∀ w ∈ wsX0_init_r1, w ∈ wsX0_init := fun _ h => List.mem_cons_of_mem _ (List.mem_append_left _ (List.mem_append_left _ (List.mem_append_left _ (h))))
theorem ilX0_init_wsX0_init_r2 : ∀ w ∈ wsX0_init_r2, w ∈ wsX0_init := fun _ h => List.mem_cons_of_mem _ (List.mem_append_left _ (List.mem_append_left _ (List.mem_append_right _ (h))))
theorem ilX0_init_wsX00 : ∀ w ∈ wsX00, w ∈ wsX0_init := fun _ h => List.mem_cons_of_mem _ (List.mem_append_left _ (List.mem_append_right _ (h)))
theorem ilX0_init_wsX20 : ∀ w ∈ wsX20, w ∈ wsX0_init := fun _ h => List.mem_cons_of_mem _ (List.mem_append_right _ (h))
set_option maxRecDepth 20000 in
theorem ggX0_init_X2_init : GoodIn wsX0_init wsX2_init := goodIn_sub (List.forall_mem_cons.mpr ⟨ilX0_init_wsX0_init_r1 _ (List.mem_of_getElem? (i := 15) rfl), (List.forall_mem_append.mpr ⟨(List.forall_mem_cons.mpr ⟨ilX0_init_wsX0_init_r1 _ (List.mem_of_getElem? (i := 16) rfl), (List.forall_mem_cons.mpr ⟨ilX0_init_wsX0_init_r1 _ (List.mem_of_getElem? (i := 1) rfl), (List.forall_mem_cons.mpr ⟨ilX0_init_wsX0_init_r1 _ (List.mem_of_getElem? (i := 2) rfl), (List.forall_mem_cons.mpr ⟨ilX0_init_wsX0_init_r1 _ (List.mem_of_getElem? (i := 17) rfl), (List.forall_mem_cons.mpr ⟨ilX0_init_wsX0_init_r1 _ (List.mem_of_getElem? (i := 18) rfl), (List.forall_mem_cons.mpr ⟨ilX0_init_wsX0_init_r1 _ (List.mem_of_getElem? (i := 4) rfl), (List.forall_mem_cons.mpr ⟨ilX0_init_wsX0_init_r1 _ (List.mem_of_getElem? (i := 19) rfl), (List.forall_mem_cons.mpr ⟨ilX0_init_wsX0_init_r1 _ (List.mem_of_getElem? (i := 20) rfl), (List.forall_mem_cons.mpr ⟨ilX0_init_wsX0_init_r1 _ (List.mem_of_getElem? (i := 21) rfl), (List.forall_mem_cons.mpr ⟨ilX0_init_wsX0_init_r1 _ (List.mem_of_getElem? (i := 22) rfl), (List.forall_mem_cons.mpr ⟨ilX0_init_wsX0_init_r1 _ (List.mem_of_getElem? (i := 23) rfl), (List.forall_mem_cons.mpr ⟨ilX0_init_wsX0_init_r2 _ (List.mem_of_getElem? (i := 0) rfl), (List.forall_mem_cons.mpr ⟨ilX0_init_wsX0_init_r2 _ (List.mem_of_getElem? (i := 1) rfl), (List.forall_mem_cons.mpr ⟨ilX0_init_wsX0_init_r2 _ (List.mem_of_getElem? (i := 2) rfl), (fun _ h => absurd h List.not_mem_nil)⟩)⟩)⟩)⟩)⟩)⟩)⟩)⟩)⟩)⟩)⟩)⟩)⟩)⟩), ilX0_init_wsX20⟩)⟩) (by decide +kernel)
set_option maxRecDepth 20000 in
theorem gX0_init_X2_init_n33 : GoodIn wsX0_init (wsX2_init) := ggX0_init_X2_init
theorem dX0_init_0 : decode cX0_init 0 = .ok (.aload_n 0, 1) := by decide +kernel
theorem dX0_init_1 : decode cX0_init 1 = .ok (.invokespecial 3, 3) := by decide +kernel
theorem dX0_init_4 : decode cX0_init 4 = .ok (.aload_n 0, 1) := by decide +kernel
theorem dX0_init_5 : decode cX0_init 5 = .ok (.iconst 0, 1) := by decide +kernel
theorem dX0_init_6 : decode cX0_init 6 = .ok (.putfield 9, 3) := by decide +kernel
theorem dX0_init_9 : decode cX0_init 9 = .ok (.aload_n 0, 1) := by decide +kernel
theorem dX0_init_10 : decode cX0_init 10 = .ok (.bipush 20, 2) := by decide +kernel
theorem dX0_init_12 : decode cX0_init 12 = .ok (.newarray .int, 2) := by decide +kernel
theorem dX0_init_14 : decode cX0_init 14 = .ok (.putfield 15, 3) := by decide +kernel
theorem dX0_init_17 : decode cX0_init 17 = .ok (.aload_n 0, 1) := by decide +kernel
theorem dX0_init_18 : decode cX0_init 18 = .ok (.bipush 20, 2) := by decide +kernel
theorem dX0_init_20 : decode cX0_init 20 = .ok (.newarray .int, 2) := by decide +kernel
theorem dX0_init_22 : decode cX0_init 22 = .ok (.putfield 19, 3) := by decide +kernel
theorem dX0_init_25 : decode cX0_init 25 = .ok (.aload_n 0, 1) := by decide +kernel
theorem dX0_init_26 : decode cX0_init 26 = .ok (.bipush 20, 2) := by decide +kernel
theorem dX0_init_28 : decode cX0_init 28 = .ok (.newarray .int, 2) := by decide +kernel
theorem dX0_init_30 : decode cX0_init 30 = .ok (.putfield 22, 3) := by decide +kernel
theorem dX0_init_33 : decode cX0_init 33 = .ok (.aload_n 0, 1) := by decide +kernel
theorem dX0_init_34 : decode cX0_init 34 = .ok (.bipush 20, 2) := by decide +kernel
theorem dX0_init_36 : decode cX0_init 36 = .ok (.newarray .int, 2) := by decide +kernel
theorem dX0_init_38 : decode cX0_init 38 = .ok (.putfield 25, 3) := by decide +kernel
theorem dX0_init_41 : decode cX0_init 41 = .ok (.aload_n 0, 1) := by decide +kernel
theorem dX0_init_42 : decode cX0_init 42 = .ok (.bipush 40, 2) := by decide +kernel
theorem dX0_init_44 : decode cX0_init 44 = .ok (.newarray .int, 2) := by decide +kernel
theorem dX0_init_46 : decode cX0_init 46 = .ok (.putfield 28, 3) := by decide +kernel
theorem dX0_init_49 : decode cX0_init 49 = .ok (.aload_n 0, 1) := by decide +kernel
theorem dX0_init_50 : decode cX0_init 50 = .ok (.new 31, 3) := by decide +kernel
theorem dX0_init_53 : decode cX0_init 53 = .ok (.dup, 1) := by decide +kernel
theorem dX0_init_54 : decode cX0_init 54 = .ok (.invokespecial 33, 3) := by decide +kernel
theorem dX0_init_57 : decode cX0_init 57 = .ok (.putfield 34, 3) := by decide +kernel
theorem dX0_init_60 : decode cX0_init 60 = .ok (.return_, 1) := by decide +kernel
theorem dX0_append_0 : decode cX0_append 0 = .ok (.aload_n 0, 1) := by decide +kernel
theorem dX0_append_1 : decode cX0_append 1 = .ok (.getfield 9, 3) := by decide +kernel
theorem dX0_append_4 : decode cX0_append 4 = .ok (.bipush 20, 2) := by decide +kernel
theorem dX0_append_6 : decode cX0_append 6 = .ok (.if_icmp .ge 43, 3) := by decide +kernel
theorem dX0_append_9 : decode cX0_append 9 = .ok (.aload_n 0, 1) := by decide +kernel
theorem dX0_append_10 : decode cX0_append 10 = .ok (.getfield 15, 3) := by decide +kernel
theorem dX0_append_13 : decode cX0_append 13 = .ok (.aload_n 0, 1) := by decide +kernel
theorem dX0_append_14 : decode cX0_append 14 = .ok (.getfield 9, 3) := by decide +kernel
theorem dX0_append_17 : decode cX0_append 17 = .ok (.iload_n 1, 1) := by decide +kernel
theorem dX0_append_18 : decode cX0_append 18 = .ok (.iastore, 1) := by decide +kernel
theorem dX0_append_19 : decode cX0_append 19 = .ok (.aload_n 0, 1) := by decide +kernel
theorem dX0_append_20 : decode cX0_append 20 = .ok (.getfield 22, 3) := by decide +kernel
theorem dX0_append_23 : decode cX0_append 23 = .ok (.aload_n 0, 1) := by decide +kernel
theorem dX0_append_24 : decode cX0_append 24 = .ok (.getfield 9, 3) := by decide +kernel
theorem dX0_append_27 : decode cX0_append 27 = .ok (.iload_n 2, 1) := by decide +kernel
theorem dX0_append_28 : decode cX0_append 28 = .ok (.iastore, 1) := by decide +kernel
theorem dX0_append_29 : decode cX0_append 29 = .ok (.aload_n 0, 1) := by decide +kernel
theorem dX0_append_30 : decode cX0_append 30 = .ok (.getfield 25, 3) := by decide +kernel
theorem dX0_append_33 : decode cX0_append 33 = .ok (.aload_n 0, 1) := by decide +kernel
theorem dX0_append_34 : decode cX0_append 34 = .ok (.getfield 9, 3) := by decide +kernel
theorem dX0_append_37 : decode cX0_append 37 = .ok (.iload_n 3, 1) := by decide +kernel
theorem dX0_append_38 : decode cX0_append 38 = .ok (.iastore, 1) := by decide +kernel
theorem dX0_append_39 : decode cX0_append 39 = .ok (.aload_n 0, 1) := by decide +kernel
theorem dX0_append_40 : decode cX0_append 40 = .ok (.dup, 1) := by decide +kernel
theorem dX0_append_41 : decode cX0_append 41 = .ok (.getfield 9, 3) := by decide +kernel
theorem dX0_append_44 : decode cX0_append 44 = .ok (.iconst 1, 1) := by decide +kernel
theorem dX0_append_45 : decode cX0_append 45 = .ok (.iadd, 1) := by decide +kernel
theorem dX0_append_46 : decode cX0_append 46 = .ok (.putfield 9, 3) := by decide +kernel
theorem dX0_append_49 : decode cX0_append 49 = .ok (.return_, 1) := by decide +kernel
theorem ilX0_judgeAll_wsX0_judgeAll_r1 : ∀ w ∈ wsX0_judgeAll_r1, w ∈ wsX0_judgeAll := fun _ h => List.mem_cons_of_mem _ (List.mem_append_left _ (List.mem_append_left _ (List.mem_append_left _ (List.mem_append_left _ (h)))))
theorem ilX0_judgeAll_wsX0_judgeAll_r2 : ∀ w ∈ wsX0_judgeAll_r2, w ∈ wsX0_judgeAll := fun _ h => List.mem_cons_of_mem _ (List.mem_append_left _ (List.mem_append_left _ (List.mem_append_left _ (List.mem_append_right _ (List.mem_append_left _ (h))))))
theorem ilX0_judgeAll_wsX0_judgeAll_r3 : ∀ w ∈ wsX0_judgeAll_r3, w ∈ wsX0_judgeAll := fun _ h => List.mem_cons_of_mem _ (List.mem_append_left _ (List.mem_append_left _ (List.mem_append_left _ (List.mem_append_right _ (List.mem_append_right _ (List.mem_append_left _ (h)))))))
theorem ilX0_judgeAll_wsX0_judgeAll_r4 : ∀ w ∈ wsX0_judgeAll_r4, w ∈ wsX0_judgeAll := fun _ h => List.mem_cons_of_mem _ (List.mem_append_left _ (List.mem_append_left _ (List.mem_append_left _ (List.mem_append_right _ (List.mem_append_right _ (List.mem_append_right _ (h)))))))
theorem ilX0_judgeAll_wsX00 : ∀ w ∈ wsX00, w ∈ wsX0_judgeAll := fun _ h => List.mem_cons_of_mem _ (List.mem_append_left _ (List.mem_append_left _ (List.mem_append_right _ (h))))
theorem ilX0_judgeAll_wsX20 : ∀ w ∈ wsX20, w ∈ wsX0_judgeAll := fun _ h => List.mem_cons_of_mem _ (List.mem_append_left _ (List.mem_append_right _ (h)))
theorem ilX0_judgeAll_wsX10 : ∀ w ∈ wsX10, w ∈ wsX0_judgeAll := fun _ h => List.mem_cons_of_mem _ (List.mem_append_right _ (h))
set_option maxRecDepth 20000 in
theorem ggX0_judgeAll_J7_fill_53178 : GoodIn wsX0_judgeAll wsJ7_fill_53178 := goodIn_sub (List.forall_mem_cons.mpr ⟨ilX0_judgeAll_wsX0_judgeAll_r1 _ (List.mem_of_getElem? (i := 11) rfl), (fun _ h => absurd h List.not_mem_nil)⟩) (by decide +kernel)
set_option maxRecDepth 20000 in
theorem gX0_judgeAll_J7_fill_53178 : GoodIn wsX0_judgeAll (va_wsS RX0 38 yJ7_fill_53178 wsJ7_fill_53178) := goodIn_app (goodIn_of _ (by decide +kernel)) ggX0_judgeAll_J7_fill_53178
set_option maxRecDepth 20000 in
theorem ggX0_judgeAll_X2_begin : GoodIn wsX0_judgeAll wsX2_begin := goodIn_sub (List.forall_mem_cons.mpr ⟨ilX0_judgeAll_wsX0_judgeAll_r1 _ (List.mem_of_getElem? (i := 16) rfl), (List.forall_mem_append.mpr ⟨(List.forall_mem_append.mpr ⟨(List.forall_mem_cons.mpr ⟨ilX0_judgeAll_wsX0_judgeAll_r1 _ (List.mem_of_getElem? (i := 17) rfl), (List.forall_mem_cons.mpr ⟨ilX0_judgeAll_wsX0_judgeAll_r1 _ (List.mem_of_getElem? (i := 18) rfl), (List.forall_mem_cons.mpr ⟨ilX0_judgeAll_wsX0_judgeAll_r1 _ (List.mem_of_getElem? (i := 19) rfl), (List.forall_mem_cons.mpr ⟨ilX0_judgeAll_wsX0_judgeAll_r1 _ (List.mem_of_getElem? (i := 20) rfl), (List.forall_mem_cons.mpr ⟨ilX0_judgeAll_wsX0_judgeAll_r1 _ (List.mem_of_getElem? (i := 21) rfl), (List.forall_mem_cons.mpr ⟨ilX0_judgeAll_wsX0_judgeAll_r1 _ (List.mem_of_getElem? (i := 22) rfl), (List.forall_mem_cons.mpr ⟨ilX0_judgeAll_wsX0_judgeAll_r1 _ (List.mem_of_getElem? (i := 23) rfl), (List.forall_mem_cons.mpr ⟨ilX0_judgeAll_wsX0_judgeAll_r2 _ (List.mem_of_getElem? (i := 0) rfl), (List.forall_mem_cons.mpr ⟨ilX0_judgeAll_wsX0_judgeAll_r1 _ (List.mem_of_getElem? (i := 9) rfl), (List.forall_mem_cons.mpr ⟨ilX0_judgeAll_wsX0_judgeAll_r1 _ (List.mem_of_getElem? (i := 10) rfl), (List.forall_mem_cons.mpr ⟨ilX0_judgeAll_wsX0_judgeAll_r1 _ (List.mem_of_getElem? (i := 11) rfl), (fun _ h => absurd h List.not_mem_nil)⟩)⟩)⟩)⟩)⟩)⟩)⟩)⟩)⟩)⟩)⟩), ilX0_judgeAll_wsX20⟩), ilX0_judgeAll_wsX10⟩)⟩) (by decide +kernel)
set_option maxRecDepth 20000 in
theorem gX0_judgeAll_X2_begin : GoodIn wsX0_judgeAll (wsV RX0 44 RX2 yX2_begin wsX2_begin) := goodIn_app (goodIn_sub (List.forall_mem_cons.mpr ⟨ilX0_judgeAll_wsX0_judgeAll_r1 _ (List.mem_of_getElem? (i := 12) rfl), (List.forall_mem_cons.mpr ⟨ilX0_judgeAll_wsX0_judgeAll_r1 _ (List.mem_of_getElem? (i := 13) rfl), (List.forall_mem_cons.mpr ⟨ilX0_judgeAll_wsX0_judgeAll_r1 _ (List.mem_of_getElem? (i := 14) rfl), (List.forall_mem_cons.mpr ⟨ilX0_judgeAll_wsX0_judgeAll_r1 _ (List.mem_of_getElem? (i := 15) rfl), (fun _ h => absurd h List.not_mem_nil)⟩)⟩)⟩)⟩) (by decide +kernel)) ggX0_judgeAll_X2_begin
set_option maxRecDepth 20000 in
theorem ggX0_judgeAll_X0_judgeNight : GoodIn wsX0_judgeAll wsX0_judgeNight := goodIn_sub (List.forall_mem_cons.mpr ⟨ilX0_judgeAll_wsX0_judgeAll_r2 _ (List.mem_of_getElem? (i := 5) rfl), (List.forall_mem_append.mpr ⟨(List.forall_mem_append.mpr ⟨(List.forall_mem_append.mpr ⟨(List.forall_mem_append.mpr ⟨(List.forall_mem_cons.mpr ⟨ilX0_judgeAll_wsX0_judgeAll_r1 _ (List.mem_of_getElem? (i := 1) rfl), (List.forall_mem_cons.mpr ⟨ilX0_judgeAll_wsX0_judgeAll_r1 _ (List.mem_of_getElem? (i := 3) rfl), (List.forall_mem_cons.mpr ⟨ilX0_judgeAll_wsX0_judgeAll_r1 _ (List.mem_of_getElem? (i := 0) rfl), (List.forall_mem_cons.mpr ⟨ilX0_judgeAll_wsX0_judgeAll_r1 _ (List.mem_of_getElem? (i := 7) rfl), (List.forall_mem_cons.mpr ⟨ilX0_judgeAll_wsX0_judgeAll_r2 _ (List.mem_of_getElem? (i := 6) rfl), (List.forall_mem_cons.mpr ⟨ilX0_judgeAll_wsX0_judgeAll_r2 _ (List.mem_of_getElem? (i := 7) rfl), (List.forall_mem_cons.mpr ⟨ilX0_judgeAll_wsX0_judgeAll_r2 _ (List.mem_of_getElem? (i := 8) rfl), (List.forall_mem_cons.mpr ⟨ilX0_judgeAll_wsX0_judgeAll_r1 _ (List.mem_of_getElem? (i := 15) rfl), (List.forall_mem_cons.mpr ⟨ilX0_judgeAll_wsX0_judgeAll_r2 _ (List.mem_of_getElem? (i := 9) rfl), (List.forall_mem_cons.mpr ⟨ilX0_judgeAll_wsX0_judgeAll_r1 _ (List.mem_of_getElem? (i := 17) rfl), (List.forall_mem_cons.mpr ⟨ilX0_judgeAll_wsX0_judgeAll_r1 _ (List.mem_of_getElem? (i := 23) rfl), (List.forall_mem_cons.mpr ⟨ilX0_judgeAll_wsX0_judgeAll_r2 _ (List.mem_of_getElem? (i := 10) rfl), (List.forall_mem_cons.mpr ⟨ilX0_judgeAll_wsX0_judgeAll_r2 _ (List.mem_of_getElem? (i := 11) rfl), (List.forall_mem_cons.mpr ⟨ilX0_judgeAll_wsX0_judgeAll_r2 _ (List.mem_of_getElem? (i := 12) rfl), (List.forall_mem_cons.mpr ⟨ilX0_judgeAll_wsX0_judgeAll_r2 _ (List.mem_of_getElem? (i := 13) rfl), (List.forall_mem_cons.mpr ⟨ilX0_judgeAll_wsX0_judgeAll_r2 _ (List.mem_of_getElem? (i := 14) rfl), (List.forall_mem_cons.mpr ⟨ilX0_judgeAll_wsX0_judgeAll_r2 _ (List.mem_of_getElem? (i := 15) rfl), (List.forall_mem_cons.mpr ⟨ilX0_judgeAll_wsX0_judgeAll_r1 _ (List.mem_of_getElem? (i := 18) rfl), (List.forall_mem_cons.mpr ⟨ilX0_judgeAll_wsX0_judgeAll_r2 _ (List.mem_of_getElem? (i := 16) rfl), (List.forall_mem_cons.mpr ⟨ilX0_judgeAll_wsX0_judgeAll_r2 _ (List.mem_of_getElem? (i := 17) rfl), (List.forall_mem_cons.mpr ⟨ilX0_judgeAll_wsX0_judgeAll_r2 _ (List.mem_of_getElem? (i := 18) rfl), (List.forall_mem_cons.mpr ⟨ilX0_judgeAll_wsX0_judgeAll_r2 _ (List.mem_of_getElem? (i := 19) rfl), (List.forall_mem_cons.mpr ⟨ilX0_judgeAll_wsX0_judgeAll_r2 _ (List.mem_of_getElem? (i := 20) rfl), (List.forall_mem_cons.mpr ⟨ilX0_judgeAll_wsX0_judgeAll_r2 _ (List.mem_of_getElem? (i := 21) rfl), (fun _ h => absurd h List.not_mem_nil)⟩)⟩)⟩)⟩)⟩)⟩)⟩)⟩)⟩)⟩)⟩)⟩)⟩)⟩)⟩)⟩)⟩)⟩)⟩)⟩)⟩)⟩)⟩)⟩), (List.forall_mem_append.mpr ⟨(List.forall_mem_cons.mpr ⟨ilX0_judgeAll_wsX0_judgeAll_r2 _ (List.mem_of_getElem? (i := 22) rfl), (List.forall_mem_cons.mpr ⟨ilX0_judgeAll_wsX0_judgeAll_r2 _ (List.mem_of_getElem? (i := 23) rfl), (List.forall_mem_cons.mpr ⟨ilX0_judgeAll_wsX0_judgeAll_r3 _ (List.mem_of_getElem? (i := 0) rfl), (List.forall_mem_cons.mpr ⟨ilX0_judgeAll_wsX0_judgeAll_r3 _ (List.mem_of_getElem? (i := 1) rfl), (List.forall_mem_cons.mpr ⟨ilX0_judgeAll_wsX0_judgeAll_r3 _ (List.mem_of_getElem? (i := 2) rfl), (List.forall_mem_cons.mpr ⟨ilX0_judgeAll_wsX0_judgeAll_r3 _ (List.mem_of_getElem? (i := 3) rfl), (List.forall_mem_cons.mpr ⟨ilX0_judgeAll_wsX0_judgeAll_r3 _ (List.mem_of_getElem? (i := 4) rfl), (List.forall_mem_cons.mpr ⟨ilX0_judgeAll_wsX0_judgeAll_r3 _ (List.mem_of_getElem? (i := 5) rfl), (List.forall_mem_cons.mpr ⟨ilX0_judgeAll_wsX0_judgeAll_r3 _ (List.mem_of_getElem? (i := 6) rfl), (List.forall_mem_cons.mpr ⟨ilX0_judgeAll_wsX0_judgeAll_r3 _ (List.mem_of_getElem? (i := 7) rfl), (List.forall_mem_cons.mpr ⟨ilX0_judgeAll_wsX0_judgeAll_r3 _ (List.mem_of_getElem? (i := 8) rfl), (List.forall_mem_cons.mpr ⟨ilX0_judgeAll_wsX0_judgeAll_r3 _ (List.mem_of_getElem? (i := 9) rfl), (List.forall_mem_cons.mpr ⟨ilX0_judgeAll_wsX0_judgeAll_r3 _ (List.mem_of_getElem? (i := 10) rfl), (List.forall_mem_cons.mpr ⟨ilX0_judgeAll_wsX0_judgeAll_r3 _ (List.mem_of_getElem? (i := 11) rfl), (List.forall_mem_cons.mpr ⟨ilX0_judgeAll_wsX0_judgeAll_r3 _ (List.mem_of_getElem? (i := 12) rfl), (List.forall_mem_cons.mpr ⟨ilX0_judgeAll_wsX0_judgeAll_r3 _ (List.mem_of_getElem? (i := 13) rfl), (List.forall_mem_cons.mpr ⟨ilX0_judgeAll_wsX0_judgeAll_r3 _ (List.mem_of_getElem? (i := 14) rfl), (List.forall_mem_cons.mpr ⟨ilX0_judgeAll_wsX0_judgeAll_r3 _ (List.mem_of_getElem? (i := 15) rfl), (List.forall_mem_cons.mpr ⟨ilX0_judgeAll_wsX0_judgeAll_r3 _ (List.mem_of_getElem? (i := 16) rfl), (List.forall_mem_cons.mpr ⟨ilX0_judgeAll_wsX0_judgeAll_r3 _ (List.mem_of_getElem? (i := 17) rfl), (List.forall_mem_cons.mpr ⟨ilX0_judgeAll_wsX0_judgeAll_r3 _ (List.mem_of_getElem? (i := 18) rfl), (List.forall_mem_cons.mpr ⟨ilX0_judgeAll_wsX0_judgeAll_r3 _ (List.mem_of_getElem? (i := 19) rfl), (List.forall_mem_cons.mpr ⟨ilX0_judgeAll_wsX0_judgeAll_r3 _ (List.mem_of_getElem? (i := 20) rfl), (List.forall_mem_cons.mpr ⟨ilX0_judgeAll_wsX0_judgeAll_r3 _ (List.mem_of_getElem? (i := 21) rfl), (fun _ h => absurd h List.not_mem_nil)⟩)⟩)⟩)⟩)⟩)⟩)⟩)⟩)⟩)⟩)⟩)⟩)⟩)⟩)⟩)⟩)⟩)⟩)⟩)⟩)⟩)⟩)⟩)⟩), (List.forall_mem_cons.mpr ⟨ilX0_judgeAll_wsX0_judgeAll_r3 _ (List.mem_of_getElem? (i := 22) rfl), (List.forall_mem_cons.mpr ⟨ilX0_judgeAll_wsX0_judgeAll_r3 _ (List.mem_of_getElem? (i := 23) rfl), (List.forall_mem_cons.mpr ⟨ilX0_judgeAll_wsX0_judgeAll_r4 _ (List.mem_of_getElem? (i := 0) rfl), (List.forall_mem_cons.mpr ⟨ilX0_judgeAll_wsX0_judgeAll_r4 _ (List.mem_of_getElem? (i := 1) rfl), (List.forall_mem_cons.mpr ⟨ilX0_judgeAll_wsX0_judgeAll_r1 _ (List.mem_of_getElem? (i := 22) rfl), (fun _ h => absurd h List.not_mem_nil)⟩)⟩)⟩)⟩)⟩)⟩)⟩), ilX0_judgeAll_wsX00⟩), ilX0_judgeAll_wsX20⟩), ilX0_judgeAll_wsX10⟩)⟩) (by decide +kernel)
set_option maxRecDepth 20000 in
theorem gX0_judgeAll_X0_judgeNight : GoodIn wsX0_judgeAll (wsV RX0 50 RX0 yX0_judgeNight wsX0_judgeNight) := goodIn_app (goodIn_sub (List.forall_mem_cons.mpr ⟨ilX0_judgeAll_wsX0_judgeAll_r2 _ (List.mem_of_getElem? (i := 1) rfl), (List.forall_mem_cons.mpr ⟨ilX0_judgeAll_wsX0_judgeAll_r2 _ (List.mem_of_getElem? (i := 2) rfl), (List.forall_mem_cons.mpr ⟨ilX0_judgeAll_wsX0_judgeAll_r2 _ (List.mem_of_getElem? (i := 3) rfl), (List.forall_mem_cons.mpr ⟨ilX0_judgeAll_wsX0_judgeAll_r2 _ (List.mem_of_getElem? (i := 4) rfl), (fun _ h => absurd h List.not_mem_nil)⟩)⟩)⟩)⟩) (by decide +kernel)) ggX0_judgeAll_X0_judgeNight
set_option maxRecDepth 20000 in
theorem ggX0_judgeAll_X2_makeLoan : GoodIn wsX0_judgeAll wsX2_makeLoan := goodIn_sub (List.forall_mem_cons.mpr ⟨ilX0_judgeAll_wsX0_judgeAll_r4 _ (List.mem_of_getElem? (i := 5) rfl), (List.forall_mem_append.mpr ⟨(List.forall_mem_append.mpr ⟨(List.forall_mem_cons.mpr ⟨ilX0_judgeAll_wsX0_judgeAll_r1 _ (List.mem_of_getElem? (i := 18) rfl), (List.forall_mem_cons.mpr ⟨ilX0_judgeAll_wsX0_judgeAll_r2 _ (List.mem_of_getElem? (i := 21) rfl), (List.forall_mem_cons.mpr ⟨ilX0_judgeAll_wsX0_judgeAll_r2 _ (List.mem_of_getElem? (i := 15) rfl), (List.forall_mem_cons.mpr ⟨ilX0_judgeAll_wsX0_judgeAll_r3 _ (List.mem_of_getElem? (i := 15) rfl), (List.forall_mem_cons.mpr ⟨ilX0_judgeAll_wsX0_judgeAll_r1 _ (List.mem_of_getElem? (i := 23) rfl), (List.forall_mem_cons.mpr ⟨ilX0_judgeAll_wsX0_judgeAll_r2 _ (List.mem_of_getElem? (i := 16) rfl), (List.forall_mem_cons.mpr ⟨ilX0_judgeAll_wsX0_judgeAll_r2 _ (List.mem_of_getElem? (i := 10) rfl), (List.forall_mem_cons.mpr ⟨ilX0_judgeAll_wsX0_judgeAll_r1 _ (List.mem_of_getElem? (i := 17) rfl), (List.forall_mem_cons.mpr ⟨ilX0_judgeAll_wsX0_judgeAll_r4 _ (List.mem_of_getElem? (i := 6) rfl), (List.forall_mem_cons.mpr ⟨ilX0_judgeAll_wsX0_judgeAll_r4 _ (List.mem_of_getElem? (i := 7) rfl), (List.forall_mem_cons.mpr ⟨ilX0_judgeAll_wsX0_judgeAll_r4 _ (List.mem_of_getElem? (i := 8) rfl), (List.forall_mem_cons.mpr ⟨ilX0_judgeAll_wsX0_judgeAll_r4 _ (List.mem_of_getElem? (i := 9) rfl), (List.forall_mem_cons.mpr ⟨ilX0_judgeAll_wsX0_judgeAll_r1 _ (List.mem_of_getElem? (i := 15) rfl), (List.forall_mem_cons.mpr ⟨ilX0_judgeAll_wsX0_judgeAll_r4 _ (List.mem_of_getElem? (i := 10) rfl), (List.forall_mem_cons.mpr ⟨ilX0_judgeAll_wsX0_judgeAll_r4 _ (List.mem_of_getElem? (i := 11) rfl), (List.forall_mem_cons.mpr ⟨ilX0_judgeAll_wsX0_judgeAll_r4 _ (List.mem_of_getElem? (i := 12) rfl), (List.forall_mem_cons.mpr ⟨ilX0_judgeAll_wsX0_judgeAll_r4 _ (List.mem_of_getElem? (i := 13) rfl), (List.forall_mem_cons.mpr ⟨ilX0_judgeAll_wsX0_judgeAll_r3 _ (List.mem_of_getElem? (i := 1) rfl), (List.forall_mem_cons.mpr ⟨ilX0_judgeAll_wsX0_judgeAll_r4 _ (List.mem_of_getElem? (i := 14) rfl), (List.forall_mem_cons.mpr ⟨ilX0_judgeAll_wsX0_judgeAll_r4 _ (List.mem_of_getElem? (i := 15) rfl), (fun _ h => absurd h List.not_mem_nil)⟩)⟩)⟩)⟩)⟩)⟩)⟩)⟩)⟩)⟩)⟩)⟩)⟩)⟩)⟩)⟩)⟩)⟩)⟩)⟩), ilX0_judgeAll_wsX20⟩), ilX0_judgeAll_wsX10⟩)⟩) (by decide +kernel)
set_option maxRecDepth 20000 in
theorem gX0_judgeAll_X2_makeLoan : GoodIn wsX0_judgeAll (wsV RX0 53 RX2 yX2_makeLoan wsX2_makeLoan) := goodIn_app (goodIn_sub (List.forall_mem_cons.mpr ⟨ilX0_judgeAll_wsX0_judgeAll_r4 _ (List.mem_of_getElem? (i := 2) rfl), (List.forall_mem_cons.mpr ⟨ilX0_judgeAll_wsX0_judgeAll_r4 _ (List.mem_of_getElem? (i := 3) rfl), (List.forall_mem_cons.mpr ⟨ilX0_judgeAll_wsX0_judgeAll_r4 _ (List.mem_of_getElem? (i := 4) rfl), (List.forall_mem_cons.mpr ⟨ilX0_judgeAll_wsX0_judgeAll_r1 _ (List.mem_of_getElem? (i := 15) rfl), (fun _ h => absurd h List.not_mem_nil)⟩)⟩)⟩)⟩) (by decide +kernel)) ggX0_judgeAll_X2_makeLoan
theorem dX0_judgeAll_0 : decode cX0_judgeAll 0 = .ok (.aload_n 0, 1) := by decide +kernel
theorem dX0_judgeAll_1 : decode cX0_judgeAll 1 = .ok (.getfield 19, 3) := by decide +kernel
theorem dX0_judgeAll_4 : decode cX0_judgeAll 4 = .ok (.iconst 0, 1) := by decide +kernel
theorem dX0_judgeAll_5 : decode cX0_judgeAll 5 = .ok (.invokestatic 38, 3) := by decide +kernel
theorem dX0_judgeAll_8 : decode cX0_judgeAll 8 = .ok (.aload_n 0, 1) := by decide +kernel
theorem dX0_judgeAll_9 : decode cX0_judgeAll 9 = .ok (.getfield 34, 3) := by decide +kernel
theorem dX0_judgeAll_12 : decode cX0_judgeAll 12 = .ok (.aload_n 1, 1) := by decide +kernel
theorem dX0_judgeAll_13 : decode cX0_judgeAll 13 = .ok (.invokevirtual 44, 3) := by decide +kernel
theorem dX0_judgeAll_16 : decode cX0_judgeAll 16 = .ok (.iconst 0, 1) := by decide +kernel
theorem dX0_judgeAll_17 : decode cX0_judgeAll 17 = .ok (.istore_n 2, 1) := by decide +kernel
theorem dX0_judgeAll_18 : decode cX0_judgeAll 18 = .ok (.iload_n 2, 1) := by decide +kernel
theorem dX0_judgeAll_19 : decode cX0_judgeAll 19 = .ok (.aload_n 0, 1) := by decide +kernel
theorem dX0_judgeAll_20 : decode cX0_judgeAll 20 = .ok (.getfield 9, 3) := by decide +kernel
theorem dX0_judgeAll_23 : decode cX0_judgeAll 23 = .ok (.if_icmp .ge 99, 3) := by decide +kernel
theorem dX0_judgeAll_26 : decode cX0_judgeAll 26 = .ok (.aload_n 0, 1) := by decide +kernel
theorem dX0_judgeAll_27 : decode cX0_judgeAll 27 = .ok (.getfield 34, 3) := by decide +kernel
theorem dX0_judgeAll_30 : decode cX0_judgeAll 30 = .ok (.getfield 48, 3) := by decide +kernel
theorem dX0_judgeAll_33 : decode cX0_judgeAll 33 = .ok (.istore_n 3, 1) := by decide +kernel
theorem dX0_judgeAll_34 : decode cX0_judgeAll 34 = .ok (.iload_n 3, 1) := by decide +kernel
theorem dX0_judgeAll_35 : decode cX0_judgeAll 35 = .ok (.aload_n 0, 1) := by decide +kernel
theorem dX0_judgeAll_36 : decode cX0_judgeAll 36 = .ok (.getfield 15, 3) := by decide +kernel
theorem dX0_judgeAll_39 : decode cX0_judgeAll 39 = .ok (.iload_n 2, 1) := by decide +kernel
theorem dX0_judgeAll_40 : decode cX0_judgeAll 40 = .ok (.iaload, 1) := by decide +kernel
theorem dX0_judgeAll_41 : decode cX0_judgeAll 41 = .ok (.if_icmp .ge 14, 3) := by decide +kernel
theorem dX0_judgeAll_44 : decode cX0_judgeAll 44 = .ok (.aload_n 0, 1) := by decide +kernel
theorem dX0_judgeAll_45 : decode cX0_judgeAll 45 = .ok (.aload_n 1, 1) := by decide +kernel
theorem dX0_judgeAll_46 : decode cX0_judgeAll 46 = .ok (.invokevirtual 50, 3) := by decide +kernel
theorem dX0_judgeAll_49 : decode cX0_judgeAll 49 = .ok (.iinc 3 1, 3) := by decide +kernel
theorem dX0_judgeAll_52 : decode cX0_judgeAll 52 = .ok (.goto (-18), 3) := by decide +kernel
theorem dX0_judgeAll_55 : decode cX0_judgeAll 55 = .ok (.aload_n 0, 1) := by decide +kernel
theorem dX0_judgeAll_56 : decode cX0_judgeAll 56 = .ok (.getfield 34, 3) := by decide +kernel
theorem dX0_judgeAll_59 : decode cX0_judgeAll 59 = .ok (.aload_n 1, 1) := by decide +kernel
theorem dX0_judgeAll_60 : decode cX0_judgeAll 60 = .ok (.aload_n 0, 1) := by decide +kernel
theorem dX0_judgeAll_61 : decode cX0_judgeAll 61 = .ok (.getfield 22, 3) := by decide +kernel
theorem dX0_judgeAll_64 : decode cX0_judgeAll 64 = .ok (.iload_n 2, 1) := by decide +kernel
theorem dX0_judgeAll_65 : decode cX0_judgeAll 65 = .ok (.iaload, 1) := by decide +kernel
theorem dX0_judgeAll_66 : decode cX0_judgeAll 66 = .ok (.bipush 100, 2) := by decide +kernel
theorem dX0_judgeAll_68 : decode cX0_judgeAll 68 = .ok (.irem, 1) := by decide +kernel
theorem dX0_judgeAll_69 : decode cX0_judgeAll 69 = .ok (.aload_n 0, 1) := by decide +kernel
theorem dX0_judgeAll_70 : decode cX0_judgeAll 70 = .ok (.getfield 22, 3) := by decide +kernel
theorem dX0_judgeAll_73 : decode cX0_judgeAll 73 = .ok (.iload_n 2, 1) := by decide +kernel
theorem dX0_judgeAll_74 : decode cX0_judgeAll 74 = .ok (.iaload, 1) := by decide +kernel
theorem dX0_judgeAll_75 : decode cX0_judgeAll 75 = .ok (.bipush 100, 2) := by decide +kernel
theorem dX0_judgeAll_77 : decode cX0_judgeAll 77 = .ok (.idiv, 1) := by decide +kernel
theorem dX0_judgeAll_78 : decode cX0_judgeAll 78 = .ok (.aload_n 0, 1) := by decide +kernel
theorem dX0_judgeAll_79 : decode cX0_judgeAll 79 = .ok (.getfield 25, 3) := by decide +kernel
theorem dX0_judgeAll_82 : decode cX0_judgeAll 82 = .ok (.iload_n 2, 1) := by decide +kernel
theorem dX0_judgeAll_83 : decode cX0_judgeAll 83 = .ok (.iaload, 1) := by decide +kernel
theorem dX0_judgeAll_84 : decode cX0_judgeAll 84 = .ok (.sipush 1000, 3) := by decide +kernel
theorem dX0_judgeAll_87 : decode cX0_judgeAll 87 = .ok (.idiv, 1) := by decide +kernel
theorem dX0_judgeAll_88 : decode cX0_judgeAll 88 = .ok (.aload_n 0, 1) := by decide +kernel
theorem dX0_judgeAll_89 : decode cX0_judgeAll 89 = .ok (.getfield 25, 3) := by decide +kernel
theorem dX0_judgeAll_92 : decode cX0_judgeAll 92 = .ok (.iload_n 2, 1) := by decide +kernel
theorem dX0_judgeAll_93 : decode cX0_judgeAll 93 = .ok (.iaload, 1) := by decide +kernel
theorem dX0_judgeAll_94 : decode cX0_judgeAll 94 = .ok (.sipush 1000, 3) := by decide +kernel
theorem dX0_judgeAll_97 : decode cX0_judgeAll 97 = .ok (.irem, 1) := by decide +kernel
theorem dX0_judgeAll_98 : decode cX0_judgeAll 98 = .ok (.invokevirtual 53, 3) := by decide +kernel
theorem dX0_judgeAll_101 : decode cX0_judgeAll 101 = .ok (.istore_n 3, 1) := by decide +kernel
theorem dX0_judgeAll_102 : decode cX0_judgeAll 102 = .ok (.iload_n 3, 1) := by decide +kernel
theorem dX0_judgeAll_103 : decode cX0_judgeAll 103 = .ok (.iconst (-1), 1) := by decide +kernel
theorem dX0_judgeAll_104 : decode cX0_judgeAll 104 = .ok (.if_icmp .ne 5, 3) := by decide +kernel
theorem dX0_judgeAll_107 : decode cX0_judgeAll 107 = .ok (.iload_n 2, 1) := by decide +kernel
theorem dX0_judgeAll_108 : decode cX0_judgeAll 108 = .ok (.ireturn, 1) := by decide +kernel
theorem dX0_judgeAll_109 : decode cX0_judgeAll 109 = .ok (.aload_n 0, 1) := by decide +kernel
theorem dX0_judgeAll_110 : decode cX0_judgeAll 110 = .ok (.getfield 28, 3) := by decide +kernel
theorem dX0_judgeAll_113 : decode cX0_judgeAll 113 = .ok (.iload_n 3, 1) := by decide +kernel
theorem dX0_judgeAll_114 : decode cX0_judgeAll 114 = .ok (.iload_n 2, 1) := by decide +kernel
theorem dX0_judgeAll_115 : decode cX0_judgeAll 115 = .ok (.iastore, 1) := by decide +kernel
theorem dX0_judgeAll_116 : decode cX0_judgeAll 116 = .ok (.iinc 2 1, 3) := by decide +kernel
theorem dX0_judgeAll_119 : decode cX0_judgeAll 119 = .ok (.goto (-101), 3) := by decide +kernel
theorem dX0_judgeAll_122 : decode cX0_judgeAll 122 = .ok (.iconst (-1), 1) := by decide +kernel
theorem dX0_judgeAll_123 : decode cX0_judgeAll 123 = .ok (.ireturn, 1) := by decide +kernel
theorem ilX0_judgeNight_wsX0_judgeNight_r1 : ∀ w ∈ wsX0_judgeNight_r1, w ∈ wsX0_judgeNight := fun _ h => List.mem_cons_of_mem _ (List.mem_append_left _ (List.mem_append_left _ (List.mem_append_left _ (List.mem_append_left _ (h)))))
theorem ilX0_judgeNight_wsX0_judgeNight_r2 : ∀ w ∈ wsX0_judgeNight_r2, w ∈ wsX0_judgeNight := fun _ h => List.mem_cons_of_mem _ (List.mem_append_left _ (List.mem_append_left _ (List.mem_append_left _ (List.mem_append_right _ (List.mem_append_left _ (h))))))
theorem ilX0_judgeNight_wsX0_judgeNight_r3 : ∀ w ∈ wsX0_judgeNight_r3, w ∈ wsX0_judgeNight := fun _ h => List.mem_cons_of_mem _ (List.mem_append_left _ (List.mem_append_left _ (List.mem_append_left _ (List.mem_append_right _ (List.mem_append_right _ (h))))))
theorem ilX0_judgeNight_wsX00 : ∀ w ∈ wsX00, w ∈ wsX0_judgeNight := fun _ h => List.mem_cons_of_mem _ (List.mem_append_left _ (List.mem_append_left _ (List.mem_append_right _ (h))))
theorem ilX0_judgeNight_wsX20 : ∀ w ∈ wsX20, w ∈ wsX0_judgeNight := fun _ h => List.mem_cons_of_mem _ (List.mem_append_left _ (List.mem_append_right _ (h)))
theorem ilX0_judgeNight_wsX10 : ∀ w ∈ wsX10, w ∈ wsX0_judgeNight := fun _ h => List.mem_cons_of_mem _ (List.mem_append_right _ (h))
set_option maxRecDepth 20000 in
theorem ggX0_judgeNight_X2_passNight : GoodIn wsX0_judgeNight wsX2_passNight := goodIn_sub (List.forall_mem_cons.mpr ⟨ilX0_judgeNight_wsX0_judgeNight_r1 _ (List.mem_of_getElem? (i := 8) rfl), (List.forall_mem_append.mpr ⟨(List.forall_mem_append.mpr ⟨(List.forall_mem_cons.mpr ⟨ilX0_judgeNight_wsX0_judgeNight_r1 _ (List.mem_of_getElem? (i := 9) rfl), (List.forall_mem_cons.mpr ⟨ilX0_judgeNight_wsX0_judgeNight_r1 _ (List.mem_of_getElem? (i := 10) rfl), (List.forall_mem_cons.mpr ⟨ilX0_judgeNight_wsX0_judgeNight_r1 _ (List.mem_of_getElem? (i := 11) rfl), (List.forall_mem_cons.mpr ⟨ilX0_judgeNight_wsX0_judgeNight_r1 _ (List.mem_of_getElem? (i := 12) rfl), (List.forall_mem_cons.mpr ⟨ilX0_judgeNight_wsX0_judgeNight_r1 _ (List.mem_of_getElem? (i := 13) rfl), (List.forall_mem_cons.mpr ⟨ilX0_judgeNight_wsX0_judgeNight_r1 _ (List.mem_of_getElem? (i := 14) rfl), (List.forall_mem_cons.mpr ⟨ilX0_judgeNight_wsX0_judgeNight_r1 _ (List.mem_of_getElem? (i := 7) rfl), (List.forall_mem_cons.mpr ⟨ilX0_judgeNight_wsX0_judgeNight_r1 _ (List.mem_of_getElem? (i := 15) rfl), (List.forall_mem_cons.mpr ⟨ilX0_judgeNight_wsX0_judgeNight_r1 _ (List.mem_of_getElem? (i := 16) rfl), (List.forall_mem_cons.mpr ⟨ilX0_judgeNight_wsX0_judgeNight_r1 _ (List.mem_of_getElem? (i := 17) rfl), (List.forall_mem_cons.mpr ⟨ilX0_judgeNight_wsX0_judgeNight_r1 _ (List.mem_of_getElem? (i := 18) rfl), (List.forall_mem_cons.mpr ⟨ilX0_judgeNight_wsX0_judgeNight_r1 _ (List.mem_of_getElem? (i := 19) rfl), (List.forall_mem_cons.mpr ⟨ilX0_judgeNight_wsX0_judgeNight_r1 _ (List.mem_of_getElem? (i := 20) rfl), (List.forall_mem_cons.mpr ⟨ilX0_judgeNight_wsX0_judgeNight_r1 _ (List.mem_of_getElem? (i := 21) rfl), (List.forall_mem_cons.mpr ⟨ilX0_judgeNight_wsX0_judgeNight_r1 _ (List.mem_of_getElem? (i := 22) rfl), (List.forall_mem_cons.mpr ⟨ilX0_judgeNight_wsX0_judgeNight_r1 _ (List.mem_of_getElem? (i := 23) rfl), (List.forall_mem_cons.mpr ⟨ilX0_judgeNight_wsX0_judgeNight_r2 _ (List.mem_of_getElem? (i := 0) rfl), (List.forall_mem_cons.mpr ⟨ilX0_judgeNight_wsX0_judgeNight_r2 _ (List.mem_of_getElem? (i := 1) rfl), (List.forall_mem_cons.mpr ⟨ilX0_judgeNight_wsX0_judgeNight_r2 _ (List.mem_of_getElem? (i := 2) rfl), (List.forall_mem_cons.mpr ⟨ilX0_judgeNight_wsX0_judgeNight_r2 _ (List.mem_of_getElem? (i := 3) rfl), (List.forall_mem_cons.mpr ⟨ilX0_judgeNight_wsX0_judgeNight_r2 _ (List.mem_of_getElem? (i := 4) rfl), (List.forall_mem_cons.mpr ⟨ilX0_judgeNight_wsX0_judgeNight_r2 _ (List.mem_of_getElem? (i := 5) rfl), (List.forall_mem_cons.mpr ⟨ilX0_judgeNight_wsX0_judgeNight_r2 _ (List.mem_of_getElem? (i := 6) rfl), (fun _ h => absurd h List.not_mem_nil)⟩)⟩)⟩)⟩)⟩)⟩)⟩)⟩)⟩)⟩)⟩)⟩)⟩)⟩)⟩)⟩)⟩)⟩)⟩)⟩)⟩)⟩)⟩), ilX0_judgeNight_wsX20⟩), ilX0_judgeNight_wsX10⟩)⟩) (by decide +kernel)
set_option maxRecDepth 20000 in
theorem gX0_judgeNight_X2_passNight : GoodIn wsX0_judgeNight (wsV RX0 57 RX2 yX2_passNight wsX2_passNight) := goodIn_app (goodIn_sub (List.forall_mem_cons.mpr ⟨ilX0_judgeNight_wsX0_judgeNight_r1 _ (List.mem_of_getElem? (i := 4) rfl), (List.forall_mem_cons.mpr ⟨ilX0_judgeNight_wsX0_judgeNight_r1 _ (List.mem_of_getElem? (i := 5) rfl), (List.forall_mem_cons.mpr ⟨ilX0_judgeNight_wsX0_judgeNight_r1 _ (List.mem_of_getElem? (i := 6) rfl), (List.forall_mem_cons.mpr ⟨ilX0_judgeNight_wsX0_judgeNight_r1 _ (List.mem_of_getElem? (i := 7) rfl), (fun _ h => absurd h List.not_mem_nil)⟩)⟩)⟩)⟩) (by decide +kernel)) ggX0_judgeNight_X2_passNight
set_option maxRecDepth 20000 in
theorem ggX0_judgeNight_X1_isStruckAt : GoodIn wsX0_judgeNight wsX1_isStruckAt := goodIn_sub (List.forall_mem_cons.mpr ⟨ilX0_judgeNight_wsX0_judgeNight_r2 _ (List.mem_of_getElem? (i := 10) rfl), (List.forall_mem_append.mpr ⟨(List.forall_mem_cons.mpr ⟨ilX0_judgeNight_wsX0_judgeNight_r2 _ (List.mem_of_getElem? (i := 11) rfl), (List.forall_mem_cons.mpr ⟨ilX0_judgeNight_wsX0_judgeNight_r2 _ (List.mem_of_getElem? (i := 12) rfl), (fun _ h => absurd h List.not_mem_nil)⟩)⟩), ilX0_judgeNight_wsX10⟩)⟩) (by decide +kernel)
set_option maxRecDepth 20000 in
theorem gX0_judgeNight_X1_isStruckAt : GoodIn wsX0_judgeNight (wsV RX0 60 RX1 yX1_isStruckAt wsX1_isStruckAt) := goodIn_app (goodIn_sub (List.forall_mem_cons.mpr ⟨ilX0_judgeNight_wsX0_judgeNight_r2 _ (List.mem_of_getElem? (i := 7) rfl), (List.forall_mem_cons.mpr ⟨ilX0_judgeNight_wsX0_judgeNight_r2 _ (List.mem_of_getElem? (i := 8) rfl), (List.forall_mem_cons.mpr ⟨ilX0_judgeNight_wsX0_judgeNight_r2 _ (List.mem_of_getElem? (i := 9) rfl), (List.forall_mem_cons.mpr ⟨ilX0_judgeNight_wsX0_judgeNight_r2 _ (List.mem_of_getElem? (i := 3) rfl), (fun _ h => absurd h List.not_mem_nil)⟩)⟩)⟩)⟩) (by decide +kernel)) ggX0_judgeNight_X1_isStruckAt
set_option maxRecDepth 20000 in
theorem ggX0_judgeNight_X2_canBeStruck : GoodIn wsX0_judgeNight wsX2_canBeStruck := goodIn_sub (List.forall_mem_cons.mpr ⟨ilX0_judgeNight_wsX0_judgeNight_r2 _ (List.mem_of_getElem? (i := 16) rfl), (List.forall_mem_append.mpr ⟨(List.forall_mem_append.mpr ⟨(List.forall_mem_cons.mpr ⟨ilX0_judgeNight_wsX0_judgeNight_r1 _ (List.mem_of_getElem? (i := 10) rfl), (List.forall_mem_cons.mpr ⟨ilX0_judgeNight_wsX0_judgeNight_r2 _ (List.mem_of_getElem? (i := 17) rfl), (List.forall_mem_cons.mpr ⟨ilX0_judgeNight_wsX0_judgeNight_r2 _ (List.mem_of_getElem? (i := 18) rfl), (List.forall_mem_cons.mpr ⟨ilX0_judgeNight_wsX0_judgeNight_r2 _ (List.mem_of_getElem? (i := 19) rfl), (List.forall_mem_cons.mpr ⟨ilX0_judgeNight_wsX0_judgeNight_r2 _ (List.mem_of_getElem? (i := 20) rfl), (List.forall_mem_cons.mpr ⟨ilX0_judgeNight_wsX0_judgeNight_r2 _ (List.mem_of_getElem? (i := 3) rfl), (List.forall_mem_cons.mpr ⟨ilX0_judgeNight_wsX0_judgeNight_r2 _ (List.mem_of_getElem? (i := 21) rfl), (List.forall_mem_cons.mpr ⟨ilX0_judgeNight_wsX0_judgeNight_r2 _ (List.mem_of_getElem? (i := 22) rfl), (fun _ h => absurd h List.not_mem_nil)⟩)⟩)⟩)⟩)⟩)⟩)⟩)⟩), ilX0_judgeNight_wsX20⟩), ilX0_judgeNight_wsX10⟩)⟩) (by decide +kernel)
set_option maxRecDepth 20000 in
theorem gX0_judgeNight_X2_canBeStruck : GoodIn wsX0_judgeNight (wsV RX0 66 RX2 yX2_canBeStruck wsX2_canBeStruck) := goodIn_app (goodIn_sub (List.forall_mem_cons.mpr ⟨ilX0_judgeNight_wsX0_judgeNight_r2 _ (List.mem_of_getElem? (i := 13) rfl), (List.forall_mem_cons.mpr ⟨ilX0_judgeNight_wsX0_judgeNight_r2 _ (List.mem_of_getElem? (i := 14) rfl), (List.forall_mem_cons.mpr ⟨ilX0_judgeNight_wsX0_judgeNight_r2 _ (List.mem_of_getElem? (i := 15) rfl), (List.forall_mem_cons.mpr ⟨ilX0_judgeNight_wsX0_judgeNight_r1 _ (List.mem_of_getElem? (i := 7) rfl), (fun _ h => absurd h List.not_mem_nil)⟩)⟩)⟩)⟩) (by decide +kernel)) ggX0_judgeNight_X2_canBeStruck
set_option maxRecDepth 20000 in
theorem ggX0_judgeNight_X2_strikeLoan : GoodIn wsX0_judgeNight wsX2_strikeLoan := goodIn_sub (List.forall_mem_cons.mpr ⟨ilX0_judgeNight_wsX0_judgeNight_r3 _ (List.mem_of_getElem? (i := 2) rfl), (List.forall_mem_append.mpr ⟨(List.forall_mem_append.mpr ⟨(List.forall_mem_cons.mpr ⟨ilX0_judgeNight_wsX0_judgeNight_r1 _ (List.mem_of_getElem? (i := 18) rfl), (List.forall_mem_cons.mpr ⟨ilX0_judgeNight_wsX0_judgeNight_r3 _ (List.mem_of_getElem? (i := 3) rfl), (List.forall_mem_cons.mpr ⟨ilX0_judgeNight_wsX0_judgeNight_r3 _ (List.mem_of_getElem? (i := 4) rfl), (List.forall_mem_cons.mpr ⟨ilX0_judgeNight_wsX0_judgeNight_r1 _ (List.mem_of_getElem? (i := 23) rfl), (fun _ h => absurd h List.not_mem_nil)⟩)⟩)⟩)⟩), ilX0_judgeNight_wsX20⟩), ilX0_judgeNight_wsX10⟩)⟩) (by decide +kernel)
set_option maxRecDepth 20000 in
theorem gX0_judgeNight_X2_strikeLoan : GoodIn wsX0_judgeNight (wsV RX0 70 RX2 yX2_strikeLoan wsX2_strikeLoan) := goodIn_app (goodIn_sub (List.forall_mem_cons.mpr ⟨ilX0_judgeNight_wsX0_judgeNight_r2 _ (List.mem_of_getElem? (i := 23) rfl), (List.forall_mem_cons.mpr ⟨ilX0_judgeNight_wsX0_judgeNight_r3 _ (List.mem_of_getElem? (i := 0) rfl), (List.forall_mem_cons.mpr ⟨ilX0_judgeNight_wsX0_judgeNight_r3 _ (List.mem_of_getElem? (i := 1) rfl), (List.forall_mem_cons.mpr ⟨ilX0_judgeNight_wsX0_judgeNight_r1 _ (List.mem_of_getElem? (i := 7) rfl), (fun _ h => absurd h List.not_mem_nil)⟩)⟩)⟩)⟩) (by decide +kernel)) ggX0_judgeNight_X2_strikeLoan
theorem dX0_judgeNight_0 : decode cX0_judgeNight 0 = .ok (.aload_n 0, 1) := by decide +kernel
theorem dX0_judgeNight_1 : decode cX0_judgeNight 1 = .ok (.getfield 34, 3) := by decide +kernel
theorem dX0_judgeNight_4 : decode cX0_judgeNight 4 = .ok (.aload_n 1, 1) := by decide +kernel
theorem dX0_judgeNight_5 : decode cX0_judgeNight 5 = .ok (.invokevirtual 57, 3) := by decide +kernel
theorem dX0_judgeNight_8 : decode cX0_judgeNight 8 = .ok (.aload_n 1, 1) := by decide +kernel
theorem dX0_judgeNight_9 : decode cX0_judgeNight 9 = .ok (.aload_n 0, 1) := by decide +kernel
theorem dX0_judgeNight_10 : decode cX0_judgeNight 10 = .ok (.getfield 34, 3) := by decide +kernel
theorem dX0_judgeNight_13 : decode cX0_judgeNight 13 = .ok (.getfield 48, 3) := by decide +kernel
theorem dX0_judgeNight_16 : decode cX0_judgeNight 16 = .ok (.invokevirtual 60, 3) := by decide +kernel
theorem dX0_judgeNight_19 : decode cX0_judgeNight 19 = .ok (.ifCond .ne 4, 3) := by decide +kernel
theorem dX0_judgeNight_22 : decode cX0_judgeNight 22 = .ok (.return_, 1) := by decide +kernel
theorem dX0_judgeNight_23 : decode cX0_judgeNight 23 = .ok (.iconst 0, 1) := by decide +kernel
theorem dX0_judgeNight_24 : decode cX0_judgeNight 24 = .ok (.istore_n 2, 1) := by decide +kernel
theorem dX0_judgeNight_25 : decode cX0_judgeNight 25 = .ok (.iload_n 2, 1) := by decide +kernel
theorem dX0_judgeNight_26 : decode cX0_judgeNight 26 = .ok (.bipush 40, 2) := by decide +kernel
theorem dX0_judgeNight_28 : decode cX0_judgeNight 28 = .ok (.if_icmp .ge 44, 3) := by decide +kernel
theorem dX0_judgeNight_31 : decode cX0_judgeNight 31 = .ok (.aload_n 0, 1) := by decide +kernel
theorem dX0_judgeNight_32 : decode cX0_judgeNight 32 = .ok (.getfield 34, 3) := by decide +kernel
theorem dX0_judgeNight_35 : decode cX0_judgeNight 35 = .ok (.aload_n 1, 1) := by decide +kernel
theorem dX0_judgeNight_36 : decode cX0_judgeNight 36 = .ok (.iload_n 2, 1) := by decide +kernel
theorem dX0_judgeNight_37 : decode cX0_judgeNight 37 = .ok (.invokevirtual 66, 3) := by decide +kernel
theorem dX0_judgeNight_40 : decode cX0_judgeNight 40 = .ok (.ifCond .eq 26, 3) := by decide +kernel
theorem dX0_judgeNight_43 : decode cX0_judgeNight 43 = .ok (.aload_n 0, 1) := by decide +kernel
theorem dX0_judgeNight_44 : decode cX0_judgeNight 44 = .ok (.getfield 19, 3) := by decide +kernel
theorem dX0_judgeNight_47 : decode cX0_judgeNight 47 = .ok (.aload_n 0, 1) := by decide +kernel
theorem dX0_judgeNight_48 : decode cX0_judgeNight 48 = .ok (.getfield 28, 3) := by decide +kernel
theorem dX0_judgeNight_51 : decode cX0_judgeNight 51 = .ok (.iload_n 2, 1) := by decide +kernel
theorem dX0_judgeNight_52 : decode cX0_judgeNight 52 = .ok (.iaload, 1) := by decide +kernel
theorem dX0_judgeNight_53 : decode cX0_judgeNight 53 = .ok (.dup2, 1) := by decide +kernel
theorem dX0_judgeNight_54 : decode cX0_judgeNight 54 = .ok (.iaload, 1) := by decide +kernel
theorem dX0_judgeNight_55 : decode cX0_judgeNight 55 = .ok (.aload_n 0, 1) := by decide +kernel
theorem dX0_judgeNight_56 : decode cX0_judgeNight 56 = .ok (.getfield 34, 3) := by decide +kernel
theorem dX0_judgeNight_59 : decode cX0_judgeNight 59 = .ok (.aload_n 1, 1) := by decide +kernel
theorem dX0_judgeNight_60 : decode cX0_judgeNight 60 = .ok (.iload_n 2, 1) := by decide +kernel
theorem dX0_judgeNight_61 : decode cX0_judgeNight 61 = .ok (.invokevirtual 70, 3) := by decide +kernel
theorem dX0_judgeNight_64 : decode cX0_judgeNight 64 = .ok (.iadd, 1) := by decide +kernel
theorem dX0_judgeNight_65 : decode cX0_judgeNight 65 = .ok (.iastore, 1) := by decide +kernel
theorem dX0_judgeNight_66 : decode cX0_judgeNight 66 = .ok (.iinc 2 1, 3) := by decide +kernel
theorem dX0_judgeNight_69 : decode cX0_judgeNight 69 = .ok (.goto (-44), 3) := by decide +kernel
theorem dX0_judgeNight_72 : decode cX0_judgeNight 72 = .ok (.return_, 1) := by decide +kernel
theorem dX1_init_0 : decode cX1_init 0 = .ok (.aload_n 0, 1) := by decide +kernel
theorem dX1_init_1 : decode cX1_init 1 = .ok (.invokespecial 3, 3) := by decide +kernel
theorem dX1_init_4 : decode cX1_init 4 = .ok (.aload_n 0, 1) := by decide +kernel
theorem dX1_init_5 : decode cX1_init 5 = .ok (.iconst 0, 1) := by decide +kernel
theorem dX1_init_6 : decode cX1_init 6 = .ok (.putfield 9, 3) := by decide +kernel
theorem dX1_init_9 : decode cX1_init 9 = .ok (.aload_n 0, 1) := by decide +kernel
theorem dX1_init_10 : decode cX1_init 10 = .ok (.iconst 0, 1) := by decide +kernel
theorem dX1_init_11 : decode cX1_init 11 = .ok (.putfield 15, 3) := by decide +kernel
theorem dX1_init_14 : decode cX1_init 14 = .ok (.aload_n 0, 1) := by decide +kernel
theorem dX1_init_15 : decode cX1_init 15 = .ok (.iconst 0, 1) := by decide +kernel
theorem dX1_init_16 : decode cX1_init 16 = .ok (.putfield 18, 3) := by decide +kernel
theorem dX1_init_19 : decode cX1_init 19 = .ok (.aload_n 0, 1) := by decide +kernel
theorem dX1_init_20 : decode cX1_init 20 = .ok (.iconst 0, 1) := by decide +kernel
theorem dX1_init_21 : decode cX1_init 21 = .ok (.putfield 21, 3) := by decide +kernel
theorem dX1_init_24 : decode cX1_init 24 = .ok (.aload_n 0, 1) := by decide +kernel
theorem dX1_init_25 : decode cX1_init 25 = .ok (.iconst 0, 1) := by decide +kernel
theorem dX1_init_26 : decode cX1_init 26 = .ok (.putfield 24, 3) := by decide +kernel
theorem dX1_init_29 : decode cX1_init 29 = .ok (.aload_n 0, 1) := by decide +kernel
theorem dX1_init_30 : decode cX1_init 30 = .ok (.iconst 0, 1) := by decide +kernel
theorem dX1_init_31 : decode cX1_init 31 = .ok (.putfield 27, 3) := by decide +kernel
theorem dX1_init_34 : decode cX1_init 34 = .ok (.aload_n 0, 1) := by decide +kernel
theorem dX1_init_35 : decode cX1_init 35 = .ok (.bipush 6, 2) := by decide +kernel
theorem dX1_init_37 : decode cX1_init 37 = .ok (.newarray .int, 2) := by decide +kernel
theorem dX1_init_39 : decode cX1_init 39 = .ok (.putfield 30, 3) := by decide +kernel
theorem dX1_init_42 : decode cX1_init 42 = .ok (.aload_n 0, 1) := by decide +kernel
theorem dX1_init_43 : decode cX1_init 43 = .ok (.bipush 6, 2) := by decide +kernel
theorem dX1_init_45 : decode cX1_init 45 = .ok (.newarray .int, 2) := by decide +kernel
theorem dX1_init_47 : decode cX1_init 47 = .ok (.putfield 34, 3) := by decide +kernel
theorem dX1_init_50 : decode cX1_init 50 = .ok (.aload_n 0, 1) := by decide +kernel
theorem dX1_init_51 : decode cX1_init 51 = .ok (.bipush 6, 2) := by decide +kernel
theorem dX1_init_53 : decode cX1_init 53 = .ok (.newarray .int, 2) := by decide +kernel
theorem dX1_init_55 : decode cX1_init 55 = .ok (.putfield 37, 3) := by decide +kernel
theorem dX1_init_58 : decode cX1_init 58 = .ok (.aload_n 0, 1) := by decide +kernel
theorem dX1_init_59 : decode cX1_init 59 = .ok (.bipush 6, 2) := by decide +kernel
theorem dX1_init_61 : decode cX1_init 61 = .ok (.newarray .int, 2) := by decide +kernel
theorem dX1_init_63 : decode cX1_init 63 = .ok (.putfield 40, 3) := by decide +kernel
theorem dX1_init_66 : decode cX1_init 66 = .ok (.aload_n 0, 1) := by decide +kernel
theorem dX1_init_67 : decode cX1_init 67 = .ok (.bipush 6, 2) := by decide +kernel
theorem dX1_init_69 : decode cX1_init 69 = .ok (.newarray .int, 2) := by decide +kernel
theorem dX1_init_71 : decode cX1_init 71 = .ok (.putfield 43, 3) := by decide +kernel
theorem dX1_init_74 : decode cX1_init 74 = .ok (.aload_n 0, 1) := by decide +kernel
theorem dX1_init_75 : decode cX1_init 75 = .ok (.bipush 6, 2) := by decide +kernel
theorem dX1_init_77 : decode cX1_init 77 = .ok (.newarray .int, 2) := by decide +kernel
theorem dX1_init_79 : decode cX1_init 79 = .ok (.putfield 46, 3) := by decide +kernel
theorem dX1_init_82 : decode cX1_init 82 = .ok (.aload_n 0, 1) := by decide +kernel
theorem dX1_init_83 : decode cX1_init 83 = .ok (.iconst 0, 1) := by decide +kernel
theorem dX1_init_84 : decode cX1_init 84 = .ok (.putfield 49, 3) := by decide +kernel
theorem dX1_init_87 : decode cX1_init 87 = .ok (.aload_n 0, 1) := by decide +kernel
theorem dX1_init_88 : decode cX1_init 88 = .ok (.iconst 0, 1) := by decide +kernel
theorem dX1_init_89 : decode cX1_init 89 = .ok (.putfield 52, 3) := by decide +kernel
theorem dX1_init_92 : decode cX1_init 92 = .ok (.aload_n 0, 1) := by decide +kernel
theorem dX1_init_93 : decode cX1_init 93 = .ok (.bipush 12, 2) := by decide +kernel
theorem dX1_init_95 : decode cX1_init 95 = .ok (.newarray .int, 2) := by decide +kernel
theorem dX1_init_97 : decode cX1_init 97 = .ok (.putfield 55, 3) := by decide +kernel
theorem dX1_init_100 : decode cX1_init 100 = .ok (.aload_n 0, 1) := by decide +kernel
theorem dX1_init_101 : decode cX1_init 101 = .ok (.bipush 12, 2) := by decide +kernel
theorem dX1_init_103 : decode cX1_init 103 = .ok (.newarray .int, 2) := by decide +kernel
theorem dX1_init_105 : decode cX1_init 105 = .ok (.putfield 58, 3) := by decide +kernel
theorem dX1_init_108 : decode cX1_init 108 = .ok (.aload_n 0, 1) := by decide +kernel
theorem dX1_init_109 : decode cX1_init 109 = .ok (.bipush 12, 2) := by decide +kernel
theorem dX1_init_111 : decode cX1_init 111 = .ok (.newarray .int, 2) := by decide +kernel
theorem dX1_init_113 : decode cX1_init 113 = .ok (.putfield 61, 3) := by decide +kernel
theorem dX1_init_116 : decode cX1_init 116 = .ok (.return_, 1) := by decide +kernel
theorem dX1_empty_0 : decode cX1_empty 0 = .ok (.aload_n 0, 1) := by decide +kernel
theorem dX1_empty_1 : decode cX1_empty 1 = .ok (.iconst 0, 1) := by decide +kernel
theorem dX1_empty_2 : decode cX1_empty 2 = .ok (.putfield 9, 3) := by decide +kernel
theorem dX1_empty_5 : decode cX1_empty 5 = .ok (.aload_n 0, 1) := by decide +kernel
theorem dX1_empty_6 : decode cX1_empty 6 = .ok (.iconst 0, 1) := by decide +kernel
theorem dX1_empty_7 : decode cX1_empty 7 = .ok (.putfield 15, 3) := by decide +kernel
theorem dX1_empty_10 : decode cX1_empty 10 = .ok (.aload_n 0, 1) := by decide +kernel
theorem dX1_empty_11 : decode cX1_empty 11 = .ok (.bipush 16, 2) := by decide +kernel
theorem dX1_empty_13 : decode cX1_empty 13 = .ok (.putfield 18, 3) := by decide +kernel
theorem dX1_empty_16 : decode cX1_empty 16 = .ok (.aload_n 0, 1) := by decide +kernel
theorem dX1_empty_17 : decode cX1_empty 17 = .ok (.iconst 1, 1) := by decide +kernel
theorem dX1_empty_18 : decode cX1_empty 18 = .ok (.putfield 21, 3) := by decide +kernel
theorem dX1_empty_21 : decode cX1_empty 21 = .ok (.aload_n 0, 1) := by decide +kernel
theorem dX1_empty_22 : decode cX1_empty 22 = .ok (.iconst 0, 1) := by decide +kernel
theorem dX1_empty_23 : decode cX1_empty 23 = .ok (.putfield 24, 3) := by decide +kernel
theorem dX1_empty_26 : decode cX1_empty 26 = .ok (.aload_n 0, 1) := by decide +kernel
theorem dX1_empty_27 : decode cX1_empty 27 = .ok (.iconst 0, 1) := by decide +kernel
theorem dX1_empty_28 : decode cX1_empty 28 = .ok (.putfield 27, 3) := by decide +kernel
theorem dX1_empty_31 : decode cX1_empty 31 = .ok (.aload_n 0, 1) := by decide +kernel
theorem dX1_empty_32 : decode cX1_empty 32 = .ok (.iconst 0, 1) := by decide +kernel
theorem dX1_empty_33 : decode cX1_empty 33 = .ok (.putfield 49, 3) := by decide +kernel
theorem dX1_empty_36 : decode cX1_empty 36 = .ok (.aload_n 0, 1) := by decide +kernel
theorem dX1_empty_37 : decode cX1_empty 37 = .ok (.iconst 0, 1) := by decide +kernel
theorem dX1_empty_38 : decode cX1_empty 38 = .ok (.putfield 52, 3) := by decide +kernel
theorem dX1_empty_41 : decode cX1_empty 41 = .ok (.return_, 1) := by decide +kernel
theorem dX1_addSort_0 : decode cX1_addSort 0 = .ok (.aload_n 0, 1) := by decide +kernel
theorem dX1_addSort_1 : decode cX1_addSort 1 = .ok (.getfield 27, 3) := by decide +kernel
theorem dX1_addSort_4 : decode cX1_addSort 4 = .ok (.bipush 6, 2) := by decide +kernel
theorem dX1_addSort_6 : decode cX1_addSort 6 = .ok (.if_icmp .ge 92, 3) := by decide +kernel
theorem dX1_addSort_9 : decode cX1_addSort 9 = .ok (.aload_n 1, 1) := by decide +kernel
theorem dX1_addSort_10 : decode cX1_addSort 10 = .ok (.arraylength, 1) := by decide +kernel
theorem dX1_addSort_11 : decode cX1_addSort 11 = .ok (.bipush 6, 2) := by decide +kernel
theorem dX1_addSort_13 : decode cX1_addSort 13 = .ok (.if_icmp .lt 85, 3) := by decide +kernel
theorem dX1_addSort_16 : decode cX1_addSort 16 = .ok (.aload_n 0, 1) := by decide +kernel
theorem dX1_addSort_17 : decode cX1_addSort 17 = .ok (.getfield 30, 3) := by decide +kernel
theorem dX1_addSort_20 : decode cX1_addSort 20 = .ok (.aload_n 0, 1) := by decide +kernel
theorem dX1_addSort_21 : decode cX1_addSort 21 = .ok (.getfield 27, 3) := by decide +kernel
theorem dX1_addSort_24 : decode cX1_addSort 24 = .ok (.aload_n 1, 1) := by decide +kernel
theorem dX1_addSort_25 : decode cX1_addSort 25 = .ok (.iconst 0, 1) := by decide +kernel
theorem dX1_addSort_26 : decode cX1_addSort 26 = .ok (.iaload, 1) := by decide +kernel
theorem dX1_addSort_27 : decode cX1_addSort 27 = .ok (.iastore, 1) := by decide +kernel
theorem dX1_addSort_28 : decode cX1_addSort 28 = .ok (.aload_n 0, 1) := by decide +kernel
theorem dX1_addSort_29 : decode cX1_addSort 29 = .ok (.getfield 34, 3) := by decide +kernel
theorem dX1_addSort_32 : decode cX1_addSort 32 = .ok (.aload_n 0, 1) := by decide +kernel
theorem dX1_addSort_33 : decode cX1_addSort 33 = .ok (.getfield 27, 3) := by decide +kernel
theorem dX1_addSort_36 : decode cX1_addSort 36 = .ok (.aload_n 1, 1) := by decide +kernel
theorem dX1_addSort_37 : decode cX1_addSort 37 = .ok (.iconst 1, 1) := by decide +kernel
theorem dX1_addSort_38 : decode cX1_addSort 38 = .ok (.iaload, 1) := by decide +kernel
theorem dX1_addSort_39 : decode cX1_addSort 39 = .ok (.iastore, 1) := by decide +kernel
theorem dX1_addSort_40 : decode cX1_addSort 40 = .ok (.aload_n 0, 1) := by decide +kernel
theorem dX1_addSort_41 : decode cX1_addSort 41 = .ok (.getfield 37, 3) := by decide +kernel
theorem dX1_addSort_44 : decode cX1_addSort 44 = .ok (.aload_n 0, 1) := by decide +kernel
theorem dX1_addSort_45 : decode cX1_addSort 45 = .ok (.getfield 27, 3) := by decide +kernel
theorem dX1_addSort_48 : decode cX1_addSort 48 = .ok (.aload_n 1, 1) := by decide +kernel
theorem dX1_addSort_49 : decode cX1_addSort 49 = .ok (.iconst 2, 1) := by decide +kernel
theorem dX1_addSort_50 : decode cX1_addSort 50 = .ok (.iaload, 1) := by decide +kernel
theorem dX1_addSort_51 : decode cX1_addSort 51 = .ok (.iastore, 1) := by decide +kernel
theorem dX1_addSort_52 : decode cX1_addSort 52 = .ok (.aload_n 0, 1) := by decide +kernel
theorem dX1_addSort_53 : decode cX1_addSort 53 = .ok (.getfield 40, 3) := by decide +kernel
theorem dX1_addSort_56 : decode cX1_addSort 56 = .ok (.aload_n 0, 1) := by decide +kernel
theorem dX1_addSort_57 : decode cX1_addSort 57 = .ok (.getfield 27, 3) := by decide +kernel
theorem dX1_addSort_60 : decode cX1_addSort 60 = .ok (.aload_n 1, 1) := by decide +kernel
theorem dX1_addSort_61 : decode cX1_addSort 61 = .ok (.iconst 3, 1) := by decide +kernel
theorem dX1_addSort_62 : decode cX1_addSort 62 = .ok (.iaload, 1) := by decide +kernel
theorem dX1_addSort_63 : decode cX1_addSort 63 = .ok (.iastore, 1) := by decide +kernel
theorem dX1_addSort_64 : decode cX1_addSort 64 = .ok (.aload_n 0, 1) := by decide +kernel
theorem dX1_addSort_65 : decode cX1_addSort 65 = .ok (.getfield 43, 3) := by decide +kernel
theorem dX1_addSort_68 : decode cX1_addSort 68 = .ok (.aload_n 0, 1) := by decide +kernel
theorem dX1_addSort_69 : decode cX1_addSort 69 = .ok (.getfield 27, 3) := by decide +kernel
theorem dX1_addSort_72 : decode cX1_addSort 72 = .ok (.aload_n 1, 1) := by decide +kernel
theorem dX1_addSort_73 : decode cX1_addSort 73 = .ok (.iconst 4, 1) := by decide +kernel
theorem dX1_addSort_74 : decode cX1_addSort 74 = .ok (.iaload, 1) := by decide +kernel
theorem dX1_addSort_75 : decode cX1_addSort 75 = .ok (.iastore, 1) := by decide +kernel
theorem dX1_addSort_76 : decode cX1_addSort 76 = .ok (.aload_n 0, 1) := by decide +kernel
theorem dX1_addSort_77 : decode cX1_addSort 77 = .ok (.getfield 46, 3) := by decide +kernel
theorem dX1_addSort_80 : decode cX1_addSort 80 = .ok (.aload_n 0, 1) := by decide +kernel
theorem dX1_addSort_81 : decode cX1_addSort 81 = .ok (.getfield 27, 3) := by decide +kernel
theorem dX1_addSort_84 : decode cX1_addSort 84 = .ok (.aload_n 1, 1) := by decide +kernel
theorem dX1_addSort_85 : decode cX1_addSort 85 = .ok (.iconst 5, 1) := by decide +kernel
theorem dX1_addSort_86 : decode cX1_addSort 86 = .ok (.iaload, 1) := by decide +kernel
theorem dX1_addSort_87 : decode cX1_addSort 87 = .ok (.iastore, 1) := by decide +kernel
theorem dX1_addSort_88 : decode cX1_addSort 88 = .ok (.aload_n 0, 1) := by decide +kernel
theorem dX1_addSort_89 : decode cX1_addSort 89 = .ok (.dup, 1) := by decide +kernel
theorem dX1_addSort_90 : decode cX1_addSort 90 = .ok (.getfield 27, 3) := by decide +kernel
theorem dX1_addSort_93 : decode cX1_addSort 93 = .ok (.iconst 1, 1) := by decide +kernel
theorem dX1_addSort_94 : decode cX1_addSort 94 = .ok (.iadd, 1) := by decide +kernel
theorem dX1_addSort_95 : decode cX1_addSort 95 = .ok (.putfield 27, 3) := by decide +kernel
theorem dX1_addSort_98 : decode cX1_addSort 98 = .ok (.return_, 1) := by decide +kernel
theorem dX1_addTurn_0 : decode cX1_addTurn 0 = .ok (.aload_n 0, 1) := by decide +kernel
theorem dX1_addTurn_1 : decode cX1_addTurn 1 = .ok (.getfield 52, 3) := by decide +kernel
theorem dX1_addTurn_4 : decode cX1_addTurn 4 = .ok (.bipush 12, 2) := by decide +kernel
theorem dX1_addTurn_6 : decode cX1_addTurn 6 = .ok (.if_icmp .ge 43, 3) := by decide +kernel
theorem dX1_addTurn_9 : decode cX1_addTurn 9 = .ok (.aload_n 0, 1) := by decide +kernel
theorem dX1_addTurn_10 : decode cX1_addTurn 10 = .ok (.getfield 55, 3) := by decide +kernel
theorem dX1_addTurn_13 : decode cX1_addTurn 13 = .ok (.aload_n 0, 1) := by decide +kernel
theorem dX1_addTurn_14 : decode cX1_addTurn 14 = .ok (.getfield 52, 3) := by decide +kernel
theorem dX1_addTurn_17 : decode cX1_addTurn 17 = .ok (.iload_n 1, 1) := by decide +kernel
theorem dX1_addTurn_18 : decode cX1_addTurn 18 = .ok (.iastore, 1) := by decide +kernel
theorem dX1_addTurn_19 : decode cX1_addTurn 19 = .ok (.aload_n 0, 1) := by decide +kernel
theorem dX1_addTurn_20 : decode cX1_addTurn 20 = .ok (.getfield 58, 3) := by decide +kernel
theorem dX1_addTurn_23 : decode cX1_addTurn 23 = .ok (.aload_n 0, 1) := by decide +kernel
theorem dX1_addTurn_24 : decode cX1_addTurn 24 = .ok (.getfield 52, 3) := by decide +kernel
theorem dX1_addTurn_27 : decode cX1_addTurn 27 = .ok (.iload_n 2, 1) := by decide +kernel
theorem dX1_addTurn_28 : decode cX1_addTurn 28 = .ok (.iastore, 1) := by decide +kernel
theorem dX1_addTurn_29 : decode cX1_addTurn 29 = .ok (.aload_n 0, 1) := by decide +kernel
theorem dX1_addTurn_30 : decode cX1_addTurn 30 = .ok (.getfield 61, 3) := by decide +kernel
theorem dX1_addTurn_33 : decode cX1_addTurn 33 = .ok (.aload_n 0, 1) := by decide +kernel
theorem dX1_addTurn_34 : decode cX1_addTurn 34 = .ok (.getfield 52, 3) := by decide +kernel
theorem dX1_addTurn_37 : decode cX1_addTurn 37 = .ok (.iload_n 3, 1) := by decide +kernel
theorem dX1_addTurn_38 : decode cX1_addTurn 38 = .ok (.iastore, 1) := by decide +kernel
theorem dX1_addTurn_39 : decode cX1_addTurn 39 = .ok (.aload_n 0, 1) := by decide +kernel
theorem dX1_addTurn_40 : decode cX1_addTurn 40 = .ok (.dup, 1) := by decide +kernel
theorem dX1_addTurn_41 : decode cX1_addTurn 41 = .ok (.getfield 52, 3) := by decide +kernel
theorem dX1_addTurn_44 : decode cX1_addTurn 44 = .ok (.iconst 1, 1) := by decide +kernel
theorem dX1_addTurn_45 : decode cX1_addTurn 45 = .ok (.iadd, 1) := by decide +kernel
theorem dX1_addTurn_46 : decode cX1_addTurn 46 = .ok (.putfield 52, 3) := by decide +kernel
theorem dX1_addTurn_49 : decode cX1_addTurn 49 = .ok (.return_, 1) := by decide +kernel
theorem dX1_hasSort_0 : decode cX1_hasSort 0 = .ok (.iload_n 1, 1) := by decide +kernel
theorem dX1_hasSort_1 : decode cX1_hasSort 1 = .ok (.ifCond .lt 15, 3) := by decide +kernel
theorem dX1_hasSort_4 : decode cX1_hasSort 4 = .ok (.iload_n 1, 1) := by decide +kernel
theorem dX1_hasSort_5 : decode cX1_hasSort 5 = .ok (.aload_n 0, 1) := by decide +kernel
theorem dX1_hasSort_6 : decode cX1_hasSort 6 = .ok (.getfield 27, 3) := by decide +kernel
theorem dX1_hasSort_9 : decode cX1_hasSort 9 = .ok (.if_icmp .ge 7, 3) := by decide +kernel
theorem dX1_hasSort_12 : decode cX1_hasSort 12 = .ok (.iconst 1, 1) := by decide +kernel
theorem dX1_hasSort_13 : decode cX1_hasSort 13 = .ok (.goto 4, 3) := by decide +kernel
theorem dX1_hasSort_16 : decode cX1_hasSort 16 = .ok (.iconst 0, 1) := by decide +kernel
theorem dX1_hasSort_17 : decode cX1_hasSort 17 = .ok (.ireturn, 1) := by decide +kernel
theorem dX1_hasTurn_0 : decode cX1_hasTurn 0 = .ok (.iconst 0, 1) := by decide +kernel
theorem dX1_hasTurn_1 : decode cX1_hasTurn 1 = .ok (.istore_n 3, 1) := by decide +kernel
theorem dX1_hasTurn_2 : decode cX1_hasTurn 2 = .ok (.iload_n 3, 1) := by decide +kernel
theorem dX1_hasTurn_3 : decode cX1_hasTurn 3 = .ok (.aload_n 0, 1) := by decide +kernel
theorem dX1_hasTurn_4 : decode cX1_hasTurn 4 = .ok (.getfield 52, 3) := by decide +kernel
theorem dX1_hasTurn_7 : decode cX1_hasTurn 7 = .ok (.if_icmp .ge 31, 3) := by decide +kernel
theorem dX1_hasTurn_10 : decode cX1_hasTurn 10 = .ok (.aload_n 0, 1) := by decide +kernel
theorem dX1_hasTurn_11 : decode cX1_hasTurn 11 = .ok (.getfield 55, 3) := by decide +kernel
theorem dX1_hasTurn_14 : decode cX1_hasTurn 14 = .ok (.iload_n 3, 1) := by decide +kernel
theorem dX1_hasTurn_15 : decode cX1_hasTurn 15 = .ok (.iaload, 1) := by decide +kernel
theorem dX1_hasTurn_16 : decode cX1_hasTurn 16 = .ok (.iload_n 1, 1) := by decide +kernel
theorem dX1_hasTurn_17 : decode cX1_hasTurn 17 = .ok (.if_icmp .ne 15, 3) := by decide +kernel
theorem dX1_hasTurn_20 : decode cX1_hasTurn 20 = .ok (.aload_n 0, 1) := by decide +kernel
theorem dX1_hasTurn_21 : decode cX1_hasTurn 21 = .ok (.getfield 58, 3) := by decide +kernel
theorem dX1_hasTurn_24 : decode cX1_hasTurn 24 = .ok (.iload_n 3, 1) := by decide +kernel
theorem dX1_hasTurn_25 : decode cX1_hasTurn 25 = .ok (.iaload, 1) := by decide +kernel
theorem dX1_hasTurn_26 : decode cX1_hasTurn 26 = .ok (.iload_n 2, 1) := by decide +kernel
theorem dX1_hasTurn_27 : decode cX1_hasTurn 27 = .ok (.if_icmp .ne 5, 3) := by decide +kernel
theorem dX1_hasTurn_30 : decode cX1_hasTurn 30 = .ok (.iconst 1, 1) := by decide +kernel
theorem dX1_hasTurn_31 : decode cX1_hasTurn 31 = .ok (.ireturn, 1) := by decide +kernel
theorem dX1_hasTurn_32 : decode cX1_hasTurn 32 = .ok (.iinc 3 1, 3) := by decide +kernel
theorem dX1_hasTurn_35 : decode cX1_hasTurn 35 = .ok (.goto (-33), 3) := by decide +kernel
theorem dX1_hasTurn_38 : decode cX1_hasTurn 38 = .ok (.iconst 0, 1) := by decide +kernel
theorem dX1_hasTurn_39 : decode cX1_hasTurn 39 = .ok (.ireturn, 1) := by decide +kernel
theorem dX1_isSpared_0 : decode cX1_isSpared 0 = .ok (.aload_n 0, 1) := by decide +kernel
theorem dX1_isSpared_1 : decode cX1_isSpared 1 = .ok (.getfield 49, 3) := by decide +kernel
theorem dX1_isSpared_4 : decode cX1_isSpared 4 = .ok (.iload_n 1, 1) := by decide +kernel
theorem dX1_isSpared_5 : decode cX1_isSpared 5 = .ok (.ishr, 1) := by decide +kernel
theorem dX1_isSpared_6 : decode cX1_isSpared 6 = .ok (.iconst 1, 1) := by decide +kernel
theorem dX1_isSpared_7 : decode cX1_isSpared 7 = .ok (.iand, 1) := by decide +kernel
theorem dX1_isSpared_8 : decode cX1_isSpared 8 = .ok (.iconst 1, 1) := by decide +kernel
theorem dX1_isSpared_9 : decode cX1_isSpared 9 = .ok (.if_icmp .ne 7, 3) := by decide +kernel
theorem dX1_isSpared_12 : decode cX1_isSpared 12 = .ok (.iconst 1, 1) := by decide +kernel
theorem dX1_isSpared_13 : decode cX1_isSpared 13 = .ok (.goto 4, 3) := by decide +kernel
theorem dX1_isSpared_16 : decode cX1_isSpared 16 = .ok (.iconst 0, 1) := by decide +kernel
theorem dX1_isSpared_17 : decode cX1_isSpared 17 = .ok (.ireturn, 1) := by decide +kernel
theorem dX1_isStruckAt_0 : decode cX1_isStruckAt 0 = .ok (.aload_n 0, 1) := by decide +kernel
theorem dX1_isStruckAt_1 : decode cX1_isStruckAt 1 = .ok (.getfield 9, 3) := by decide +kernel
theorem dX1_isStruckAt_4 : decode cX1_isStruckAt 4 = .ok (.aload_n 0, 1) := by decide +kernel
theorem dX1_isStruckAt_5 : decode cX1_isStruckAt 5 = .ok (.getfield 21, 3) := by decide +kernel
theorem dX1_isStruckAt_8 : decode cX1_isStruckAt 8 = .ok (.imul, 1) := by decide +kernel
theorem dX1_isStruckAt_9 : decode cX1_isStruckAt 9 = .ok (.istore_n 2, 1) := by decide +kernel
theorem dX1_isStruckAt_10 : decode cX1_isStruckAt 10 = .ok (.iload_n 2, 1) := by decide +kernel
theorem dX1_isStruckAt_11 : decode cX1_isStruckAt 11 = .ok (.ifCond .le 17, 3) := by decide +kernel
theorem dX1_isStruckAt_14 : decode cX1_isStruckAt 14 = .ok (.iload_n 1, 1) := by decide +kernel
theorem dX1_isStruckAt_15 : decode cX1_isStruckAt 15 = .ok (.ifCond .le 13, 3) := by decide +kernel
theorem dX1_isStruckAt_18 : decode cX1_isStruckAt 18 = .ok (.iload_n 1, 1) := by decide +kernel
theorem dX1_isStruckAt_19 : decode cX1_isStruckAt 19 = .ok (.iload_n 2, 1) := by decide +kernel
theorem dX1_isStruckAt_20 : decode cX1_isStruckAt 20 = .ok (.irem, 1) := by decide +kernel
theorem dX1_isStruckAt_21 : decode cX1_isStruckAt 21 = .ok (.ifCond .ne 7, 3) := by decide +kernel
theorem dX1_isStruckAt_24 : decode cX1_isStruckAt 24 = .ok (.iconst 1, 1) := by decide +kernel
theorem dX1_isStruckAt_25 : decode cX1_isStruckAt 25 = .ok (.goto 4, 3) := by decide +kernel
theorem dX1_isStruckAt_28 : decode cX1_isStruckAt 28 = .ok (.iconst 0, 1) := by decide +kernel
theorem dX1_isStruckAt_29 : decode cX1_isStruckAt 29 = .ok (.ireturn, 1) := by decide +kernel
theorem dX1_numberOf_0 : decode cX1_numberOf 0 = .ok (.iload_n 2, 1) := by decide +kernel
theorem dX1_numberOf_1 : decode cX1_numberOf 1 = .ok (.tableswitch 81 0 5 #[39, 46, 53, 60, 67, 74], 39) := by decide +kernel
theorem dX1_numberOf_40 : decode cX1_numberOf 40 = .ok (.aload_n 0, 1) := by decide +kernel
theorem dX1_numberOf_41 : decode cX1_numberOf 41 = .ok (.getfield 30, 3) := by decide +kernel
theorem dX1_numberOf_44 : decode cX1_numberOf 44 = .ok (.iload_n 1, 1) := by decide +kernel
theorem dX1_numberOf_45 : decode cX1_numberOf 45 = .ok (.iaload, 1) := by decide +kernel
theorem dX1_numberOf_46 : decode cX1_numberOf 46 = .ok (.ireturn, 1) := by decide +kernel
theorem dX1_numberOf_47 : decode cX1_numberOf 47 = .ok (.aload_n 0, 1) := by decide +kernel
theorem dX1_numberOf_48 : decode cX1_numberOf 48 = .ok (.getfield 34, 3) := by decide +kernel
theorem dX1_numberOf_51 : decode cX1_numberOf 51 = .ok (.iload_n 1, 1) := by decide +kernel
theorem dX1_numberOf_52 : decode cX1_numberOf 52 = .ok (.iaload, 1) := by decide +kernel
theorem dX1_numberOf_53 : decode cX1_numberOf 53 = .ok (.ireturn, 1) := by decide +kernel
theorem dX1_numberOf_54 : decode cX1_numberOf 54 = .ok (.aload_n 0, 1) := by decide +kernel
theorem dX1_numberOf_55 : decode cX1_numberOf 55 = .ok (.getfield 37, 3) := by decide +kernel
theorem dX1_numberOf_58 : decode cX1_numberOf 58 = .ok (.iload_n 1, 1) := by decide +kernel
theorem dX1_numberOf_59 : decode cX1_numberOf 59 = .ok (.iaload, 1) := by decide +kernel
theorem dX1_numberOf_60 : decode cX1_numberOf 60 = .ok (.ireturn, 1) := by decide +kernel
theorem dX1_numberOf_61 : decode cX1_numberOf 61 = .ok (.aload_n 0, 1) := by decide +kernel
theorem dX1_numberOf_62 : decode cX1_numberOf 62 = .ok (.getfield 40, 3) := by decide +kernel
theorem dX1_numberOf_65 : decode cX1_numberOf 65 = .ok (.iload_n 1, 1) := by decide +kernel
theorem dX1_numberOf_66 : decode cX1_numberOf 66 = .ok (.iaload, 1) := by decide +kernel
theorem dX1_numberOf_67 : decode cX1_numberOf 67 = .ok (.ireturn, 1) := by decide +kernel
theorem dX1_numberOf_68 : decode cX1_numberOf 68 = .ok (.aload_n 0, 1) := by decide +kernel
theorem dX1_numberOf_69 : decode cX1_numberOf 69 = .ok (.getfield 43, 3) := by decide +kernel
theorem dX1_numberOf_72 : decode cX1_numberOf 72 = .ok (.iload_n 1, 1) := by decide +kernel
theorem dX1_numberOf_73 : decode cX1_numberOf 73 = .ok (.iaload, 1) := by decide +kernel
theorem dX1_numberOf_74 : decode cX1_numberOf 74 = .ok (.ireturn, 1) := by decide +kernel
theorem dX1_numberOf_75 : decode cX1_numberOf 75 = .ok (.aload_n 0, 1) := by decide +kernel
theorem dX1_numberOf_76 : decode cX1_numberOf 76 = .ok (.getfield 46, 3) := by decide +kernel
theorem dX1_numberOf_79 : decode cX1_numberOf 79 = .ok (.iload_n 1, 1) := by decide +kernel
theorem dX1_numberOf_80 : decode cX1_numberOf 80 = .ok (.iaload, 1) := by decide +kernel
theorem dX1_numberOf_81 : decode cX1_numberOf 81 = .ok (.ireturn, 1) := by decide +kernel
theorem dX1_numberOf_82 : decode cX1_numberOf 82 = .ok (.iconst (-1), 1) := by decide +kernel
theorem dX1_numberOf_83 : decode cX1_numberOf 83 = .ok (.ireturn, 1) := by decide +kernel
theorem dX1_countOf_0 : decode cX1_countOf 0 = .ok (.iload_n 1, 1) := by decide +kernel
theorem dX1_countOf_1 : decode cX1_countOf 1 = .ok (.tableswitch 78 0 6 #[43, 48, 53, 58, 63, 68, 73], 43) := by decide +kernel
theorem dX1_countOf_44 : decode cX1_countOf 44 = .ok (.aload_n 0, 1) := by decide +kernel
theorem dX1_countOf_45 : decode cX1_countOf 45 = .ok (.getfield 27, 3) := by decide +kernel
theorem dX1_countOf_48 : decode cX1_countOf 48 = .ok (.ireturn, 1) := by decide +kernel
theorem dX1_countOf_49 : decode cX1_countOf 49 = .ok (.aload_n 0, 1) := by decide +kernel
theorem dX1_countOf_50 : decode cX1_countOf 50 = .ok (.getfield 52, 3) := by decide +kernel
theorem dX1_countOf_53 : decode cX1_countOf 53 = .ok (.ireturn, 1) := by decide +kernel
theorem dX1_countOf_54 : decode cX1_countOf 54 = .ok (.aload_n 0, 1) := by decide +kernel
theorem dX1_countOf_55 : decode cX1_countOf 55 = .ok (.getfield 9, 3) := by decide +kernel
theorem dX1_countOf_58 : decode cX1_countOf 58 = .ok (.ireturn, 1) := by decide +kernel
theorem dX1_countOf_59 : decode cX1_countOf 59 = .ok (.aload_n 0, 1) := by decide +kernel
theorem dX1_countOf_60 : decode cX1_countOf 60 = .ok (.getfield 15, 3) := by decide +kernel
theorem dX1_countOf_63 : decode cX1_countOf 63 = .ok (.ireturn, 1) := by decide +kernel
theorem dX1_countOf_64 : decode cX1_countOf 64 = .ok (.aload_n 0, 1) := by decide +kernel
theorem dX1_countOf_65 : decode cX1_countOf 65 = .ok (.getfield 18, 3) := by decide +kernel
theorem dX1_countOf_68 : decode cX1_countOf 68 = .ok (.ireturn, 1) := by decide +kernel
theorem dX1_countOf_69 : decode cX1_countOf 69 = .ok (.aload_n 0, 1) := by decide +kernel
theorem dX1_countOf_70 : decode cX1_countOf 70 = .ok (.getfield 21, 3) := by decide +kernel
theorem dX1_countOf_73 : decode cX1_countOf 73 = .ok (.ireturn, 1) := by decide +kernel
theorem dX1_countOf_74 : decode cX1_countOf 74 = .ok (.aload_n 0, 1) := by decide +kernel
theorem dX1_countOf_75 : decode cX1_countOf 75 = .ok (.getfield 49, 3) := by decide +kernel
theorem dX1_countOf_78 : decode cX1_countOf 78 = .ok (.ireturn, 1) := by decide +kernel
theorem dX1_countOf_79 : decode cX1_countOf 79 = .ok (.iconst (-1), 1) := by decide +kernel
theorem dX1_countOf_80 : decode cX1_countOf 80 = .ok (.ireturn, 1) := by decide +kernel
theorem dX1_allCoin_0 : decode cX1_allCoin 0 = .ok (.iconst 0, 1) := by decide +kernel
theorem dX1_allCoin_1 : decode cX1_allCoin 1 = .ok (.istore_n 1, 1) := by decide +kernel
theorem dX1_allCoin_2 : decode cX1_allCoin 2 = .ok (.iconst 0, 1) := by decide +kernel
theorem dX1_allCoin_3 : decode cX1_allCoin 3 = .ok (.istore_n 2, 1) := by decide +kernel
theorem dX1_allCoin_4 : decode cX1_allCoin 4 = .ok (.iload_n 2, 1) := by decide +kernel
theorem dX1_allCoin_5 : decode cX1_allCoin 5 = .ok (.aload_n 0, 1) := by decide +kernel
theorem dX1_allCoin_6 : decode cX1_allCoin 6 = .ok (.getfield 27, 3) := by decide +kernel
theorem dX1_allCoin_9 : decode cX1_allCoin 9 = .ok (.if_icmp .ge 25, 3) := by decide +kernel
theorem dX1_allCoin_12 : decode cX1_allCoin 12 = .ok (.iload_n 1, 1) := by decide +kernel
theorem dX1_allCoin_13 : decode cX1_allCoin 13 = .ok (.aload_n 0, 1) := by decide +kernel
theorem dX1_allCoin_14 : decode cX1_allCoin 14 = .ok (.getfield 30, 3) := by decide +kernel
theorem dX1_allCoin_17 : decode cX1_allCoin 17 = .ok (.iload_n 2, 1) := by decide +kernel
theorem dX1_allCoin_18 : decode cX1_allCoin 18 = .ok (.iaload, 1) := by decide +kernel
theorem dX1_allCoin_19 : decode cX1_allCoin 19 = .ok (.aload_n 0, 1) := by decide +kernel
theorem dX1_allCoin_20 : decode cX1_allCoin 20 = .ok (.getfield 34, 3) := by decide +kernel
theorem dX1_allCoin_23 : decode cX1_allCoin 23 = .ok (.iload_n 2, 1) := by decide +kernel
theorem dX1_allCoin_24 : decode cX1_allCoin 24 = .ok (.iaload, 1) := by decide +kernel
theorem dX1_allCoin_25 : decode cX1_allCoin 25 = .ok (.imul, 1) := by decide +kernel
theorem dX1_allCoin_26 : decode cX1_allCoin 26 = .ok (.iadd, 1) := by decide +kernel
theorem dX1_allCoin_27 : decode cX1_allCoin 27 = .ok (.istore_n 1, 1) := by decide +kernel
theorem dX1_allCoin_28 : decode cX1_allCoin 28 = .ok (.iinc 2 1, 3) := by decide +kernel
theorem dX1_allCoin_31 : decode cX1_allCoin 31 = .ok (.goto (-27), 3) := by decide +kernel
theorem dX1_allCoin_34 : decode cX1_allCoin 34 = .ok (.iload_n 1, 1) := by decide +kernel
theorem dX1_allCoin_35 : decode cX1_allCoin 35 = .ok (.ireturn, 1) := by decide +kernel
theorem dX1_longestWork_0 : decode cX1_longestWork 0 = .ok (.iconst 0, 1) := by decide +kernel
theorem dX1_longestWork_1 : decode cX1_longestWork 1 = .ok (.istore_n 1, 1) := by decide +kernel
theorem dX1_longestWork_2 : decode cX1_longestWork 2 = .ok (.iconst 0, 1) := by decide +kernel
theorem dX1_longestWork_3 : decode cX1_longestWork 3 = .ok (.istore_n 2, 1) := by decide +kernel
theorem dX1_longestWork_4 : decode cX1_longestWork 4 = .ok (.iload_n 2, 1) := by decide +kernel
theorem dX1_longestWork_5 : decode cX1_longestWork 5 = .ok (.aload_n 0, 1) := by decide +kernel
theorem dX1_longestWork_6 : decode cX1_longestWork 6 = .ok (.getfield 27, 3) := by decide +kernel
theorem dX1_longestWork_9 : decode cX1_longestWork 9 = .ok (.if_icmp .ge 20, 3) := by decide +kernel
theorem dX1_longestWork_12 : decode cX1_longestWork 12 = .ok (.iload_n 1, 1) := by decide +kernel
theorem dX1_longestWork_13 : decode cX1_longestWork 13 = .ok (.aload_n 0, 1) := by decide +kernel
theorem dX1_longestWork_14 : decode cX1_longestWork 14 = .ok (.getfield 40, 3) := by decide +kernel
theorem dX1_longestWork_17 : decode cX1_longestWork 17 = .ok (.iload_n 2, 1) := by decide +kernel
theorem dX1_longestWork_18 : decode cX1_longestWork 18 = .ok (.iaload, 1) := by decide +kernel
theorem dX1_longestWork_19 : decode cX1_longestWork 19 = .ok (.invokestatic 64, 3) := by decide +kernel
theorem dX1_longestWork_22 : decode cX1_longestWork 22 = .ok (.istore_n 1, 1) := by decide +kernel
theorem dX1_longestWork_23 : decode cX1_longestWork 23 = .ok (.iinc 2 1, 3) := by decide +kernel
theorem dX1_longestWork_26 : decode cX1_longestWork 26 = .ok (.goto (-22), 3) := by decide +kernel
theorem dX1_longestWork_29 : decode cX1_longestWork 29 = .ok (.iload_n 1, 1) := by decide +kernel
theorem dX1_longestWork_30 : decode cX1_longestWork 30 = .ok (.ireturn, 1) := by decide +kernel
theorem dX1_needOf_0 : decode cX1_needOf 0 = .ok (.aload_n 0, 1) := by decide +kernel
theorem dX1_needOf_1 : decode cX1_needOf 1 = .ok (.getfield 30, 3) := by decide +kernel
theorem dX1_needOf_4 : decode cX1_needOf 4 = .ok (.iload_n 1, 1) := by decide +kernel
theorem dX1_needOf_5 : decode cX1_needOf 5 = .ok (.iaload, 1) := by decide +kernel
theorem dX1_needOf_6 : decode cX1_needOf 6 = .ok (.iconst 0, 1) := by decide +kernel
theorem dX1_needOf_7 : decode cX1_needOf 7 = .ok (.aload_n 0, 1) := by decide +kernel
theorem dX1_needOf_8 : decode cX1_needOf 8 = .ok (.getfield 37, 3) := by decide +kernel
theorem dX1_needOf_11 : decode cX1_needOf 11 = .ok (.iload_n 1, 1) := by decide +kernel
theorem dX1_needOf_12 : decode cX1_needOf 12 = .ok (.iaload, 1) := by decide +kernel
theorem dX1_needOf_13 : decode cX1_needOf 13 = .ok (.aload_n 0, 1) := by decide +kernel
theorem dX1_needOf_14 : decode cX1_needOf 14 = .ok (.getfield 34, 3) := by decide +kernel
theorem dX1_needOf_17 : decode cX1_needOf 17 = .ok (.iload_n 1, 1) := by decide +kernel
theorem dX1_needOf_18 : decode cX1_needOf 18 = .ok (.iaload, 1) := by decide +kernel
theorem dX1_needOf_19 : decode cX1_needOf 19 = .ok (.isub, 1) := by decide +kernel
theorem dX1_needOf_20 : decode cX1_needOf 20 = .ok (.invokestatic 64, 3) := by decide +kernel
theorem dX1_needOf_23 : decode cX1_needOf 23 = .ok (.imul, 1) := by decide +kernel
theorem dX1_needOf_24 : decode cX1_needOf 24 = .ok (.ireturn, 1) := by decide +kernel
theorem dX1_yieldOf_0 : decode cX1_yieldOf 0 = .ok (.aload_n 0, 1) := by decide +kernel
theorem dX1_yieldOf_1 : decode cX1_yieldOf 1 = .ok (.getfield 37, 3) := by decide +kernel
theorem dX1_yieldOf_4 : decode cX1_yieldOf 4 = .ok (.iload_n 1, 1) := by decide +kernel
theorem dX1_yieldOf_5 : decode cX1_yieldOf 5 = .ok (.iaload, 1) := by decide +kernel
theorem dX1_yieldOf_6 : decode cX1_yieldOf 6 = .ok (.iconst 1, 1) := by decide +kernel
theorem dX1_yieldOf_7 : decode cX1_yieldOf 7 = .ok (.if_icmp .ge 7, 3) := by decide +kernel
theorem dX1_yieldOf_10 : decode cX1_yieldOf 10 = .ok (.iconst 0, 1) := by decide +kernel
theorem dX1_yieldOf_11 : decode cX1_yieldOf 11 = .ok (.goto 18, 3) := by decide +kernel
theorem dX1_yieldOf_14 : decode cX1_yieldOf 14 = .ok (.iload_n 2, 1) := by decide +kernel
theorem dX1_yieldOf_15 : decode cX1_yieldOf 15 = .ok (.aload_n 0, 1) := by decide +kernel
theorem dX1_yieldOf_16 : decode cX1_yieldOf 16 = .ok (.getfield 43, 3) := by decide +kernel
theorem dX1_yieldOf_19 : decode cX1_yieldOf 19 = .ok (.iload_n 1, 1) := by decide +kernel
theorem dX1_yieldOf_20 : decode cX1_yieldOf 20 = .ok (.iaload, 1) := by decide +kernel
theorem dX1_yieldOf_21 : decode cX1_yieldOf 21 = .ok (.imul, 1) := by decide +kernel
theorem dX1_yieldOf_22 : decode cX1_yieldOf 22 = .ok (.aload_n 0, 1) := by decide +kernel
theorem dX1_yieldOf_23 : decode cX1_yieldOf 23 = .ok (.getfield 37, 3) := by decide +kernel
theorem dX1_yieldOf_26 : decode cX1_yieldOf 26 = .ok (.iload_n 1, 1) := by decide +kernel
theorem dX1_yieldOf_27 : decode cX1_yieldOf 27 = .ok (.iaload, 1) := by decide +kernel
theorem dX1_yieldOf_28 : decode cX1_yieldOf 28 = .ok (.idiv, 1) := by decide +kernel
theorem dX1_yieldOf_29 : decode cX1_yieldOf 29 = .ok (.ireturn, 1) := by decide +kernel
theorem dX2_init_0 : decode cX2_init 0 = .ok (.aload_n 0, 1) := by decide +kernel
theorem dX2_init_1 : decode cX2_init 1 = .ok (.invokespecial 3, 3) := by decide +kernel
theorem dX2_init_4 : decode cX2_init 4 = .ok (.aload_n 0, 1) := by decide +kernel
theorem dX2_init_5 : decode cX2_init 5 = .ok (.iconst 0, 1) := by decide +kernel
theorem dX2_init_6 : decode cX2_init 6 = .ok (.putfield 9, 3) := by decide +kernel
theorem dX2_init_9 : decode cX2_init 9 = .ok (.aload_n 0, 1) := by decide +kernel
theorem dX2_init_10 : decode cX2_init 10 = .ok (.iconst 0, 1) := by decide +kernel
theorem dX2_init_11 : decode cX2_init 11 = .ok (.putfield 15, 3) := by decide +kernel
theorem dX2_init_14 : decode cX2_init 14 = .ok (.aload_n 0, 1) := by decide +kernel
theorem dX2_init_15 : decode cX2_init 15 = .ok (.bipush 6, 2) := by decide +kernel
theorem dX2_init_17 : decode cX2_init 17 = .ok (.newarray .int, 2) := by decide +kernel
theorem dX2_init_19 : decode cX2_init 19 = .ok (.putfield 18, 3) := by decide +kernel
theorem dX2_init_22 : decode cX2_init 22 = .ok (.aload_n 0, 1) := by decide +kernel
theorem dX2_init_23 : decode cX2_init 23 = .ok (.bipush 6, 2) := by decide +kernel
theorem dX2_init_25 : decode cX2_init 25 = .ok (.newarray .int, 2) := by decide +kernel
theorem dX2_init_27 : decode cX2_init 27 = .ok (.putfield 22, 3) := by decide +kernel
theorem dX2_init_30 : decode cX2_init 30 = .ok (.aload_n 0, 1) := by decide +kernel
theorem dX2_init_31 : decode cX2_init 31 = .ok (.bipush 40, 2) := by decide +kernel
theorem dX2_init_33 : decode cX2_init 33 = .ok (.newarray .int, 2) := by decide +kernel
theorem dX2_init_35 : decode cX2_init 35 = .ok (.putfield 25, 3) := by decide +kernel
theorem dX2_init_38 : decode cX2_init 38 = .ok (.aload_n 0, 1) := by decide +kernel
theorem dX2_init_39 : decode cX2_init 39 = .ok (.bipush 40, 2) := by decide +kernel
theorem dX2_init_41 : decode cX2_init 41 = .ok (.newarray .int, 2) := by decide +kernel
theorem dX2_init_43 : decode cX2_init 43 = .ok (.putfield 28, 3) := by decide +kernel
theorem dX2_init_46 : decode cX2_init 46 = .ok (.aload_n 0, 1) := by decide +kernel
theorem dX2_init_47 : decode cX2_init 47 = .ok (.bipush 40, 2) := by decide +kernel
theorem dX2_init_49 : decode cX2_init 49 = .ok (.newarray .int, 2) := by decide +kernel
theorem dX2_init_51 : decode cX2_init 51 = .ok (.putfield 31, 3) := by decide +kernel
theorem dX2_init_54 : decode cX2_init 54 = .ok (.aload_n 0, 1) := by decide +kernel
theorem dX2_init_55 : decode cX2_init 55 = .ok (.bipush 40, 2) := by decide +kernel
theorem dX2_init_57 : decode cX2_init 57 = .ok (.newarray .int, 2) := by decide +kernel
theorem dX2_init_59 : decode cX2_init 59 = .ok (.putfield 34, 3) := by decide +kernel
theorem dX2_init_62 : decode cX2_init 62 = .ok (.aload_n 0, 1) := by decide +kernel
theorem dX2_init_63 : decode cX2_init 63 = .ok (.bipush 40, 2) := by decide +kernel
theorem dX2_init_65 : decode cX2_init 65 = .ok (.newarray .int, 2) := by decide +kernel
theorem dX2_init_67 : decode cX2_init 67 = .ok (.putfield 37, 3) := by decide +kernel
theorem dX2_init_70 : decode cX2_init 70 = .ok (.aload_n 0, 1) := by decide +kernel
theorem dX2_init_71 : decode cX2_init 71 = .ok (.bipush 40, 2) := by decide +kernel
theorem dX2_init_73 : decode cX2_init 73 = .ok (.newarray .int, 2) := by decide +kernel
theorem dX2_init_75 : decode cX2_init 75 = .ok (.putfield 40, 3) := by decide +kernel
theorem dX2_init_78 : decode cX2_init 78 = .ok (.return_, 1) := by decide +kernel
theorem ilX2_begin_wsX20 : ∀ w ∈ wsX20, w ∈ wsX2_begin := fun _ h => List.mem_cons_of_mem _ (List.mem_append_left _ (List.mem_append_right _ (h)))
theorem ilX2_begin_wsX10 : ∀ w ∈ wsX10, w ∈ wsX2_begin := fun _ h => List.mem_cons_of_mem _ (List.mem_append_right _ (h))
set_option maxRecDepth 20000 in
theorem ggX2_begin_J7_fill_53178 : GoodIn wsX2_begin wsJ7_fill_53178 := goodIn_sub (List.forall_mem_cons.mpr ⟨List.mem_cons_of_mem _ (List.mem_append_left _ (List.mem_append_left _ (List.mem_of_getElem? (i := 10) rfl))), (fun _ h => absurd h List.not_mem_nil)⟩) (by decide +kernel)
set_option maxRecDepth 20000 in
theorem gX2_begin_J7_fill_53178 : GoodIn wsX2_begin (va_wsS RX2 54 yJ7_fill_53178 wsJ7_fill_53178) := goodIn_app (goodIn_of _ (by decide +kernel)) ggX2_begin_J7_fill_53178
theorem dX2_begin_0 : decode cX2_begin 0 = .ok (.aload_n 0, 1) := by decide +kernel
theorem dX2_begin_1 : decode cX2_begin 1 = .ok (.iconst 0, 1) := by decide +kernel
theorem dX2_begin_2 : decode cX2_begin 2 = .ok (.putfield 9, 3) := by decide +kernel
theorem dX2_begin_5 : decode cX2_begin 5 = .ok (.iconst 0, 1) := by decide +kernel
theorem dX2_begin_6 : decode cX2_begin 6 = .ok (.istore_n 2, 1) := by decide +kernel
theorem dX2_begin_7 : decode cX2_begin 7 = .ok (.iload_n 2, 1) := by decide +kernel
theorem dX2_begin_8 : decode cX2_begin 8 = .ok (.bipush 6, 2) := by decide +kernel
theorem dX2_begin_10 : decode cX2_begin 10 = .ok (.if_icmp .ge 47, 3) := by decide +kernel
theorem dX2_begin_13 : decode cX2_begin 13 = .ok (.aload_n 0, 1) := by decide +kernel
theorem dX2_begin_14 : decode cX2_begin 14 = .ok (.getfield 18, 3) := by decide +kernel
theorem dX2_begin_17 : decode cX2_begin 17 = .ok (.iload_n 2, 1) := by decide +kernel
theorem dX2_begin_18 : decode cX2_begin 18 = .ok (.iload_n 2, 1) := by decide +kernel
theorem dX2_begin_19 : decode cX2_begin 19 = .ok (.aload_n 1, 1) := by decide +kernel
theorem dX2_begin_20 : decode cX2_begin 20 = .ok (.getfield 43, 3) := by decide +kernel
theorem dX2_begin_23 : decode cX2_begin 23 = .ok (.if_icmp .ge 19, 3) := by decide +kernel
theorem dX2_begin_26 : decode cX2_begin 26 = .ok (.aload_n 1, 1) := by decide +kernel
theorem dX2_begin_27 : decode cX2_begin 27 = .ok (.getfield 48, 3) := by decide +kernel
theorem dX2_begin_30 : decode cX2_begin 30 = .ok (.iload_n 2, 1) := by decide +kernel
theorem dX2_begin_31 : decode cX2_begin 31 = .ok (.iaload, 1) := by decide +kernel
theorem dX2_begin_32 : decode cX2_begin 32 = .ok (.aload_n 1, 1) := by decide +kernel
theorem dX2_begin_33 : decode cX2_begin 33 = .ok (.getfield 51, 3) := by decide +kernel
theorem dX2_begin_36 : decode cX2_begin 36 = .ok (.iload_n 2, 1) := by decide +kernel
theorem dX2_begin_37 : decode cX2_begin 37 = .ok (.iaload, 1) := by decide +kernel
theorem dX2_begin_38 : decode cX2_begin 38 = .ok (.imul, 1) := by decide +kernel
theorem dX2_begin_39 : decode cX2_begin 39 = .ok (.goto 4, 3) := by decide +kernel
theorem dX2_begin_42 : decode cX2_begin 42 = .ok (.iconst 0, 1) := by decide +kernel
theorem dX2_begin_43 : decode cX2_begin 43 = .ok (.iastore, 1) := by decide +kernel
theorem dX2_begin_44 : decode cX2_begin 44 = .ok (.aload_n 0, 1) := by decide +kernel
theorem dX2_begin_45 : decode cX2_begin 45 = .ok (.getfield 22, 3) := by decide +kernel
theorem dX2_begin_48 : decode cX2_begin 48 = .ok (.iload_n 2, 1) := by decide +kernel
theorem dX2_begin_49 : decode cX2_begin 49 = .ok (.iconst 0, 1) := by decide +kernel
theorem dX2_begin_50 : decode cX2_begin 50 = .ok (.iastore, 1) := by decide +kernel
theorem dX2_begin_51 : decode cX2_begin 51 = .ok (.iinc 2 1, 3) := by decide +kernel
theorem dX2_begin_54 : decode cX2_begin 54 = .ok (.goto (-47), 3) := by decide +kernel
theorem dX2_begin_57 : decode cX2_begin 57 = .ok (.aload_n 0, 1) := by decide +kernel
theorem dX2_begin_58 : decode cX2_begin 58 = .ok (.getfield 34, 3) := by decide +kernel
theorem dX2_begin_61 : decode cX2_begin 61 = .ok (.iconst 0, 1) := by decide +kernel
theorem dX2_begin_62 : decode cX2_begin 62 = .ok (.invokestatic 54, 3) := by decide +kernel
theorem dX2_begin_65 : decode cX2_begin 65 = .ok (.return_, 1) := by decide +kernel
theorem dX2_copyFrom_0 : decode cX2_copyFrom 0 = .ok (.aload_n 0, 1) := by decide +kernel
theorem dX2_copyFrom_1 : decode cX2_copyFrom 1 = .ok (.aload_n 1, 1) := by decide +kernel
theorem dX2_copyFrom_2 : decode cX2_copyFrom 2 = .ok (.getfield 9, 3) := by decide +kernel
theorem dX2_copyFrom_5 : decode cX2_copyFrom 5 = .ok (.putfield 9, 3) := by decide +kernel
theorem dX2_copyFrom_8 : decode cX2_copyFrom 8 = .ok (.aload_n 0, 1) := by decide +kernel
theorem dX2_copyFrom_9 : decode cX2_copyFrom 9 = .ok (.aload_n 1, 1) := by decide +kernel
theorem dX2_copyFrom_10 : decode cX2_copyFrom 10 = .ok (.getfield 15, 3) := by decide +kernel
theorem dX2_copyFrom_13 : decode cX2_copyFrom 13 = .ok (.putfield 15, 3) := by decide +kernel
theorem dX2_copyFrom_16 : decode cX2_copyFrom 16 = .ok (.aload_n 1, 1) := by decide +kernel
theorem dX2_copyFrom_17 : decode cX2_copyFrom 17 = .ok (.getfield 18, 3) := by decide +kernel
theorem dX2_copyFrom_20 : decode cX2_copyFrom 20 = .ok (.iconst 0, 1) := by decide +kernel
theorem dX2_copyFrom_21 : decode cX2_copyFrom 21 = .ok (.aload_n 0, 1) := by decide +kernel
theorem dX2_copyFrom_22 : decode cX2_copyFrom 22 = .ok (.getfield 18, 3) := by decide +kernel
theorem dX2_copyFrom_25 : decode cX2_copyFrom 25 = .ok (.iconst 0, 1) := by decide +kernel
theorem dX2_copyFrom_26 : decode cX2_copyFrom 26 = .ok (.bipush 6, 2) := by decide +kernel
theorem dX2_copyFrom_28 : decode cX2_copyFrom 28 = .ok (.invokestatic 60, 3) := by decide +kernel
theorem dX2_copyFrom_31 : decode cX2_copyFrom 31 = .ok (.aload_n 1, 1) := by decide +kernel
theorem dX2_copyFrom_32 : decode cX2_copyFrom 32 = .ok (.getfield 22, 3) := by decide +kernel
theorem dX2_copyFrom_35 : decode cX2_copyFrom 35 = .ok (.iconst 0, 1) := by decide +kernel
theorem dX2_copyFrom_36 : decode cX2_copyFrom 36 = .ok (.aload_n 0, 1) := by decide +kernel
theorem dX2_copyFrom_37 : decode cX2_copyFrom 37 = .ok (.getfield 22, 3) := by decide +kernel
theorem dX2_copyFrom_40 : decode cX2_copyFrom 40 = .ok (.iconst 0, 1) := by decide +kernel
theorem dX2_copyFrom_41 : decode cX2_copyFrom 41 = .ok (.bipush 6, 2) := by decide +kernel
theorem dX2_copyFrom_43 : decode cX2_copyFrom 43 = .ok (.invokestatic 60, 3) := by decide +kernel
theorem dX2_copyFrom_46 : decode cX2_copyFrom 46 = .ok (.aload_n 1, 1) := by decide +kernel
theorem dX2_copyFrom_47 : decode cX2_copyFrom 47 = .ok (.getfield 25, 3) := by decide +kernel
theorem dX2_copyFrom_50 : decode cX2_copyFrom 50 = .ok (.iconst 0, 1) := by decide +kernel
theorem dX2_copyFrom_51 : decode cX2_copyFrom 51 = .ok (.aload_n 0, 1) := by decide +kernel
theorem dX2_copyFrom_52 : decode cX2_copyFrom 52 = .ok (.getfield 25, 3) := by decide +kernel
theorem dX2_copyFrom_55 : decode cX2_copyFrom 55 = .ok (.iconst 0, 1) := by decide +kernel
theorem dX2_copyFrom_56 : decode cX2_copyFrom 56 = .ok (.bipush 40, 2) := by decide +kernel
theorem dX2_copyFrom_58 : decode cX2_copyFrom 58 = .ok (.invokestatic 60, 3) := by decide +kernel
theorem dX2_copyFrom_61 : decode cX2_copyFrom 61 = .ok (.aload_n 1, 1) := by decide +kernel
theorem dX2_copyFrom_62 : decode cX2_copyFrom 62 = .ok (.getfield 28, 3) := by decide +kernel
theorem dX2_copyFrom_65 : decode cX2_copyFrom 65 = .ok (.iconst 0, 1) := by decide +kernel
theorem dX2_copyFrom_66 : decode cX2_copyFrom 66 = .ok (.aload_n 0, 1) := by decide +kernel
theorem dX2_copyFrom_67 : decode cX2_copyFrom 67 = .ok (.getfield 28, 3) := by decide +kernel
theorem dX2_copyFrom_70 : decode cX2_copyFrom 70 = .ok (.iconst 0, 1) := by decide +kernel
theorem dX2_copyFrom_71 : decode cX2_copyFrom 71 = .ok (.bipush 40, 2) := by decide +kernel
theorem dX2_copyFrom_73 : decode cX2_copyFrom 73 = .ok (.invokestatic 60, 3) := by decide +kernel
theorem dX2_copyFrom_76 : decode cX2_copyFrom 76 = .ok (.aload_n 1, 1) := by decide +kernel
theorem dX2_copyFrom_77 : decode cX2_copyFrom 77 = .ok (.getfield 31, 3) := by decide +kernel
theorem dX2_copyFrom_80 : decode cX2_copyFrom 80 = .ok (.iconst 0, 1) := by decide +kernel
theorem dX2_copyFrom_81 : decode cX2_copyFrom 81 = .ok (.aload_n 0, 1) := by decide +kernel
theorem dX2_copyFrom_82 : decode cX2_copyFrom 82 = .ok (.getfield 31, 3) := by decide +kernel
theorem dX2_copyFrom_85 : decode cX2_copyFrom 85 = .ok (.iconst 0, 1) := by decide +kernel
theorem dX2_copyFrom_86 : decode cX2_copyFrom 86 = .ok (.bipush 40, 2) := by decide +kernel
theorem dX2_copyFrom_88 : decode cX2_copyFrom 88 = .ok (.invokestatic 60, 3) := by decide +kernel
theorem dX2_copyFrom_91 : decode cX2_copyFrom 91 = .ok (.aload_n 1, 1) := by decide +kernel
theorem dX2_copyFrom_92 : decode cX2_copyFrom 92 = .ok (.getfield 34, 3) := by decide +kernel
theorem dX2_copyFrom_95 : decode cX2_copyFrom 95 = .ok (.iconst 0, 1) := by decide +kernel
theorem dX2_copyFrom_96 : decode cX2_copyFrom 96 = .ok (.aload_n 0, 1) := by decide +kernel
theorem dX2_copyFrom_97 : decode cX2_copyFrom 97 = .ok (.getfield 34, 3) := by decide +kernel
theorem dX2_copyFrom_100 : decode cX2_copyFrom 100 = .ok (.iconst 0, 1) := by decide +kernel
theorem dX2_copyFrom_101 : decode cX2_copyFrom 101 = .ok (.bipush 40, 2) := by decide +kernel
theorem dX2_copyFrom_103 : decode cX2_copyFrom 103 = .ok (.invokestatic 60, 3) := by decide +kernel
theorem dX2_copyFrom_106 : decode cX2_copyFrom 106 = .ok (.aload_n 1, 1) := by decide +kernel
theorem dX2_copyFrom_107 : decode cX2_copyFrom 107 = .ok (.getfield 37, 3) := by decide +kernel
theorem dX2_copyFrom_110 : decode cX2_copyFrom 110 = .ok (.iconst 0, 1) := by decide +kernel
theorem dX2_copyFrom_111 : decode cX2_copyFrom 111 = .ok (.aload_n 0, 1) := by decide +kernel
theorem dX2_copyFrom_112 : decode cX2_copyFrom 112 = .ok (.getfield 37, 3) := by decide +kernel
theorem dX2_copyFrom_115 : decode cX2_copyFrom 115 = .ok (.iconst 0, 1) := by decide +kernel
theorem dX2_copyFrom_116 : decode cX2_copyFrom 116 = .ok (.bipush 40, 2) := by decide +kernel
theorem dX2_copyFrom_118 : decode cX2_copyFrom 118 = .ok (.invokestatic 60, 3) := by decide +kernel
theorem dX2_copyFrom_121 : decode cX2_copyFrom 121 = .ok (.aload_n 1, 1) := by decide +kernel
theorem dX2_copyFrom_122 : decode cX2_copyFrom 122 = .ok (.getfield 40, 3) := by decide +kernel
theorem dX2_copyFrom_125 : decode cX2_copyFrom 125 = .ok (.iconst 0, 1) := by decide +kernel
theorem dX2_copyFrom_126 : decode cX2_copyFrom 126 = .ok (.aload_n 0, 1) := by decide +kernel
theorem dX2_copyFrom_127 : decode cX2_copyFrom 127 = .ok (.getfield 40, 3) := by decide +kernel
theorem dX2_copyFrom_130 : decode cX2_copyFrom 130 = .ok (.iconst 0, 1) := by decide +kernel
theorem dX2_copyFrom_131 : decode cX2_copyFrom 131 = .ok (.bipush 40, 2) := by decide +kernel
theorem dX2_copyFrom_133 : decode cX2_copyFrom 133 = .ok (.invokestatic 60, 3) := by decide +kernel
theorem dX2_copyFrom_136 : decode cX2_copyFrom 136 = .ok (.return_, 1) := by decide +kernel
theorem ilX2_makeLoan_wsX20 : ∀ w ∈ wsX20, w ∈ wsX2_makeLoan := fun _ h => List.mem_cons_of_mem _ (List.mem_append_left _ (List.mem_append_right _ (h)))
theorem ilX2_makeLoan_wsX10 : ∀ w ∈ wsX10, w ∈ wsX2_makeLoan := fun _ h => List.mem_cons_of_mem _ (List.mem_append_right _ (h))
set_option maxRecDepth 20000 in
theorem ggX2_makeLoan_X2_freeNumber : GoodIn wsX2_makeLoan wsX2_freeNumber := goodIn_sub (List.forall_mem_cons.mpr ⟨List.mem_cons_of_mem _ (List.mem_append_left _ (List.mem_append_left _ (List.mem_of_getElem? (i := 13) rfl))), (List.forall_mem_append.mpr ⟨(List.forall_mem_cons.mpr ⟨List.mem_cons_of_mem _ (List.mem_append_left _ (List.mem_append_left _ (List.mem_of_getElem? (i := 4) rfl))), (fun _ h => absurd h List.not_mem_nil)⟩), ilX2_makeLoan_wsX20⟩)⟩) (by decide +kernel)
set_option maxRecDepth 20000 in
theorem gX2_makeLoan_X2_freeNumber : GoodIn wsX2_makeLoan (wsV RX2 66 RX2 yX2_freeNumber wsX2_freeNumber) := goodIn_app (goodIn_sub (List.forall_mem_cons.mpr ⟨List.mem_cons_of_mem _ (List.mem_append_left _ (List.mem_append_left _ (List.mem_of_getElem? (i := 9) rfl))), (List.forall_mem_cons.mpr ⟨List.mem_cons_of_mem _ (List.mem_append_left _ (List.mem_append_left _ (List.mem_of_getElem? (i := 10) rfl))), (List.forall_mem_cons.mpr ⟨List.mem_cons_of_mem _ (List.mem_append_left _ (List.mem_append_left _ (List.mem_of_getElem? (i := 11) rfl))), (List.forall_mem_cons.mpr ⟨List.mem_cons_of_mem _ (List.mem_append_left _ (List.mem_append_left _ (List.mem_of_getElem? (i := 12) rfl))), (fun _ h => absurd h List.not_mem_nil)⟩)⟩)⟩)⟩) (by decide +kernel)) ggX2_makeLoan_X2_freeNumber
set_option maxRecDepth 20000 in
theorem ggX2_makeLoan_X1_hasSort : GoodIn wsX2_makeLoan wsX1_hasSort := goodIn_sub (List.forall_mem_cons.mpr ⟨List.mem_cons_of_mem _ (List.mem_append_left _ (List.mem_append_left _ (List.mem_of_getElem? (i := 18) rfl))), (List.forall_mem_append.mpr ⟨(List.forall_mem_cons.mpr ⟨List.mem_cons_of_mem _ (List.mem_append_left _ (List.mem_append_left _ (List.mem_of_getElem? (i := 19) rfl))), (fun _ h => absurd h List.not_mem_nil)⟩), ilX2_makeLoan_wsX10⟩)⟩) (by decide +kernel)
set_option maxRecDepth 20000 in
theorem gX2_makeLoan_X1_hasSort : GoodIn wsX2_makeLoan (wsV RX2 70 RX1 yX1_hasSort wsX1_hasSort) := goodIn_app (goodIn_sub (List.forall_mem_cons.mpr ⟨List.mem_cons_of_mem _ (List.mem_append_left _ (List.mem_append_left _ (List.mem_of_getElem? (i := 14) rfl))), (List.forall_mem_cons.mpr ⟨List.mem_cons_of_mem _ (List.mem_append_left _ (List.mem_append_left _ (List.mem_of_getElem? (i := 15) rfl))), (List.forall_mem_cons.mpr ⟨List.mem_cons_of_mem _ (List.mem_append_left _ (List.mem_append_left _ (List.mem_of_getElem? (i := 16) rfl))), (List.forall_mem_cons.mpr ⟨List.mem_cons_of_mem _ (List.mem_append_left _ (List.mem_append_left _ (List.mem_of_getElem? (i := 17) rfl))), (fun _ h => absurd h List.not_mem_nil)⟩)⟩)⟩)⟩) (by decide +kernel)) ggX2_makeLoan_X1_hasSort
theorem dX2_makeLoan_0 : decode cX2_makeLoan 0 = .ok (.iload_n 2, 1) := by decide +kernel
theorem dX2_makeLoan_1 : decode cX2_makeLoan 1 = .ok (.bipush 10, 2) := by decide +kernel
theorem dX2_makeLoan_3 : decode cX2_makeLoan 3 = .ok (.idiv, 1) := by decide +kernel
theorem dX2_makeLoan_4 : decode cX2_makeLoan 4 = .ok (.istore 6, 2) := by decide +kernel
theorem dX2_makeLoan_6 : decode cX2_makeLoan 6 = .ok (.iload_n 2, 1) := by decide +kernel
theorem dX2_makeLoan_7 : decode cX2_makeLoan 7 = .ok (.bipush 10, 2) := by decide +kernel
theorem dX2_makeLoan_9 : decode cX2_makeLoan 9 = .ok (.irem, 1) := by decide +kernel
theorem dX2_makeLoan_10 : decode cX2_makeLoan 10 = .ok (.istore 7, 2) := by decide +kernel
theorem dX2_makeLoan_12 : decode cX2_makeLoan 12 = .ok (.aload_n 0, 1) := by decide +kernel
theorem dX2_makeLoan_13 : decode cX2_makeLoan 13 = .ok (.invokevirtual 66, 3) := by decide +kernel
theorem dX2_makeLoan_16 : decode cX2_makeLoan 16 = .ok (.istore 8, 2) := by decide +kernel
theorem dX2_makeLoan_18 : decode cX2_makeLoan 18 = .ok (.iload 8, 2) := by decide +kernel
theorem dX2_makeLoan_20 : decode cX2_makeLoan 20 = .ok (.iconst (-1), 1) := by decide +kernel
theorem dX2_makeLoan_21 : decode cX2_makeLoan 21 = .ok (.if_icmp .eq 33, 3) := by decide +kernel
theorem dX2_makeLoan_24 : decode cX2_makeLoan 24 = .ok (.aload_n 1, 1) := by decide +kernel
theorem dX2_makeLoan_25 : decode cX2_makeLoan 25 = .ok (.iload 6, 2) := by decide +kernel
theorem dX2_makeLoan_27 : decode cX2_makeLoan 27 = .ok (.invokevirtual 70, 3) := by decide +kernel
theorem dX2_makeLoan_30 : decode cX2_makeLoan 30 = .ok (.ifCond .eq 24, 3) := by decide +kernel
theorem dX2_makeLoan_33 : decode cX2_makeLoan 33 = .ok (.aload_n 1, 1) := by decide +kernel
theorem dX2_makeLoan_34 : decode cX2_makeLoan 34 = .ok (.iload 7, 2) := by decide +kernel
theorem dX2_makeLoan_36 : decode cX2_makeLoan 36 = .ok (.invokevirtual 70, 3) := by decide +kernel
theorem dX2_makeLoan_39 : decode cX2_makeLoan 39 = .ok (.ifCond .eq 15, 3) := by decide +kernel
theorem dX2_makeLoan_42 : decode cX2_makeLoan 42 = .ok (.aload_n 0, 1) := by decide +kernel
theorem dX2_makeLoan_43 : decode cX2_makeLoan 43 = .ok (.getfield 18, 3) := by decide +kernel
theorem dX2_makeLoan_46 : decode cX2_makeLoan 46 = .ok (.iload 6, 2) := by decide +kernel
theorem dX2_makeLoan_48 : decode cX2_makeLoan 48 = .ok (.iaload, 1) := by decide +kernel
theorem dX2_makeLoan_49 : decode cX2_makeLoan 49 = .ok (.iload 4, 2) := by decide +kernel
theorem dX2_makeLoan_51 : decode cX2_makeLoan 51 = .ok (.if_icmp .ge 5, 3) := by decide +kernel
theorem dX2_makeLoan_54 : decode cX2_makeLoan 54 = .ok (.iconst (-1), 1) := by decide +kernel
theorem dX2_makeLoan_55 : decode cX2_makeLoan 55 = .ok (.ireturn, 1) := by decide +kernel
theorem dX2_makeLoan_56 : decode cX2_makeLoan 56 = .ok (.aload_n 0, 1) := by decide +kernel
theorem dX2_makeLoan_57 : decode cX2_makeLoan 57 = .ok (.getfield 18, 3) := by decide +kernel
theorem dX2_makeLoan_60 : decode cX2_makeLoan 60 = .ok (.iload 6, 2) := by decide +kernel
theorem dX2_makeLoan_62 : decode cX2_makeLoan 62 = .ok (.dup2, 1) := by decide +kernel
theorem dX2_makeLoan_63 : decode cX2_makeLoan 63 = .ok (.iaload, 1) := by decide +kernel
theorem dX2_makeLoan_64 : decode cX2_makeLoan 64 = .ok (.iload 4, 2) := by decide +kernel
theorem dX2_makeLoan_66 : decode cX2_makeLoan 66 = .ok (.isub, 1) := by decide +kernel
theorem dX2_makeLoan_67 : decode cX2_makeLoan 67 = .ok (.iastore, 1) := by decide +kernel
theorem dX2_makeLoan_68 : decode cX2_makeLoan 68 = .ok (.aload_n 0, 1) := by decide +kernel
theorem dX2_makeLoan_69 : decode cX2_makeLoan 69 = .ok (.getfield 25, 3) := by decide +kernel
theorem dX2_makeLoan_72 : decode cX2_makeLoan 72 = .ok (.iload 8, 2) := by decide +kernel
theorem dX2_makeLoan_74 : decode cX2_makeLoan 74 = .ok (.iload 6, 2) := by decide +kernel
theorem dX2_makeLoan_76 : decode cX2_makeLoan 76 = .ok (.iastore, 1) := by decide +kernel
theorem dX2_makeLoan_77 : decode cX2_makeLoan 77 = .ok (.aload_n 0, 1) := by decide +kernel
theorem dX2_makeLoan_78 : decode cX2_makeLoan 78 = .ok (.getfield 28, 3) := by decide +kernel
theorem dX2_makeLoan_81 : decode cX2_makeLoan 81 = .ok (.iload 8, 2) := by decide +kernel
theorem dX2_makeLoan_83 : decode cX2_makeLoan 83 = .ok (.iload 7, 2) := by decide +kernel
theorem dX2_makeLoan_85 : decode cX2_makeLoan 85 = .ok (.iastore, 1) := by decide +kernel
theorem dX2_makeLoan_86 : decode cX2_makeLoan 86 = .ok (.aload_n 0, 1) := by decide +kernel
theorem dX2_makeLoan_87 : decode cX2_makeLoan 87 = .ok (.getfield 31, 3) := by decide +kernel
theorem dX2_makeLoan_90 : decode cX2_makeLoan 90 = .ok (.iload 8, 2) := by decide +kernel
theorem dX2_makeLoan_92 : decode cX2_makeLoan 92 = .ok (.iload_n 3, 1) := by decide +kernel
theorem dX2_makeLoan_93 : decode cX2_makeLoan 93 = .ok (.iastore, 1) := by decide +kernel
theorem dX2_makeLoan_94 : decode cX2_makeLoan 94 = .ok (.aload_n 0, 1) := by decide +kernel
theorem dX2_makeLoan_95 : decode cX2_makeLoan 95 = .ok (.getfield 34, 3) := by decide +kernel
theorem dX2_makeLoan_98 : decode cX2_makeLoan 98 = .ok (.iload 8, 2) := by decide +kernel
theorem dX2_makeLoan_100 : decode cX2_makeLoan 100 = .ok (.iload 4, 2) := by decide +kernel
theorem dX2_makeLoan_102 : decode cX2_makeLoan 102 = .ok (.iastore, 1) := by decide +kernel
theorem dX2_makeLoan_103 : decode cX2_makeLoan 103 = .ok (.aload_n 0, 1) := by decide +kernel
theorem dX2_makeLoan_104 : decode cX2_makeLoan 104 = .ok (.getfield 37, 3) := by decide +kernel
theorem dX2_makeLoan_107 : decode cX2_makeLoan 107 = .ok (.iload 8, 2) := by decide +kernel
theorem dX2_makeLoan_109 : decode cX2_makeLoan 109 = .ok (.iload 4, 2) := by decide +kernel
theorem dX2_makeLoan_111 : decode cX2_makeLoan 111 = .ok (.iload 4, 2) := by decide +kernel
theorem dX2_makeLoan_113 : decode cX2_makeLoan 113 = .ok (.iload 5, 2) := by decide +kernel
theorem dX2_makeLoan_115 : decode cX2_makeLoan 115 = .ok (.imul, 1) := by decide +kernel
theorem dX2_makeLoan_116 : decode cX2_makeLoan 116 = .ok (.bipush 100, 2) := by decide +kernel
theorem dX2_makeLoan_118 : decode cX2_makeLoan 118 = .ok (.idiv, 1) := by decide +kernel
theorem dX2_makeLoan_119 : decode cX2_makeLoan 119 = .ok (.iadd, 1) := by decide +kernel
theorem dX2_makeLoan_120 : decode cX2_makeLoan 120 = .ok (.iastore, 1) := by decide +kernel
theorem dX2_makeLoan_121 : decode cX2_makeLoan 121 = .ok (.aload_n 0, 1) := by decide +kernel
theorem dX2_makeLoan_122 : decode cX2_makeLoan 122 = .ok (.getfield 40, 3) := by decide +kernel
theorem dX2_makeLoan_125 : decode cX2_makeLoan 125 = .ok (.iload 8, 2) := by decide +kernel
theorem dX2_makeLoan_127 : decode cX2_makeLoan 127 = .ok (.aload_n 0, 1) := by decide +kernel
theorem dX2_makeLoan_128 : decode cX2_makeLoan 128 = .ok (.getfield 9, 3) := by decide +kernel
theorem dX2_makeLoan_131 : decode cX2_makeLoan 131 = .ok (.aload_n 1, 1) := by decide +kernel
theorem dX2_makeLoan_132 : decode cX2_makeLoan 132 = .ok (.getfield 74, 3) := by decide +kernel
theorem dX2_makeLoan_135 : decode cX2_makeLoan 135 = .ok (.iload 7, 2) := by decide +kernel
theorem dX2_makeLoan_137 : decode cX2_makeLoan 137 = .ok (.iaload, 1) := by decide +kernel
theorem dX2_makeLoan_138 : decode cX2_makeLoan 138 = .ok (.iadd, 1) := by decide +kernel
theorem dX2_makeLoan_139 : decode cX2_makeLoan 139 = .ok (.iastore, 1) := by decide +kernel
theorem dX2_makeLoan_140 : decode cX2_makeLoan 140 = .ok (.iload 8, 2) := by decide +kernel
theorem dX2_makeLoan_142 : decode cX2_makeLoan 142 = .ok (.ireturn, 1) := by decide +kernel
theorem dX2_freeNumber_0 : decode cX2_freeNumber 0 = .ok (.iconst 0, 1) := by decide +kernel
theorem dX2_freeNumber_1 : decode cX2_freeNumber 1 = .ok (.istore_n 1, 1) := by decide +kernel
theorem dX2_freeNumber_2 : decode cX2_freeNumber 2 = .ok (.iload_n 1, 1) := by decide +kernel
theorem dX2_freeNumber_3 : decode cX2_freeNumber 3 = .ok (.bipush 40, 2) := by decide +kernel
theorem dX2_freeNumber_5 : decode cX2_freeNumber 5 = .ok (.if_icmp .ge 20, 3) := by decide +kernel
theorem dX2_freeNumber_8 : decode cX2_freeNumber 8 = .ok (.aload_n 0, 1) := by decide +kernel
theorem dX2_freeNumber_9 : decode cX2_freeNumber 9 = .ok (.getfield 34, 3) := by decide +kernel
theorem dX2_freeNumber_12 : decode cX2_freeNumber 12 = .ok (.iload_n 1, 1) := by decide +kernel
theorem dX2_freeNumber_13 : decode cX2_freeNumber 13 = .ok (.iaload, 1) := by decide +kernel
theorem dX2_freeNumber_14 : decode cX2_freeNumber 14 = .ok (.ifCond .ne 5, 3) := by decide +kernel
theorem dX2_freeNumber_17 : decode cX2_freeNumber 17 = .ok (.iload_n 1, 1) := by decide +kernel
theorem dX2_freeNumber_18 : decode cX2_freeNumber 18 = .ok (.ireturn, 1) := by decide +kernel
theorem dX2_freeNumber_19 : decode cX2_freeNumber 19 = .ok (.iinc 1 1, 3) := by decide +kernel
theorem dX2_freeNumber_22 : decode cX2_freeNumber 22 = .ok (.goto (-20), 3) := by decide +kernel
theorem dX2_freeNumber_25 : decode cX2_freeNumber 25 = .ok (.iconst (-1), 1) := by decide +kernel
theorem dX2_freeNumber_26 : decode cX2_freeNumber 26 = .ok (.ireturn, 1) := by decide +kernel
theorem dX2_isOwed_0 : decode cX2_isOwed 0 = .ok (.iload_n 1, 1) := by decide +kernel
theorem dX2_isOwed_1 : decode cX2_isOwed 1 = .ok (.ifCond .lt 22, 3) := by decide +kernel
theorem dX2_isOwed_4 : decode cX2_isOwed 4 = .ok (.iload_n 1, 1) := by decide +kernel
theorem dX2_isOwed_5 : decode cX2_isOwed 5 = .ok (.bipush 40, 2) := by decide +kernel
theorem dX2_isOwed_7 : decode cX2_isOwed 7 = .ok (.if_icmp .ge 16, 3) := by decide +kernel
theorem dX2_isOwed_10 : decode cX2_isOwed 10 = .ok (.aload_n 0, 1) := by decide +kernel
theorem dX2_isOwed_11 : decode cX2_isOwed 11 = .ok (.getfield 34, 3) := by decide +kernel
theorem dX2_isOwed_14 : decode cX2_isOwed 14 = .ok (.iload_n 1, 1) := by decide +kernel
theorem dX2_isOwed_15 : decode cX2_isOwed 15 = .ok (.iaload, 1) := by decide +kernel
theorem dX2_isOwed_16 : decode cX2_isOwed 16 = .ok (.ifCond .le 7, 3) := by decide +kernel
theorem dX2_isOwed_19 : decode cX2_isOwed 19 = .ok (.iconst 1, 1) := by decide +kernel
theorem dX2_isOwed_20 : decode cX2_isOwed 20 = .ok (.goto 4, 3) := by decide +kernel
theorem dX2_isOwed_23 : decode cX2_isOwed 23 = .ok (.iconst 0, 1) := by decide +kernel
theorem dX2_isOwed_24 : decode cX2_isOwed 24 = .ok (.ireturn, 1) := by decide +kernel
theorem dX2_numberOf_0 : decode cX2_numberOf 0 = .ok (.iload_n 2, 1) := by decide +kernel
theorem dX2_numberOf_1 : decode cX2_numberOf 1 = .ok (.tableswitch 81 0 5 #[39, 46, 53, 60, 67, 74], 39) := by decide +kernel
theorem dX2_numberOf_40 : decode cX2_numberOf 40 = .ok (.aload_n 0, 1) := by decide +kernel
theorem dX2_numberOf_41 : decode cX2_numberOf 41 = .ok (.getfield 25, 3) := by decide +kernel
theorem dX2_numberOf_44 : decode cX2_numberOf 44 = .ok (.iload_n 1, 1) := by decide +kernel
theorem dX2_numberOf_45 : decode cX2_numberOf 45 = .ok (.iaload, 1) := by decide +kernel
theorem dX2_numberOf_46 : decode cX2_numberOf 46 = .ok (.ireturn, 1) := by decide +kernel
theorem dX2_numberOf_47 : decode cX2_numberOf 47 = .ok (.aload_n 0, 1) := by decide +kernel
theorem dX2_numberOf_48 : decode cX2_numberOf 48 = .ok (.getfield 28, 3) := by decide +kernel
theorem dX2_numberOf_51 : decode cX2_numberOf 51 = .ok (.iload_n 1, 1) := by decide +kernel
theorem dX2_numberOf_52 : decode cX2_numberOf 52 = .ok (.iaload, 1) := by decide +kernel
theorem dX2_numberOf_53 : decode cX2_numberOf 53 = .ok (.ireturn, 1) := by decide +kernel
theorem dX2_numberOf_54 : decode cX2_numberOf 54 = .ok (.aload_n 0, 1) := by decide +kernel
theorem dX2_numberOf_55 : decode cX2_numberOf 55 = .ok (.getfield 31, 3) := by decide +kernel
theorem dX2_numberOf_58 : decode cX2_numberOf 58 = .ok (.iload_n 1, 1) := by decide +kernel
theorem dX2_numberOf_59 : decode cX2_numberOf 59 = .ok (.iaload, 1) := by decide +kernel
theorem dX2_numberOf_60 : decode cX2_numberOf 60 = .ok (.ireturn, 1) := by decide +kernel
theorem dX2_numberOf_61 : decode cX2_numberOf 61 = .ok (.aload_n 0, 1) := by decide +kernel
theorem dX2_numberOf_62 : decode cX2_numberOf 62 = .ok (.getfield 34, 3) := by decide +kernel
theorem dX2_numberOf_65 : decode cX2_numberOf 65 = .ok (.iload_n 1, 1) := by decide +kernel
theorem dX2_numberOf_66 : decode cX2_numberOf 66 = .ok (.iaload, 1) := by decide +kernel
theorem dX2_numberOf_67 : decode cX2_numberOf 67 = .ok (.ireturn, 1) := by decide +kernel
theorem dX2_numberOf_68 : decode cX2_numberOf 68 = .ok (.aload_n 0, 1) := by decide +kernel
theorem dX2_numberOf_69 : decode cX2_numberOf 69 = .ok (.getfield 37, 3) := by decide +kernel
theorem dX2_numberOf_72 : decode cX2_numberOf 72 = .ok (.iload_n 1, 1) := by decide +kernel
theorem dX2_numberOf_73 : decode cX2_numberOf 73 = .ok (.iaload, 1) := by decide +kernel
theorem dX2_numberOf_74 : decode cX2_numberOf 74 = .ok (.ireturn, 1) := by decide +kernel
theorem dX2_numberOf_75 : decode cX2_numberOf 75 = .ok (.aload_n 0, 1) := by decide +kernel
theorem dX2_numberOf_76 : decode cX2_numberOf 76 = .ok (.getfield 40, 3) := by decide +kernel
theorem dX2_numberOf_79 : decode cX2_numberOf 79 = .ok (.iload_n 1, 1) := by decide +kernel
theorem dX2_numberOf_80 : decode cX2_numberOf 80 = .ok (.iaload, 1) := by decide +kernel
theorem dX2_numberOf_81 : decode cX2_numberOf 81 = .ok (.ireturn, 1) := by decide +kernel
theorem dX2_numberOf_82 : decode cX2_numberOf 82 = .ok (.iconst (-1), 1) := by decide +kernel
theorem dX2_numberOf_83 : decode cX2_numberOf 83 = .ok (.ireturn, 1) := by decide +kernel
theorem ilX2_passNight_wsX20 : ∀ w ∈ wsX20, w ∈ wsX2_passNight := fun _ h => List.mem_cons_of_mem _ (List.mem_append_left _ (List.mem_append_right _ (h)))
theorem ilX2_passNight_wsX10 : ∀ w ∈ wsX10, w ∈ wsX2_passNight := fun _ h => List.mem_cons_of_mem _ (List.mem_append_right _ (h))
set_option maxRecDepth 20000 in
theorem ggX2_passNight_X2_payBack : GoodIn wsX2_passNight wsX2_payBack := goodIn_sub (List.forall_mem_cons.mpr ⟨List.mem_cons_of_mem _ (List.mem_append_left _ (List.mem_append_left _ (List.mem_of_getElem? (i := 7) rfl))), (List.forall_mem_append.mpr ⟨(List.forall_mem_append.mpr ⟨(List.forall_mem_cons.mpr ⟨List.mem_cons_of_mem _ (List.mem_append_left _ (List.mem_append_left _ (List.mem_of_getElem? (i := 8) rfl))), (List.forall_mem_cons.mpr ⟨List.mem_cons_of_mem _ (List.mem_append_left _ (List.mem_append_left _ (List.mem_of_getElem? (i := 9) rfl))), (List.forall_mem_cons.mpr ⟨List.mem_cons_of_mem _ (List.mem_append_left _ (List.mem_append_left _ (List.mem_of_getElem? (i := 1) rfl))), (List.forall_mem_cons.mpr ⟨List.mem_cons_of_mem _ (List.mem_append_left _ (List.mem_append_left _ (List.mem_of_getElem? (i := 10) rfl))), (List.forall_mem_cons.mpr ⟨List.mem_cons_of_mem _ (List.mem_append_left _ (List.mem_append_left _ (List.mem_of_getElem? (i := 11) rfl))), (List.forall_mem_cons.mpr ⟨List.mem_cons_of_mem _ (List.mem_append_left _ (List.mem_append_left _ (List.mem_of_getElem? (i := 12) rfl))), (List.forall_mem_cons.mpr ⟨List.mem_cons_of_mem _ (List.mem_append_left _ (List.mem_append_left _ (List.mem_of_getElem? (i := 13) rfl))), (List.forall_mem_cons.mpr ⟨List.mem_cons_of_mem _ (List.mem_append_left _ (List.mem_append_left _ (List.mem_of_getElem? (i := 14) rfl))), (List.forall_mem_cons.mpr ⟨List.mem_cons_of_mem _ (List.mem_append_left _ (List.mem_append_left _ (List.mem_of_getElem? (i := 15) rfl))), (List.forall_mem_cons.mpr ⟨List.mem_cons_of_mem _ (List.mem_append_left _ (List.mem_append_left _ (List.mem_of_getElem? (i := 16) rfl))), (List.forall_mem_cons.mpr ⟨List.mem_cons_of_mem _ (List.mem_append_left _ (List.mem_append_left _ (List.mem_of_getElem? (i := 17) rfl))), (List.forall_mem_cons.mpr ⟨List.mem_cons_of_mem _ (List.mem_append_left _ (List.mem_append_left _ (List.mem_of_getElem? (i := 18) rfl))), (List.forall_mem_cons.mpr ⟨List.mem_cons_of_mem _ (List.mem_append_left _ (List.mem_append_left _ (List.mem_of_getElem? (i := 19) rfl))), (List.forall_mem_cons.mpr ⟨List.mem_cons_of_mem _ (List.mem_append_left _ (List.mem_append_left _ (List.mem_of_getElem? (i := 20) rfl))), (List.forall_mem_cons.mpr ⟨List.mem_cons_of_mem _ (List.mem_append_left _ (List.mem_append_left _ (List.mem_of_getElem? (i := 21) rfl))), (List.forall_mem_cons.mpr ⟨List.mem_cons_of_mem _ (List.mem_append_left _ (List.mem_append_left _ (List.mem_of_getElem? (i := 22) rfl))), (fun _ h => absurd h List.not_mem_nil)⟩)⟩)⟩)⟩)⟩)⟩)⟩)⟩)⟩)⟩)⟩)⟩)⟩)⟩)⟩)⟩), ilX2_passNight_wsX20⟩), ilX2_passNight_wsX10⟩)⟩) (by decide +kernel)
set_option maxRecDepth 20000 in
theorem gX2_passNight_X2_payBack : GoodIn wsX2_passNight (wsV RX2 77 RX2 yX2_payBack wsX2_payBack) := goodIn_app (goodIn_sub (List.forall_mem_cons.mpr ⟨List.mem_cons_of_mem _ (List.mem_append_left _ (List.mem_append_left _ (List.mem_of_getElem? (i := 3) rfl))), (List.forall_mem_cons.mpr ⟨List.mem_cons_of_mem _ (List.mem_append_left _ (List.mem_append_left _ (List.mem_of_getElem? (i := 4) rfl))), (List.forall_mem_cons.mpr ⟨List.mem_cons_of_mem _ (List.mem_append_left _ (List.mem_append_left _ (List.mem_of_getElem? (i := 5) rfl))), (List.forall_mem_cons.mpr ⟨List.mem_cons_of_mem _ (List.mem_append_left _ (List.mem_append_left _ (List.mem_of_getElem? (i := 6) rfl))), (fun _ h => absurd h List.not_mem_nil)⟩)⟩)⟩)⟩) (by decide +kernel)) ggX2_passNight_X2_payBack
theorem dX2_passNight_0 : decode cX2_passNight 0 = .ok (.aload_n 0, 1) := by decide +kernel
theorem dX2_passNight_1 : decode cX2_passNight 1 = .ok (.dup, 1) := by decide +kernel
theorem dX2_passNight_2 : decode cX2_passNight 2 = .ok (.getfield 9, 3) := by decide +kernel
theorem dX2_passNight_5 : decode cX2_passNight 5 = .ok (.iconst 1, 1) := by decide +kernel
theorem dX2_passNight_6 : decode cX2_passNight 6 = .ok (.iadd, 1) := by decide +kernel
theorem dX2_passNight_7 : decode cX2_passNight 7 = .ok (.putfield 9, 3) := by decide +kernel
theorem dX2_passNight_10 : decode cX2_passNight 10 = .ok (.iconst 0, 1) := by decide +kernel
theorem dX2_passNight_11 : decode cX2_passNight 11 = .ok (.istore_n 2, 1) := by decide +kernel
theorem dX2_passNight_12 : decode cX2_passNight 12 = .ok (.iload_n 2, 1) := by decide +kernel
theorem dX2_passNight_13 : decode cX2_passNight 13 = .ok (.bipush 40, 2) := by decide +kernel
theorem dX2_passNight_15 : decode cX2_passNight 15 = .ok (.if_icmp .ge 37, 3) := by decide +kernel
theorem dX2_passNight_18 : decode cX2_passNight 18 = .ok (.aload_n 0, 1) := by decide +kernel
theorem dX2_passNight_19 : decode cX2_passNight 19 = .ok (.getfield 34, 3) := by decide +kernel
theorem dX2_passNight_22 : decode cX2_passNight 22 = .ok (.iload_n 2, 1) := by decide +kernel
theorem dX2_passNight_23 : decode cX2_passNight 23 = .ok (.iaload, 1) := by decide +kernel
theorem dX2_passNight_24 : decode cX2_passNight 24 = .ok (.ifCond .le 22, 3) := by decide +kernel
theorem dX2_passNight_27 : decode cX2_passNight 27 = .ok (.aload_n 0, 1) := by decide +kernel
theorem dX2_passNight_28 : decode cX2_passNight 28 = .ok (.getfield 40, 3) := by decide +kernel
theorem dX2_passNight_31 : decode cX2_passNight 31 = .ok (.iload_n 2, 1) := by decide +kernel
theorem dX2_passNight_32 : decode cX2_passNight 32 = .ok (.iaload, 1) := by decide +kernel
theorem dX2_passNight_33 : decode cX2_passNight 33 = .ok (.aload_n 0, 1) := by decide +kernel
theorem dX2_passNight_34 : decode cX2_passNight 34 = .ok (.getfield 9, 3) := by decide +kernel
theorem dX2_passNight_37 : decode cX2_passNight 37 = .ok (.if_icmp .ne 9, 3) := by decide +kernel
theorem dX2_passNight_40 : decode cX2_passNight 40 = .ok (.aload_n 0, 1) := by decide +kernel
theorem dX2_passNight_41 : decode cX2_passNight 41 = .ok (.aload_n 1, 1) := by decide +kernel
theorem dX2_passNight_42 : decode cX2_passNight 42 = .ok (.iload_n 2, 1) := by decide +kernel
theorem dX2_passNight_43 : decode cX2_passNight 43 = .ok (.invokevirtual 77, 3) := by decide +kernel
theorem dX2_passNight_46 : decode cX2_passNight 46 = .ok (.iinc 2 1, 3) := by decide +kernel
theorem dX2_passNight_49 : decode cX2_passNight 49 = .ok (.goto (-37), 3) := by decide +kernel
theorem dX2_passNight_52 : decode cX2_passNight 52 = .ok (.return_, 1) := by decide +kernel
theorem ilX2_payBack_wsX20 : ∀ w ∈ wsX20, w ∈ wsX2_payBack := fun _ h => List.mem_cons_of_mem _ (List.mem_append_left _ (List.mem_append_right _ (h)))
theorem ilX2_payBack_wsX10 : ∀ w ∈ wsX10, w ∈ wsX2_payBack := fun _ h => List.mem_cons_of_mem _ (List.mem_append_right _ (h))
set_option maxRecDepth 20000 in
theorem ggX2_payBack_X1_yieldOf : GoodIn wsX2_payBack wsX1_yieldOf := goodIn_sub (List.forall_mem_cons.mpr ⟨List.mem_cons_of_mem _ (List.mem_append_left _ (List.mem_append_left _ (List.mem_of_getElem? (i := 13) rfl))), (List.forall_mem_append.mpr ⟨(List.forall_mem_cons.mpr ⟨List.mem_cons_of_mem _ (List.mem_append_left _ (List.mem_append_left _ (List.mem_of_getElem? (i := 14) rfl))), (List.forall_mem_cons.mpr ⟨List.mem_cons_of_mem _ (List.mem_append_left _ (List.mem_append_left _ (List.mem_of_getElem? (i := 15) rfl))), (fun _ h => absurd h List.not_mem_nil)⟩)⟩), ilX2_payBack_wsX10⟩)⟩) (by decide +kernel)
set_option maxRecDepth 20000 in
theorem gX2_payBack_X1_yieldOf : GoodIn wsX2_payBack (wsV RX2 81 RX1 yX1_yieldOf wsX1_yieldOf) := goodIn_app (goodIn_sub (List.forall_mem_cons.mpr ⟨List.mem_cons_of_mem _ (List.mem_append_left _ (List.mem_append_left _ (List.mem_of_getElem? (i := 9) rfl))), (List.forall_mem_cons.mpr ⟨List.mem_cons_of_mem _ (List.mem_append_left _ (List.mem_append_left _ (List.mem_of_getElem? (i := 10) rfl))), (List.forall_mem_cons.mpr ⟨List.mem_cons_of_mem _ (List.mem_append_left _ (List.mem_append_left _ (List.mem_of_getElem? (i := 11) rfl))), (List.forall_mem_cons.mpr ⟨List.mem_cons_of_mem _ (List.mem_append_left _ (List.mem_append_left _ (List.mem_of_getElem? (i := 12) rfl))), (fun _ h => absurd h List.not_mem_nil)⟩)⟩)⟩)⟩) (by decide +kernel)) ggX2_payBack_X1_yieldOf
theorem dX2_payBack_0 : decode cX2_payBack 0 = .ok (.aload_n 0, 1) := by decide +kernel
theorem dX2_payBack_1 : decode cX2_payBack 1 = .ok (.getfield 28, 3) := by decide +kernel
theorem dX2_payBack_4 : decode cX2_payBack 4 = .ok (.iload_n 2, 1) := by decide +kernel
theorem dX2_payBack_5 : decode cX2_payBack 5 = .ok (.iaload, 1) := by decide +kernel
theorem dX2_payBack_6 : decode cX2_payBack 6 = .ok (.istore_n 3, 1) := by decide +kernel
theorem dX2_payBack_7 : decode cX2_payBack 7 = .ok (.aload_n 0, 1) := by decide +kernel
theorem dX2_payBack_8 : decode cX2_payBack 8 = .ok (.getfield 18, 3) := by decide +kernel
theorem dX2_payBack_11 : decode cX2_payBack 11 = .ok (.iload_n 3, 1) := by decide +kernel
theorem dX2_payBack_12 : decode cX2_payBack 12 = .ok (.dup2, 1) := by decide +kernel
theorem dX2_payBack_13 : decode cX2_payBack 13 = .ok (.iaload, 1) := by decide +kernel
theorem dX2_payBack_14 : decode cX2_payBack 14 = .ok (.aload_n 1, 1) := by decide +kernel
theorem dX2_payBack_15 : decode cX2_payBack 15 = .ok (.iload_n 3, 1) := by decide +kernel
theorem dX2_payBack_16 : decode cX2_payBack 16 = .ok (.aload_n 0, 1) := by decide +kernel
theorem dX2_payBack_17 : decode cX2_payBack 17 = .ok (.getfield 34, 3) := by decide +kernel
theorem dX2_payBack_20 : decode cX2_payBack 20 = .ok (.iload_n 2, 1) := by decide +kernel
theorem dX2_payBack_21 : decode cX2_payBack 21 = .ok (.iaload, 1) := by decide +kernel
theorem dX2_payBack_22 : decode cX2_payBack 22 = .ok (.invokevirtual 81, 3) := by decide +kernel
theorem dX2_payBack_25 : decode cX2_payBack 25 = .ok (.aload_n 0, 1) := by decide +kernel
theorem dX2_payBack_26 : decode cX2_payBack 26 = .ok (.getfield 34, 3) := by decide +kernel
theorem dX2_payBack_29 : decode cX2_payBack 29 = .ok (.iload_n 2, 1) := by decide +kernel
theorem dX2_payBack_30 : decode cX2_payBack 30 = .ok (.iaload, 1) := by decide +kernel
theorem dX2_payBack_31 : decode cX2_payBack 31 = .ok (.iadd, 1) := by decide +kernel
theorem dX2_payBack_32 : decode cX2_payBack 32 = .ok (.iadd, 1) := by decide +kernel
theorem dX2_payBack_33 : decode cX2_payBack 33 = .ok (.iastore, 1) := by decide +kernel
theorem dX2_payBack_34 : decode cX2_payBack 34 = .ok (.aload_n 0, 1) := by decide +kernel
theorem dX2_payBack_35 : decode cX2_payBack 35 = .ok (.getfield 18, 3) := by decide +kernel
theorem dX2_payBack_38 : decode cX2_payBack 38 = .ok (.iload_n 3, 1) := by decide +kernel
theorem dX2_payBack_39 : decode cX2_payBack 39 = .ok (.iaload, 1) := by decide +kernel
theorem dX2_payBack_40 : decode cX2_payBack 40 = .ok (.aload_n 0, 1) := by decide +kernel
theorem dX2_payBack_41 : decode cX2_payBack 41 = .ok (.getfield 37, 3) := by decide +kernel
theorem dX2_payBack_44 : decode cX2_payBack 44 = .ok (.iload_n 2, 1) := by decide +kernel
theorem dX2_payBack_45 : decode cX2_payBack 45 = .ok (.iaload, 1) := by decide +kernel
theorem dX2_payBack_46 : decode cX2_payBack 46 = .ok (.invokestatic 85, 3) := by decide +kernel
theorem dX2_payBack_49 : decode cX2_payBack 49 = .ok (.istore 4, 2) := by decide +kernel
theorem dX2_payBack_51 : decode cX2_payBack 51 = .ok (.aload_n 0, 1) := by decide +kernel
theorem dX2_payBack_52 : decode cX2_payBack 52 = .ok (.getfield 18, 3) := by decide +kernel
theorem dX2_payBack_55 : decode cX2_payBack 55 = .ok (.iload_n 3, 1) := by decide +kernel
theorem dX2_payBack_56 : decode cX2_payBack 56 = .ok (.dup2, 1) := by decide +kernel
theorem dX2_payBack_57 : decode cX2_payBack 57 = .ok (.iaload, 1) := by decide +kernel
theorem dX2_payBack_58 : decode cX2_payBack 58 = .ok (.iload 4, 2) := by decide +kernel
theorem dX2_payBack_60 : decode cX2_payBack 60 = .ok (.isub, 1) := by decide +kernel
theorem dX2_payBack_61 : decode cX2_payBack 61 = .ok (.iastore, 1) := by decide +kernel
theorem dX2_payBack_62 : decode cX2_payBack 62 = .ok (.aload_n 0, 1) := by decide +kernel
theorem dX2_payBack_63 : decode cX2_payBack 63 = .ok (.getfield 18, 3) := by decide +kernel
theorem dX2_payBack_66 : decode cX2_payBack 66 = .ok (.aload_n 0, 1) := by decide +kernel
theorem dX2_payBack_67 : decode cX2_payBack 67 = .ok (.getfield 25, 3) := by decide +kernel
theorem dX2_payBack_70 : decode cX2_payBack 70 = .ok (.iload_n 2, 1) := by decide +kernel
theorem dX2_payBack_71 : decode cX2_payBack 71 = .ok (.iaload, 1) := by decide +kernel
theorem dX2_payBack_72 : decode cX2_payBack 72 = .ok (.dup2, 1) := by decide +kernel
theorem dX2_payBack_73 : decode cX2_payBack 73 = .ok (.iaload, 1) := by decide +kernel
theorem dX2_payBack_74 : decode cX2_payBack 74 = .ok (.iload 4, 2) := by decide +kernel
theorem dX2_payBack_76 : decode cX2_payBack 76 = .ok (.iadd, 1) := by decide +kernel
theorem dX2_payBack_77 : decode cX2_payBack 77 = .ok (.iastore, 1) := by decide +kernel
theorem dX2_payBack_78 : decode cX2_payBack 78 = .ok (.aload_n 0, 1) := by decide +kernel
theorem dX2_payBack_79 : decode cX2_payBack 79 = .ok (.getfield 34, 3) := by decide +kernel
theorem dX2_payBack_82 : decode cX2_payBack 82 = .ok (.iload_n 2, 1) := by decide +kernel
theorem dX2_payBack_83 : decode cX2_payBack 83 = .ok (.iconst 0, 1) := by decide +kernel
theorem dX2_payBack_84 : decode cX2_payBack 84 = .ok (.iastore, 1) := by decide +kernel
theorem dX2_payBack_85 : decode cX2_payBack 85 = .ok (.return_, 1) := by decide +kernel
theorem ilX2_strikeByLots_wsX2_strikeByLots_r1 : ∀ w ∈ wsX2_strikeByLots_r1, w ∈ wsX2_strikeByLots := fun _ h => List.mem_cons_of_mem _ (List.mem_append_left _ (List.mem_append_left _ (List.mem_append_left _ (h))))
theorem ilX2_strikeByLots_wsX2_strikeByLots_r2 : ∀ w ∈ wsX2_strikeByLots_r2, w ∈ wsX2_strikeByLots := fun _ h => List.mem_cons_of_mem _ (List.mem_append_left _ (List.mem_append_left _ (List.mem_append_right _ (h))))
theorem ilX2_strikeByLots_wsX10 : ∀ w ∈ wsX10, w ∈ wsX2_strikeByLots := fun _ h => List.mem_cons_of_mem _ (List.mem_append_left _ (List.mem_append_right _ (h)))
theorem ilX2_strikeByLots_wsX20 : ∀ w ∈ wsX20, w ∈ wsX2_strikeByLots := fun _ h => List.mem_cons_of_mem _ (List.mem_append_right _ (h))
set_option maxRecDepth 20000 in
theorem ggX2_strikeByLots_X2_lotBelow16 : GoodIn wsX2_strikeByLots wsX2_lotBelow16 := goodIn_sub (List.forall_mem_cons.mpr ⟨ilX2_strikeByLots_wsX2_strikeByLots_r1 _ (List.mem_of_getElem? (i := 7) rfl), (List.forall_mem_append.mpr ⟨(List.forall_mem_cons.mpr ⟨ilX2_strikeByLots_wsX2_strikeByLots_r1 _ (List.mem_of_getElem? (i := 8) rfl), (List.forall_mem_cons.mpr ⟨ilX2_strikeByLots_wsX2_strikeByLots_r1 _ (List.mem_of_getElem? (i := 9) rfl), (List.forall_mem_cons.mpr ⟨ilX2_strikeByLots_wsX2_strikeByLots_r1 _ (List.mem_of_getElem? (i := 10) rfl), (fun _ h => absurd h List.not_mem_nil)⟩)⟩)⟩), ilX2_strikeByLots_wsX20⟩)⟩) (by decide +kernel)
set_option maxRecDepth 20000 in
theorem gX2_strikeByLots_X2_lotBelow16 : GoodIn wsX2_strikeByLots (wsV RX2 90 RX2 yX2_lotBelow16 wsX2_lotBelow16) := goodIn_app (goodIn_sub (List.forall_mem_cons.mpr ⟨ilX2_strikeByLots_wsX2_strikeByLots_r1 _ (List.mem_of_getElem? (i := 3) rfl), (List.forall_mem_cons.mpr ⟨ilX2_strikeByLots_wsX2_strikeByLots_r1 _ (List.mem_of_getElem? (i := 4) rfl), (List.forall_mem_cons.mpr ⟨ilX2_strikeByLots_wsX2_strikeByLots_r1 _ (List.mem_of_getElem? (i := 5) rfl), (List.forall_mem_cons.mpr ⟨ilX2_strikeByLots_wsX2_strikeByLots_r1 _ (List.mem_of_getElem? (i := 6) rfl), (fun _ h => absurd h List.not_mem_nil)⟩)⟩)⟩)⟩) (by decide +kernel)) ggX2_strikeByLots_X2_lotBelow16
set_option maxRecDepth 20000 in
theorem ggX2_strikeByLots_X2_canBeStruck : GoodIn wsX2_strikeByLots wsX2_canBeStruck := goodIn_sub (List.forall_mem_cons.mpr ⟨ilX2_strikeByLots_wsX2_strikeByLots_r1 _ (List.mem_of_getElem? (i := 14) rfl), (List.forall_mem_append.mpr ⟨(List.forall_mem_append.mpr ⟨(List.forall_mem_cons.mpr ⟨ilX2_strikeByLots_wsX2_strikeByLots_r1 _ (List.mem_of_getElem? (i := 15) rfl), (List.forall_mem_cons.mpr ⟨ilX2_strikeByLots_wsX2_strikeByLots_r1 _ (List.mem_of_getElem? (i := 16) rfl), (List.forall_mem_cons.mpr ⟨ilX2_strikeByLots_wsX2_strikeByLots_r1 _ (List.mem_of_getElem? (i := 17) rfl), (List.forall_mem_cons.mpr ⟨ilX2_strikeByLots_wsX2_strikeByLots_r1 _ (List.mem_of_getElem? (i := 18) rfl), (List.forall_mem_cons.mpr ⟨ilX2_strikeByLots_wsX2_strikeByLots_r1 _ (List.mem_of_getElem? (i := 19) rfl), (List.forall_mem_cons.mpr ⟨ilX2_strikeByLots_wsX2_strikeByLots_r1 _ (List.mem_of_getElem? (i := 20) rfl), (List.forall_mem_cons.mpr ⟨ilX2_strikeByLots_wsX2_strikeByLots_r1 _ (List.mem_of_getElem? (i := 21) rfl), (List.forall_mem_cons.mpr ⟨ilX2_strikeByLots_wsX2_strikeByLots_r1 _ (List.mem_of_getElem? (i := 22) rfl), (fun _ h => absurd h List.not_mem_nil)⟩)⟩)⟩)⟩)⟩)⟩)⟩)⟩), ilX2_strikeByLots_wsX20⟩), ilX2_strikeByLots_wsX10⟩)⟩) (by decide +kernel)
set_option maxRecDepth 20000 in
theorem gX2_strikeByLots_X2_canBeStruck : GoodIn wsX2_strikeByLots (wsV RX2 96 RX2 yX2_canBeStruck wsX2_canBeStruck) := goodIn_app (goodIn_sub (List.forall_mem_cons.mpr ⟨ilX2_strikeByLots_wsX2_strikeByLots_r1 _ (List.mem_of_getElem? (i := 11) rfl), (List.forall_mem_cons.mpr ⟨ilX2_strikeByLots_wsX2_strikeByLots_r1 _ (List.mem_of_getElem? (i := 12) rfl), (List.forall_mem_cons.mpr ⟨ilX2_strikeByLots_wsX2_strikeByLots_r1 _ (List.mem_of_getElem? (i := 13) rfl), (List.forall_mem_cons.mpr ⟨ilX2_strikeByLots_wsX2_strikeByLots_r1 _ (List.mem_of_getElem? (i := 6) rfl), (fun _ h => absurd h List.not_mem_nil)⟩)⟩)⟩)⟩) (by decide +kernel)) ggX2_strikeByLots_X2_canBeStruck
set_option maxRecDepth 20000 in
theorem ggX2_strikeByLots_X2_strikeLoan : GoodIn wsX2_strikeByLots wsX2_strikeLoan := goodIn_sub (List.forall_mem_cons.mpr ⟨ilX2_strikeByLots_wsX2_strikeByLots_r2 _ (List.mem_of_getElem? (i := 2) rfl), (List.forall_mem_append.mpr ⟨(List.forall_mem_append.mpr ⟨(List.forall_mem_cons.mpr ⟨ilX2_strikeByLots_wsX2_strikeByLots_r2 _ (List.mem_of_getElem? (i := 3) rfl), (List.forall_mem_cons.mpr ⟨ilX2_strikeByLots_wsX2_strikeByLots_r2 _ (List.mem_of_getElem? (i := 4) rfl), (List.forall_mem_cons.mpr ⟨ilX2_strikeByLots_wsX2_strikeByLots_r2 _ (List.mem_of_getElem? (i := 5) rfl), (List.forall_mem_cons.mpr ⟨ilX2_strikeByLots_wsX2_strikeByLots_r2 _ (List.mem_of_getElem? (i := 6) rfl), (fun _ h => absurd h List.not_mem_nil)⟩)⟩)⟩)⟩), ilX2_strikeByLots_wsX20⟩), ilX2_strikeByLots_wsX10⟩)⟩) (by decide +kernel)
set_option maxRecDepth 20000 in
theorem gX2_strikeByLots_X2_strikeLoan : GoodIn wsX2_strikeByLots (wsV RX2 103 RX2 yX2_strikeLoan wsX2_strikeLoan) := goodIn_app (goodIn_sub (List.forall_mem_cons.mpr ⟨ilX2_strikeByLots_wsX2_strikeByLots_r1 _ (List.mem_of_getElem? (i := 23) rfl), (List.forall_mem_cons.mpr ⟨ilX2_strikeByLots_wsX2_strikeByLots_r2 _ (List.mem_of_getElem? (i := 0) rfl), (List.forall_mem_cons.mpr ⟨ilX2_strikeByLots_wsX2_strikeByLots_r2 _ (List.mem_of_getElem? (i := 1) rfl), (List.forall_mem_cons.mpr ⟨ilX2_strikeByLots_wsX2_strikeByLots_r1 _ (List.mem_of_getElem? (i := 6) rfl), (fun _ h => absurd h List.not_mem_nil)⟩)⟩)⟩)⟩) (by decide +kernel)) ggX2_strikeByLots_X2_strikeLoan
theorem dX2_strikeByLots_0 : decode cX2_strikeByLots 0 = .ok (.aload_n 0, 1) := by decide +kernel
theorem dX2_strikeByLots_1 : decode cX2_strikeByLots 1 = .ok (.invokevirtual 90, 3) := by decide +kernel
theorem dX2_strikeByLots_4 : decode cX2_strikeByLots 4 = .ok (.aload_n 1, 1) := by decide +kernel
theorem dX2_strikeByLots_5 : decode cX2_strikeByLots 5 = .ok (.getfield 93, 3) := by decide +kernel
theorem dX2_strikeByLots_8 : decode cX2_strikeByLots 8 = .ok (.if_icmp .ge 4, 3) := by decide +kernel
theorem dX2_strikeByLots_11 : decode cX2_strikeByLots 11 = .ok (.return_, 1) := by decide +kernel
theorem dX2_strikeByLots_12 : decode cX2_strikeByLots 12 = .ok (.iconst 0, 1) := by decide +kernel
theorem dX2_strikeByLots_13 : decode cX2_strikeByLots 13 = .ok (.istore_n 2, 1) := by decide +kernel
theorem dX2_strikeByLots_14 : decode cX2_strikeByLots 14 = .ok (.iload_n 2, 1) := by decide +kernel
theorem dX2_strikeByLots_15 : decode cX2_strikeByLots 15 = .ok (.bipush 40, 2) := by decide +kernel
theorem dX2_strikeByLots_17 : decode cX2_strikeByLots 17 = .ok (.if_icmp .ge 43, 3) := by decide +kernel
theorem dX2_strikeByLots_20 : decode cX2_strikeByLots 20 = .ok (.aload_n 0, 1) := by decide +kernel
theorem dX2_strikeByLots_21 : decode cX2_strikeByLots 21 = .ok (.aload_n 1, 1) := by decide +kernel
theorem dX2_strikeByLots_22 : decode cX2_strikeByLots 22 = .ok (.iload_n 2, 1) := by decide +kernel
theorem dX2_strikeByLots_23 : decode cX2_strikeByLots 23 = .ok (.invokevirtual 96, 3) := by decide +kernel
theorem dX2_strikeByLots_26 : decode cX2_strikeByLots 26 = .ok (.ifCond .eq 28, 3) := by decide +kernel
theorem dX2_strikeByLots_29 : decode cX2_strikeByLots 29 = .ok (.aload_n 0, 1) := by decide +kernel
theorem dX2_strikeByLots_30 : decode cX2_strikeByLots 30 = .ok (.invokevirtual 90, 3) := by decide +kernel
theorem dX2_strikeByLots_33 : decode cX2_strikeByLots 33 = .ok (.aload_n 1, 1) := by decide +kernel
theorem dX2_strikeByLots_34 : decode cX2_strikeByLots 34 = .ok (.getfield 100, 3) := by decide +kernel
theorem dX2_strikeByLots_37 : decode cX2_strikeByLots 37 = .ok (.aload_n 0, 1) := by decide +kernel
theorem dX2_strikeByLots_38 : decode cX2_strikeByLots 38 = .ok (.getfield 28, 3) := by decide +kernel
theorem dX2_strikeByLots_41 : decode cX2_strikeByLots 41 = .ok (.iload_n 2, 1) := by decide +kernel
theorem dX2_strikeByLots_42 : decode cX2_strikeByLots 42 = .ok (.iaload, 1) := by decide +kernel
theorem dX2_strikeByLots_43 : decode cX2_strikeByLots 43 = .ok (.iaload, 1) := by decide +kernel
theorem dX2_strikeByLots_44 : decode cX2_strikeByLots 44 = .ok (.if_icmp .lt 10, 3) := by decide +kernel
theorem dX2_strikeByLots_47 : decode cX2_strikeByLots 47 = .ok (.aload_n 0, 1) := by decide +kernel
theorem dX2_strikeByLots_48 : decode cX2_strikeByLots 48 = .ok (.aload_n 1, 1) := by decide +kernel
theorem dX2_strikeByLots_49 : decode cX2_strikeByLots 49 = .ok (.iload_n 2, 1) := by decide +kernel
theorem dX2_strikeByLots_50 : decode cX2_strikeByLots 50 = .ok (.invokevirtual 103, 3) := by decide +kernel
theorem dX2_strikeByLots_53 : decode cX2_strikeByLots 53 = .ok (.pop, 1) := by decide +kernel
theorem dX2_strikeByLots_54 : decode cX2_strikeByLots 54 = .ok (.iinc 2 1, 3) := by decide +kernel
theorem dX2_strikeByLots_57 : decode cX2_strikeByLots 57 = .ok (.goto (-43), 3) := by decide +kernel
theorem dX2_strikeByLots_60 : decode cX2_strikeByLots 60 = .ok (.return_, 1) := by decide +kernel
theorem ilX2_canBeStruck_wsX20 : ∀ w ∈ wsX20, w ∈ wsX2_canBeStruck := fun _ h => List.mem_cons_of_mem _ (List.mem_append_left _ (List.mem_append_right _ (h)))
theorem ilX2_canBeStruck_wsX10 : ∀ w ∈ wsX10, w ∈ wsX2_canBeStruck := fun _ h => List.mem_cons_of_mem _ (List.mem_append_right _ (h))
set_option maxRecDepth 20000 in
theorem ggX2_canBeStruck_X1_isSpared : GoodIn wsX2_canBeStruck wsX1_isSpared := goodIn_sub (List.forall_mem_cons.mpr ⟨List.mem_cons_of_mem _ (List.mem_append_left _ (List.mem_append_left _ (List.mem_of_getElem? (i := 6) rfl))), (List.forall_mem_append.mpr ⟨(List.forall_mem_cons.mpr ⟨List.mem_cons_of_mem _ (List.mem_append_left _ (List.mem_append_left _ (List.mem_of_getElem? (i := 7) rfl))), (fun _ h => absurd h List.not_mem_nil)⟩), ilX2_canBeStruck_wsX10⟩)⟩) (by decide +kernel)
set_option maxRecDepth 20000 in
theorem gX2_canBeStruck_X1_isSpared : GoodIn wsX2_canBeStruck (wsV RX2 107 RX1 yX1_isSpared wsX1_isSpared) := goodIn_app (goodIn_sub (List.forall_mem_cons.mpr ⟨List.mem_cons_of_mem _ (List.mem_append_left _ (List.mem_append_left _ (List.mem_of_getElem? (i := 2) rfl))), (List.forall_mem_cons.mpr ⟨List.mem_cons_of_mem _ (List.mem_append_left _ (List.mem_append_left _ (List.mem_of_getElem? (i := 3) rfl))), (List.forall_mem_cons.mpr ⟨List.mem_cons_of_mem _ (List.mem_append_left _ (List.mem_append_left _ (List.mem_of_getElem? (i := 4) rfl))), (List.forall_mem_cons.mpr ⟨List.mem_cons_of_mem _ (List.mem_append_left _ (List.mem_append_left _ (List.mem_of_getElem? (i := 5) rfl))), (fun _ h => absurd h List.not_mem_nil)⟩)⟩)⟩)⟩) (by decide +kernel)) ggX2_canBeStruck_X1_isSpared
theorem dX2_canBeStruck_0 : decode cX2_canBeStruck 0 = .ok (.aload_n 0, 1) := by decide +kernel
theorem dX2_canBeStruck_1 : decode cX2_canBeStruck 1 = .ok (.getfield 34, 3) := by decide +kernel
theorem dX2_canBeStruck_4 : decode cX2_canBeStruck 4 = .ok (.iload_n 2, 1) := by decide +kernel
theorem dX2_canBeStruck_5 : decode cX2_canBeStruck 5 = .ok (.iaload, 1) := by decide +kernel
theorem dX2_canBeStruck_6 : decode cX2_canBeStruck 6 = .ok (.ifCond .le 20, 3) := by decide +kernel
theorem dX2_canBeStruck_9 : decode cX2_canBeStruck 9 = .ok (.aload_n 1, 1) := by decide +kernel
theorem dX2_canBeStruck_10 : decode cX2_canBeStruck 10 = .ok (.aload_n 0, 1) := by decide +kernel
theorem dX2_canBeStruck_11 : decode cX2_canBeStruck 11 = .ok (.getfield 31, 3) := by decide +kernel
theorem dX2_canBeStruck_14 : decode cX2_canBeStruck 14 = .ok (.iload_n 2, 1) := by decide +kernel
theorem dX2_canBeStruck_15 : decode cX2_canBeStruck 15 = .ok (.iaload, 1) := by decide +kernel
theorem dX2_canBeStruck_16 : decode cX2_canBeStruck 16 = .ok (.invokevirtual 107, 3) := by decide +kernel
theorem dX2_canBeStruck_19 : decode cX2_canBeStruck 19 = .ok (.ifCond .ne 7, 3) := by decide +kernel
theorem dX2_canBeStruck_22 : decode cX2_canBeStruck 22 = .ok (.iconst 1, 1) := by decide +kernel
theorem dX2_canBeStruck_23 : decode cX2_canBeStruck 23 = .ok (.goto 4, 3) := by decide +kernel
theorem dX2_canBeStruck_26 : decode cX2_canBeStruck 26 = .ok (.iconst 0, 1) := by decide +kernel
theorem dX2_canBeStruck_27 : decode cX2_canBeStruck 27 = .ok (.ireturn, 1) := by decide +kernel
theorem dX2_strikeLoan_0 : decode cX2_strikeLoan 0 = .ok (.aload_n 0, 1) := by decide +kernel
theorem dX2_strikeLoan_1 : decode cX2_strikeLoan 1 = .ok (.getfield 37, 3) := by decide +kernel
theorem dX2_strikeLoan_4 : decode cX2_strikeLoan 4 = .ok (.iload_n 2, 1) := by decide +kernel
theorem dX2_strikeLoan_5 : decode cX2_strikeLoan 5 = .ok (.iaload, 1) := by decide +kernel
theorem dX2_strikeLoan_6 : decode cX2_strikeLoan 6 = .ok (.aload_n 1, 1) := by decide +kernel
theorem dX2_strikeLoan_7 : decode cX2_strikeLoan 7 = .ok (.getfield 110, 3) := by decide +kernel
theorem dX2_strikeLoan_10 : decode cX2_strikeLoan 10 = .ok (.imul, 1) := by decide +kernel
theorem dX2_strikeLoan_11 : decode cX2_strikeLoan 11 = .ok (.bipush 16, 2) := by decide +kernel
theorem dX2_strikeLoan_13 : decode cX2_strikeLoan 13 = .ok (.idiv, 1) := by decide +kernel
theorem dX2_strikeLoan_14 : decode cX2_strikeLoan 14 = .ok (.istore_n 3, 1) := by decide +kernel
theorem dX2_strikeLoan_15 : decode cX2_strikeLoan 15 = .ok (.aload_n 0, 1) := by decide +kernel
theorem dX2_strikeLoan_16 : decode cX2_strikeLoan 16 = .ok (.getfield 37, 3) := by decide +kernel
theorem dX2_strikeLoan_19 : decode cX2_strikeLoan 19 = .ok (.iload_n 2, 1) := by decide +kernel
theorem dX2_strikeLoan_20 : decode cX2_strikeLoan 20 = .ok (.dup2, 1) := by decide +kernel
theorem dX2_strikeLoan_21 : decode cX2_strikeLoan 21 = .ok (.iaload, 1) := by decide +kernel
theorem dX2_strikeLoan_22 : decode cX2_strikeLoan 22 = .ok (.iload_n 3, 1) := by decide +kernel
theorem dX2_strikeLoan_23 : decode cX2_strikeLoan 23 = .ok (.isub, 1) := by decide +kernel
theorem dX2_strikeLoan_24 : decode cX2_strikeLoan 24 = .ok (.iastore, 1) := by decide +kernel
theorem dX2_strikeLoan_25 : decode cX2_strikeLoan 25 = .ok (.aload_n 0, 1) := by decide +kernel
theorem dX2_strikeLoan_26 : decode cX2_strikeLoan 26 = .ok (.getfield 22, 3) := by decide +kernel
theorem dX2_strikeLoan_29 : decode cX2_strikeLoan 29 = .ok (.aload_n 0, 1) := by decide +kernel
theorem dX2_strikeLoan_30 : decode cX2_strikeLoan 30 = .ok (.getfield 25, 3) := by decide +kernel
theorem dX2_strikeLoan_33 : decode cX2_strikeLoan 33 = .ok (.iload_n 2, 1) := by decide +kernel
theorem dX2_strikeLoan_34 : decode cX2_strikeLoan 34 = .ok (.iaload, 1) := by decide +kernel
theorem dX2_strikeLoan_35 : decode cX2_strikeLoan 35 = .ok (.dup2, 1) := by decide +kernel
theorem dX2_strikeLoan_36 : decode cX2_strikeLoan 36 = .ok (.iaload, 1) := by decide +kernel
theorem dX2_strikeLoan_37 : decode cX2_strikeLoan 37 = .ok (.iload_n 3, 1) := by decide +kernel
theorem dX2_strikeLoan_38 : decode cX2_strikeLoan 38 = .ok (.iadd, 1) := by decide +kernel
theorem dX2_strikeLoan_39 : decode cX2_strikeLoan 39 = .ok (.iastore, 1) := by decide +kernel
theorem dX2_strikeLoan_40 : decode cX2_strikeLoan 40 = .ok (.iload_n 3, 1) := by decide +kernel
theorem dX2_strikeLoan_41 : decode cX2_strikeLoan 41 = .ok (.ireturn, 1) := by decide +kernel
theorem dX2_lotBelow16_0 : decode cX2_lotBelow16 0 = .ok (.aload_n 0, 1) := by decide +kernel
theorem dX2_lotBelow16_1 : decode cX2_lotBelow16 1 = .ok (.aload_n 0, 1) := by decide +kernel
theorem dX2_lotBelow16_2 : decode cX2_lotBelow16 2 = .ok (.getfield 15, 3) := by decide +kernel
theorem dX2_lotBelow16_5 : decode cX2_lotBelow16 5 = .ok (.ldc 113, 2) := by decide +kernel
theorem dX2_lotBelow16_7 : decode cX2_lotBelow16 7 = .ok (.imul, 1) := by decide +kernel
theorem dX2_lotBelow16_8 : decode cX2_lotBelow16 8 = .ok (.sipush 12345, 3) := by decide +kernel
theorem dX2_lotBelow16_11 : decode cX2_lotBelow16 11 = .ok (.iadd, 1) := by decide +kernel
theorem dX2_lotBelow16_12 : decode cX2_lotBelow16 12 = .ok (.ldc 114, 2) := by decide +kernel
theorem dX2_lotBelow16_14 : decode cX2_lotBelow16 14 = .ok (.iand, 1) := by decide +kernel
theorem dX2_lotBelow16_15 : decode cX2_lotBelow16 15 = .ok (.putfield 15, 3) := by decide +kernel
theorem dX2_lotBelow16_18 : decode cX2_lotBelow16 18 = .ok (.aload_n 0, 1) := by decide +kernel
theorem dX2_lotBelow16_19 : decode cX2_lotBelow16 19 = .ok (.getfield 15, 3) := by decide +kernel
theorem dX2_lotBelow16_22 : decode cX2_lotBelow16 22 = .ok (.bipush 8, 2) := by decide +kernel
theorem dX2_lotBelow16_24 : decode cX2_lotBelow16 24 = .ok (.ishr, 1) := by decide +kernel
theorem dX2_lotBelow16_25 : decode cX2_lotBelow16 25 = .ok (.bipush 16, 2) := by decide +kernel
theorem dX2_lotBelow16_27 : decode cX2_lotBelow16 27 = .ok (.irem, 1) := by decide +kernel
theorem dX2_lotBelow16_28 : decode cX2_lotBelow16 28 = .ok (.ireturn, 1) := by decide +kernel
theorem dX2_loansOwed_0 : decode cX2_loansOwed 0 = .ok (.iconst 0, 1) := by decide +kernel
theorem dX2_loansOwed_1 : decode cX2_loansOwed 1 = .ok (.istore_n 1, 1) := by decide +kernel
theorem dX2_loansOwed_2 : decode cX2_loansOwed 2 = .ok (.iconst 0, 1) := by decide +kernel
theorem dX2_loansOwed_3 : decode cX2_loansOwed 3 = .ok (.istore_n 2, 1) := by decide +kernel
theorem dX2_loansOwed_4 : decode cX2_loansOwed 4 = .ok (.iload_n 2, 1) := by decide +kernel
theorem dX2_loansOwed_5 : decode cX2_loansOwed 5 = .ok (.bipush 40, 2) := by decide +kernel
theorem dX2_loansOwed_7 : decode cX2_loansOwed 7 = .ok (.if_icmp .ge 21, 3) := by decide +kernel
theorem dX2_loansOwed_10 : decode cX2_loansOwed 10 = .ok (.aload_n 0, 1) := by decide +kernel
theorem dX2_loansOwed_11 : decode cX2_loansOwed 11 = .ok (.getfield 34, 3) := by decide +kernel
theorem dX2_loansOwed_14 : decode cX2_loansOwed 14 = .ok (.iload_n 2, 1) := by decide +kernel
theorem dX2_loansOwed_15 : decode cX2_loansOwed 15 = .ok (.iaload, 1) := by decide +kernel
theorem dX2_loansOwed_16 : decode cX2_loansOwed 16 = .ok (.ifCond .le 6, 3) := by decide +kernel
theorem dX2_loansOwed_19 : decode cX2_loansOwed 19 = .ok (.iinc 1 1, 3) := by decide +kernel
theorem dX2_loansOwed_22 : decode cX2_loansOwed 22 = .ok (.iinc 2 1, 3) := by decide +kernel
theorem dX2_loansOwed_25 : decode cX2_loansOwed 25 = .ok (.goto (-21), 3) := by decide +kernel
theorem dX2_loansOwed_28 : decode cX2_loansOwed 28 = .ok (.iload_n 1, 1) := by decide +kernel
theorem dX2_loansOwed_29 : decode cX2_loansOwed 29 = .ok (.ireturn, 1) := by decide +kernel
theorem dX2_allOwed_0 : decode cX2_allOwed 0 = .ok (.iconst 0, 1) := by decide +kernel
theorem dX2_allOwed_1 : decode cX2_allOwed 1 = .ok (.istore_n 1, 1) := by decide +kernel
theorem dX2_allOwed_2 : decode cX2_allOwed 2 = .ok (.iconst 0, 1) := by decide +kernel
theorem dX2_allOwed_3 : decode cX2_allOwed 3 = .ok (.istore_n 2, 1) := by decide +kernel
theorem dX2_allOwed_4 : decode cX2_allOwed 4 = .ok (.iload_n 2, 1) := by decide +kernel
theorem dX2_allOwed_5 : decode cX2_allOwed 5 = .ok (.bipush 40, 2) := by decide +kernel
theorem dX2_allOwed_7 : decode cX2_allOwed 7 = .ok (.if_icmp .ge 27, 3) := by decide +kernel
theorem dX2_allOwed_10 : decode cX2_allOwed 10 = .ok (.aload_n 0, 1) := by decide +kernel
theorem dX2_allOwed_11 : decode cX2_allOwed 11 = .ok (.getfield 34, 3) := by decide +kernel
theorem dX2_allOwed_14 : decode cX2_allOwed 14 = .ok (.iload_n 2, 1) := by decide +kernel
theorem dX2_allOwed_15 : decode cX2_allOwed 15 = .ok (.iaload, 1) := by decide +kernel
theorem dX2_allOwed_16 : decode cX2_allOwed 16 = .ok (.ifCond .le 12, 3) := by decide +kernel
theorem dX2_allOwed_19 : decode cX2_allOwed 19 = .ok (.iload_n 1, 1) := by decide +kernel
theorem dX2_allOwed_20 : decode cX2_allOwed 20 = .ok (.aload_n 0, 1) := by decide +kernel
theorem dX2_allOwed_21 : decode cX2_allOwed 21 = .ok (.getfield 37, 3) := by decide +kernel
theorem dX2_allOwed_24 : decode cX2_allOwed 24 = .ok (.iload_n 2, 1) := by decide +kernel
theorem dX2_allOwed_25 : decode cX2_allOwed 25 = .ok (.iaload, 1) := by decide +kernel
theorem dX2_allOwed_26 : decode cX2_allOwed 26 = .ok (.iadd, 1) := by decide +kernel
theorem dX2_allOwed_27 : decode cX2_allOwed 27 = .ok (.istore_n 1, 1) := by decide +kernel
theorem dX2_allOwed_28 : decode cX2_allOwed 28 = .ok (.iinc 2 1, 3) := by decide +kernel
theorem dX2_allOwed_31 : decode cX2_allOwed 31 = .ok (.goto (-27), 3) := by decide +kernel
theorem dX2_allOwed_34 : decode cX2_allOwed 34 = .ok (.iload_n 1, 1) := by decide +kernel
theorem dX2_allOwed_35 : decode cX2_allOwed 35 = .ok (.ireturn, 1) := by decide +kernel
theorem dX2_allLost_0 : decode cX2_allLost 0 = .ok (.iconst 0, 1) := by decide +kernel
theorem dX2_allLost_1 : decode cX2_allLost 1 = .ok (.istore_n 1, 1) := by decide +kernel
theorem dX2_allLost_2 : decode cX2_allLost 2 = .ok (.iconst 0, 1) := by decide +kernel
theorem dX2_allLost_3 : decode cX2_allLost 3 = .ok (.istore_n 2, 1) := by decide +kernel
theorem dX2_allLost_4 : decode cX2_allLost 4 = .ok (.iload_n 2, 1) := by decide +kernel
theorem dX2_allLost_5 : decode cX2_allLost 5 = .ok (.bipush 6, 2) := by decide +kernel
theorem dX2_allLost_7 : decode cX2_allLost 7 = .ok (.if_icmp .ge 18, 3) := by decide +kernel
theorem dX2_allLost_10 : decode cX2_allLost 10 = .ok (.iload_n 1, 1) := by decide +kernel
theorem dX2_allLost_11 : decode cX2_allLost 11 = .ok (.aload_n 0, 1) := by decide +kernel
theorem dX2_allLost_12 : decode cX2_allLost 12 = .ok (.getfield 22, 3) := by decide +kernel
theorem dX2_allLost_15 : decode cX2_allLost 15 = .ok (.iload_n 2, 1) := by decide +kernel
theorem dX2_allLost_16 : decode cX2_allLost 16 = .ok (.iaload, 1) := by decide +kernel
theorem dX2_allLost_17 : decode cX2_allLost 17 = .ok (.iadd, 1) := by decide +kernel
theorem dX2_allLost_18 : decode cX2_allLost 18 = .ok (.istore_n 1, 1) := by decide +kernel
theorem dX2_allLost_19 : decode cX2_allLost 19 = .ok (.iinc 2 1, 3) := by decide +kernel
theorem dX2_allLost_22 : decode cX2_allLost 22 = .ok (.goto (-18), 3) := by decide +kernel
theorem dX2_allLost_25 : decode cX2_allLost 25 = .ok (.iload_n 1, 1) := by decide +kernel
theorem dX2_allLost_26 : decode cX2_allLost 26 = .ok (.ireturn, 1) := by decide +kernel
theorem dX3_init_0 : decode cX3_init 0 = .ok (.aload_n 0, 1) := by decide +kernel
theorem dX3_init_1 : decode cX3_init 1 = .ok (.invokespecial 3, 3) := by decide +kernel
theorem dX3_init_4 : decode cX3_init 4 = .ok (.aload_n 0, 1) := by decide +kernel
theorem dX3_init_5 : decode cX3_init 5 = .ok (.bipush 6, 2) := by decide +kernel
theorem dX3_init_7 : decode cX3_init 7 = .ok (.newarray .int, 2) := by decide +kernel
theorem dX3_init_9 : decode cX3_init 9 = .ok (.putfield 9, 3) := by decide +kernel
theorem dX3_init_12 : decode cX3_init 12 = .ok (.aload_n 0, 1) := by decide +kernel
theorem dX3_init_13 : decode cX3_init 13 = .ok (.bipush 6, 2) := by decide +kernel
theorem dX3_init_15 : decode cX3_init 15 = .ok (.newarray .int, 2) := by decide +kernel
theorem dX3_init_17 : decode cX3_init 17 = .ok (.putfield 15, 3) := by decide +kernel
theorem dX3_init_20 : decode cX3_init 20 = .ok (.aload_n 0, 1) := by decide +kernel
theorem dX3_init_21 : decode cX3_init 21 = .ok (.bipush 6, 2) := by decide +kernel
theorem dX3_init_23 : decode cX3_init 23 = .ok (.newarray .int, 2) := by decide +kernel
theorem dX3_init_25 : decode cX3_init 25 = .ok (.putfield 18, 3) := by decide +kernel
theorem dX3_init_28 : decode cX3_init 28 = .ok (.aload_n 0, 1) := by decide +kernel
theorem dX3_init_29 : decode cX3_init 29 = .ok (.iconst 0, 1) := by decide +kernel
theorem dX3_init_30 : decode cX3_init 30 = .ok (.putfield 21, 3) := by decide +kernel
theorem dX3_init_33 : decode cX3_init 33 = .ok (.aload_n 0, 1) := by decide +kernel
theorem dX3_init_34 : decode cX3_init 34 = .ok (.iconst 0, 1) := by decide +kernel
theorem dX3_init_35 : decode cX3_init 35 = .ok (.putfield 25, 3) := by decide +kernel
theorem dX3_init_38 : decode cX3_init 38 = .ok (.aload_n 0, 1) := by decide +kernel
theorem dX3_init_39 : decode cX3_init 39 = .ok (.iconst 0, 1) := by decide +kernel
theorem dX3_init_40 : decode cX3_init 40 = .ok (.putfield 28, 3) := by decide +kernel
theorem dX3_init_43 : decode cX3_init 43 = .ok (.aload_n 0, 1) := by decide +kernel
theorem dX3_init_44 : decode cX3_init 44 = .ok (.iconst 0, 1) := by decide +kernel
theorem dX3_init_45 : decode cX3_init 45 = .ok (.putfield 31, 3) := by decide +kernel
theorem dX3_init_48 : decode cX3_init 48 = .ok (.aload_n 0, 1) := by decide +kernel
theorem dX3_init_49 : decode cX3_init 49 = .ok (.iconst 0, 1) := by decide +kernel
theorem dX3_init_50 : decode cX3_init 50 = .ok (.putfield 34, 3) := by decide +kernel
theorem dX3_init_53 : decode cX3_init 53 = .ok (.aload_n 0, 1) := by decide +kernel
theorem dX3_init_54 : decode cX3_init 54 = .ok (.iconst 0, 1) := by decide +kernel
theorem dX3_init_55 : decode cX3_init 55 = .ok (.putfield 37, 3) := by decide +kernel
theorem dX3_init_58 : decode cX3_init 58 = .ok (.aload_n 0, 1) := by decide +kernel
theorem dX3_init_59 : decode cX3_init 59 = .ok (.iconst 0, 1) := by decide +kernel
theorem dX3_init_60 : decode cX3_init 60 = .ok (.putfield 41, 3) := by decide +kernel
theorem dX3_init_63 : decode cX3_init 63 = .ok (.aload_n 0, 1) := by decide +kernel
theorem dX3_init_64 : decode cX3_init 64 = .ok (.iconst 0, 1) := by decide +kernel
theorem dX3_init_65 : decode cX3_init 65 = .ok (.putfield 44, 3) := by decide +kernel
theorem dX3_init_68 : decode cX3_init 68 = .ok (.aload_n 0, 1) := by decide +kernel
theorem dX3_init_69 : decode cX3_init 69 = .ok (.aload_n 1, 1) := by decide +kernel
theorem dX3_init_70 : decode cX3_init 70 = .ok (.putfield 47, 3) := by decide +kernel
theorem dX3_init_73 : decode cX3_init 73 = .ok (.aload_n 0, 1) := by decide +kernel
theorem dX3_init_74 : decode cX3_init 74 = .ok (.aload_n 2, 1) := by decide +kernel
theorem dX3_init_75 : decode cX3_init 75 = .ok (.putfield 51, 3) := by decide +kernel
theorem dX3_init_78 : decode cX3_init 78 = .ok (.return_, 1) := by decide +kernel
theorem ilX3_read_wsX3_read_r1 : ∀ w ∈ wsX3_read_r1, w ∈ wsX3_read := fun _ h => List.mem_cons_of_mem _ (List.mem_append_left _ (List.mem_append_left _ (List.mem_append_left _ (List.mem_append_left _ (h)))))
theorem ilX3_read_wsX3_read_r2 : ∀ w ∈ wsX3_read_r2, w ∈ wsX3_read := fun _ h => List.mem_cons_of_mem _ (List.mem_append_left _ (List.mem_append_left _ (List.mem_append_left _ (List.mem_append_right _ (List.mem_append_left _ (h))))))
theorem ilX3_read_wsX3_read_r3 : ∀ w ∈ wsX3_read_r3, w ∈ wsX3_read := fun _ h => List.mem_cons_of_mem _ (List.mem_append_left _ (List.mem_append_left _ (List.mem_append_left _ (List.mem_append_right _ (List.mem_append_right _ (List.mem_append_left _ (h)))))))
theorem ilX3_read_wsX3_read_r4 : ∀ w ∈ wsX3_read_r4, w ∈ wsX3_read := fun _ h => List.mem_cons_of_mem _ (List.mem_append_left _ (List.mem_append_left _ (List.mem_append_left _ (List.mem_append_right _ (List.mem_append_right _ (List.mem_append_right _ (List.mem_append_left _ (h))))))))
theorem ilX3_read_wsX3_read_r5 : ∀ w ∈ wsX3_read_r5, w ∈ wsX3_read := fun _ h => List.mem_cons_of_mem _ (List.mem_append_left _ (List.mem_append_left _ (List.mem_append_left _ (List.mem_append_right _ (List.mem_append_right _ (List.mem_append_right _ (List.mem_append_right _ (List.mem_append_left _ (h)))))))))
theorem ilX3_read_wsX3_read_r6 : ∀ w ∈ wsX3_read_r6, w ∈ wsX3_read := fun _ h => List.mem_cons_of_mem _ (List.mem_append_left _ (List.mem_append_left _ (List.mem_append_left _ (List.mem_append_right _ (List.mem_append_right _ (List.mem_append_right _ (List.mem_append_right _ (List.mem_append_right _ (List.mem_append_left _ (h))))))))))
theorem ilX3_read_wsX3_read_r7 : ∀ w ∈ wsX3_read_r7, w ∈ wsX3_read := fun _ h => List.mem_cons_of_mem _ (List.mem_append_left _ (List.mem_append_left _ (List.mem_append_left _ (List.mem_append_right _ (List.mem_append_right _ (List.mem_append_right _ (List.mem_append_right _ (List.mem_append_right _ (List.mem_append_right _ (List.mem_append_left _ (h)))))))))))
theorem ilX3_read_wsX3_read_r8 : ∀ w ∈ wsX3_read_r8, w ∈ wsX3_read := fun _ h => List.mem_cons_of_mem _ (List.mem_append_left _ (List.mem_append_left _ (List.mem_append_left _ (List.mem_append_right _ (List.mem_append_right _ (List.mem_append_right _ (List.mem_append_right _ (List.mem_append_right _ (List.mem_append_right _ (List.mem_append_right _ (h)))))))))))
theorem ilX3_read_wsX30 : ∀ w ∈ wsX30, w ∈ wsX3_read := fun _ h => List.mem_cons_of_mem _ (List.mem_append_left _ (List.mem_append_left _ (List.mem_append_right _ (h))))
theorem ilX3_read_wsX10 : ∀ w ∈ wsX10, w ∈ wsX3_read := fun _ h => List.mem_cons_of_mem _ (List.mem_append_left _ (List.mem_append_right _ (h)))
theorem ilX3_read_wsX50 : ∀ w ∈ wsX50, w ∈ wsX3_read := fun _ h => List.mem_cons_of_mem _ (List.mem_append_right _ (h))
set_option maxRecDepth 20000 in
theorem ggX3_read_X1_empty : GoodIn wsX3_read wsX1_empty := goodIn_sub (List.forall_mem_cons.mpr ⟨ilX3_read_wsX3_read_r1 _ (List.mem_of_getElem? (i := 14) rfl), (List.forall_mem_append.mpr ⟨(List.forall_mem_cons.mpr ⟨ilX3_read_wsX3_read_r1 _ (List.mem_of_getElem? (i := 15) rfl), (List.forall_mem_cons.mpr ⟨ilX3_read_wsX3_read_r1 _ (List.mem_of_getElem? (i := 16) rfl), (List.forall_mem_cons.mpr ⟨ilX3_read_wsX3_read_r1 _ (List.mem_of_getElem? (i := 17) rfl), (List.forall_mem_cons.mpr ⟨ilX3_read_wsX3_read_r1 _ (List.mem_of_getElem? (i := 18) rfl), (List.forall_mem_cons.mpr ⟨ilX3_read_wsX3_read_r1 _ (List.mem_of_getElem? (i := 19) rfl), (List.forall_mem_cons.mpr ⟨ilX3_read_wsX3_read_r1 _ (List.mem_of_getElem? (i := 20) rfl), (List.forall_mem_cons.mpr ⟨ilX3_read_wsX3_read_r1 _ (List.mem_of_getElem? (i := 21) rfl), (List.forall_mem_cons.mpr ⟨ilX3_read_wsX3_read_r1 _ (List.mem_of_getElem? (i := 22) rfl), (fun _ h => absurd h List.not_mem_nil)⟩)⟩)⟩)⟩)⟩)⟩)⟩)⟩), ilX3_read_wsX10⟩)⟩) (by decide +kernel)
set_option maxRecDepth 20000 in
theorem gX3_read_X1_empty : GoodIn wsX3_read (wsV RX3 55 RX1 yX1_empty wsX1_empty) := goodIn_app (goodIn_sub (List.forall_mem_cons.mpr ⟨ilX3_read_wsX3_read_r1 _ (List.mem_of_getElem? (i := 10) rfl), (List.forall_mem_cons.mpr ⟨ilX3_read_wsX3_read_r1 _ (List.mem_of_getElem? (i := 11) rfl), (List.forall_mem_cons.mpr ⟨ilX3_read_wsX3_read_r1 _ (List.mem_of_getElem? (i := 12) rfl), (List.forall_mem_cons.mpr ⟨ilX3_read_wsX3_read_r1 _ (List.mem_of_getElem? (i := 13) rfl), (fun _ h => absurd h List.not_mem_nil)⟩)⟩)⟩)⟩) (by decide +kernel)) ggX3_read_X1_empty
set_option maxRecDepth 20000 in
theorem ggX3_read_X3_step : GoodIn wsX3_read wsX3_step := goodIn_sub (List.forall_mem_cons.mpr ⟨ilX3_read_wsX3_read_r2 _ (List.mem_of_getElem? (i := 3) rfl), (List.forall_mem_append.mpr ⟨(List.forall_mem_append.mpr ⟨(List.forall_mem_cons.mpr ⟨ilX3_read_wsX3_read_r1 _ (List.mem_of_getElem? (i := 4) rfl), (List.forall_mem_cons.mpr ⟨ilX3_read_wsX3_read_r1 _ (List.mem_of_getElem? (i := 6) rfl), (List.forall_mem_cons.mpr ⟨ilX3_read_wsX3_read_r1 _ (List.mem_of_getElem? (i := 8) rfl), (List.forall_mem_cons.mpr ⟨ilX3_read_wsX3_read_r1 _ (List.mem_of_getElem? (i := 9) rfl), (List.forall_mem_cons.mpr ⟨ilX3_read_wsX3_read_r1 _ (List.mem_of_getElem? (i := 5) rfl), (List.forall_mem_cons.mpr ⟨ilX3_read_wsX3_read_r2 _ (List.mem_of_getElem? (i := 4) rfl), (List.forall_mem_cons.mpr ⟨ilX3_read_wsX3_read_r2 _ (List.mem_of_getElem? (i := 5) rfl), (List.forall_mem_cons.mpr ⟨ilX3_read_wsX3_read_r2 _ (List.mem_of_getElem? (i := 6) rfl), (List.forall_mem_cons.mpr ⟨ilX3_read_wsX3_read_r2 _ (List.mem_of_getElem? (i := 7) rfl), (List.forall_mem_cons.mpr ⟨ilX3_read_wsX3_read_r2 _ (List.mem_of_getElem? (i := 8) rfl), (List.forall_mem_cons.mpr ⟨ilX3_read_wsX3_read_r2 _ (List.mem_of_getElem? (i := 9) rfl), (List.forall_mem_cons.mpr ⟨ilX3_read_wsX3_read_r2 _ (List.mem_of_getElem? (i := 10) rfl), (List.forall_mem_cons.mpr ⟨ilX3_read_wsX3_read_r2 _ (List.mem_of_getElem? (i := 11) rfl), (List.forall_mem_cons.mpr ⟨ilX3_read_wsX3_read_r2 _ (List.mem_of_getElem? (i := 12) rfl), (List.forall_mem_cons.mpr ⟨ilX3_read_wsX3_read_r2 _ (List.mem_of_getElem? (i := 13) rfl), (List.forall_mem_cons.mpr ⟨ilX3_read_wsX3_read_r2 _ (List.mem_of_getElem? (i := 2) rfl), (List.forall_mem_cons.mpr ⟨ilX3_read_wsX3_read_r2 _ (List.mem_of_getElem? (i := 14) rfl), (List.forall_mem_cons.mpr ⟨ilX3_read_wsX3_read_r2 _ (List.mem_of_getElem? (i := 15) rfl), (List.forall_mem_cons.mpr ⟨ilX3_read_wsX3_read_r2 _ (List.mem_of_getElem? (i := 16) rfl), (List.forall_mem_cons.mpr ⟨ilX3_read_wsX3_read_r2 _ (List.mem_of_getElem? (i := 17) rfl), (List.forall_mem_cons.mpr ⟨ilX3_read_wsX3_read_r2 _ (List.mem_of_getElem? (i := 18) rfl), (List.forall_mem_cons.mpr ⟨ilX3_read_wsX3_read_r2 _ (List.mem_of_getElem? (i := 19) rfl), (List.forall_mem_cons.mpr ⟨ilX3_read_wsX3_read_r2 _ (List.mem_of_getElem? (i := 20) rfl), (fun _ h => absurd h List.not_mem_nil)⟩)⟩)⟩)⟩)⟩)⟩)⟩)⟩)⟩)⟩)⟩)⟩)⟩)⟩)⟩)⟩)⟩)⟩)⟩)⟩)⟩)⟩)⟩), ilX3_read_wsX30⟩), ilX3_read_wsX50⟩)⟩) (by decide +kernel)
set_option maxRecDepth 20000 in
theorem gX3_read_X3_step : GoodIn wsX3_read (wsV RX3 60 RX3 yX3_step wsX3_step) := goodIn_app (goodIn_sub (List.forall_mem_cons.mpr ⟨ilX3_read_wsX3_read_r1 _ (List.mem_of_getElem? (i := 23) rfl), (List.forall_mem_cons.mpr ⟨ilX3_read_wsX3_read_r2 _ (List.mem_of_getElem? (i := 0) rfl), (List.forall_mem_cons.mpr ⟨ilX3_read_wsX3_read_r2 _ (List.mem_of_getElem? (i := 1) rfl), (List.forall_mem_cons.mpr ⟨ilX3_read_wsX3_read_r2 _ (List.mem_of_getElem? (i := 2) rfl), (fun _ h => absurd h List.not_mem_nil)⟩)⟩)⟩)⟩) (by decide +kernel)) ggX3_read_X3_step
set_option maxRecDepth 20000 in
theorem ggX3_read_X3_readLine : GoodIn wsX3_read wsX3_readLine := goodIn_sub (List.forall_mem_cons.mpr ⟨ilX3_read_wsX3_read_r3 _ (List.mem_of_getElem? (i := 0) rfl), (List.forall_mem_append.mpr ⟨(List.forall_mem_append.mpr ⟨(List.forall_mem_append.mpr ⟨(List.forall_mem_append.mpr ⟨(List.forall_mem_cons.mpr ⟨ilX3_read_wsX3_read_r3 _ (List.mem_of_getElem? (i := 1) rfl), (List.forall_mem_cons.mpr ⟨ilX3_read_wsX3_read_r3 _ (List.mem_of_getElem? (i := 2) rfl), (List.forall_mem_cons.mpr ⟨ilX3_read_wsX3_read_r3 _ (List.mem_of_getElem? (i := 3) rfl), (List.forall_mem_cons.mpr ⟨ilX3_read_wsX3_read_r2 _ (List.mem_of_getElem? (i := 2) rfl), (List.forall_mem_cons.mpr ⟨ilX3_read_wsX3_read_r3 _ (List.mem_of_getElem? (i := 4) rfl), (List.forall_mem_cons.mpr ⟨ilX3_read_wsX3_read_r1 _ (List.mem_of_getElem? (i := 5) rfl), (List.forall_mem_cons.mpr ⟨ilX3_read_wsX3_read_r1 _ (List.mem_of_getElem? (i := 4) rfl), (List.forall_mem_cons.mpr ⟨ilX3_read_wsX3_read_r1 _ (List.mem_of_getElem? (i := 6) rfl), (List.forall_mem_cons.mpr ⟨ilX3_read_wsX3_read_r1 _ (List.mem_of_getElem? (i := 8) rfl), (List.forall_mem_cons.mpr ⟨ilX3_read_wsX3_read_r2 _ (List.mem_of_getElem? (i := 4) rfl), (List.forall_mem_cons.mpr ⟨ilX3_read_wsX3_read_r3 _ (List.mem_of_getElem? (i := 5) rfl), (List.forall_mem_cons.mpr ⟨ilX3_read_wsX3_read_r3 _ (List.mem_of_getElem? (i := 6) rfl), (List.forall_mem_cons.mpr ⟨ilX3_read_wsX3_read_r3 _ (List.mem_of_getElem? (i := 7) rfl), (List.forall_mem_cons.mpr ⟨ilX3_read_wsX3_read_r3 _ (List.mem_of_getElem? (i := 8) rfl), (List.forall_mem_cons.mpr ⟨ilX3_read_wsX3_read_r3 _ (List.mem_of_getElem? (i := 9) rfl), (List.forall_mem_cons.mpr ⟨ilX3_read_wsX3_read_r3 _ (List.mem_of_getElem? (i := 10) rfl), (List.forall_mem_cons.mpr ⟨ilX3_read_wsX3_read_r3 _ (List.mem_of_getElem? (i := 11) rfl), (List.forall_mem_cons.mpr ⟨ilX3_read_wsX3_read_r3 _ (List.mem_of_getElem? (i := 12) rfl), (List.forall_mem_cons.mpr ⟨ilX3_read_wsX3_read_r3 _ (List.mem_of_getElem? (i := 13) rfl), (List.forall_mem_cons.mpr ⟨ilX3_read_wsX3_read_r3 _ (List.mem_of_getElem? (i := 14) rfl), (List.forall_mem_cons.mpr ⟨ilX3_read_wsX3_read_r3 _ (List.mem_of_getElem? (i := 15) rfl), (List.forall_mem_cons.mpr ⟨ilX3_read_wsX3_read_r3 _ (List.mem_of_getElem? (i := 16) rfl), (List.forall_mem_cons.mpr ⟨ilX3_read_wsX3_read_r3 _ (List.mem_of_getElem? (i := 17) rfl), (List.forall_mem_cons.mpr ⟨ilX3_read_wsX3_read_r3 _ (List.mem_of_getElem? (i := 18) rfl), (fun _ h => absurd h List.not_mem_nil)⟩)⟩)⟩)⟩)⟩)⟩)⟩)⟩)⟩)⟩)⟩)⟩)⟩)⟩)⟩)⟩)⟩)⟩)⟩)⟩)⟩)⟩)⟩)⟩), (List.forall_mem_append.mpr ⟨(List.forall_mem_cons.mpr ⟨ilX3_read_wsX3_read_r3 _ (List.mem_of_getElem? (i := 19) rfl), (List.forall_mem_cons.mpr ⟨ilX3_read_wsX3_read_r3 _ (List.mem_of_getElem? (i := 20) rfl), (List.forall_mem_cons.mpr ⟨ilX3_read_wsX3_read_r3 _ (List.mem_of_getElem? (i := 21) rfl), (List.forall_mem_cons.mpr ⟨ilX3_read_wsX3_read_r3 _ (List.mem_of_getElem? (i := 22) rfl), (List.forall_mem_cons.mpr ⟨ilX3_read_wsX3_read_r3 _ (List.mem_of_getElem? (i := 23) rfl), (List.forall_mem_cons.mpr ⟨ilX3_read_wsX3_read_r4 _ (List.mem_of_getElem? (i := 0) rfl), (List.forall_mem_cons.mpr ⟨ilX3_read_wsX3_read_r4 _ (List.mem_of_getElem? (i := 1) rfl), (List.forall_mem_cons.mpr ⟨ilX3_read_wsX3_read_r4 _ (List.mem_of_getElem? (i := 2) rfl), (List.forall_mem_cons.mpr ⟨ilX3_read_wsX3_read_r4 _ (List.mem_of_getElem? (i := 3) rfl), (List.forall_mem_cons.mpr ⟨ilX3_read_wsX3_read_r4 _ (List.mem_of_getElem? (i := 4) rfl), (List.forall_mem_cons.mpr ⟨ilX3_read_wsX3_read_r4 _ (List.mem_of_getElem? (i := 5) rfl), (List.forall_mem_cons.mpr ⟨ilX3_read_wsX3_read_r4 _ (List.mem_of_getElem? (i := 6) rfl), (List.forall_mem_cons.mpr ⟨ilX3_read_wsX3_read_r4 _ (List.mem_of_getElem? (i := 7) rfl), (List.forall_mem_cons.mpr ⟨ilX3_read_wsX3_read_r4 _ (List.mem_of_getElem? (i := 8) rfl), (List.forall_mem_cons.mpr ⟨ilX3_read_wsX3_read_r4 _ (List.mem_of_getElem? (i := 9) rfl), (List.forall_mem_cons.mpr ⟨ilX3_read_wsX3_read_r4 _ (List.mem_of_getElem? (i := 10) rfl), (List.forall_mem_cons.mpr ⟨ilX3_read_wsX3_read_r4 _ (List.mem_of_getElem? (i := 11) rfl), (List.forall_mem_cons.mpr ⟨ilX3_read_wsX3_read_r4 _ (List.mem_of_getElem? (i := 12) rfl), (List.forall_mem_cons.mpr ⟨ilX3_read_wsX3_read_r4 _ (List.mem_of_getElem? (i := 13) rfl), (List.forall_mem_cons.mpr ⟨ilX3_read_wsX3_read_r4 _ (List.mem_of_getElem? (i := 14) rfl), (List.forall_mem_cons.mpr ⟨ilX3_read_wsX3_read_r4 _ (List.mem_of_getElem? (i := 15) rfl), (List.forall_mem_cons.mpr ⟨ilX3_read_wsX3_read_r4 _ (List.mem_of_getElem? (i := 16) rfl), (List.forall_mem_cons.mpr ⟨ilX3_read_wsX3_read_r4 _ (List.mem_of_getElem? (i := 17) rfl), (List.forall_mem_cons.mpr ⟨ilX3_read_wsX3_read_r4 _ (List.mem_of_getElem? (i := 18) rfl), (fun _ h => absurd h List.not_mem_nil)⟩)⟩)⟩)⟩)⟩)⟩)⟩)⟩)⟩)⟩)⟩)⟩)⟩)⟩)⟩)⟩)⟩)⟩)⟩)⟩)⟩)⟩)⟩)⟩), (List.forall_mem_append.mpr ⟨(List.forall_mem_cons.mpr ⟨ilX3_read_wsX3_read_r4 _ (List.mem_of_getElem? (i := 19) rfl), (List.forall_mem_cons.mpr ⟨ilX3_read_wsX3_read_r4 _ (List.mem_of_getElem? (i := 20) rfl), (List.forall_mem_cons.mpr ⟨ilX3_read_wsX3_read_r4 _ (List.mem_of_getElem? (i := 21) rfl), (List.forall_mem_cons.mpr ⟨ilX3_read_wsX3_read_r4 _ (List.mem_of_getElem? (i := 22) rfl), (List.forall_mem_cons.mpr ⟨ilX3_read_wsX3_read_r4 _ (List.mem_of_getElem? (i := 23) rfl), (List.forall_mem_cons.mpr ⟨ilX3_read_wsX3_read_r5 _ (List.mem_of_getElem? (i := 0) rfl), (List.forall_mem_cons.mpr ⟨ilX3_read_wsX3_read_r5 _ (List.mem_of_getElem? (i := 1) rfl), (List.forall_mem_cons.mpr ⟨ilX3_read_wsX3_read_r5 _ (List.mem_of_getElem? (i := 2) rfl), (List.forall_mem_cons.mpr ⟨ilX3_read_wsX3_read_r5 _ (List.mem_of_getElem? (i := 3) rfl), (List.forall_mem_cons.mpr ⟨ilX3_read_wsX3_read_r5 _ (List.mem_of_getElem? (i := 4) rfl), (List.forall_mem_cons.mpr ⟨ilX3_read_wsX3_read_r5 _ (List.mem_of_getElem? (i := 5) rfl), (List.forall_mem_cons.mpr ⟨ilX3_read_wsX3_read_r5 _ (List.mem_of_getElem? (i := 6) rfl), (List.forall_mem_cons.mpr ⟨ilX3_read_wsX3_read_r5 _ (List.mem_of_getElem? (i := 7) rfl), (List.forall_mem_cons.mpr ⟨ilX3_read_wsX3_read_r5 _ (List.mem_of_getElem? (i := 8) rfl), (List.forall_mem_cons.mpr ⟨ilX3_read_wsX3_read_r5 _ (List.mem_of_getElem? (i := 9) rfl), (List.forall_mem_cons.mpr ⟨ilX3_read_wsX3_read_r1 _ (List.mem_of_getElem? (i := 1) rfl), (List.forall_mem_cons.mpr ⟨ilX3_read_wsX3_read_r1 _ (List.mem_of_getElem? (i := 0) rfl), (List.forall_mem_cons.mpr ⟨ilX3_read_wsX3_read_r5 _ (List.mem_of_getElem? (i := 10) rfl), (List.forall_mem_cons.mpr ⟨ilX3_read_wsX3_read_r5 _ (List.mem_of_getElem? (i := 11) rfl), (List.forall_mem_cons.mpr ⟨ilX3_read_wsX3_read_r5 _ (List.mem_of_getElem? (i := 12) rfl), (List.forall_mem_cons.mpr ⟨ilX3_read_wsX3_read_r1 _ (List.mem_of_getElem? (i := 23) rfl), (List.forall_mem_cons.mpr ⟨ilX3_read_wsX3_read_r2 _ (List.mem_of_getElem? (i := 0) rfl), (List.forall_mem_cons.mpr ⟨ilX3_read_wsX3_read_r2 _ (List.mem_of_getElem? (i := 1) rfl), (List.forall_mem_cons.mpr ⟨ilX3_read_wsX3_read_r2 _ (List.mem_of_getElem? (i := 3) rfl), (fun _ h => absurd h List.not_mem_nil)⟩)⟩)⟩)⟩)⟩)⟩)⟩)⟩)⟩)⟩)⟩)⟩)⟩)⟩)⟩)⟩)⟩)⟩)⟩)⟩)⟩)⟩)⟩)⟩), (List.forall_mem_append.mpr ⟨(List.forall_mem_cons.mpr ⟨ilX3_read_wsX3_read_r1 _ (List.mem_of_getElem? (i := 9) rfl), (List.forall_mem_cons.mpr ⟨ilX3_read_wsX3_read_r2 _ (List.mem_of_getElem? (i := 5) rfl), (List.forall_mem_cons.mpr ⟨ilX3_read_wsX3_read_r2 _ (List.mem_of_getElem? (i := 6) rfl), (List.forall_mem_cons.mpr ⟨ilX3_read_wsX3_read_r2 _ (List.mem_of_getElem? (i := 7) rfl), (List.forall_mem_cons.mpr ⟨ilX3_read_wsX3_read_r2 _ (List.mem_of_getElem? (i := 8) rfl), (List.forall_mem_cons.mpr ⟨ilX3_read_wsX3_read_r2 _ (List.mem_of_getElem? (i := 9) rfl), (List.forall_mem_cons.mpr ⟨ilX3_read_wsX3_read_r2 _ (List.mem_of_getElem? (i := 10) rfl), (List.forall_mem_cons.mpr ⟨ilX3_read_wsX3_read_r2 _ (List.mem_of_getElem? (i := 11) rfl), (List.forall_mem_cons.mpr ⟨ilX3_read_wsX3_read_r2 _ (List.mem_of_getElem? (i := 12) rfl), (List.forall_mem_cons.mpr ⟨ilX3_read_wsX3_read_r2 _ (List.mem_of_getElem? (i := 13) rfl), (List.forall_mem_cons.mpr ⟨ilX3_read_wsX3_read_r2 _ (List.mem_of_getElem? (i := 14) rfl), (List.forall_mem_cons.mpr ⟨ilX3_read_wsX3_read_r2 _ (List.mem_of_getElem? (i := 15) rfl), (List.forall_mem_cons.mpr ⟨ilX3_read_wsX3_read_r2 _ (List.mem_of_getElem? (i := 16) rfl), (List.forall_mem_cons.mpr ⟨ilX3_read_wsX3_read_r2 _ (List.mem_of_getElem? (i := 17) rfl), (List.forall_mem_cons.mpr ⟨ilX3_read_wsX3_read_r2 _ (List.mem_of_getElem? (i := 18) rfl), (List.forall_mem_cons.mpr ⟨ilX3_read_wsX3_read_r2 _ (List.mem_of_getElem? (i := 19) rfl), (List.forall_mem_cons.mpr ⟨ilX3_read_wsX3_read_r2 _ (List.mem_of_getElem? (i := 20) rfl), (List.forall_mem_cons.mpr ⟨ilX3_read_wsX3_read_r5 _ (List.mem_of_getElem? (i := 13) rfl), (List.forall_mem_cons.mpr ⟨ilX3_read_wsX3_read_r5 _ (List.mem_of_getElem? (i := 14) rfl), (List.forall_mem_cons.mpr ⟨ilX3_read_wsX3_read_r5 _ (List.mem_of_getElem? (i := 15) rfl), (List.forall_mem_cons.mpr ⟨ilX3_read_wsX3_read_r5 _ (List.mem_of_getElem? (i := 16) rfl), (List.forall_mem_cons.mpr ⟨ilX3_read_wsX3_read_r5 _ (List.mem_of_getElem? (i := 17) rfl), (List.forall_mem_cons.mpr ⟨ilX3_read_wsX3_read_r5 _ (List.mem_of_getElem? (i := 18) rfl), (List.forall_mem_cons.mpr ⟨ilX3_read_wsX3_read_r5 _ (List.mem_of_getElem? (i := 19) rfl), (fun _ h => absurd h List.not_mem_nil)⟩)⟩)⟩)⟩)⟩)⟩)⟩)⟩)⟩)⟩)⟩)⟩)⟩)⟩)⟩)⟩)⟩)⟩)⟩)⟩)⟩)⟩)⟩)⟩), (List.forall_mem_append.mpr ⟨(List.forall_mem_cons.mpr ⟨ilX3_read_wsX3_read_r5 _ (List.mem_of_getElem? (i := 20) rfl), (List.forall_mem_cons.mpr ⟨ilX3_read_wsX3_read_r5 _ (List.mem_of_getElem? (i := 21) rfl), (List.forall_mem_cons.mpr ⟨ilX3_read_wsX3_read_r5 _ (List.mem_of_getElem? (i := 22) rfl), (List.forall_mem_cons.mpr ⟨ilX3_read_wsX3_read_r5 _ (List.mem_of_getElem? (i := 23) rfl), (List.forall_mem_cons.mpr ⟨ilX3_read_wsX3_read_r6 _ (List.mem_of_getElem? (i := 0) rfl), (List.forall_mem_cons.mpr ⟨ilX3_read_wsX3_read_r6 _ (List.mem_of_getElem? (i := 1) rfl), (List.forall_mem_cons.mpr ⟨ilX3_read_wsX3_read_r6 _ (List.mem_of_getElem? (i := 2) rfl), (List.forall_mem_cons.mpr ⟨ilX3_read_wsX3_read_r6 _ (List.mem_of_getElem? (i := 3) rfl), (List.forall_mem_cons.mpr ⟨ilX3_read_wsX3_read_r1 _ (List.mem_of_getElem? (i := 2) rfl), (List.forall_mem_cons.mpr ⟨ilX3_read_wsX3_read_r6 _ (List.mem_of_getElem? (i := 4) rfl), (List.forall_mem_cons.mpr ⟨ilX3_read_wsX3_read_r6 _ (List.mem_of_getElem? (i := 5) rfl), (List.forall_mem_cons.mpr ⟨ilX3_read_wsX3_read_r6 _ (List.mem_of_getElem? (i := 6) rfl), (List.forall_mem_cons.mpr ⟨ilX3_read_wsX3_read_r6 _ (List.mem_of_getElem? (i := 7) rfl), (List.forall_mem_cons.mpr ⟨ilX3_read_wsX3_read_r6 _ (List.mem_of_getElem? (i := 8) rfl), (List.forall_mem_cons.mpr ⟨ilX3_read_wsX3_read_r6 _ (List.mem_of_getElem? (i := 9) rfl), (List.forall_mem_cons.mpr ⟨ilX3_read_wsX3_read_r1 _ (List.mem_of_getElem? (i := 3) rfl), (List.forall_mem_cons.mpr ⟨ilX3_read_wsX3_read_r6 _ (List.mem_of_getElem? (i := 10) rfl), (List.forall_mem_cons.mpr ⟨ilX3_read_wsX3_read_r6 _ (List.mem_of_getElem? (i := 11) rfl), (List.forall_mem_cons.mpr ⟨ilX3_read_wsX3_read_r6 _ (List.mem_of_getElem? (i := 12) rfl), (List.forall_mem_cons.mpr ⟨ilX3_read_wsX3_read_r6 _ (List.mem_of_getElem? (i := 13) rfl), (List.forall_mem_cons.mpr ⟨ilX3_read_wsX3_read_r6 _ (List.mem_of_getElem? (i := 14) rfl), (List.forall_mem_cons.mpr ⟨ilX3_read_wsX3_read_r1 _ (List.mem_of_getElem? (i := 7) rfl), (List.forall_mem_cons.mpr ⟨ilX3_read_wsX3_read_r6 _ (List.mem_of_getElem? (i := 15) rfl), (List.forall_mem_cons.mpr ⟨ilX3_read_wsX3_read_r6 _ (List.mem_of_getElem? (i := 16) rfl), (fun _ h => absurd h List.not_mem_nil)⟩)⟩)⟩)⟩)⟩)⟩)⟩)⟩)⟩)⟩)⟩)⟩)⟩)⟩)⟩)⟩)⟩)⟩)⟩)⟩)⟩)⟩)⟩)⟩), (List.forall_mem_append.mpr ⟨(List.forall_mem_cons.mpr ⟨ilX3_read_wsX3_read_r6 _ (List.mem_of_getElem? (i := 17) rfl), (List.forall_mem_cons.mpr ⟨ilX3_read_wsX3_read_r6 _ (List.mem_of_getElem? (i := 18) rfl), (List.forall_mem_cons.mpr ⟨ilX3_read_wsX3_read_r6 _ (List.mem_of_getElem? (i := 19) rfl), (List.forall_mem_cons.mpr ⟨ilX3_read_wsX3_read_r6 _ (List.mem_of_getElem? (i := 20) rfl), (List.forall_mem_cons.mpr ⟨ilX3_read_wsX3_read_r6 _ (List.mem_of_getElem? (i := 21) rfl), (List.forall_mem_cons.mpr ⟨ilX3_read_wsX3_read_r6 _ (List.mem_of_getElem? (i := 22) rfl), (List.forall_mem_cons.mpr ⟨ilX3_read_wsX3_read_r6 _ (List.mem_of_getElem? (i := 23) rfl), (List.forall_mem_cons.mpr ⟨ilX3_read_wsX3_read_r7 _ (List.mem_of_getElem? (i := 0) rfl), (List.forall_mem_cons.mpr ⟨ilX3_read_wsX3_read_r7 _ (List.mem_of_getElem? (i := 1) rfl), (List.forall_mem_cons.mpr ⟨ilX3_read_wsX3_read_r7 _ (List.mem_of_getElem? (i := 2) rfl), (List.forall_mem_cons.mpr ⟨ilX3_read_wsX3_read_r7 _ (List.mem_of_getElem? (i := 3) rfl), (List.forall_mem_cons.mpr ⟨ilX3_read_wsX3_read_r7 _ (List.mem_of_getElem? (i := 4) rfl), (List.forall_mem_cons.mpr ⟨ilX3_read_wsX3_read_r7 _ (List.mem_of_getElem? (i := 5) rfl), (List.forall_mem_cons.mpr ⟨ilX3_read_wsX3_read_r7 _ (List.mem_of_getElem? (i := 6) rfl), (List.forall_mem_cons.mpr ⟨ilX3_read_wsX3_read_r7 _ (List.mem_of_getElem? (i := 7) rfl), (List.forall_mem_cons.mpr ⟨ilX3_read_wsX3_read_r7 _ (List.mem_of_getElem? (i := 8) rfl), (List.forall_mem_cons.mpr ⟨ilX3_read_wsX3_read_r7 _ (List.mem_of_getElem? (i := 9) rfl), (List.forall_mem_cons.mpr ⟨ilX3_read_wsX3_read_r7 _ (List.mem_of_getElem? (i := 10) rfl), (List.forall_mem_cons.mpr ⟨ilX3_read_wsX3_read_r7 _ (List.mem_of_getElem? (i := 11) rfl), (List.forall_mem_cons.mpr ⟨ilX3_read_wsX3_read_r7 _ (List.mem_of_getElem? (i := 12) rfl), (List.forall_mem_cons.mpr ⟨ilX3_read_wsX3_read_r7 _ (List.mem_of_getElem? (i := 13) rfl), (List.forall_mem_cons.mpr ⟨ilX3_read_wsX3_read_r7 _ (List.mem_of_getElem? (i := 14) rfl), (List.forall_mem_cons.mpr ⟨ilX3_read_wsX3_read_r1 _ (List.mem_of_getElem? (i := 13) rfl), (List.forall_mem_cons.mpr ⟨ilX3_read_wsX3_read_r7 _ (List.mem_of_getElem? (i := 15) rfl), (fun _ h => absurd h List.not_mem_nil)⟩)⟩)⟩)⟩)⟩)⟩)⟩)⟩)⟩)⟩)⟩)⟩)⟩)⟩)⟩)⟩)⟩)⟩)⟩)⟩)⟩)⟩)⟩)⟩), (List.forall_mem_append.mpr ⟨(List.forall_mem_cons.mpr ⟨ilX3_read_wsX3_read_r1 _ (List.mem_of_getElem? (i := 20) rfl), (List.forall_mem_cons.mpr ⟨ilX3_read_wsX3_read_r7 _ (List.mem_of_getElem? (i := 16) rfl), (List.forall_mem_cons.mpr ⟨ilX3_read_wsX3_read_r7 _ (List.mem_of_getElem? (i := 17) rfl), (List.forall_mem_cons.mpr ⟨ilX3_read_wsX3_read_r7 _ (List.mem_of_getElem? (i := 18) rfl), (List.forall_mem_cons.mpr ⟨ilX3_read_wsX3_read_r7 _ (List.mem_of_getElem? (i := 19) rfl), (List.forall_mem_cons.mpr ⟨ilX3_read_wsX3_read_r7 _ (List.mem_of_getElem? (i := 20) rfl), (List.forall_mem_cons.mpr ⟨ilX3_read_wsX3_read_r7 _ (List.mem_of_getElem? (i := 21) rfl), (List.forall_mem_cons.mpr ⟨ilX3_read_wsX3_read_r7 _ (List.mem_of_getElem? (i := 22) rfl), (List.forall_mem_cons.mpr ⟨ilX3_read_wsX3_read_r7 _ (List.mem_of_getElem? (i := 23) rfl), (List.forall_mem_cons.mpr ⟨ilX3_read_wsX3_read_r8 _ (List.mem_of_getElem? (i := 0) rfl), (List.forall_mem_cons.mpr ⟨ilX3_read_wsX3_read_r8 _ (List.mem_of_getElem? (i := 1) rfl), (List.forall_mem_cons.mpr ⟨ilX3_read_wsX3_read_r8 _ (List.mem_of_getElem? (i := 2) rfl), (List.forall_mem_cons.mpr ⟨ilX3_read_wsX3_read_r8 _ (List.mem_of_getElem? (i := 3) rfl), (List.forall_mem_cons.mpr ⟨ilX3_read_wsX3_read_r8 _ (List.mem_of_getElem? (i := 4) rfl), (List.forall_mem_cons.mpr ⟨ilX3_read_wsX3_read_r8 _ (List.mem_of_getElem? (i := 5) rfl), (List.forall_mem_cons.mpr ⟨ilX3_read_wsX3_read_r8 _ (List.mem_of_getElem? (i := 6) rfl), (List.forall_mem_cons.mpr ⟨ilX3_read_wsX3_read_r1 _ (List.mem_of_getElem? (i := 21) rfl), (List.forall_mem_cons.mpr ⟨ilX3_read_wsX3_read_r8 _ (List.mem_of_getElem? (i := 7) rfl), (List.forall_mem_cons.mpr ⟨ilX3_read_wsX3_read_r8 _ (List.mem_of_getElem? (i := 8) rfl), (List.forall_mem_cons.mpr ⟨ilX3_read_wsX3_read_r8 _ (List.mem_of_getElem? (i := 9) rfl), (List.forall_mem_cons.mpr ⟨ilX3_read_wsX3_read_r8 _ (List.mem_of_getElem? (i := 10) rfl), (List.forall_mem_cons.mpr ⟨ilX3_read_wsX3_read_r8 _ (List.mem_of_getElem? (i := 11) rfl), (List.forall_mem_cons.mpr ⟨ilX3_read_wsX3_read_r8 _ (List.mem_of_getElem? (i := 12) rfl), (List.forall_mem_cons.mpr ⟨ilX3_read_wsX3_read_r8 _ (List.mem_of_getElem? (i := 13) rfl), (fun _ h => absurd h List.not_mem_nil)⟩)⟩)⟩)⟩)⟩)⟩)⟩)⟩)⟩)⟩)⟩)⟩)⟩)⟩)⟩)⟩)⟩)⟩)⟩)⟩)⟩)⟩)⟩)⟩), (List.forall_mem_cons.mpr ⟨ilX3_read_wsX3_read_r8 _ (List.mem_of_getElem? (i := 14) rfl), (List.forall_mem_cons.mpr ⟨ilX3_read_wsX3_read_r8 _ (List.mem_of_getElem? (i := 15) rfl), (List.forall_mem_cons.mpr ⟨ilX3_read_wsX3_read_r1 _ (List.mem_of_getElem? (i := 22) rfl), (List.forall_mem_cons.mpr ⟨ilX3_read_wsX3_read_r8 _ (List.mem_of_getElem? (i := 16) rfl), (List.forall_mem_cons.mpr ⟨ilX3_read_wsX3_read_r8 _ (List.mem_of_getElem? (i := 17) rfl), (List.forall_mem_cons.mpr ⟨ilX3_read_wsX3_read_r8 _ (List.mem_of_getElem? (i := 18) rfl), (List.forall_mem_cons.mpr ⟨ilX3_read_wsX3_read_r8 _ (List.mem_of_getElem? (i := 19) rfl), (List.forall_mem_cons.mpr ⟨ilX3_read_wsX3_read_r8 _ (List.mem_of_getElem? (i := 20) rfl), (List.forall_mem_cons.mpr ⟨ilX3_read_wsX3_read_r8 _ (List.mem_of_getElem? (i := 21) rfl), (List.forall_mem_cons.mpr ⟨ilX3_read_wsX3_read_r8 _ (List.mem_of_getElem? (i := 22) rfl), (fun _ h => absurd h List.not_mem_nil)⟩)⟩)⟩)⟩)⟩)⟩)⟩)⟩)⟩)⟩)⟩)⟩)⟩)⟩)⟩)⟩)⟩), ilX3_read_wsX30⟩), ilX3_read_wsX50⟩), ilX3_read_wsX10⟩)⟩) (by decide +kernel)
set_option maxRecDepth 20000 in
theorem gX3_read_X3_readLine : GoodIn wsX3_read (wsV RX3 63 RX3 yX3_readLine wsX3_readLine) := goodIn_app (goodIn_sub (List.forall_mem_cons.mpr ⟨ilX3_read_wsX3_read_r2 _ (List.mem_of_getElem? (i := 21) rfl), (List.forall_mem_cons.mpr ⟨ilX3_read_wsX3_read_r2 _ (List.mem_of_getElem? (i := 22) rfl), (List.forall_mem_cons.mpr ⟨ilX3_read_wsX3_read_r2 _ (List.mem_of_getElem? (i := 23) rfl), (List.forall_mem_cons.mpr ⟨ilX3_read_wsX3_read_r2 _ (List.mem_of_getElem? (i := 2) rfl), (fun _ h => absurd h List.not_mem_nil)⟩)⟩)⟩)⟩) (by decide +kernel)) ggX3_read_X3_readLine
theorem dX3_read_0 : decode cX3_read 0 = .ok (.aload_n 0, 1) := by decide +kernel
theorem dX3_read_1 : decode cX3_read 1 = .ok (.aload_n 1, 1) := by decide +kernel
theorem dX3_read_2 : decode cX3_read 2 = .ok (.putfield 51, 3) := by decide +kernel
theorem dX3_read_5 : decode cX3_read 5 = .ok (.aload_n 0, 1) := by decide +kernel
theorem dX3_read_6 : decode cX3_read 6 = .ok (.getfield 51, 3) := by decide +kernel
theorem dX3_read_9 : decode cX3_read 9 = .ok (.invokevirtual 55, 3) := by decide +kernel
theorem dX3_read_12 : decode cX3_read 12 = .ok (.aload_n 0, 1) := by decide +kernel
theorem dX3_read_13 : decode cX3_read 13 = .ok (.iconst 0, 1) := by decide +kernel
theorem dX3_read_14 : decode cX3_read 14 = .ok (.putfield 37, 3) := by decide +kernel
theorem dX3_read_17 : decode cX3_read 17 = .ok (.aload_n 0, 1) := by decide +kernel
theorem dX3_read_18 : decode cX3_read 18 = .ok (.iconst 0, 1) := by decide +kernel
theorem dX3_read_19 : decode cX3_read 19 = .ok (.putfield 41, 3) := by decide +kernel
theorem dX3_read_22 : decode cX3_read 22 = .ok (.aload_n 0, 1) := by decide +kernel
theorem dX3_read_23 : decode cX3_read 23 = .ok (.iconst 0, 1) := by decide +kernel
theorem dX3_read_24 : decode cX3_read 24 = .ok (.putfield 44, 3) := by decide +kernel
theorem dX3_read_27 : decode cX3_read 27 = .ok (.aload_n 0, 1) := by decide +kernel
theorem dX3_read_28 : decode cX3_read 28 = .ok (.iconst 0, 1) := by decide +kernel
theorem dX3_read_29 : decode cX3_read 29 = .ok (.putfield 25, 3) := by decide +kernel
theorem dX3_read_32 : decode cX3_read 32 = .ok (.aload_n 0, 1) := by decide +kernel
theorem dX3_read_33 : decode cX3_read 33 = .ok (.invokevirtual 60, 3) := by decide +kernel
theorem dX3_read_36 : decode cX3_read 36 = .ok (.iconst 0, 1) := by decide +kernel
theorem dX3_read_37 : decode cX3_read 37 = .ok (.istore_n 2, 1) := by decide +kernel
theorem dX3_read_38 : decode cX3_read 38 = .ok (.iload_n 2, 1) := by decide +kernel
theorem dX3_read_39 : decode cX3_read 39 = .ok (.sipush 500, 3) := by decide +kernel
theorem dX3_read_42 : decode cX3_read 42 = .ok (.if_icmp .gt 28, 3) := by decide +kernel
theorem dX3_read_45 : decode cX3_read 45 = .ok (.aload_n 0, 1) := by decide +kernel
theorem dX3_read_46 : decode cX3_read 46 = .ok (.getfield 28, 3) := by decide +kernel
theorem dX3_read_49 : decode cX3_read 49 = .ok (.ifCond .eq 21, 3) := by decide +kernel
theorem dX3_read_52 : decode cX3_read 52 = .ok (.aload_n 0, 1) := by decide +kernel
theorem dX3_read_53 : decode cX3_read 53 = .ok (.invokevirtual 63, 3) := by decide +kernel
theorem dX3_read_56 : decode cX3_read 56 = .ok (.ifCond .ne 8, 3) := by decide +kernel
theorem dX3_read_59 : decode cX3_read 59 = .ok (.aload_n 0, 1) := by decide +kernel
theorem dX3_read_60 : decode cX3_read 60 = .ok (.getfield 21, 3) := by decide +kernel
theorem dX3_read_63 : decode cX3_read 63 = .ok (.ireturn, 1) := by decide +kernel
theorem dX3_read_64 : decode cX3_read 64 = .ok (.iinc 2 1, 3) := by decide +kernel
theorem dX3_read_67 : decode cX3_read 67 = .ok (.goto (-29), 3) := by decide +kernel
theorem dX3_read_70 : decode cX3_read 70 = .ok (.aload_n 0, 1) := by decide +kernel
theorem dX3_read_71 : decode cX3_read 71 = .ok (.getfield 37, 3) := by decide +kernel
theorem dX3_read_74 : decode cX3_read 74 = .ok (.ifCond .eq 17, 3) := by decide +kernel
theorem dX3_read_77 : decode cX3_read 77 = .ok (.aload_n 0, 1) := by decide +kernel
theorem dX3_read_78 : decode cX3_read 78 = .ok (.getfield 51, 3) := by decide +kernel
theorem dX3_read_81 : decode cX3_read 81 = .ok (.getfield 67, 3) := by decide +kernel
theorem dX3_read_84 : decode cX3_read 84 = .ok (.ifCond .le 7, 3) := by decide +kernel
theorem dX3_read_87 : decode cX3_read 87 = .ok (.iconst (-1), 1) := by decide +kernel
theorem dX3_read_88 : decode cX3_read 88 = .ok (.goto 10, 3) := by decide +kernel
theorem dX3_read_91 : decode cX3_read 91 = .ok (.aload_n 0, 1) := by decide +kernel
theorem dX3_read_92 : decode cX3_read 92 = .ok (.getfield 47, 3) := by decide +kernel
theorem dX3_read_95 : decode cX3_read 95 = .ok (.getfield 70, 3) := by decide +kernel
theorem dX3_read_98 : decode cX3_read 98 = .ok (.ireturn, 1) := by decide +kernel
theorem ilX3_readLine_wsX3_readLine_r1 : ∀ w ∈ wsX3_readLine_r1, w ∈ wsX3_readLine := fun _ h => List.mem_cons_of_mem _ (List.mem_append_left _ (List.mem_append_left _ (List.mem_append_left _ (List.mem_append_left _ (h)))))
theorem ilX3_readLine_wsX3_readLine_r2 : ∀ w ∈ wsX3_readLine_r2, w ∈ wsX3_readLine := fun _ h => List.mem_cons_of_mem _ (List.mem_append_left _ (List.mem_append_left _ (List.mem_append_left _ (List.mem_append_right _ (List.mem_append_left _ (h))))))
theorem ilX3_readLine_wsX3_readLine_r3 : ∀ w ∈ wsX3_readLine_r3, w ∈ wsX3_readLine := fun _ h => List.mem_cons_of_mem _ (List.mem_append_left _ (List.mem_append_left _ (List.mem_append_left _ (List.mem_append_right _ (List.mem_append_right _ (List.mem_append_left _ (h)))))))
theorem ilX3_readLine_wsX3_readLine_r4 : ∀ w ∈ wsX3_readLine_r4, w ∈ wsX3_readLine := fun _ h => List.mem_cons_of_mem _ (List.mem_append_left _ (List.mem_append_left _ (List.mem_append_left _ (List.mem_append_right _ (List.mem_append_right _ (List.mem_append_right _ (List.mem_append_left _ (h))))))))
theorem ilX3_readLine_wsX3_readLine_r5 : ∀ w ∈ wsX3_readLine_r5, w ∈ wsX3_readLine := fun _ h => List.mem_cons_of_mem _ (List.mem_append_left _ (List.mem_append_left _ (List.mem_append_left _ (List.mem_append_right _ (List.mem_append_right _ (List.mem_append_right _ (List.mem_append_right _ (List.mem_append_left _ (h)))))))))
theorem ilX3_readLine_wsX3_readLine_r6 : ∀ w ∈ wsX3_readLine_r6, w ∈ wsX3_readLine := fun _ h => List.mem_cons_of_mem _ (List.mem_append_left _ (List.mem_append_left _ (List.mem_append_left _ (List.mem_append_right _ (List.mem_append_right _ (List.mem_append_right _ (List.mem_append_right _ (List.mem_append_right _ (List.mem_append_left _ (h))))))))))
theorem ilX3_readLine_wsX3_readLine_r7 : ∀ w ∈ wsX3_readLine_r7, w ∈ wsX3_readLine := fun _ h => List.mem_cons_of_mem _ (List.mem_append_left _ (List.mem_append_left _ (List.mem_append_left _ (List.mem_append_right _ (List.mem_append_right _ (List.mem_append_right _ (List.mem_append_right _ (List.mem_append_right _ (List.mem_append_right _ (List.mem_append_left _ (h)))))))))))
theorem ilX3_readLine_wsX3_readLine_r8 : ∀ w ∈ wsX3_readLine_r8, w ∈ wsX3_readLine := fun _ h => List.mem_cons_of_mem _ (List.mem_append_left _ (List.mem_append_left _ (List.mem_append_left _ (List.mem_append_right _ (List.mem_append_right _ (List.mem_append_right _ (List.mem_append_right _ (List.mem_append_right _ (List.mem_append_right _ (List.mem_append_right _ (h)))))))))))
theorem ilX3_readLine_wsX30 : ∀ w ∈ wsX30, w ∈ wsX3_readLine := fun _ h => List.mem_cons_of_mem _ (List.mem_append_left _ (List.mem_append_left _ (List.mem_append_right _ (h))))
theorem ilX3_readLine_wsX50 : ∀ w ∈ wsX50, w ∈ wsX3_readLine := fun _ h => List.mem_cons_of_mem _ (List.mem_append_left _ (List.mem_append_right _ (h)))
theorem ilX3_readLine_wsX10 : ∀ w ∈ wsX10, w ∈ wsX3_readLine := fun _ h => List.mem_cons_of_mem _ (List.mem_append_right _ (h))
set_option maxRecDepth 20000 in
theorem ggX3_readLine_X3_tokenIs : GoodIn wsX3_readLine wsX3_tokenIs := goodIn_sub (List.forall_mem_cons.mpr ⟨ilX3_readLine_wsX3_readLine_r1 _ (List.mem_of_getElem? (i := 4) rfl), (List.forall_mem_append.mpr ⟨(List.forall_mem_append.mpr ⟨(List.forall_mem_append.mpr ⟨(List.forall_mem_cons.mpr ⟨ilX3_readLine_wsX3_readLine_r1 _ (List.mem_of_getElem? (i := 5) rfl), (List.forall_mem_cons.mpr ⟨ilX3_readLine_wsX3_readLine_r1 _ (List.mem_of_getElem? (i := 6) rfl), (List.forall_mem_cons.mpr ⟨ilX3_readLine_wsX3_readLine_r1 _ (List.mem_of_getElem? (i := 7) rfl), (List.forall_mem_cons.mpr ⟨ilX3_readLine_wsX3_readLine_r1 _ (List.mem_of_getElem? (i := 8) rfl), (List.forall_mem_cons.mpr ⟨ilX3_readLine_wsX3_readLine_r1 _ (List.mem_of_getElem? (i := 9) rfl), (List.forall_mem_cons.mpr ⟨ilX3_readLine_wsX3_readLine_r1 _ (List.mem_of_getElem? (i := 10) rfl), (List.forall_mem_cons.mpr ⟨ilX3_readLine_wsX3_readLine_r1 _ (List.mem_of_getElem? (i := 11) rfl), (List.forall_mem_cons.mpr ⟨ilX3_readLine_wsX3_readLine_r1 _ (List.mem_of_getElem? (i := 12) rfl), (List.forall_mem_cons.mpr ⟨ilX3_readLine_wsX3_readLine_r1 _ (List.mem_of_getElem? (i := 13) rfl), (List.forall_mem_cons.mpr ⟨ilX3_readLine_wsX3_readLine_r1 _ (List.mem_of_getElem? (i := 14) rfl), (List.forall_mem_cons.mpr ⟨ilX3_readLine_wsX3_readLine_r1 _ (List.mem_of_getElem? (i := 15) rfl), (List.forall_mem_cons.mpr ⟨ilX3_readLine_wsX3_readLine_r1 _ (List.mem_of_getElem? (i := 16) rfl), (List.forall_mem_cons.mpr ⟨ilX3_readLine_wsX3_readLine_r1 _ (List.mem_of_getElem? (i := 17) rfl), (List.forall_mem_cons.mpr ⟨ilX3_readLine_wsX3_readLine_r1 _ (List.mem_of_getElem? (i := 18) rfl), (List.forall_mem_cons.mpr ⟨ilX3_readLine_wsX3_readLine_r1 _ (List.mem_of_getElem? (i := 19) rfl), (List.forall_mem_cons.mpr ⟨ilX3_readLine_wsX3_readLine_r1 _ (List.mem_of_getElem? (i := 20) rfl), (List.forall_mem_cons.mpr ⟨ilX3_readLine_wsX3_readLine_r1 _ (List.mem_of_getElem? (i := 21) rfl), (List.forall_mem_cons.mpr ⟨ilX3_readLine_wsX3_readLine_r1 _ (List.mem_of_getElem? (i := 22) rfl), (List.forall_mem_cons.mpr ⟨ilX3_readLine_wsX3_readLine_r1 _ (List.mem_of_getElem? (i := 23) rfl), (List.forall_mem_cons.mpr ⟨ilX3_readLine_wsX3_readLine_r2 _ (List.mem_of_getElem? (i := 0) rfl), (List.forall_mem_cons.mpr ⟨ilX3_readLine_wsX3_readLine_r2 _ (List.mem_of_getElem? (i := 1) rfl), (List.forall_mem_cons.mpr ⟨ilX3_readLine_wsX3_readLine_r2 _ (List.mem_of_getElem? (i := 2) rfl), (List.forall_mem_cons.mpr ⟨ilX3_readLine_wsX3_readLine_r2 _ (List.mem_of_getElem? (i := 3) rfl), (List.forall_mem_cons.mpr ⟨ilX3_readLine_wsX3_readLine_r2 _ (List.mem_of_getElem? (i := 4) rfl), (fun _ h => absurd h List.not_mem_nil)⟩)⟩)⟩)⟩)⟩)⟩)⟩)⟩)⟩)⟩)⟩)⟩)⟩)⟩)⟩)⟩)⟩)⟩)⟩)⟩)⟩)⟩)⟩)⟩), (List.forall_mem_append.mpr ⟨(List.forall_mem_cons.mpr ⟨ilX3_readLine_wsX3_readLine_r2 _ (List.mem_of_getElem? (i := 5) rfl), (List.forall_mem_cons.mpr ⟨ilX3_readLine_wsX3_readLine_r2 _ (List.mem_of_getElem? (i := 6) rfl), (List.forall_mem_cons.mpr ⟨ilX3_readLine_wsX3_readLine_r2 _ (List.mem_of_getElem? (i := 7) rfl), (List.forall_mem_cons.mpr ⟨ilX3_readLine_wsX3_readLine_r2 _ (List.mem_of_getElem? (i := 8) rfl), (List.forall_mem_cons.mpr ⟨ilX3_readLine_wsX3_readLine_r2 _ (List.mem_of_getElem? (i := 9) rfl), (List.forall_mem_cons.mpr ⟨ilX3_readLine_wsX3_readLine_r2 _ (List.mem_of_getElem? (i := 10) rfl), (List.forall_mem_cons.mpr ⟨ilX3_readLine_wsX3_readLine_r2 _ (List.mem_of_getElem? (i := 11) rfl), (List.forall_mem_cons.mpr ⟨ilX3_readLine_wsX3_readLine_r2 _ (List.mem_of_getElem? (i := 12) rfl), (List.forall_mem_cons.mpr ⟨ilX3_readLine_wsX3_readLine_r2 _ (List.mem_of_getElem? (i := 13) rfl), (List.forall_mem_cons.mpr ⟨ilX3_readLine_wsX3_readLine_r2 _ (List.mem_of_getElem? (i := 14) rfl), (List.forall_mem_cons.mpr ⟨ilX3_readLine_wsX3_readLine_r2 _ (List.mem_of_getElem? (i := 15) rfl), (List.forall_mem_cons.mpr ⟨ilX3_readLine_wsX3_readLine_r2 _ (List.mem_of_getElem? (i := 16) rfl), (List.forall_mem_cons.mpr ⟨ilX3_readLine_wsX3_readLine_r2 _ (List.mem_of_getElem? (i := 17) rfl), (List.forall_mem_cons.mpr ⟨ilX3_readLine_wsX3_readLine_r2 _ (List.mem_of_getElem? (i := 18) rfl), (List.forall_mem_cons.mpr ⟨ilX3_readLine_wsX3_readLine_r2 _ (List.mem_of_getElem? (i := 19) rfl), (List.forall_mem_cons.mpr ⟨ilX3_readLine_wsX3_readLine_r2 _ (List.mem_of_getElem? (i := 20) rfl), (List.forall_mem_cons.mpr ⟨ilX3_readLine_wsX3_readLine_r2 _ (List.mem_of_getElem? (i := 21) rfl), (List.forall_mem_cons.mpr ⟨ilX3_readLine_wsX3_readLine_r2 _ (List.mem_of_getElem? (i := 22) rfl), (List.forall_mem_cons.mpr ⟨ilX3_readLine_wsX3_readLine_r2 _ (List.mem_of_getElem? (i := 23) rfl), (List.forall_mem_cons.mpr ⟨ilX3_readLine_wsX3_readLine_r3 _ (List.mem_of_getElem? (i := 0) rfl), (List.forall_mem_cons.mpr ⟨ilX3_readLine_wsX3_readLine_r3 _ (List.mem_of_getElem? (i := 1) rfl), (List.forall_mem_cons.mpr ⟨ilX3_readLine_wsX3_readLine_r3 _ (List.mem_of_getElem? (i := 2) rfl), (List.forall_mem_cons.mpr ⟨ilX3_readLine_wsX3_readLine_r3 _ (List.mem_of_getElem? (i := 3) rfl), (List.forall_mem_cons.mpr ⟨ilX3_readLine_wsX3_readLine_r3 _ (List.mem_of_getElem? (i := 4) rfl), (fun _ h => absurd h List.not_mem_nil)⟩)⟩)⟩)⟩)⟩)⟩)⟩)⟩)⟩)⟩)⟩)⟩)⟩)⟩)⟩)⟩)⟩)⟩)⟩)⟩)⟩)⟩)⟩)⟩), (List.forall_mem_cons.mpr ⟨ilX3_readLine_wsX3_readLine_r3 _ (List.mem_of_getElem? (i := 5) rfl), (List.forall_mem_cons.mpr ⟨ilX3_readLine_wsX3_readLine_r3 _ (List.mem_of_getElem? (i := 6) rfl), (List.forall_mem_cons.mpr ⟨ilX3_readLine_wsX3_readLine_r3 _ (List.mem_of_getElem? (i := 7) rfl), (List.forall_mem_cons.mpr ⟨ilX3_readLine_wsX3_readLine_r3 _ (List.mem_of_getElem? (i := 8) rfl), (List.forall_mem_cons.mpr ⟨ilX3_readLine_wsX3_readLine_r3 _ (List.mem_of_getElem? (i := 9) rfl), (List.forall_mem_cons.mpr ⟨ilX3_readLine_wsX3_readLine_r3 _ (List.mem_of_getElem? (i := 10) rfl), (fun _ h => absurd h List.not_mem_nil)⟩)⟩)⟩)⟩)⟩)⟩)⟩)⟩), ilX3_readLine_wsX30⟩), ilX3_readLine_wsX50⟩)⟩) (by decide +kernel)
set_option maxRecDepth 20000 in
theorem gX3_readLine_X3_tokenIs : GoodIn wsX3_readLine (wsV RX3 77 RX3 yX3_tokenIs wsX3_tokenIs) := goodIn_app (goodIn_sub (List.forall_mem_cons.mpr ⟨ilX3_readLine_wsX3_readLine_r1 _ (List.mem_of_getElem? (i := 0) rfl), (List.forall_mem_cons.mpr ⟨ilX3_readLine_wsX3_readLine_r1 _ (List.mem_of_getElem? (i := 1) rfl), (List.forall_mem_cons.mpr ⟨ilX3_readLine_wsX3_readLine_r1 _ (List.mem_of_getElem? (i := 2) rfl), (List.forall_mem_cons.mpr ⟨ilX3_readLine_wsX3_readLine_r1 _ (List.mem_of_getElem? (i := 3) rfl), (fun _ h => absurd h List.not_mem_nil)⟩)⟩)⟩)⟩) (by decide +kernel)) ggX3_readLine_X3_tokenIs
set_option maxRecDepth 20000 in
theorem ggX3_readLine_X3_readMoon : GoodIn wsX3_readLine wsX3_readMoon := goodIn_sub (List.forall_mem_cons.mpr ⟨ilX3_readLine_wsX3_readLine_r3 _ (List.mem_of_getElem? (i := 14) rfl), (List.forall_mem_append.mpr ⟨(List.forall_mem_append.mpr ⟨(List.forall_mem_append.mpr ⟨(List.forall_mem_append.mpr ⟨(List.forall_mem_cons.mpr ⟨ilX3_readLine_wsX3_readLine_r3 _ (List.mem_of_getElem? (i := 15) rfl), (List.forall_mem_cons.mpr ⟨ilX3_readLine_wsX3_readLine_r3 _ (List.mem_of_getElem? (i := 16) rfl), (List.forall_mem_cons.mpr ⟨ilX3_readLine_wsX3_readLine_r3 _ (List.mem_of_getElem? (i := 17) rfl), (List.forall_mem_cons.mpr ⟨ilX3_readLine_wsX3_readLine_r3 _ (List.mem_of_getElem? (i := 18) rfl), (List.forall_mem_cons.mpr ⟨ilX3_readLine_wsX3_readLine_r3 _ (List.mem_of_getElem? (i := 19) rfl), (List.forall_mem_cons.mpr ⟨ilX3_readLine_wsX3_readLine_r3 _ (List.mem_of_getElem? (i := 20) rfl), (List.forall_mem_cons.mpr ⟨ilX3_readLine_wsX3_readLine_r3 _ (List.mem_of_getElem? (i := 21) rfl), (List.forall_mem_cons.mpr ⟨ilX3_readLine_wsX3_readLine_r3 _ (List.mem_of_getElem? (i := 22) rfl), (List.forall_mem_cons.mpr ⟨ilX3_readLine_wsX3_readLine_r1 _ (List.mem_of_getElem? (i := 3) rfl), (List.forall_mem_cons.mpr ⟨ilX3_readLine_wsX3_readLine_r3 _ (List.mem_of_getElem? (i := 23) rfl), (List.forall_mem_cons.mpr ⟨ilX3_readLine_wsX3_readLine_r1 _ (List.mem_of_getElem? (i := 6) rfl), (List.forall_mem_cons.mpr ⟨ilX3_readLine_wsX3_readLine_r1 _ (List.mem_of_getElem? (i := 7) rfl), (List.forall_mem_cons.mpr ⟨ilX3_readLine_wsX3_readLine_r1 _ (List.mem_of_getElem? (i := 8) rfl), (List.forall_mem_cons.mpr ⟨ilX3_readLine_wsX3_readLine_r4 _ (List.mem_of_getElem? (i := 0) rfl), (List.forall_mem_cons.mpr ⟨ilX3_readLine_wsX3_readLine_r1 _ (List.mem_of_getElem? (i := 5) rfl), (List.forall_mem_cons.mpr ⟨ilX3_readLine_wsX3_readLine_r1 _ (List.mem_of_getElem? (i := 9) rfl), (List.forall_mem_cons.mpr ⟨ilX3_readLine_wsX3_readLine_r4 _ (List.mem_of_getElem? (i := 1) rfl), (List.forall_mem_cons.mpr ⟨ilX3_readLine_wsX3_readLine_r4 _ (List.mem_of_getElem? (i := 2) rfl), (List.forall_mem_cons.mpr ⟨ilX3_readLine_wsX3_readLine_r4 _ (List.mem_of_getElem? (i := 3) rfl), (List.forall_mem_cons.mpr ⟨ilX3_readLine_wsX3_readLine_r4 _ (List.mem_of_getElem? (i := 4) rfl), (List.forall_mem_cons.mpr ⟨ilX3_readLine_wsX3_readLine_r4 _ (List.mem_of_getElem? (i := 5) rfl), (List.forall_mem_cons.mpr ⟨ilX3_readLine_wsX3_readLine_r4 _ (List.mem_of_getElem? (i := 6) rfl), (List.forall_mem_cons.mpr ⟨ilX3_readLine_wsX3_readLine_r4 _ (List.mem_of_getElem? (i := 7) rfl), (List.forall_mem_cons.mpr ⟨ilX3_readLine_wsX3_readLine_r4 _ (List.mem_of_getElem? (i := 8) rfl), (fun _ h => absurd h List.not_mem_nil)⟩)⟩)⟩)⟩)⟩)⟩)⟩)⟩)⟩)⟩)⟩)⟩)⟩)⟩)⟩)⟩)⟩)⟩)⟩)⟩)⟩)⟩)⟩)⟩), (List.forall_mem_cons.mpr ⟨ilX3_readLine_wsX3_readLine_r4 _ (List.mem_of_getElem? (i := 9) rfl), (List.forall_mem_cons.mpr ⟨ilX3_readLine_wsX3_readLine_r4 _ (List.mem_of_getElem? (i := 10) rfl), (List.forall_mem_cons.mpr ⟨ilX3_readLine_wsX3_readLine_r4 _ (List.mem_of_getElem? (i := 11) rfl), (List.forall_mem_cons.mpr ⟨ilX3_readLine_wsX3_readLine_r4 _ (List.mem_of_getElem? (i := 12) rfl), (List.forall_mem_cons.mpr ⟨ilX3_readLine_wsX3_readLine_r4 _ (List.mem_of_getElem? (i := 13) rfl), (List.forall_mem_cons.mpr ⟨ilX3_readLine_wsX3_readLine_r4 _ (List.mem_of_getElem? (i := 14) rfl), (List.forall_mem_cons.mpr ⟨ilX3_readLine_wsX3_readLine_r4 _ (List.mem_of_getElem? (i := 15) rfl), (List.forall_mem_cons.mpr ⟨ilX3_readLine_wsX3_readLine_r4 _ (List.mem_of_getElem? (i := 16) rfl), (List.forall_mem_cons.mpr ⟨ilX3_readLine_wsX3_readLine_r4 _ (List.mem_of_getElem? (i := 17) rfl), (List.forall_mem_cons.mpr ⟨ilX3_readLine_wsX3_readLine_r4 _ (List.mem_of_getElem? (i := 18) rfl), (List.forall_mem_cons.mpr ⟨ilX3_readLine_wsX3_readLine_r4 _ (List.mem_of_getElem? (i := 19) rfl), (List.forall_mem_cons.mpr ⟨ilX3_readLine_wsX3_readLine_r4 _ (List.mem_of_getElem? (i := 20) rfl), (List.forall_mem_cons.mpr ⟨ilX3_readLine_wsX3_readLine_r4 _ (List.mem_of_getElem? (i := 21) rfl), (List.forall_mem_cons.mpr ⟨ilX3_readLine_wsX3_readLine_r4 _ (List.mem_of_getElem? (i := 22) rfl), (List.forall_mem_cons.mpr ⟨ilX3_readLine_wsX3_readLine_r4 _ (List.mem_of_getElem? (i := 23) rfl), (List.forall_mem_cons.mpr ⟨ilX3_readLine_wsX3_readLine_r5 _ (List.mem_of_getElem? (i := 0) rfl), (List.forall_mem_cons.mpr ⟨ilX3_readLine_wsX3_readLine_r5 _ (List.mem_of_getElem? (i := 1) rfl), (List.forall_mem_cons.mpr ⟨ilX3_readLine_wsX3_readLine_r5 _ (List.mem_of_getElem? (i := 2) rfl), (List.forall_mem_cons.mpr ⟨ilX3_readLine_wsX3_readLine_r5 _ (List.mem_of_getElem? (i := 3) rfl), (fun _ h => absurd h List.not_mem_nil)⟩)⟩)⟩)⟩)⟩)⟩)⟩)⟩)⟩)⟩)⟩)⟩)⟩)⟩)⟩)⟩)⟩)⟩)⟩)⟩), ilX3_readLine_wsX30⟩), ilX3_readLine_wsX10⟩), ilX3_readLine_wsX50⟩)⟩) (by decide +kernel)
set_option maxRecDepth 20000 in
theorem gX3_readLine_X3_readMoon : GoodIn wsX3_readLine (wsV RX3 81 RX3 yX3_readMoon wsX3_readMoon) := goodIn_app (goodIn_sub (List.forall_mem_cons.mpr ⟨ilX3_readLine_wsX3_readLine_r3 _ (List.mem_of_getElem? (i := 11) rfl), (List.forall_mem_cons.mpr ⟨ilX3_readLine_wsX3_readLine_r3 _ (List.mem_of_getElem? (i := 12) rfl), (List.forall_mem_cons.mpr ⟨ilX3_readLine_wsX3_readLine_r3 _ (List.mem_of_getElem? (i := 13) rfl), (List.forall_mem_cons.mpr ⟨ilX3_readLine_wsX3_readLine_r1 _ (List.mem_of_getElem? (i := 3) rfl), (fun _ h => absurd h List.not_mem_nil)⟩)⟩)⟩)⟩) (by decide +kernel)) ggX3_readLine_X3_readMoon
set_option maxRecDepth 20000 in
theorem ggX3_readLine_X3_readStrike : GoodIn wsX3_readLine wsX3_readStrike := goodIn_sub (List.forall_mem_cons.mpr ⟨ilX3_readLine_wsX3_readLine_r5 _ (List.mem_of_getElem? (i := 7) rfl), (List.forall_mem_append.mpr ⟨(List.forall_mem_append.mpr ⟨(List.forall_mem_append.mpr ⟨(List.forall_mem_append.mpr ⟨(List.forall_mem_cons.mpr ⟨ilX3_readLine_wsX3_readLine_r5 _ (List.mem_of_getElem? (i := 8) rfl), (List.forall_mem_cons.mpr ⟨ilX3_readLine_wsX3_readLine_r3 _ (List.mem_of_getElem? (i := 16) rfl), (List.forall_mem_cons.mpr ⟨ilX3_readLine_wsX3_readLine_r3 _ (List.mem_of_getElem? (i := 17) rfl), (List.forall_mem_cons.mpr ⟨ilX3_readLine_wsX3_readLine_r5 _ (List.mem_of_getElem? (i := 9) rfl), (List.forall_mem_cons.mpr ⟨ilX3_readLine_wsX3_readLine_r5 _ (List.mem_of_getElem? (i := 10) rfl), (List.forall_mem_cons.mpr ⟨ilX3_readLine_wsX3_readLine_r3 _ (List.mem_of_getElem? (i := 20) rfl), (List.forall_mem_cons.mpr ⟨ilX3_readLine_wsX3_readLine_r3 _ (List.mem_of_getElem? (i := 21) rfl), (List.forall_mem_cons.mpr ⟨ilX3_readLine_wsX3_readLine_r3 _ (List.mem_of_getElem? (i := 22) rfl), (List.forall_mem_cons.mpr ⟨ilX3_readLine_wsX3_readLine_r1 _ (List.mem_of_getElem? (i := 3) rfl), (List.forall_mem_cons.mpr ⟨ilX3_readLine_wsX3_readLine_r3 _ (List.mem_of_getElem? (i := 23) rfl), (List.forall_mem_cons.mpr ⟨ilX3_readLine_wsX3_readLine_r1 _ (List.mem_of_getElem? (i := 6) rfl), (List.forall_mem_cons.mpr ⟨ilX3_readLine_wsX3_readLine_r1 _ (List.mem_of_getElem? (i := 7) rfl), (List.forall_mem_cons.mpr ⟨ilX3_readLine_wsX3_readLine_r1 _ (List.mem_of_getElem? (i := 8) rfl), (List.forall_mem_cons.mpr ⟨ilX3_readLine_wsX3_readLine_r4 _ (List.mem_of_getElem? (i := 0) rfl), (List.forall_mem_cons.mpr ⟨ilX3_readLine_wsX3_readLine_r1 _ (List.mem_of_getElem? (i := 5) rfl), (List.forall_mem_cons.mpr ⟨ilX3_readLine_wsX3_readLine_r1 _ (List.mem_of_getElem? (i := 9) rfl), (List.forall_mem_cons.mpr ⟨ilX3_readLine_wsX3_readLine_r4 _ (List.mem_of_getElem? (i := 1) rfl), (List.forall_mem_cons.mpr ⟨ilX3_readLine_wsX3_readLine_r4 _ (List.mem_of_getElem? (i := 2) rfl), (List.forall_mem_cons.mpr ⟨ilX3_readLine_wsX3_readLine_r4 _ (List.mem_of_getElem? (i := 3) rfl), (List.forall_mem_cons.mpr ⟨ilX3_readLine_wsX3_readLine_r4 _ (List.mem_of_getElem? (i := 4) rfl), (List.forall_mem_cons.mpr ⟨ilX3_readLine_wsX3_readLine_r4 _ (List.mem_of_getElem? (i := 5) rfl), (List.forall_mem_cons.mpr ⟨ilX3_readLine_wsX3_readLine_r4 _ (List.mem_of_getElem? (i := 6) rfl), (List.forall_mem_cons.mpr ⟨ilX3_readLine_wsX3_readLine_r4 _ (List.mem_of_getElem? (i := 7) rfl), (List.forall_mem_cons.mpr ⟨ilX3_readLine_wsX3_readLine_r4 _ (List.mem_of_getElem? (i := 8) rfl), (fun _ h => absurd h List.not_mem_nil)⟩)⟩)⟩)⟩)⟩)⟩)⟩)⟩)⟩)⟩)⟩)⟩)⟩)⟩)⟩)⟩)⟩)⟩)⟩)⟩)⟩)⟩)⟩)⟩), (List.forall_mem_cons.mpr ⟨ilX3_readLine_wsX3_readLine_r4 _ (List.mem_of_getElem? (i := 9) rfl), (List.forall_mem_cons.mpr ⟨ilX3_readLine_wsX3_readLine_r4 _ (List.mem_of_getElem? (i := 10) rfl), (List.forall_mem_cons.mpr ⟨ilX3_readLine_wsX3_readLine_r4 _ (List.mem_of_getElem? (i := 11) rfl), (List.forall_mem_cons.mpr ⟨ilX3_readLine_wsX3_readLine_r4 _ (List.mem_of_getElem? (i := 12) rfl), (List.forall_mem_cons.mpr ⟨ilX3_readLine_wsX3_readLine_r4 _ (List.mem_of_getElem? (i := 13) rfl), (List.forall_mem_cons.mpr ⟨ilX3_readLine_wsX3_readLine_r4 _ (List.mem_of_getElem? (i := 14) rfl), (List.forall_mem_cons.mpr ⟨ilX3_readLine_wsX3_readLine_r4 _ (List.mem_of_getElem? (i := 15) rfl), (List.forall_mem_cons.mpr ⟨ilX3_readLine_wsX3_readLine_r4 _ (List.mem_of_getElem? (i := 16) rfl), (List.forall_mem_cons.mpr ⟨ilX3_readLine_wsX3_readLine_r4 _ (List.mem_of_getElem? (i := 17) rfl), (List.forall_mem_cons.mpr ⟨ilX3_readLine_wsX3_readLine_r4 _ (List.mem_of_getElem? (i := 18) rfl), (List.forall_mem_cons.mpr ⟨ilX3_readLine_wsX3_readLine_r4 _ (List.mem_of_getElem? (i := 19) rfl), (List.forall_mem_cons.mpr ⟨ilX3_readLine_wsX3_readLine_r4 _ (List.mem_of_getElem? (i := 20) rfl), (List.forall_mem_cons.mpr ⟨ilX3_readLine_wsX3_readLine_r4 _ (List.mem_of_getElem? (i := 21) rfl), (List.forall_mem_cons.mpr ⟨ilX3_readLine_wsX3_readLine_r4 _ (List.mem_of_getElem? (i := 22) rfl), (List.forall_mem_cons.mpr ⟨ilX3_readLine_wsX3_readLine_r4 _ (List.mem_of_getElem? (i := 23) rfl), (List.forall_mem_cons.mpr ⟨ilX3_readLine_wsX3_readLine_r5 _ (List.mem_of_getElem? (i := 0) rfl), (List.forall_mem_cons.mpr ⟨ilX3_readLine_wsX3_readLine_r5 _ (List.mem_of_getElem? (i := 1) rfl), (List.forall_mem_cons.mpr ⟨ilX3_readLine_wsX3_readLine_r5 _ (List.mem_of_getElem? (i := 2) rfl), (List.forall_mem_cons.mpr ⟨ilX3_readLine_wsX3_readLine_r5 _ (List.mem_of_getElem? (i := 3) rfl), (fun _ h => absurd h List.not_mem_nil)⟩)⟩)⟩)⟩)⟩)⟩)⟩)⟩)⟩)⟩)⟩)⟩)⟩)⟩)⟩)⟩)⟩)⟩)⟩)⟩), ilX3_readLine_wsX30⟩), ilX3_readLine_wsX10⟩), ilX3_readLine_wsX50⟩)⟩) (by decide +kernel)
set_option maxRecDepth 20000 in
theorem gX3_readLine_X3_readStrike : GoodIn wsX3_readLine (wsV RX3 86 RX3 yX3_readStrike wsX3_readStrike) := goodIn_app (goodIn_sub (List.forall_mem_cons.mpr ⟨ilX3_readLine_wsX3_readLine_r5 _ (List.mem_of_getElem? (i := 4) rfl), (List.forall_mem_cons.mpr ⟨ilX3_readLine_wsX3_readLine_r5 _ (List.mem_of_getElem? (i := 5) rfl), (List.forall_mem_cons.mpr ⟨ilX3_readLine_wsX3_readLine_r5 _ (List.mem_of_getElem? (i := 6) rfl), (List.forall_mem_cons.mpr ⟨ilX3_readLine_wsX3_readLine_r1 _ (List.mem_of_getElem? (i := 3) rfl), (fun _ h => absurd h List.not_mem_nil)⟩)⟩)⟩)⟩) (by decide +kernel)) ggX3_readLine_X3_readStrike
set_option maxRecDepth 20000 in
theorem ggX3_readLine_X3_readWait : GoodIn wsX3_readLine wsX3_readWait := goodIn_sub (List.forall_mem_cons.mpr ⟨ilX3_readLine_wsX3_readLine_r5 _ (List.mem_of_getElem? (i := 14) rfl), (List.forall_mem_append.mpr ⟨(List.forall_mem_append.mpr ⟨(List.forall_mem_append.mpr ⟨(List.forall_mem_append.mpr ⟨(List.forall_mem_cons.mpr ⟨ilX3_readLine_wsX3_readLine_r5 _ (List.mem_of_getElem? (i := 15) rfl), (List.forall_mem_cons.mpr ⟨ilX3_readLine_wsX3_readLine_r3 _ (List.mem_of_getElem? (i := 16) rfl), (List.forall_mem_cons.mpr ⟨ilX3_readLine_wsX3_readLine_r3 _ (List.mem_of_getElem? (i := 17) rfl), (List.forall_mem_cons.mpr ⟨ilX3_readLine_wsX3_readLine_r5 _ (List.mem_of_getElem? (i := 16) rfl), (List.forall_mem_cons.mpr ⟨ilX3_readLine_wsX3_readLine_r3 _ (List.mem_of_getElem? (i := 20) rfl), (List.forall_mem_cons.mpr ⟨ilX3_readLine_wsX3_readLine_r3 _ (List.mem_of_getElem? (i := 21) rfl), (List.forall_mem_cons.mpr ⟨ilX3_readLine_wsX3_readLine_r3 _ (List.mem_of_getElem? (i := 22) rfl), (List.forall_mem_cons.mpr ⟨ilX3_readLine_wsX3_readLine_r1 _ (List.mem_of_getElem? (i := 3) rfl), (List.forall_mem_cons.mpr ⟨ilX3_readLine_wsX3_readLine_r3 _ (List.mem_of_getElem? (i := 23) rfl), (List.forall_mem_cons.mpr ⟨ilX3_readLine_wsX3_readLine_r1 _ (List.mem_of_getElem? (i := 6) rfl), (List.forall_mem_cons.mpr ⟨ilX3_readLine_wsX3_readLine_r1 _ (List.mem_of_getElem? (i := 7) rfl), (List.forall_mem_cons.mpr ⟨ilX3_readLine_wsX3_readLine_r1 _ (List.mem_of_getElem? (i := 8) rfl), (List.forall_mem_cons.mpr ⟨ilX3_readLine_wsX3_readLine_r4 _ (List.mem_of_getElem? (i := 0) rfl), (List.forall_mem_cons.mpr ⟨ilX3_readLine_wsX3_readLine_r1 _ (List.mem_of_getElem? (i := 5) rfl), (List.forall_mem_cons.mpr ⟨ilX3_readLine_wsX3_readLine_r1 _ (List.mem_of_getElem? (i := 9) rfl), (List.forall_mem_cons.mpr ⟨ilX3_readLine_wsX3_readLine_r4 _ (List.mem_of_getElem? (i := 1) rfl), (List.forall_mem_cons.mpr ⟨ilX3_readLine_wsX3_readLine_r4 _ (List.mem_of_getElem? (i := 2) rfl), (List.forall_mem_cons.mpr ⟨ilX3_readLine_wsX3_readLine_r4 _ (List.mem_of_getElem? (i := 3) rfl), (List.forall_mem_cons.mpr ⟨ilX3_readLine_wsX3_readLine_r4 _ (List.mem_of_getElem? (i := 4) rfl), (List.forall_mem_cons.mpr ⟨ilX3_readLine_wsX3_readLine_r4 _ (List.mem_of_getElem? (i := 5) rfl), (List.forall_mem_cons.mpr ⟨ilX3_readLine_wsX3_readLine_r4 _ (List.mem_of_getElem? (i := 6) rfl), (List.forall_mem_cons.mpr ⟨ilX3_readLine_wsX3_readLine_r4 _ (List.mem_of_getElem? (i := 7) rfl), (List.forall_mem_cons.mpr ⟨ilX3_readLine_wsX3_readLine_r4 _ (List.mem_of_getElem? (i := 8) rfl), (List.forall_mem_cons.mpr ⟨ilX3_readLine_wsX3_readLine_r4 _ (List.mem_of_getElem? (i := 9) rfl), (fun _ h => absurd h List.not_mem_nil)⟩)⟩)⟩)⟩)⟩)⟩)⟩)⟩)⟩)⟩)⟩)⟩)⟩)⟩)⟩)⟩)⟩)⟩)⟩)⟩)⟩)⟩)⟩)⟩), (List.forall_mem_cons.mpr ⟨ilX3_readLine_wsX3_readLine_r4 _ (List.mem_of_getElem? (i := 10) rfl), (List.forall_mem_cons.mpr ⟨ilX3_readLine_wsX3_readLine_r4 _ (List.mem_of_getElem? (i := 11) rfl), (List.forall_mem_cons.mpr ⟨ilX3_readLine_wsX3_readLine_r4 _ (List.mem_of_getElem? (i := 12) rfl), (List.forall_mem_cons.mpr ⟨ilX3_readLine_wsX3_readLine_r4 _ (List.mem_of_getElem? (i := 13) rfl), (List.forall_mem_cons.mpr ⟨ilX3_readLine_wsX3_readLine_r4 _ (List.mem_of_getElem? (i := 14) rfl), (List.forall_mem_cons.mpr ⟨ilX3_readLine_wsX3_readLine_r4 _ (List.mem_of_getElem? (i := 15) rfl), (List.forall_mem_cons.mpr ⟨ilX3_readLine_wsX3_readLine_r4 _ (List.mem_of_getElem? (i := 16) rfl), (List.forall_mem_cons.mpr ⟨ilX3_readLine_wsX3_readLine_r4 _ (List.mem_of_getElem? (i := 17) rfl), (List.forall_mem_cons.mpr ⟨ilX3_readLine_wsX3_readLine_r4 _ (List.mem_of_getElem? (i := 18) rfl), (List.forall_mem_cons.mpr ⟨ilX3_readLine_wsX3_readLine_r4 _ (List.mem_of_getElem? (i := 19) rfl), (List.forall_mem_cons.mpr ⟨ilX3_readLine_wsX3_readLine_r4 _ (List.mem_of_getElem? (i := 20) rfl), (List.forall_mem_cons.mpr ⟨ilX3_readLine_wsX3_readLine_r4 _ (List.mem_of_getElem? (i := 21) rfl), (List.forall_mem_cons.mpr ⟨ilX3_readLine_wsX3_readLine_r4 _ (List.mem_of_getElem? (i := 22) rfl), (List.forall_mem_cons.mpr ⟨ilX3_readLine_wsX3_readLine_r4 _ (List.mem_of_getElem? (i := 23) rfl), (List.forall_mem_cons.mpr ⟨ilX3_readLine_wsX3_readLine_r5 _ (List.mem_of_getElem? (i := 0) rfl), (List.forall_mem_cons.mpr ⟨ilX3_readLine_wsX3_readLine_r5 _ (List.mem_of_getElem? (i := 1) rfl), (List.forall_mem_cons.mpr ⟨ilX3_readLine_wsX3_readLine_r5 _ (List.mem_of_getElem? (i := 2) rfl), (List.forall_mem_cons.mpr ⟨ilX3_readLine_wsX3_readLine_r5 _ (List.mem_of_getElem? (i := 3) rfl), (fun _ h => absurd h List.not_mem_nil)⟩)⟩)⟩)⟩)⟩)⟩)⟩)⟩)⟩)⟩)⟩)⟩)⟩)⟩)⟩)⟩)⟩)⟩)⟩), ilX3_readLine_wsX30⟩), ilX3_readLine_wsX10⟩), ilX3_readLine_wsX50⟩)⟩) (by decide +kernel)
set_option maxRecDepth 20000 in
theorem gX3_readLine_X3_readWait : GoodIn wsX3_readLine (wsV RX3 91 RX3 yX3_readWait wsX3_readWait) := goodIn_app (goodIn_sub (List.forall_mem_cons.mpr ⟨ilX3_readLine_wsX3_readLine_r5 _ (List.mem_of_getElem? (i := 11) rfl), (List.forall_mem_cons.mpr ⟨ilX3_readLine_wsX3_readLine_r5 _ (List.mem_of_getElem? (i := 12) rfl), (List.forall_mem_cons.mpr ⟨ilX3_readLine_wsX3_readLine_r5 _ (List.mem_of_getElem? (i := 13) rfl), (List.forall_mem_cons.mpr ⟨ilX3_readLine_wsX3_readLine_r1 _ (List.mem_of_getElem? (i := 3) rfl), (fun _ h => absurd h List.not_mem_nil)⟩)⟩)⟩)⟩) (by decide +kernel)) ggX3_readLine_X3_readWait
set_option maxRecDepth 20000 in
theorem ggX3_readLine_X3_readSort : GoodIn wsX3_readLine wsX3_readSort := goodIn_sub (List.forall_mem_cons.mpr ⟨ilX3_readLine_wsX3_readLine_r5 _ (List.mem_of_getElem? (i := 20) rfl), (List.forall_mem_append.mpr ⟨(List.forall_mem_append.mpr ⟨(List.forall_mem_append.mpr ⟨(List.forall_mem_append.mpr ⟨(List.forall_mem_cons.mpr ⟨ilX3_readLine_wsX3_readLine_r3 _ (List.mem_of_getElem? (i := 16) rfl), (List.forall_mem_cons.mpr ⟨ilX3_readLine_wsX3_readLine_r5 _ (List.mem_of_getElem? (i := 21) rfl), (List.forall_mem_cons.mpr ⟨ilX3_readLine_wsX3_readLine_r5 _ (List.mem_of_getElem? (i := 22) rfl), (List.forall_mem_cons.mpr ⟨ilX3_readLine_wsX3_readLine_r1 _ (List.mem_of_getElem? (i := 7) rfl), (List.forall_mem_cons.mpr ⟨ilX3_readLine_wsX3_readLine_r5 _ (List.mem_of_getElem? (i := 23) rfl), (List.forall_mem_cons.mpr ⟨ilX3_readLine_wsX3_readLine_r1 _ (List.mem_of_getElem? (i := 6) rfl), (List.forall_mem_cons.mpr ⟨ilX3_readLine_wsX3_readLine_r6 _ (List.mem_of_getElem? (i := 0) rfl), (List.forall_mem_cons.mpr ⟨ilX3_readLine_wsX3_readLine_r6 _ (List.mem_of_getElem? (i := 1) rfl), (List.forall_mem_cons.mpr ⟨ilX3_readLine_wsX3_readLine_r6 _ (List.mem_of_getElem? (i := 2) rfl), (List.forall_mem_cons.mpr ⟨ilX3_readLine_wsX3_readLine_r3 _ (List.mem_of_getElem? (i := 17) rfl), (List.forall_mem_cons.mpr ⟨ilX3_readLine_wsX3_readLine_r3 _ (List.mem_of_getElem? (i := 20) rfl), (List.forall_mem_cons.mpr ⟨ilX3_readLine_wsX3_readLine_r3 _ (List.mem_of_getElem? (i := 21) rfl), (List.forall_mem_cons.mpr ⟨ilX3_readLine_wsX3_readLine_r3 _ (List.mem_of_getElem? (i := 22) rfl), (List.forall_mem_cons.mpr ⟨ilX3_readLine_wsX3_readLine_r1 _ (List.mem_of_getElem? (i := 3) rfl), (List.forall_mem_cons.mpr ⟨ilX3_readLine_wsX3_readLine_r3 _ (List.mem_of_getElem? (i := 23) rfl), (List.forall_mem_cons.mpr ⟨ilX3_readLine_wsX3_readLine_r1 _ (List.mem_of_getElem? (i := 8) rfl), (List.forall_mem_cons.mpr ⟨ilX3_readLine_wsX3_readLine_r4 _ (List.mem_of_getElem? (i := 0) rfl), (List.forall_mem_cons.mpr ⟨ilX3_readLine_wsX3_readLine_r1 _ (List.mem_of_getElem? (i := 5) rfl), (List.forall_mem_cons.mpr ⟨ilX3_readLine_wsX3_readLine_r1 _ (List.mem_of_getElem? (i := 9) rfl), (List.forall_mem_cons.mpr ⟨ilX3_readLine_wsX3_readLine_r4 _ (List.mem_of_getElem? (i := 1) rfl), (List.forall_mem_cons.mpr ⟨ilX3_readLine_wsX3_readLine_r4 _ (List.mem_of_getElem? (i := 2) rfl), (List.forall_mem_cons.mpr ⟨ilX3_readLine_wsX3_readLine_r4 _ (List.mem_of_getElem? (i := 3) rfl), (List.forall_mem_cons.mpr ⟨ilX3_readLine_wsX3_readLine_r4 _ (List.mem_of_getElem? (i := 4) rfl), (List.forall_mem_cons.mpr ⟨ilX3_readLine_wsX3_readLine_r4 _ (List.mem_of_getElem? (i := 5) rfl), (fun _ h => absurd h List.not_mem_nil)⟩)⟩)⟩)⟩)⟩)⟩)⟩)⟩)⟩)⟩)⟩)⟩)⟩)⟩)⟩)⟩)⟩)⟩)⟩)⟩)⟩)⟩)⟩)⟩), (List.forall_mem_append.mpr ⟨(List.forall_mem_cons.mpr ⟨ilX3_readLine_wsX3_readLine_r4 _ (List.mem_of_getElem? (i := 6) rfl), (List.forall_mem_cons.mpr ⟨ilX3_readLine_wsX3_readLine_r4 _ (List.mem_of_getElem? (i := 7) rfl), (List.forall_mem_cons.mpr ⟨ilX3_readLine_wsX3_readLine_r4 _ (List.mem_of_getElem? (i := 8) rfl), (List.forall_mem_cons.mpr ⟨ilX3_readLine_wsX3_readLine_r4 _ (List.mem_of_getElem? (i := 9) rfl), (List.forall_mem_cons.mpr ⟨ilX3_readLine_wsX3_readLine_r4 _ (List.mem_of_getElem? (i := 10) rfl), (List.forall_mem_cons.mpr ⟨ilX3_readLine_wsX3_readLine_r4 _ (List.mem_of_getElem? (i := 11) rfl), (List.forall_mem_cons.mpr ⟨ilX3_readLine_wsX3_readLine_r4 _ (List.mem_of_getElem? (i := 12) rfl), (List.forall_mem_cons.mpr ⟨ilX3_readLine_wsX3_readLine_r4 _ (List.mem_of_getElem? (i := 13) rfl), (List.forall_mem_cons.mpr ⟨ilX3_readLine_wsX3_readLine_r4 _ (List.mem_of_getElem? (i := 14) rfl), (List.forall_mem_cons.mpr ⟨ilX3_readLine_wsX3_readLine_r4 _ (List.mem_of_getElem? (i := 15) rfl), (List.forall_mem_cons.mpr ⟨ilX3_readLine_wsX3_readLine_r4 _ (List.mem_of_getElem? (i := 16) rfl), (List.forall_mem_cons.mpr ⟨ilX3_readLine_wsX3_readLine_r6 _ (List.mem_of_getElem? (i := 3) rfl), (List.forall_mem_cons.mpr ⟨ilX3_readLine_wsX3_readLine_r6 _ (List.mem_of_getElem? (i := 4) rfl), (List.forall_mem_cons.mpr ⟨ilX3_readLine_wsX3_readLine_r6 _ (List.mem_of_getElem? (i := 5) rfl), (List.forall_mem_cons.mpr ⟨ilX3_readLine_wsX3_readLine_r6 _ (List.mem_of_getElem? (i := 6) rfl), (List.forall_mem_cons.mpr ⟨ilX3_readLine_wsX3_readLine_r6 _ (List.mem_of_getElem? (i := 7) rfl), (List.forall_mem_cons.mpr ⟨ilX3_readLine_wsX3_readLine_r6 _ (List.mem_of_getElem? (i := 8) rfl), (List.forall_mem_cons.mpr ⟨ilX3_readLine_wsX3_readLine_r6 _ (List.mem_of_getElem? (i := 9) rfl), (List.forall_mem_cons.mpr ⟨ilX3_readLine_wsX3_readLine_r6 _ (List.mem_of_getElem? (i := 10) rfl), (List.forall_mem_cons.mpr ⟨ilX3_readLine_wsX3_readLine_r1 _ (List.mem_of_getElem? (i := 0) rfl), (List.forall_mem_cons.mpr ⟨ilX3_readLine_wsX3_readLine_r1 _ (List.mem_of_getElem? (i := 1) rfl), (List.forall_mem_cons.mpr ⟨ilX3_readLine_wsX3_readLine_r1 _ (List.mem_of_getElem? (i := 2) rfl), (List.forall_mem_cons.mpr ⟨ilX3_readLine_wsX3_readLine_r1 _ (List.mem_of_getElem? (i := 4) rfl), (List.forall_mem_cons.mpr ⟨ilX3_readLine_wsX3_readLine_r1 _ (List.mem_of_getElem? (i := 10) rfl), (fun _ h => absurd h List.not_mem_nil)⟩)⟩)⟩)⟩)⟩)⟩)⟩)⟩)⟩)⟩)⟩)⟩)⟩)⟩)⟩)⟩)⟩)⟩)⟩)⟩)⟩)⟩)⟩)⟩), (List.forall_mem_append.mpr ⟨(List.forall_mem_cons.mpr ⟨ilX3_readLine_wsX3_readLine_r1 _ (List.mem_of_getElem? (i := 11) rfl), (List.forall_mem_cons.mpr ⟨ilX3_readLine_wsX3_readLine_r1 _ (List.mem_of_getElem? (i := 12) rfl), (List.forall_mem_cons.mpr ⟨ilX3_readLine_wsX3_readLine_r1 _ (List.mem_of_getElem? (i := 13) rfl), (List.forall_mem_cons.mpr ⟨ilX3_readLine_wsX3_readLine_r1 _ (List.mem_of_getElem? (i := 14) rfl), (List.forall_mem_cons.mpr ⟨ilX3_readLine_wsX3_readLine_r1 _ (List.mem_of_getElem? (i := 15) rfl), (List.forall_mem_cons.mpr ⟨ilX3_readLine_wsX3_readLine_r1 _ (List.mem_of_getElem? (i := 16) rfl), (List.forall_mem_cons.mpr ⟨ilX3_readLine_wsX3_readLine_r1 _ (List.mem_of_getElem? (i := 17) rfl), (List.forall_mem_cons.mpr ⟨ilX3_readLine_wsX3_readLine_r1 _ (List.mem_of_getElem? (i := 18) rfl), (List.forall_mem_cons.mpr ⟨ilX3_readLine_wsX3_readLine_r1 _ (List.mem_of_getElem? (i := 19) rfl), (List.forall_mem_cons.mpr ⟨ilX3_readLine_wsX3_readLine_r1 _ (List.mem_of_getElem? (i := 20) rfl), (List.forall_mem_cons.mpr ⟨ilX3_readLine_wsX3_readLine_r1 _ (List.mem_of_getElem? (i := 21) rfl), (List.forall_mem_cons.mpr ⟨ilX3_readLine_wsX3_readLine_r1 _ (List.mem_of_getElem? (i := 22) rfl), (List.forall_mem_cons.mpr ⟨ilX3_readLine_wsX3_readLine_r1 _ (List.mem_of_getElem? (i := 23) rfl), (List.forall_mem_cons.mpr ⟨ilX3_readLine_wsX3_readLine_r2 _ (List.mem_of_getElem? (i := 0) rfl), (List.forall_mem_cons.mpr ⟨ilX3_readLine_wsX3_readLine_r2 _ (List.mem_of_getElem? (i := 1) rfl), (List.forall_mem_cons.mpr ⟨ilX3_readLine_wsX3_readLine_r2 _ (List.mem_of_getElem? (i := 2) rfl), (List.forall_mem_cons.mpr ⟨ilX3_readLine_wsX3_readLine_r2 _ (List.mem_of_getElem? (i := 3) rfl), (List.forall_mem_cons.mpr ⟨ilX3_readLine_wsX3_readLine_r2 _ (List.mem_of_getElem? (i := 4) rfl), (List.forall_mem_cons.mpr ⟨ilX3_readLine_wsX3_readLine_r2 _ (List.mem_of_getElem? (i := 5) rfl), (List.forall_mem_cons.mpr ⟨ilX3_readLine_wsX3_readLine_r2 _ (List.mem_of_getElem? (i := 6) rfl), (List.forall_mem_cons.mpr ⟨ilX3_readLine_wsX3_readLine_r2 _ (List.mem_of_getElem? (i := 7) rfl), (List.forall_mem_cons.mpr ⟨ilX3_readLine_wsX3_readLine_r2 _ (List.mem_of_getElem? (i := 8) rfl), (List.forall_mem_cons.mpr ⟨ilX3_readLine_wsX3_readLine_r2 _ (List.mem_of_getElem? (i := 9) rfl), (List.forall_mem_cons.mpr ⟨ilX3_readLine_wsX3_readLine_r2 _ (List.mem_of_getElem? (i := 10) rfl), (fun _ h => absurd h List.not_mem_nil)⟩)⟩)⟩)⟩)⟩)⟩)⟩)⟩)⟩)⟩)⟩)⟩)⟩)⟩)⟩)⟩)⟩)⟩)⟩)⟩)⟩)⟩)⟩)⟩), (List.forall_mem_append.mpr ⟨(List.forall_mem_cons.mpr ⟨ilX3_readLine_wsX3_readLine_r2 _ (List.mem_of_getElem? (i := 11) rfl), (List.forall_mem_cons.mpr ⟨ilX3_readLine_wsX3_readLine_r2 _ (List.mem_of_getElem? (i := 12) rfl), (List.forall_mem_cons.mpr ⟨ilX3_readLine_wsX3_readLine_r2 _ (List.mem_of_getElem? (i := 13) rfl), (List.forall_mem_cons.mpr ⟨ilX3_readLine_wsX3_readLine_r2 _ (List.mem_of_getElem? (i := 14) rfl), (List.forall_mem_cons.mpr ⟨ilX3_readLine_wsX3_readLine_r2 _ (List.mem_of_getElem? (i := 15) rfl), (List.forall_mem_cons.mpr ⟨ilX3_readLine_wsX3_readLine_r2 _ (List.mem_of_getElem? (i := 16) rfl), (List.forall_mem_cons.mpr ⟨ilX3_readLine_wsX3_readLine_r2 _ (List.mem_of_getElem? (i := 17) rfl), (List.forall_mem_cons.mpr ⟨ilX3_readLine_wsX3_readLine_r2 _ (List.mem_of_getElem? (i := 18) rfl), (List.forall_mem_cons.mpr ⟨ilX3_readLine_wsX3_readLine_r2 _ (List.mem_of_getElem? (i := 19) rfl), (List.forall_mem_cons.mpr ⟨ilX3_readLine_wsX3_readLine_r2 _ (List.mem_of_getElem? (i := 20) rfl), (List.forall_mem_cons.mpr ⟨ilX3_readLine_wsX3_readLine_r2 _ (List.mem_of_getElem? (i := 21) rfl), (List.forall_mem_cons.mpr ⟨ilX3_readLine_wsX3_readLine_r2 _ (List.mem_of_getElem? (i := 22) rfl), (List.forall_mem_cons.mpr ⟨ilX3_readLine_wsX3_readLine_r2 _ (List.mem_of_getElem? (i := 23) rfl), (List.forall_mem_cons.mpr ⟨ilX3_readLine_wsX3_readLine_r3 _ (List.mem_of_getElem? (i := 0) rfl), (List.forall_mem_cons.mpr ⟨ilX3_readLine_wsX3_readLine_r3 _ (List.mem_of_getElem? (i := 1) rfl), (List.forall_mem_cons.mpr ⟨ilX3_readLine_wsX3_readLine_r3 _ (List.mem_of_getElem? (i := 2) rfl), (List.forall_mem_cons.mpr ⟨ilX3_readLine_wsX3_readLine_r3 _ (List.mem_of_getElem? (i := 3) rfl), (List.forall_mem_cons.mpr ⟨ilX3_readLine_wsX3_readLine_r3 _ (List.mem_of_getElem? (i := 4) rfl), (List.forall_mem_cons.mpr ⟨ilX3_readLine_wsX3_readLine_r3 _ (List.mem_of_getElem? (i := 5) rfl), (List.forall_mem_cons.mpr ⟨ilX3_readLine_wsX3_readLine_r3 _ (List.mem_of_getElem? (i := 6) rfl), (List.forall_mem_cons.mpr ⟨ilX3_readLine_wsX3_readLine_r3 _ (List.mem_of_getElem? (i := 7) rfl), (List.forall_mem_cons.mpr ⟨ilX3_readLine_wsX3_readLine_r3 _ (List.mem_of_getElem? (i := 8) rfl), (List.forall_mem_cons.mpr ⟨ilX3_readLine_wsX3_readLine_r3 _ (List.mem_of_getElem? (i := 9) rfl), (List.forall_mem_cons.mpr ⟨ilX3_readLine_wsX3_readLine_r3 _ (List.mem_of_getElem? (i := 10) rfl), (fun _ h => absurd h List.not_mem_nil)⟩)⟩)⟩)⟩)⟩)⟩)⟩)⟩)⟩)⟩)⟩)⟩)⟩)⟩)⟩)⟩)⟩)⟩)⟩)⟩)⟩)⟩)⟩)⟩), (List.forall_mem_append.mpr ⟨(List.forall_mem_cons.mpr ⟨ilX3_readLine_wsX3_readLine_r6 _ (List.mem_of_getElem? (i := 11) rfl), (List.forall_mem_cons.mpr ⟨ilX3_readLine_wsX3_readLine_r6 _ (List.mem_of_getElem? (i := 12) rfl), (List.forall_mem_cons.mpr ⟨ilX3_readLine_wsX3_readLine_r6 _ (List.mem_of_getElem? (i := 13) rfl), (List.forall_mem_cons.mpr ⟨ilX3_readLine_wsX3_readLine_r6 _ (List.mem_of_getElem? (i := 14) rfl), (List.forall_mem_cons.mpr ⟨ilX3_readLine_wsX3_readLine_r6 _ (List.mem_of_getElem? (i := 15) rfl), (List.forall_mem_cons.mpr ⟨ilX3_readLine_wsX3_readLine_r6 _ (List.mem_of_getElem? (i := 16) rfl), (List.forall_mem_cons.mpr ⟨ilX3_readLine_wsX3_readLine_r6 _ (List.mem_of_getElem? (i := 17) rfl), (List.forall_mem_cons.mpr ⟨ilX3_readLine_wsX3_readLine_r6 _ (List.mem_of_getElem? (i := 18) rfl), (List.forall_mem_cons.mpr ⟨ilX3_readLine_wsX3_readLine_r4 _ (List.mem_of_getElem? (i := 17) rfl), (List.forall_mem_cons.mpr ⟨ilX3_readLine_wsX3_readLine_r4 _ (List.mem_of_getElem? (i := 18) rfl), (List.forall_mem_cons.mpr ⟨ilX3_readLine_wsX3_readLine_r4 _ (List.mem_of_getElem? (i := 19) rfl), (List.forall_mem_cons.mpr ⟨ilX3_readLine_wsX3_readLine_r4 _ (List.mem_of_getElem? (i := 20) rfl), (List.forall_mem_cons.mpr ⟨ilX3_readLine_wsX3_readLine_r4 _ (List.mem_of_getElem? (i := 21) rfl), (List.forall_mem_cons.mpr ⟨ilX3_readLine_wsX3_readLine_r4 _ (List.mem_of_getElem? (i := 22) rfl), (List.forall_mem_cons.mpr ⟨ilX3_readLine_wsX3_readLine_r4 _ (List.mem_of_getElem? (i := 23) rfl), (List.forall_mem_cons.mpr ⟨ilX3_readLine_wsX3_readLine_r6 _ (List.mem_of_getElem? (i := 19) rfl), (List.forall_mem_cons.mpr ⟨ilX3_readLine_wsX3_readLine_r6 _ (List.mem_of_getElem? (i := 20) rfl), (List.forall_mem_cons.mpr ⟨ilX3_readLine_wsX3_readLine_r6 _ (List.mem_of_getElem? (i := 21) rfl), (List.forall_mem_cons.mpr ⟨ilX3_readLine_wsX3_readLine_r6 _ (List.mem_of_getElem? (i := 22) rfl), (List.forall_mem_cons.mpr ⟨ilX3_readLine_wsX3_readLine_r6 _ (List.mem_of_getElem? (i := 23) rfl), (List.forall_mem_cons.mpr ⟨ilX3_readLine_wsX3_readLine_r7 _ (List.mem_of_getElem? (i := 0) rfl), (List.forall_mem_cons.mpr ⟨ilX3_readLine_wsX3_readLine_r7 _ (List.mem_of_getElem? (i := 1) rfl), (List.forall_mem_cons.mpr ⟨ilX3_readLine_wsX3_readLine_r7 _ (List.mem_of_getElem? (i := 2) rfl), (List.forall_mem_cons.mpr ⟨ilX3_readLine_wsX3_readLine_r7 _ (List.mem_of_getElem? (i := 3) rfl), (fun _ h => absurd h List.not_mem_nil)⟩)⟩)⟩)⟩)⟩)⟩)⟩)⟩)⟩)⟩)⟩)⟩)⟩)⟩)⟩)⟩)⟩)⟩)⟩)⟩)⟩)⟩)⟩)⟩), (List.forall_mem_cons.mpr ⟨ilX3_readLine_wsX3_readLine_r7 _ (List.mem_of_getElem? (i := 4) rfl), (List.forall_mem_cons.mpr ⟨ilX3_readLine_wsX3_readLine_r7 _ (List.mem_of_getElem? (i := 5) rfl), (List.forall_mem_cons.mpr ⟨ilX3_readLine_wsX3_readLine_r7 _ (List.mem_of_getElem? (i := 6) rfl), (List.forall_mem_cons.mpr ⟨ilX3_readLine_wsX3_readLine_r5 _ (List.mem_of_getElem? (i := 0) rfl), (List.forall_mem_cons.mpr ⟨ilX3_readLine_wsX3_readLine_r5 _ (List.mem_of_getElem? (i := 1) rfl), (List.forall_mem_cons.mpr ⟨ilX3_readLine_wsX3_readLine_r5 _ (List.mem_of_getElem? (i := 2) rfl), (List.forall_mem_cons.mpr ⟨ilX3_readLine_wsX3_readLine_r5 _ (List.mem_of_getElem? (i := 3) rfl), (fun _ h => absurd h List.not_mem_nil)⟩)⟩)⟩)⟩)⟩)⟩)⟩)⟩)⟩)⟩)⟩)⟩), ilX3_readLine_wsX30⟩), ilX3_readLine_wsX10⟩), ilX3_readLine_wsX50⟩)⟩) (by decide +kernel)
set_option maxRecDepth 20000 in
theorem gX3_readLine_X3_readSort : GoodIn wsX3_readLine (wsV RX3 96 RX3 yX3_readSort wsX3_readSort) := goodIn_app (goodIn_sub (List.forall_mem_cons.mpr ⟨ilX3_readLine_wsX3_readLine_r5 _ (List.mem_of_getElem? (i := 17) rfl), (List.forall_mem_cons.mpr ⟨ilX3_readLine_wsX3_readLine_r5 _ (List.mem_of_getElem? (i := 18) rfl), (List.forall_mem_cons.mpr ⟨ilX3_readLine_wsX3_readLine_r5 _ (List.mem_of_getElem? (i := 19) rfl), (List.forall_mem_cons.mpr ⟨ilX3_readLine_wsX3_readLine_r1 _ (List.mem_of_getElem? (i := 3) rfl), (fun _ h => absurd h List.not_mem_nil)⟩)⟩)⟩)⟩) (by decide +kernel)) ggX3_readLine_X3_readSort
set_option maxRecDepth 20000 in
theorem ggX3_readLine_X3_readSpare : GoodIn wsX3_readLine wsX3_readSpare := goodIn_sub (List.forall_mem_cons.mpr ⟨ilX3_readLine_wsX3_readLine_r7 _ (List.mem_of_getElem? (i := 10) rfl), (List.forall_mem_append.mpr ⟨(List.forall_mem_append.mpr ⟨(List.forall_mem_append.mpr ⟨(List.forall_mem_append.mpr ⟨(List.forall_mem_cons.mpr ⟨ilX3_readLine_wsX3_readLine_r3 _ (List.mem_of_getElem? (i := 16) rfl), (List.forall_mem_cons.mpr ⟨ilX3_readLine_wsX3_readLine_r7 _ (List.mem_of_getElem? (i := 11) rfl), (List.forall_mem_cons.mpr ⟨ilX3_readLine_wsX3_readLine_r3 _ (List.mem_of_getElem? (i := 20) rfl), (List.forall_mem_cons.mpr ⟨ilX3_readLine_wsX3_readLine_r3 _ (List.mem_of_getElem? (i := 21) rfl), (List.forall_mem_cons.mpr ⟨ilX3_readLine_wsX3_readLine_r3 _ (List.mem_of_getElem? (i := 22) rfl), (List.forall_mem_cons.mpr ⟨ilX3_readLine_wsX3_readLine_r1 _ (List.mem_of_getElem? (i := 3) rfl), (List.forall_mem_cons.mpr ⟨ilX3_readLine_wsX3_readLine_r3 _ (List.mem_of_getElem? (i := 23) rfl), (List.forall_mem_cons.mpr ⟨ilX3_readLine_wsX3_readLine_r1 _ (List.mem_of_getElem? (i := 6) rfl), (List.forall_mem_cons.mpr ⟨ilX3_readLine_wsX3_readLine_r1 _ (List.mem_of_getElem? (i := 7) rfl), (List.forall_mem_cons.mpr ⟨ilX3_readLine_wsX3_readLine_r1 _ (List.mem_of_getElem? (i := 8) rfl), (List.forall_mem_cons.mpr ⟨ilX3_readLine_wsX3_readLine_r4 _ (List.mem_of_getElem? (i := 0) rfl), (List.forall_mem_cons.mpr ⟨ilX3_readLine_wsX3_readLine_r1 _ (List.mem_of_getElem? (i := 5) rfl), (List.forall_mem_cons.mpr ⟨ilX3_readLine_wsX3_readLine_r1 _ (List.mem_of_getElem? (i := 9) rfl), (List.forall_mem_cons.mpr ⟨ilX3_readLine_wsX3_readLine_r4 _ (List.mem_of_getElem? (i := 1) rfl), (List.forall_mem_cons.mpr ⟨ilX3_readLine_wsX3_readLine_r4 _ (List.mem_of_getElem? (i := 2) rfl), (List.forall_mem_cons.mpr ⟨ilX3_readLine_wsX3_readLine_r4 _ (List.mem_of_getElem? (i := 3) rfl), (List.forall_mem_cons.mpr ⟨ilX3_readLine_wsX3_readLine_r4 _ (List.mem_of_getElem? (i := 4) rfl), (List.forall_mem_cons.mpr ⟨ilX3_readLine_wsX3_readLine_r4 _ (List.mem_of_getElem? (i := 5) rfl), (List.forall_mem_cons.mpr ⟨ilX3_readLine_wsX3_readLine_r4 _ (List.mem_of_getElem? (i := 6) rfl), (List.forall_mem_cons.mpr ⟨ilX3_readLine_wsX3_readLine_r4 _ (List.mem_of_getElem? (i := 7) rfl), (List.forall_mem_cons.mpr ⟨ilX3_readLine_wsX3_readLine_r4 _ (List.mem_of_getElem? (i := 8) rfl), (List.forall_mem_cons.mpr ⟨ilX3_readLine_wsX3_readLine_r4 _ (List.mem_of_getElem? (i := 9) rfl), (List.forall_mem_cons.mpr ⟨ilX3_readLine_wsX3_readLine_r4 _ (List.mem_of_getElem? (i := 10) rfl), (List.forall_mem_cons.mpr ⟨ilX3_readLine_wsX3_readLine_r4 _ (List.mem_of_getElem? (i := 11) rfl), (fun _ h => absurd h List.not_mem_nil)⟩)⟩)⟩)⟩)⟩)⟩)⟩)⟩)⟩)⟩)⟩)⟩)⟩)⟩)⟩)⟩)⟩)⟩)⟩)⟩)⟩)⟩)⟩)⟩), (List.forall_mem_append.mpr ⟨(List.forall_mem_cons.mpr ⟨ilX3_readLine_wsX3_readLine_r4 _ (List.mem_of_getElem? (i := 12) rfl), (List.forall_mem_cons.mpr ⟨ilX3_readLine_wsX3_readLine_r4 _ (List.mem_of_getElem? (i := 13) rfl), (List.forall_mem_cons.mpr ⟨ilX3_readLine_wsX3_readLine_r4 _ (List.mem_of_getElem? (i := 14) rfl), (List.forall_mem_cons.mpr ⟨ilX3_readLine_wsX3_readLine_r4 _ (List.mem_of_getElem? (i := 15) rfl), (List.forall_mem_cons.mpr ⟨ilX3_readLine_wsX3_readLine_r4 _ (List.mem_of_getElem? (i := 16) rfl), (List.forall_mem_cons.mpr ⟨ilX3_readLine_wsX3_readLine_r6 _ (List.mem_of_getElem? (i := 7) rfl), (List.forall_mem_cons.mpr ⟨ilX3_readLine_wsX3_readLine_r6 _ (List.mem_of_getElem? (i := 8) rfl), (List.forall_mem_cons.mpr ⟨ilX3_readLine_wsX3_readLine_r6 _ (List.mem_of_getElem? (i := 9) rfl), (List.forall_mem_cons.mpr ⟨ilX3_readLine_wsX3_readLine_r6 _ (List.mem_of_getElem? (i := 10) rfl), (List.forall_mem_cons.mpr ⟨ilX3_readLine_wsX3_readLine_r1 _ (List.mem_of_getElem? (i := 0) rfl), (List.forall_mem_cons.mpr ⟨ilX3_readLine_wsX3_readLine_r1 _ (List.mem_of_getElem? (i := 1) rfl), (List.forall_mem_cons.mpr ⟨ilX3_readLine_wsX3_readLine_r1 _ (List.mem_of_getElem? (i := 2) rfl), (List.forall_mem_cons.mpr ⟨ilX3_readLine_wsX3_readLine_r1 _ (List.mem_of_getElem? (i := 4) rfl), (List.forall_mem_cons.mpr ⟨ilX3_readLine_wsX3_readLine_r1 _ (List.mem_of_getElem? (i := 10) rfl), (List.forall_mem_cons.mpr ⟨ilX3_readLine_wsX3_readLine_r1 _ (List.mem_of_getElem? (i := 11) rfl), (List.forall_mem_cons.mpr ⟨ilX3_readLine_wsX3_readLine_r1 _ (List.mem_of_getElem? (i := 12) rfl), (List.forall_mem_cons.mpr ⟨ilX3_readLine_wsX3_readLine_r1 _ (List.mem_of_getElem? (i := 13) rfl), (List.forall_mem_cons.mpr ⟨ilX3_readLine_wsX3_readLine_r1 _ (List.mem_of_getElem? (i := 14) rfl), (List.forall_mem_cons.mpr ⟨ilX3_readLine_wsX3_readLine_r1 _ (List.mem_of_getElem? (i := 15) rfl), (List.forall_mem_cons.mpr ⟨ilX3_readLine_wsX3_readLine_r1 _ (List.mem_of_getElem? (i := 16) rfl), (List.forall_mem_cons.mpr ⟨ilX3_readLine_wsX3_readLine_r1 _ (List.mem_of_getElem? (i := 17) rfl), (List.forall_mem_cons.mpr ⟨ilX3_readLine_wsX3_readLine_r1 _ (List.mem_of_getElem? (i := 18) rfl), (List.forall_mem_cons.mpr ⟨ilX3_readLine_wsX3_readLine_r1 _ (List.mem_of_getElem? (i := 19) rfl), (List.forall_mem_cons.mpr ⟨ilX3_readLine_wsX3_readLine_r1 _ (List.mem_of_getElem? (i := 20) rfl), (fun _ h => absurd h List.not_mem_nil)⟩)⟩)⟩)⟩)⟩)⟩)⟩)⟩)⟩)⟩)⟩)⟩)⟩)⟩)⟩)⟩)⟩)⟩)⟩)⟩)⟩)⟩)⟩)⟩), (List.forall_mem_append.mpr ⟨(List.forall_mem_cons.mpr ⟨ilX3_readLine_wsX3_readLine_r1 _ (List.mem_of_getElem? (i := 21) rfl), (List.forall_mem_cons.mpr ⟨ilX3_readLine_wsX3_readLine_r1 _ (List.mem_of_getElem? (i := 22) rfl), (List.forall_mem_cons.mpr ⟨ilX3_readLine_wsX3_readLine_r1 _ (List.mem_of_getElem? (i := 23) rfl), (List.forall_mem_cons.mpr ⟨ilX3_readLine_wsX3_readLine_r2 _ (List.mem_of_getElem? (i := 0) rfl), (List.forall_mem_cons.mpr ⟨ilX3_readLine_wsX3_readLine_r2 _ (List.mem_of_getElem? (i := 1) rfl), (List.forall_mem_cons.mpr ⟨ilX3_readLine_wsX3_readLine_r2 _ (List.mem_of_getElem? (i := 2) rfl), (List.forall_mem_cons.mpr ⟨ilX3_readLine_wsX3_readLine_r2 _ (List.mem_of_getElem? (i := 3) rfl), (List.forall_mem_cons.mpr ⟨ilX3_readLine_wsX3_readLine_r2 _ (List.mem_of_getElem? (i := 4) rfl), (List.forall_mem_cons.mpr ⟨ilX3_readLine_wsX3_readLine_r2 _ (List.mem_of_getElem? (i := 5) rfl), (List.forall_mem_cons.mpr ⟨ilX3_readLine_wsX3_readLine_r2 _ (List.mem_of_getElem? (i := 6) rfl), (List.forall_mem_cons.mpr ⟨ilX3_readLine_wsX3_readLine_r2 _ (List.mem_of_getElem? (i := 7) rfl), (List.forall_mem_cons.mpr ⟨ilX3_readLine_wsX3_readLine_r2 _ (List.mem_of_getElem? (i := 8) rfl), (List.forall_mem_cons.mpr ⟨ilX3_readLine_wsX3_readLine_r2 _ (List.mem_of_getElem? (i := 9) rfl), (List.forall_mem_cons.mpr ⟨ilX3_readLine_wsX3_readLine_r2 _ (List.mem_of_getElem? (i := 10) rfl), (List.forall_mem_cons.mpr ⟨ilX3_readLine_wsX3_readLine_r2 _ (List.mem_of_getElem? (i := 11) rfl), (List.forall_mem_cons.mpr ⟨ilX3_readLine_wsX3_readLine_r2 _ (List.mem_of_getElem? (i := 12) rfl), (List.forall_mem_cons.mpr ⟨ilX3_readLine_wsX3_readLine_r2 _ (List.mem_of_getElem? (i := 13) rfl), (List.forall_mem_cons.mpr ⟨ilX3_readLine_wsX3_readLine_r2 _ (List.mem_of_getElem? (i := 14) rfl), (List.forall_mem_cons.mpr ⟨ilX3_readLine_wsX3_readLine_r2 _ (List.mem_of_getElem? (i := 15) rfl), (List.forall_mem_cons.mpr ⟨ilX3_readLine_wsX3_readLine_r2 _ (List.mem_of_getElem? (i := 16) rfl), (List.forall_mem_cons.mpr ⟨ilX3_readLine_wsX3_readLine_r2 _ (List.mem_of_getElem? (i := 17) rfl), (List.forall_mem_cons.mpr ⟨ilX3_readLine_wsX3_readLine_r2 _ (List.mem_of_getElem? (i := 18) rfl), (List.forall_mem_cons.mpr ⟨ilX3_readLine_wsX3_readLine_r2 _ (List.mem_of_getElem? (i := 19) rfl), (List.forall_mem_cons.mpr ⟨ilX3_readLine_wsX3_readLine_r2 _ (List.mem_of_getElem? (i := 20) rfl), (fun _ h => absurd h List.not_mem_nil)⟩)⟩)⟩)⟩)⟩)⟩)⟩)⟩)⟩)⟩)⟩)⟩)⟩)⟩)⟩)⟩)⟩)⟩)⟩)⟩)⟩)⟩)⟩)⟩), (List.forall_mem_cons.mpr ⟨ilX3_readLine_wsX3_readLine_r2 _ (List.mem_of_getElem? (i := 21) rfl), (List.forall_mem_cons.mpr ⟨ilX3_readLine_wsX3_readLine_r2 _ (List.mem_of_getElem? (i := 22) rfl), (List.forall_mem_cons.mpr ⟨ilX3_readLine_wsX3_readLine_r2 _ (List.mem_of_getElem? (i := 23) rfl), (List.forall_mem_cons.mpr ⟨ilX3_readLine_wsX3_readLine_r3 _ (List.mem_of_getElem? (i := 0) rfl), (List.forall_mem_cons.mpr ⟨ilX3_readLine_wsX3_readLine_r3 _ (List.mem_of_getElem? (i := 1) rfl), (List.forall_mem_cons.mpr ⟨ilX3_readLine_wsX3_readLine_r3 _ (List.mem_of_getElem? (i := 2) rfl), (List.forall_mem_cons.mpr ⟨ilX3_readLine_wsX3_readLine_r3 _ (List.mem_of_getElem? (i := 3) rfl), (List.forall_mem_cons.mpr ⟨ilX3_readLine_wsX3_readLine_r3 _ (List.mem_of_getElem? (i := 4) rfl), (List.forall_mem_cons.mpr ⟨ilX3_readLine_wsX3_readLine_r3 _ (List.mem_of_getElem? (i := 5) rfl), (List.forall_mem_cons.mpr ⟨ilX3_readLine_wsX3_readLine_r3 _ (List.mem_of_getElem? (i := 6) rfl), (List.forall_mem_cons.mpr ⟨ilX3_readLine_wsX3_readLine_r3 _ (List.mem_of_getElem? (i := 7) rfl), (List.forall_mem_cons.mpr ⟨ilX3_readLine_wsX3_readLine_r3 _ (List.mem_of_getElem? (i := 8) rfl), (List.forall_mem_cons.mpr ⟨ilX3_readLine_wsX3_readLine_r3 _ (List.mem_of_getElem? (i := 9) rfl), (List.forall_mem_cons.mpr ⟨ilX3_readLine_wsX3_readLine_r3 _ (List.mem_of_getElem? (i := 10) rfl), (List.forall_mem_cons.mpr ⟨ilX3_readLine_wsX3_readLine_r7 _ (List.mem_of_getElem? (i := 12) rfl), (List.forall_mem_cons.mpr ⟨ilX3_readLine_wsX3_readLine_r7 _ (List.mem_of_getElem? (i := 13) rfl), (List.forall_mem_cons.mpr ⟨ilX3_readLine_wsX3_readLine_r7 _ (List.mem_of_getElem? (i := 14) rfl), (List.forall_mem_cons.mpr ⟨ilX3_readLine_wsX3_readLine_r6 _ (List.mem_of_getElem? (i := 22) rfl), (List.forall_mem_cons.mpr ⟨ilX3_readLine_wsX3_readLine_r7 _ (List.mem_of_getElem? (i := 15) rfl), (List.forall_mem_cons.mpr ⟨ilX3_readLine_wsX3_readLine_r7 _ (List.mem_of_getElem? (i := 16) rfl), (List.forall_mem_cons.mpr ⟨ilX3_readLine_wsX3_readLine_r5 _ (List.mem_of_getElem? (i := 0) rfl), (List.forall_mem_cons.mpr ⟨ilX3_readLine_wsX3_readLine_r5 _ (List.mem_of_getElem? (i := 1) rfl), (List.forall_mem_cons.mpr ⟨ilX3_readLine_wsX3_readLine_r5 _ (List.mem_of_getElem? (i := 2) rfl), (List.forall_mem_cons.mpr ⟨ilX3_readLine_wsX3_readLine_r5 _ (List.mem_of_getElem? (i := 3) rfl), (fun _ h => absurd h List.not_mem_nil)⟩)⟩)⟩)⟩)⟩)⟩)⟩)⟩)⟩)⟩)⟩)⟩)⟩)⟩)⟩)⟩)⟩)⟩)⟩)⟩)⟩)⟩)⟩)⟩)⟩)⟩)⟩), ilX3_readLine_wsX30⟩), ilX3_readLine_wsX10⟩), ilX3_readLine_wsX50⟩)⟩) (by decide +kernel)
set_option maxRecDepth 20000 in
theorem gX3_readLine_X3_readSpare : GoodIn wsX3_readLine (wsV RX3 101 RX3 yX3_readSpare wsX3_readSpare) := goodIn_app (goodIn_sub (List.forall_mem_cons.mpr ⟨ilX3_readLine_wsX3_readLine_r7 _ (List.mem_of_getElem? (i := 7) rfl), (List.forall_mem_cons.mpr ⟨ilX3_readLine_wsX3_readLine_r7 _ (List.mem_of_getElem? (i := 8) rfl), (List.forall_mem_cons.mpr ⟨ilX3_readLine_wsX3_readLine_r7 _ (List.mem_of_getElem? (i := 9) rfl), (List.forall_mem_cons.mpr ⟨ilX3_readLine_wsX3_readLine_r1 _ (List.mem_of_getElem? (i := 3) rfl), (fun _ h => absurd h List.not_mem_nil)⟩)⟩)⟩)⟩) (by decide +kernel)) ggX3_readLine_X3_readSpare
set_option maxRecDepth 20000 in
theorem ggX3_readLine_X3_readTurn : GoodIn wsX3_readLine wsX3_readTurn := goodIn_sub (List.forall_mem_cons.mpr ⟨ilX3_readLine_wsX3_readLine_r7 _ (List.mem_of_getElem? (i := 20) rfl), (List.forall_mem_append.mpr ⟨(List.forall_mem_append.mpr ⟨(List.forall_mem_append.mpr ⟨(List.forall_mem_append.mpr ⟨(List.forall_mem_cons.mpr ⟨ilX3_readLine_wsX3_readLine_r3 _ (List.mem_of_getElem? (i := 16) rfl), (List.forall_mem_cons.mpr ⟨ilX3_readLine_wsX3_readLine_r7 _ (List.mem_of_getElem? (i := 21) rfl), (List.forall_mem_cons.mpr ⟨ilX3_readLine_wsX3_readLine_r3 _ (List.mem_of_getElem? (i := 17) rfl), (List.forall_mem_cons.mpr ⟨ilX3_readLine_wsX3_readLine_r3 _ (List.mem_of_getElem? (i := 20) rfl), (List.forall_mem_cons.mpr ⟨ilX3_readLine_wsX3_readLine_r3 _ (List.mem_of_getElem? (i := 21) rfl), (List.forall_mem_cons.mpr ⟨ilX3_readLine_wsX3_readLine_r3 _ (List.mem_of_getElem? (i := 22) rfl), (List.forall_mem_cons.mpr ⟨ilX3_readLine_wsX3_readLine_r1 _ (List.mem_of_getElem? (i := 3) rfl), (List.forall_mem_cons.mpr ⟨ilX3_readLine_wsX3_readLine_r3 _ (List.mem_of_getElem? (i := 23) rfl), (List.forall_mem_cons.mpr ⟨ilX3_readLine_wsX3_readLine_r1 _ (List.mem_of_getElem? (i := 6) rfl), (List.forall_mem_cons.mpr ⟨ilX3_readLine_wsX3_readLine_r1 _ (List.mem_of_getElem? (i := 7) rfl), (List.forall_mem_cons.mpr ⟨ilX3_readLine_wsX3_readLine_r1 _ (List.mem_of_getElem? (i := 8) rfl), (List.forall_mem_cons.mpr ⟨ilX3_readLine_wsX3_readLine_r4 _ (List.mem_of_getElem? (i := 0) rfl), (List.forall_mem_cons.mpr ⟨ilX3_readLine_wsX3_readLine_r1 _ (List.mem_of_getElem? (i := 5) rfl), (List.forall_mem_cons.mpr ⟨ilX3_readLine_wsX3_readLine_r1 _ (List.mem_of_getElem? (i := 9) rfl), (List.forall_mem_cons.mpr ⟨ilX3_readLine_wsX3_readLine_r4 _ (List.mem_of_getElem? (i := 1) rfl), (List.forall_mem_cons.mpr ⟨ilX3_readLine_wsX3_readLine_r4 _ (List.mem_of_getElem? (i := 2) rfl), (List.forall_mem_cons.mpr ⟨ilX3_readLine_wsX3_readLine_r4 _ (List.mem_of_getElem? (i := 3) rfl), (List.forall_mem_cons.mpr ⟨ilX3_readLine_wsX3_readLine_r4 _ (List.mem_of_getElem? (i := 4) rfl), (List.forall_mem_cons.mpr ⟨ilX3_readLine_wsX3_readLine_r4 _ (List.mem_of_getElem? (i := 5) rfl), (List.forall_mem_cons.mpr ⟨ilX3_readLine_wsX3_readLine_r4 _ (List.mem_of_getElem? (i := 6) rfl), (List.forall_mem_cons.mpr ⟨ilX3_readLine_wsX3_readLine_r4 _ (List.mem_of_getElem? (i := 7) rfl), (List.forall_mem_cons.mpr ⟨ilX3_readLine_wsX3_readLine_r4 _ (List.mem_of_getElem? (i := 8) rfl), (List.forall_mem_cons.mpr ⟨ilX3_readLine_wsX3_readLine_r4 _ (List.mem_of_getElem? (i := 9) rfl), (List.forall_mem_cons.mpr ⟨ilX3_readLine_wsX3_readLine_r4 _ (List.mem_of_getElem? (i := 10) rfl), (fun _ h => absurd h List.not_mem_nil)⟩)⟩)⟩)⟩)⟩)⟩)⟩)⟩)⟩)⟩)⟩)⟩)⟩)⟩)⟩)⟩)⟩)⟩)⟩)⟩)⟩)⟩)⟩)⟩), (List.forall_mem_append.mpr ⟨(List.forall_mem_cons.mpr ⟨ilX3_readLine_wsX3_readLine_r4 _ (List.mem_of_getElem? (i := 11) rfl), (List.forall_mem_cons.mpr ⟨ilX3_readLine_wsX3_readLine_r4 _ (List.mem_of_getElem? (i := 12) rfl), (List.forall_mem_cons.mpr ⟨ilX3_readLine_wsX3_readLine_r4 _ (List.mem_of_getElem? (i := 13) rfl), (List.forall_mem_cons.mpr ⟨ilX3_readLine_wsX3_readLine_r4 _ (List.mem_of_getElem? (i := 14) rfl), (List.forall_mem_cons.mpr ⟨ilX3_readLine_wsX3_readLine_r4 _ (List.mem_of_getElem? (i := 15) rfl), (List.forall_mem_cons.mpr ⟨ilX3_readLine_wsX3_readLine_r4 _ (List.mem_of_getElem? (i := 16) rfl), (List.forall_mem_cons.mpr ⟨ilX3_readLine_wsX3_readLine_r6 _ (List.mem_of_getElem? (i := 7) rfl), (List.forall_mem_cons.mpr ⟨ilX3_readLine_wsX3_readLine_r6 _ (List.mem_of_getElem? (i := 8) rfl), (List.forall_mem_cons.mpr ⟨ilX3_readLine_wsX3_readLine_r6 _ (List.mem_of_getElem? (i := 9) rfl), (List.forall_mem_cons.mpr ⟨ilX3_readLine_wsX3_readLine_r6 _ (List.mem_of_getElem? (i := 10) rfl), (List.forall_mem_cons.mpr ⟨ilX3_readLine_wsX3_readLine_r1 _ (List.mem_of_getElem? (i := 0) rfl), (List.forall_mem_cons.mpr ⟨ilX3_readLine_wsX3_readLine_r1 _ (List.mem_of_getElem? (i := 1) rfl), (List.forall_mem_cons.mpr ⟨ilX3_readLine_wsX3_readLine_r1 _ (List.mem_of_getElem? (i := 2) rfl), (List.forall_mem_cons.mpr ⟨ilX3_readLine_wsX3_readLine_r1 _ (List.mem_of_getElem? (i := 4) rfl), (List.forall_mem_cons.mpr ⟨ilX3_readLine_wsX3_readLine_r1 _ (List.mem_of_getElem? (i := 10) rfl), (List.forall_mem_cons.mpr ⟨ilX3_readLine_wsX3_readLine_r1 _ (List.mem_of_getElem? (i := 11) rfl), (List.forall_mem_cons.mpr ⟨ilX3_readLine_wsX3_readLine_r1 _ (List.mem_of_getElem? (i := 12) rfl), (List.forall_mem_cons.mpr ⟨ilX3_readLine_wsX3_readLine_r1 _ (List.mem_of_getElem? (i := 13) rfl), (List.forall_mem_cons.mpr ⟨ilX3_readLine_wsX3_readLine_r1 _ (List.mem_of_getElem? (i := 14) rfl), (List.forall_mem_cons.mpr ⟨ilX3_readLine_wsX3_readLine_r1 _ (List.mem_of_getElem? (i := 15) rfl), (List.forall_mem_cons.mpr ⟨ilX3_readLine_wsX3_readLine_r1 _ (List.mem_of_getElem? (i := 16) rfl), (List.forall_mem_cons.mpr ⟨ilX3_readLine_wsX3_readLine_r1 _ (List.mem_of_getElem? (i := 17) rfl), (List.forall_mem_cons.mpr ⟨ilX3_readLine_wsX3_readLine_r1 _ (List.mem_of_getElem? (i := 18) rfl), (List.forall_mem_cons.mpr ⟨ilX3_readLine_wsX3_readLine_r1 _ (List.mem_of_getElem? (i := 19) rfl), (fun _ h => absurd h List.not_mem_nil)⟩)⟩)⟩)⟩)⟩)⟩)⟩)⟩)⟩)⟩)⟩)⟩)⟩)⟩)⟩)⟩)⟩)⟩)⟩)⟩)⟩)⟩)⟩)⟩), (List.forall_mem_append.mpr ⟨(List.forall_mem_cons.mpr ⟨ilX3_readLine_wsX3_readLine_r1 _ (List.mem_of_getElem? (i := 20) rfl), (List.forall_mem_cons.mpr ⟨ilX3_readLine_wsX3_readLine_r1 _ (List.mem_of_getElem? (i := 21) rfl), (List.forall_mem_cons.mpr ⟨ilX3_readLine_wsX3_readLine_r1 _ (List.mem_of_getElem? (i := 22) rfl), (List.forall_mem_cons.mpr ⟨ilX3_readLine_wsX3_readLine_r1 _ (List.mem_of_getElem? (i := 23) rfl), (List.forall_mem_cons.mpr ⟨ilX3_readLine_wsX3_readLine_r2 _ (List.mem_of_getElem? (i := 0) rfl), (List.forall_mem_cons.mpr ⟨ilX3_readLine_wsX3_readLine_r2 _ (List.mem_of_getElem? (i := 1) rfl), (List.forall_mem_cons.mpr ⟨ilX3_readLine_wsX3_readLine_r2 _ (List.mem_of_getElem? (i := 2) rfl), (List.forall_mem_cons.mpr ⟨ilX3_readLine_wsX3_readLine_r2 _ (List.mem_of_getElem? (i := 3) rfl), (List.forall_mem_cons.mpr ⟨ilX3_readLine_wsX3_readLine_r2 _ (List.mem_of_getElem? (i := 4) rfl), (List.forall_mem_cons.mpr ⟨ilX3_readLine_wsX3_readLine_r2 _ (List.mem_of_getElem? (i := 5) rfl), (List.forall_mem_cons.mpr ⟨ilX3_readLine_wsX3_readLine_r2 _ (List.mem_of_getElem? (i := 6) rfl), (List.forall_mem_cons.mpr ⟨ilX3_readLine_wsX3_readLine_r2 _ (List.mem_of_getElem? (i := 7) rfl), (List.forall_mem_cons.mpr ⟨ilX3_readLine_wsX3_readLine_r2 _ (List.mem_of_getElem? (i := 8) rfl), (List.forall_mem_cons.mpr ⟨ilX3_readLine_wsX3_readLine_r2 _ (List.mem_of_getElem? (i := 9) rfl), (List.forall_mem_cons.mpr ⟨ilX3_readLine_wsX3_readLine_r2 _ (List.mem_of_getElem? (i := 10) rfl), (List.forall_mem_cons.mpr ⟨ilX3_readLine_wsX3_readLine_r2 _ (List.mem_of_getElem? (i := 11) rfl), (List.forall_mem_cons.mpr ⟨ilX3_readLine_wsX3_readLine_r2 _ (List.mem_of_getElem? (i := 12) rfl), (List.forall_mem_cons.mpr ⟨ilX3_readLine_wsX3_readLine_r2 _ (List.mem_of_getElem? (i := 13) rfl), (List.forall_mem_cons.mpr ⟨ilX3_readLine_wsX3_readLine_r2 _ (List.mem_of_getElem? (i := 14) rfl), (List.forall_mem_cons.mpr ⟨ilX3_readLine_wsX3_readLine_r2 _ (List.mem_of_getElem? (i := 15) rfl), (List.forall_mem_cons.mpr ⟨ilX3_readLine_wsX3_readLine_r2 _ (List.mem_of_getElem? (i := 16) rfl), (List.forall_mem_cons.mpr ⟨ilX3_readLine_wsX3_readLine_r2 _ (List.mem_of_getElem? (i := 17) rfl), (List.forall_mem_cons.mpr ⟨ilX3_readLine_wsX3_readLine_r2 _ (List.mem_of_getElem? (i := 18) rfl), (List.forall_mem_cons.mpr ⟨ilX3_readLine_wsX3_readLine_r2 _ (List.mem_of_getElem? (i := 19) rfl), (fun _ h => absurd h List.not_mem_nil)⟩)⟩)⟩)⟩)⟩)⟩)⟩)⟩)⟩)⟩)⟩)⟩)⟩)⟩)⟩)⟩)⟩)⟩)⟩)⟩)⟩)⟩)⟩)⟩), (List.forall_mem_append.mpr ⟨(List.forall_mem_cons.mpr ⟨ilX3_readLine_wsX3_readLine_r2 _ (List.mem_of_getElem? (i := 20) rfl), (List.forall_mem_cons.mpr ⟨ilX3_readLine_wsX3_readLine_r2 _ (List.mem_of_getElem? (i := 21) rfl), (List.forall_mem_cons.mpr ⟨ilX3_readLine_wsX3_readLine_r2 _ (List.mem_of_getElem? (i := 22) rfl), (List.forall_mem_cons.mpr ⟨ilX3_readLine_wsX3_readLine_r2 _ (List.mem_of_getElem? (i := 23) rfl), (List.forall_mem_cons.mpr ⟨ilX3_readLine_wsX3_readLine_r3 _ (List.mem_of_getElem? (i := 0) rfl), (List.forall_mem_cons.mpr ⟨ilX3_readLine_wsX3_readLine_r3 _ (List.mem_of_getElem? (i := 1) rfl), (List.forall_mem_cons.mpr ⟨ilX3_readLine_wsX3_readLine_r3 _ (List.mem_of_getElem? (i := 2) rfl), (List.forall_mem_cons.mpr ⟨ilX3_readLine_wsX3_readLine_r3 _ (List.mem_of_getElem? (i := 3) rfl), (List.forall_mem_cons.mpr ⟨ilX3_readLine_wsX3_readLine_r3 _ (List.mem_of_getElem? (i := 4) rfl), (List.forall_mem_cons.mpr ⟨ilX3_readLine_wsX3_readLine_r3 _ (List.mem_of_getElem? (i := 5) rfl), (List.forall_mem_cons.mpr ⟨ilX3_readLine_wsX3_readLine_r3 _ (List.mem_of_getElem? (i := 6) rfl), (List.forall_mem_cons.mpr ⟨ilX3_readLine_wsX3_readLine_r3 _ (List.mem_of_getElem? (i := 7) rfl), (List.forall_mem_cons.mpr ⟨ilX3_readLine_wsX3_readLine_r3 _ (List.mem_of_getElem? (i := 8) rfl), (List.forall_mem_cons.mpr ⟨ilX3_readLine_wsX3_readLine_r3 _ (List.mem_of_getElem? (i := 9) rfl), (List.forall_mem_cons.mpr ⟨ilX3_readLine_wsX3_readLine_r3 _ (List.mem_of_getElem? (i := 10) rfl), (List.forall_mem_cons.mpr ⟨ilX3_readLine_wsX3_readLine_r7 _ (List.mem_of_getElem? (i := 22) rfl), (List.forall_mem_cons.mpr ⟨ilX3_readLine_wsX3_readLine_r7 _ (List.mem_of_getElem? (i := 23) rfl), (List.forall_mem_cons.mpr ⟨ilX3_readLine_wsX3_readLine_r8 _ (List.mem_of_getElem? (i := 0) rfl), (List.forall_mem_cons.mpr ⟨ilX3_readLine_wsX3_readLine_r6 _ (List.mem_of_getElem? (i := 22) rfl), (List.forall_mem_cons.mpr ⟨ilX3_readLine_wsX3_readLine_r8 _ (List.mem_of_getElem? (i := 1) rfl), (List.forall_mem_cons.mpr ⟨ilX3_readLine_wsX3_readLine_r8 _ (List.mem_of_getElem? (i := 2) rfl), (List.forall_mem_cons.mpr ⟨ilX3_readLine_wsX3_readLine_r8 _ (List.mem_of_getElem? (i := 3) rfl), (List.forall_mem_cons.mpr ⟨ilX3_readLine_wsX3_readLine_r8 _ (List.mem_of_getElem? (i := 4) rfl), (List.forall_mem_cons.mpr ⟨ilX3_readLine_wsX3_readLine_r4 _ (List.mem_of_getElem? (i := 17) rfl), (fun _ h => absurd h List.not_mem_nil)⟩)⟩)⟩)⟩)⟩)⟩)⟩)⟩)⟩)⟩)⟩)⟩)⟩)⟩)⟩)⟩)⟩)⟩)⟩)⟩)⟩)⟩)⟩)⟩), (List.forall_mem_cons.mpr ⟨ilX3_readLine_wsX3_readLine_r4 _ (List.mem_of_getElem? (i := 18) rfl), (List.forall_mem_cons.mpr ⟨ilX3_readLine_wsX3_readLine_r4 _ (List.mem_of_getElem? (i := 19) rfl), (List.forall_mem_cons.mpr ⟨ilX3_readLine_wsX3_readLine_r4 _ (List.mem_of_getElem? (i := 20) rfl), (List.forall_mem_cons.mpr ⟨ilX3_readLine_wsX3_readLine_r4 _ (List.mem_of_getElem? (i := 21) rfl), (List.forall_mem_cons.mpr ⟨ilX3_readLine_wsX3_readLine_r4 _ (List.mem_of_getElem? (i := 22) rfl), (List.forall_mem_cons.mpr ⟨ilX3_readLine_wsX3_readLine_r4 _ (List.mem_of_getElem? (i := 23) rfl), (List.forall_mem_cons.mpr ⟨ilX3_readLine_wsX3_readLine_r8 _ (List.mem_of_getElem? (i := 5) rfl), (List.forall_mem_cons.mpr ⟨ilX3_readLine_wsX3_readLine_r8 _ (List.mem_of_getElem? (i := 6) rfl), (List.forall_mem_cons.mpr ⟨ilX3_readLine_wsX3_readLine_r8 _ (List.mem_of_getElem? (i := 7) rfl), (List.forall_mem_cons.mpr ⟨ilX3_readLine_wsX3_readLine_r8 _ (List.mem_of_getElem? (i := 8) rfl), (List.forall_mem_cons.mpr ⟨ilX3_readLine_wsX3_readLine_r8 _ (List.mem_of_getElem? (i := 9) rfl), (List.forall_mem_cons.mpr ⟨ilX3_readLine_wsX3_readLine_r5 _ (List.mem_of_getElem? (i := 0) rfl), (List.forall_mem_cons.mpr ⟨ilX3_readLine_wsX3_readLine_r5 _ (List.mem_of_getElem? (i := 1) rfl), (List.forall_mem_cons.mpr ⟨ilX3_readLine_wsX3_readLine_r5 _ (List.mem_of_getElem? (i := 2) rfl), (List.forall_mem_cons.mpr ⟨ilX3_readLine_wsX3_readLine_r5 _ (List.mem_of_getElem? (i := 3) rfl), (fun _ h => absurd h List.not_mem_nil)⟩)⟩)⟩)⟩)⟩)⟩)⟩)⟩)⟩)⟩)⟩)⟩)⟩)⟩)⟩)⟩)⟩)⟩)⟩), ilX3_readLine_wsX30⟩), ilX3_readLine_wsX10⟩), ilX3_readLine_wsX50⟩)⟩) (by decide +kernel)
set_option maxRecDepth 20000 in
theorem gX3_readLine_X3_readTurn : GoodIn wsX3_readLine (wsV RX3 106 RX3 yX3_readTurn wsX3_readTurn) := goodIn_app (goodIn_sub (List.forall_mem_cons.mpr ⟨ilX3_readLine_wsX3_readLine_r7 _ (List.mem_of_getElem? (i := 17) rfl), (List.forall_mem_cons.mpr ⟨ilX3_readLine_wsX3_readLine_r7 _ (List.mem_of_getElem? (i := 18) rfl), (List.forall_mem_cons.mpr ⟨ilX3_readLine_wsX3_readLine_r7 _ (List.mem_of_getElem? (i := 19) rfl), (List.forall_mem_cons.mpr ⟨ilX3_readLine_wsX3_readLine_r1 _ (List.mem_of_getElem? (i := 3) rfl), (fun _ h => absurd h List.not_mem_nil)⟩)⟩)⟩)⟩) (by decide +kernel)) ggX3_readLine_X3_readTurn
theorem dX3_readLine_0 : decode cX3_readLine 0 = .ok (.aload_n 0, 1) := by decide +kernel
theorem dX3_readLine_1 : decode cX3_readLine 1 = .ok (.ldc 75, 2) := by decide +kernel
theorem dX3_readLine_3 : decode cX3_readLine 3 = .ok (.invokevirtual 77, 3) := by decide +kernel
theorem dX3_readLine_6 : decode cX3_readLine 6 = .ok (.ifCond .eq 8, 3) := by decide +kernel
theorem dX3_readLine_9 : decode cX3_readLine 9 = .ok (.aload_n 0, 1) := by decide +kernel
theorem dX3_readLine_10 : decode cX3_readLine 10 = .ok (.invokevirtual 81, 3) := by decide +kernel
theorem dX3_readLine_13 : decode cX3_readLine 13 = .ok (.ireturn, 1) := by decide +kernel
theorem dX3_readLine_14 : decode cX3_readLine 14 = .ok (.aload_n 0, 1) := by decide +kernel
theorem dX3_readLine_15 : decode cX3_readLine 15 = .ok (.ldc 84, 2) := by decide +kernel
theorem dX3_readLine_17 : decode cX3_readLine 17 = .ok (.invokevirtual 77, 3) := by decide +kernel
theorem dX3_readLine_20 : decode cX3_readLine 20 = .ok (.ifCond .eq 8, 3) := by decide +kernel
theorem dX3_readLine_23 : decode cX3_readLine 23 = .ok (.aload_n 0, 1) := by decide +kernel
theorem dX3_readLine_24 : decode cX3_readLine 24 = .ok (.invokevirtual 86, 3) := by decide +kernel
theorem dX3_readLine_27 : decode cX3_readLine 27 = .ok (.ireturn, 1) := by decide +kernel
theorem dX3_readLine_28 : decode cX3_readLine 28 = .ok (.aload_n 0, 1) := by decide +kernel
theorem dX3_readLine_29 : decode cX3_readLine 29 = .ok (.ldc 89, 2) := by decide +kernel
theorem dX3_readLine_31 : decode cX3_readLine 31 = .ok (.invokevirtual 77, 3) := by decide +kernel
theorem dX3_readLine_34 : decode cX3_readLine 34 = .ok (.ifCond .eq 8, 3) := by decide +kernel
theorem dX3_readLine_37 : decode cX3_readLine 37 = .ok (.aload_n 0, 1) := by decide +kernel
theorem dX3_readLine_38 : decode cX3_readLine 38 = .ok (.invokevirtual 91, 3) := by decide +kernel
theorem dX3_readLine_41 : decode cX3_readLine 41 = .ok (.ireturn, 1) := by decide +kernel
theorem dX3_readLine_42 : decode cX3_readLine 42 = .ok (.aload_n 0, 1) := by decide +kernel
theorem dX3_readLine_43 : decode cX3_readLine 43 = .ok (.ldc 94, 2) := by decide +kernel
theorem dX3_readLine_45 : decode cX3_readLine 45 = .ok (.invokevirtual 77, 3) := by decide +kernel
theorem dX3_readLine_48 : decode cX3_readLine 48 = .ok (.ifCond .eq 8, 3) := by decide +kernel
theorem dX3_readLine_51 : decode cX3_readLine 51 = .ok (.aload_n 0, 1) := by decide +kernel
theorem dX3_readLine_52 : decode cX3_readLine 52 = .ok (.invokevirtual 96, 3) := by decide +kernel
theorem dX3_readLine_55 : decode cX3_readLine 55 = .ok (.ireturn, 1) := by decide +kernel
theorem dX3_readLine_56 : decode cX3_readLine 56 = .ok (.aload_n 0, 1) := by decide +kernel
theorem dX3_readLine_57 : decode cX3_readLine 57 = .ok (.ldc 99, 2) := by decide +kernel
theorem dX3_readLine_59 : decode cX3_readLine 59 = .ok (.invokevirtual 77, 3) := by decide +kernel
theorem dX3_readLine_62 : decode cX3_readLine 62 = .ok (.ifCond .eq 8, 3) := by decide +kernel
theorem dX3_readLine_65 : decode cX3_readLine 65 = .ok (.aload_n 0, 1) := by decide +kernel
theorem dX3_readLine_66 : decode cX3_readLine 66 = .ok (.invokevirtual 101, 3) := by decide +kernel
theorem dX3_readLine_69 : decode cX3_readLine 69 = .ok (.ireturn, 1) := by decide +kernel
theorem dX3_readLine_70 : decode cX3_readLine 70 = .ok (.aload_n 0, 1) := by decide +kernel
theorem dX3_readLine_71 : decode cX3_readLine 71 = .ok (.ldc 104, 2) := by decide +kernel
theorem dX3_readLine_73 : decode cX3_readLine 73 = .ok (.invokevirtual 77, 3) := by decide +kernel
theorem dX3_readLine_76 : decode cX3_readLine 76 = .ok (.ifCond .eq 14, 3) := by decide +kernel
theorem dX3_readLine_79 : decode cX3_readLine 79 = .ok (.aload_n 0, 1) := by decide +kernel
theorem dX3_readLine_80 : decode cX3_readLine 80 = .ok (.invokevirtual 106, 3) := by decide +kernel
theorem dX3_readLine_83 : decode cX3_readLine 83 = .ok (.ifCond .eq 7, 3) := by decide +kernel
theorem dX3_readLine_86 : decode cX3_readLine 86 = .ok (.iconst 1, 1) := by decide +kernel
theorem dX3_readLine_87 : decode cX3_readLine 87 = .ok (.goto 4, 3) := by decide +kernel
theorem dX3_readLine_90 : decode cX3_readLine 90 = .ok (.iconst 0, 1) := by decide +kernel
theorem dX3_readLine_91 : decode cX3_readLine 91 = .ok (.ireturn, 1) := by decide +kernel
theorem ilX3_readMoon_wsX3_readMoon_r1 : ∀ w ∈ wsX3_readMoon_r1, w ∈ wsX3_readMoon := fun _ h => List.mem_cons_of_mem _ (List.mem_append_left _ (List.mem_append_left _ (List.mem_append_left _ (List.mem_append_left _ (h)))))
theorem ilX3_readMoon_wsX3_readMoon_r2 : ∀ w ∈ wsX3_readMoon_r2, w ∈ wsX3_readMoon := fun _ h => List.mem_cons_of_mem _ (List.mem_append_left _ (List.mem_append_left _ (List.mem_append_left _ (List.mem_append_right _ (h)))))
theorem ilX3_readMoon_wsX30 : ∀ w ∈ wsX30, w ∈ wsX3_readMoon := fun _ h => List.mem_cons_of_mem _ (List.mem_append_left _ (List.mem_append_left _ (List.mem_append_right _ (h))))
theorem ilX3_readMoon_wsX10 : ∀ w ∈ wsX10, w ∈ wsX3_readMoon := fun _ h => List.mem_cons_of_mem _ (List.mem_append_left _ (List.mem_append_right _ (h)))
theorem ilX3_readMoon_wsX50 : ∀ w ∈ wsX50, w ∈ wsX3_readMoon := fun _ h => List.mem_cons_of_mem _ (List.mem_append_right _ (h))
set_option maxRecDepth 20000 in
theorem ggX3_readMoon_X3_step : GoodIn wsX3_readMoon wsX3_step := goodIn_sub (List.forall_mem_cons.mpr ⟨ilX3_readMoon_wsX3_readMoon_r1 _ (List.mem_of_getElem? (i := 9) rfl), (List.forall_mem_append.mpr ⟨(List.forall_mem_append.mpr ⟨(List.forall_mem_cons.mpr ⟨ilX3_readMoon_wsX3_readMoon_r1 _ (List.mem_of_getElem? (i := 10) rfl), (List.forall_mem_cons.mpr ⟨ilX3_readMoon_wsX3_readMoon_r1 _ (List.mem_of_getElem? (i := 11) rfl), (List.forall_mem_cons.mpr ⟨ilX3_readMoon_wsX3_readMoon_r1 _ (List.mem_of_getElem? (i := 12) rfl), (List.forall_mem_cons.mpr ⟨ilX3_readMoon_wsX3_readMoon_r1 _ (List.mem_of_getElem? (i := 13) rfl), (List.forall_mem_cons.mpr ⟨ilX3_readMoon_wsX3_readMoon_r1 _ (List.mem_of_getElem? (i := 14) rfl), (List.forall_mem_cons.mpr ⟨ilX3_readMoon_wsX3_readMoon_r1 _ (List.mem_of_getElem? (i := 15) rfl), (List.forall_mem_cons.mpr ⟨ilX3_readMoon_wsX3_readMoon_r1 _ (List.mem_of_getElem? (i := 16) rfl), (List.forall_mem_cons.mpr ⟨ilX3_readMoon_wsX3_readMoon_r1 _ (List.mem_of_getElem? (i := 17) rfl), (List.forall_mem_cons.mpr ⟨ilX3_readMoon_wsX3_readMoon_r1 _ (List.mem_of_getElem? (i := 18) rfl), (List.forall_mem_cons.mpr ⟨ilX3_readMoon_wsX3_readMoon_r1 _ (List.mem_of_getElem? (i := 19) rfl), (List.forall_mem_cons.mpr ⟨ilX3_readMoon_wsX3_readMoon_r1 _ (List.mem_of_getElem? (i := 20) rfl), (List.forall_mem_cons.mpr ⟨ilX3_readMoon_wsX3_readMoon_r1 _ (List.mem_of_getElem? (i := 21) rfl), (List.forall_mem_cons.mpr ⟨ilX3_readMoon_wsX3_readMoon_r1 _ (List.mem_of_getElem? (i := 22) rfl), (List.forall_mem_cons.mpr ⟨ilX3_readMoon_wsX3_readMoon_r1 _ (List.mem_of_getElem? (i := 23) rfl), (List.forall_mem_cons.mpr ⟨ilX3_readMoon_wsX3_readMoon_r2 _ (List.mem_of_getElem? (i := 0) rfl), (List.forall_mem_cons.mpr ⟨ilX3_readMoon_wsX3_readMoon_r1 _ (List.mem_of_getElem? (i := 8) rfl), (List.forall_mem_cons.mpr ⟨ilX3_readMoon_wsX3_readMoon_r2 _ (List.mem_of_getElem? (i := 1) rfl), (List.forall_mem_cons.mpr ⟨ilX3_readMoon_wsX3_readMoon_r2 _ (List.mem_of_getElem? (i := 2) rfl), (List.forall_mem_cons.mpr ⟨ilX3_readMoon_wsX3_readMoon_r2 _ (List.mem_of_getElem? (i := 3) rfl), (List.forall_mem_cons.mpr ⟨ilX3_readMoon_wsX3_readMoon_r2 _ (List.mem_of_getElem? (i := 4) rfl), (List.forall_mem_cons.mpr ⟨ilX3_readMoon_wsX3_readMoon_r2 _ (List.mem_of_getElem? (i := 5) rfl), (List.forall_mem_cons.mpr ⟨ilX3_readMoon_wsX3_readMoon_r2 _ (List.mem_of_getElem? (i := 6) rfl), (List.forall_mem_cons.mpr ⟨ilX3_readMoon_wsX3_readMoon_r2 _ (List.mem_of_getElem? (i := 7) rfl), (fun _ h => absurd h List.not_mem_nil)⟩)⟩)⟩)⟩)⟩)⟩)⟩)⟩)⟩)⟩)⟩)⟩)⟩)⟩)⟩)⟩)⟩)⟩)⟩)⟩)⟩)⟩)⟩), ilX3_readMoon_wsX30⟩), ilX3_readMoon_wsX50⟩)⟩) (by decide +kernel)
set_option maxRecDepth 20000 in
theorem gX3_readMoon_X3_step : GoodIn wsX3_readMoon (wsV RX3 60 RX3 yX3_step wsX3_step) := goodIn_app (goodIn_sub (List.forall_mem_cons.mpr ⟨ilX3_readMoon_wsX3_readMoon_r1 _ (List.mem_of_getElem? (i := 5) rfl), (List.forall_mem_cons.mpr ⟨ilX3_readMoon_wsX3_readMoon_r1 _ (List.mem_of_getElem? (i := 6) rfl), (List.forall_mem_cons.mpr ⟨ilX3_readMoon_wsX3_readMoon_r1 _ (List.mem_of_getElem? (i := 7) rfl), (List.forall_mem_cons.mpr ⟨ilX3_readMoon_wsX3_readMoon_r1 _ (List.mem_of_getElem? (i := 8) rfl), (fun _ h => absurd h List.not_mem_nil)⟩)⟩)⟩)⟩) (by decide +kernel)) ggX3_readMoon_X3_step
set_option maxRecDepth 20000 in
theorem ggX3_readMoon_X3_takeNumber : GoodIn wsX3_readMoon wsX3_takeNumber := goodIn_sub (List.forall_mem_cons.mpr ⟨ilX3_readMoon_wsX3_readMoon_r2 _ (List.mem_of_getElem? (i := 11) rfl), (List.forall_mem_append.mpr ⟨(List.forall_mem_append.mpr ⟨(List.forall_mem_append.mpr ⟨(List.forall_mem_cons.mpr ⟨ilX3_readMoon_wsX3_readMoon_r1 _ (List.mem_of_getElem? (i := 14) rfl), (List.forall_mem_cons.mpr ⟨ilX3_readMoon_wsX3_readMoon_r1 _ (List.mem_of_getElem? (i := 16) rfl), (List.forall_mem_cons.mpr ⟨ilX3_readMoon_wsX3_readMoon_r1 _ (List.mem_of_getElem? (i := 2) rfl), (List.forall_mem_cons.mpr ⟨ilX3_readMoon_wsX3_readMoon_r2 _ (List.mem_of_getElem? (i := 12) rfl), (List.forall_mem_cons.mpr ⟨ilX3_readMoon_wsX3_readMoon_r2 _ (List.mem_of_getElem? (i := 13) rfl), (List.forall_mem_cons.mpr ⟨ilX3_readMoon_wsX3_readMoon_r2 _ (List.mem_of_getElem? (i := 14) rfl), (List.forall_mem_cons.mpr ⟨ilX3_readMoon_wsX3_readMoon_r1 _ (List.mem_of_getElem? (i := 5) rfl), (List.forall_mem_cons.mpr ⟨ilX3_readMoon_wsX3_readMoon_r1 _ (List.mem_of_getElem? (i := 6) rfl), (List.forall_mem_cons.mpr ⟨ilX3_readMoon_wsX3_readMoon_r1 _ (List.mem_of_getElem? (i := 7) rfl), (List.forall_mem_cons.mpr ⟨ilX3_readMoon_wsX3_readMoon_r1 _ (List.mem_of_getElem? (i := 8) rfl), (List.forall_mem_cons.mpr ⟨ilX3_readMoon_wsX3_readMoon_r1 _ (List.mem_of_getElem? (i := 9) rfl), (List.forall_mem_cons.mpr ⟨ilX3_readMoon_wsX3_readMoon_r1 _ (List.mem_of_getElem? (i := 10) rfl), (List.forall_mem_cons.mpr ⟨ilX3_readMoon_wsX3_readMoon_r1 _ (List.mem_of_getElem? (i := 11) rfl), (List.forall_mem_cons.mpr ⟨ilX3_readMoon_wsX3_readMoon_r1 _ (List.mem_of_getElem? (i := 12) rfl), (List.forall_mem_cons.mpr ⟨ilX3_readMoon_wsX3_readMoon_r1 _ (List.mem_of_getElem? (i := 13) rfl), (List.forall_mem_cons.mpr ⟨ilX3_readMoon_wsX3_readMoon_r1 _ (List.mem_of_getElem? (i := 15) rfl), (List.forall_mem_cons.mpr ⟨ilX3_readMoon_wsX3_readMoon_r1 _ (List.mem_of_getElem? (i := 17) rfl), (List.forall_mem_cons.mpr ⟨ilX3_readMoon_wsX3_readMoon_r1 _ (List.mem_of_getElem? (i := 18) rfl), (List.forall_mem_cons.mpr ⟨ilX3_readMoon_wsX3_readMoon_r1 _ (List.mem_of_getElem? (i := 19) rfl), (List.forall_mem_cons.mpr ⟨ilX3_readMoon_wsX3_readMoon_r1 _ (List.mem_of_getElem? (i := 20) rfl), (List.forall_mem_cons.mpr ⟨ilX3_readMoon_wsX3_readMoon_r1 _ (List.mem_of_getElem? (i := 21) rfl), (List.forall_mem_cons.mpr ⟨ilX3_readMoon_wsX3_readMoon_r1 _ (List.mem_of_getElem? (i := 22) rfl), (List.forall_mem_cons.mpr ⟨ilX3_readMoon_wsX3_readMoon_r1 _ (List.mem_of_getElem? (i := 23) rfl), (List.forall_mem_cons.mpr ⟨ilX3_readMoon_wsX3_readMoon_r2 _ (List.mem_of_getElem? (i := 0) rfl), (fun _ h => absurd h List.not_mem_nil)⟩)⟩)⟩)⟩)⟩)⟩)⟩)⟩)⟩)⟩)⟩)⟩)⟩)⟩)⟩)⟩)⟩)⟩)⟩)⟩)⟩)⟩)⟩)⟩), (List.forall_mem_cons.mpr ⟨ilX3_readMoon_wsX3_readMoon_r2 _ (List.mem_of_getElem? (i := 1) rfl), (List.forall_mem_cons.mpr ⟨ilX3_readMoon_wsX3_readMoon_r2 _ (List.mem_of_getElem? (i := 2) rfl), (List.forall_mem_cons.mpr ⟨ilX3_readMoon_wsX3_readMoon_r2 _ (List.mem_of_getElem? (i := 3) rfl), (List.forall_mem_cons.mpr ⟨ilX3_readMoon_wsX3_readMoon_r2 _ (List.mem_of_getElem? (i := 4) rfl), (List.forall_mem_cons.mpr ⟨ilX3_readMoon_wsX3_readMoon_r2 _ (List.mem_of_getElem? (i := 5) rfl), (List.forall_mem_cons.mpr ⟨ilX3_readMoon_wsX3_readMoon_r2 _ (List.mem_of_getElem? (i := 6) rfl), (List.forall_mem_cons.mpr ⟨ilX3_readMoon_wsX3_readMoon_r2 _ (List.mem_of_getElem? (i := 7) rfl), (fun _ h => absurd h List.not_mem_nil)⟩)⟩)⟩)⟩)⟩)⟩)⟩)⟩), ilX3_readMoon_wsX30⟩), ilX3_readMoon_wsX50⟩)⟩) (by decide +kernel)
set_option maxRecDepth 20000 in
theorem gX3_readMoon_X3_takeNumber : GoodIn wsX3_readMoon (wsV RX3 109 RX3 yX3_takeNumber wsX3_takeNumber) := goodIn_app (goodIn_sub (List.forall_mem_cons.mpr ⟨ilX3_readMoon_wsX3_readMoon_r2 _ (List.mem_of_getElem? (i := 8) rfl), (List.forall_mem_cons.mpr ⟨ilX3_readMoon_wsX3_readMoon_r2 _ (List.mem_of_getElem? (i := 9) rfl), (List.forall_mem_cons.mpr ⟨ilX3_readMoon_wsX3_readMoon_r2 _ (List.mem_of_getElem? (i := 10) rfl), (List.forall_mem_cons.mpr ⟨ilX3_readMoon_wsX3_readMoon_r1 _ (List.mem_of_getElem? (i := 8) rfl), (fun _ h => absurd h List.not_mem_nil)⟩)⟩)⟩)⟩) (by decide +kernel)) ggX3_readMoon_X3_takeNumber
set_option maxRecDepth 20000 in
theorem ggX3_readMoon_X3_takeStop : GoodIn wsX3_readMoon wsX3_takeStop := goodIn_sub (List.forall_mem_cons.mpr ⟨ilX3_readMoon_wsX3_readMoon_r2 _ (List.mem_of_getElem? (i := 18) rfl), (List.forall_mem_append.mpr ⟨(List.forall_mem_append.mpr ⟨(List.forall_mem_append.mpr ⟨(List.forall_mem_cons.mpr ⟨ilX3_readMoon_wsX3_readMoon_r1 _ (List.mem_of_getElem? (i := 14) rfl), (List.forall_mem_cons.mpr ⟨ilX3_readMoon_wsX3_readMoon_r1 _ (List.mem_of_getElem? (i := 5) rfl), (List.forall_mem_cons.mpr ⟨ilX3_readMoon_wsX3_readMoon_r1 _ (List.mem_of_getElem? (i := 6) rfl), (List.forall_mem_cons.mpr ⟨ilX3_readMoon_wsX3_readMoon_r1 _ (List.mem_of_getElem? (i := 7) rfl), (List.forall_mem_cons.mpr ⟨ilX3_readMoon_wsX3_readMoon_r1 _ (List.mem_of_getElem? (i := 8) rfl), (List.forall_mem_cons.mpr ⟨ilX3_readMoon_wsX3_readMoon_r1 _ (List.mem_of_getElem? (i := 9) rfl), (List.forall_mem_cons.mpr ⟨ilX3_readMoon_wsX3_readMoon_r1 _ (List.mem_of_getElem? (i := 10) rfl), (List.forall_mem_cons.mpr ⟨ilX3_readMoon_wsX3_readMoon_r1 _ (List.mem_of_getElem? (i := 11) rfl), (List.forall_mem_cons.mpr ⟨ilX3_readMoon_wsX3_readMoon_r1 _ (List.mem_of_getElem? (i := 12) rfl), (List.forall_mem_cons.mpr ⟨ilX3_readMoon_wsX3_readMoon_r1 _ (List.mem_of_getElem? (i := 13) rfl), (List.forall_mem_cons.mpr ⟨ilX3_readMoon_wsX3_readMoon_r1 _ (List.mem_of_getElem? (i := 15) rfl), (List.forall_mem_cons.mpr ⟨ilX3_readMoon_wsX3_readMoon_r1 _ (List.mem_of_getElem? (i := 16) rfl), (List.forall_mem_cons.mpr ⟨ilX3_readMoon_wsX3_readMoon_r1 _ (List.mem_of_getElem? (i := 17) rfl), (List.forall_mem_cons.mpr ⟨ilX3_readMoon_wsX3_readMoon_r1 _ (List.mem_of_getElem? (i := 18) rfl), (List.forall_mem_cons.mpr ⟨ilX3_readMoon_wsX3_readMoon_r1 _ (List.mem_of_getElem? (i := 19) rfl), (List.forall_mem_cons.mpr ⟨ilX3_readMoon_wsX3_readMoon_r1 _ (List.mem_of_getElem? (i := 20) rfl), (List.forall_mem_cons.mpr ⟨ilX3_readMoon_wsX3_readMoon_r1 _ (List.mem_of_getElem? (i := 21) rfl), (List.forall_mem_cons.mpr ⟨ilX3_readMoon_wsX3_readMoon_r1 _ (List.mem_of_getElem? (i := 22) rfl), (List.forall_mem_cons.mpr ⟨ilX3_readMoon_wsX3_readMoon_r1 _ (List.mem_of_getElem? (i := 23) rfl), (List.forall_mem_cons.mpr ⟨ilX3_readMoon_wsX3_readMoon_r2 _ (List.mem_of_getElem? (i := 0) rfl), (List.forall_mem_cons.mpr ⟨ilX3_readMoon_wsX3_readMoon_r2 _ (List.mem_of_getElem? (i := 1) rfl), (List.forall_mem_cons.mpr ⟨ilX3_readMoon_wsX3_readMoon_r2 _ (List.mem_of_getElem? (i := 2) rfl), (List.forall_mem_cons.mpr ⟨ilX3_readMoon_wsX3_readMoon_r2 _ (List.mem_of_getElem? (i := 3) rfl), (List.forall_mem_cons.mpr ⟨ilX3_readMoon_wsX3_readMoon_r2 _ (List.mem_of_getElem? (i := 4) rfl), (fun _ h => absurd h List.not_mem_nil)⟩)⟩)⟩)⟩)⟩)⟩)⟩)⟩)⟩)⟩)⟩)⟩)⟩)⟩)⟩)⟩)⟩)⟩)⟩)⟩)⟩)⟩)⟩)⟩), (List.forall_mem_cons.mpr ⟨ilX3_readMoon_wsX3_readMoon_r2 _ (List.mem_of_getElem? (i := 5) rfl), (List.forall_mem_cons.mpr ⟨ilX3_readMoon_wsX3_readMoon_r2 _ (List.mem_of_getElem? (i := 6) rfl), (List.forall_mem_cons.mpr ⟨ilX3_readMoon_wsX3_readMoon_r2 _ (List.mem_of_getElem? (i := 7) rfl), (fun _ h => absurd h List.not_mem_nil)⟩)⟩)⟩)⟩), ilX3_readMoon_wsX30⟩), ilX3_readMoon_wsX50⟩)⟩) (by decide +kernel)
set_option maxRecDepth 20000 in
theorem gX3_readMoon_X3_takeStop : GoodIn wsX3_readMoon (wsV RX3 119 RX3 yX3_takeStop wsX3_takeStop) := goodIn_app (goodIn_sub (List.forall_mem_cons.mpr ⟨ilX3_readMoon_wsX3_readMoon_r2 _ (List.mem_of_getElem? (i := 15) rfl), (List.forall_mem_cons.mpr ⟨ilX3_readMoon_wsX3_readMoon_r2 _ (List.mem_of_getElem? (i := 16) rfl), (List.forall_mem_cons.mpr ⟨ilX3_readMoon_wsX3_readMoon_r2 _ (List.mem_of_getElem? (i := 17) rfl), (List.forall_mem_cons.mpr ⟨ilX3_readMoon_wsX3_readMoon_r1 _ (List.mem_of_getElem? (i := 8) rfl), (fun _ h => absurd h List.not_mem_nil)⟩)⟩)⟩)⟩) (by decide +kernel)) ggX3_readMoon_X3_takeStop
theorem dX3_readMoon_0 : decode cX3_readMoon 0 = .ok (.aload_n 0, 1) := by decide +kernel
theorem dX3_readMoon_1 : decode cX3_readMoon 1 = .ok (.getfield 37, 3) := by decide +kernel
theorem dX3_readMoon_4 : decode cX3_readMoon 4 = .ok (.ifCond .eq 5, 3) := by decide +kernel
theorem dX3_readMoon_7 : decode cX3_readMoon 7 = .ok (.iconst 0, 1) := by decide +kernel
theorem dX3_readMoon_8 : decode cX3_readMoon 8 = .ok (.ireturn, 1) := by decide +kernel
theorem dX3_readMoon_9 : decode cX3_readMoon 9 = .ok (.aload_n 0, 1) := by decide +kernel
theorem dX3_readMoon_10 : decode cX3_readMoon 10 = .ok (.iconst 1, 1) := by decide +kernel
theorem dX3_readMoon_11 : decode cX3_readMoon 11 = .ok (.putfield 37, 3) := by decide +kernel
theorem dX3_readMoon_14 : decode cX3_readMoon 14 = .ok (.aload_n 0, 1) := by decide +kernel
theorem dX3_readMoon_15 : decode cX3_readMoon 15 = .ok (.invokevirtual 60, 3) := by decide +kernel
theorem dX3_readMoon_18 : decode cX3_readMoon 18 = .ok (.aload_n 0, 1) := by decide +kernel
theorem dX3_readMoon_19 : decode cX3_readMoon 19 = .ok (.iconst 5, 1) := by decide +kernel
theorem dX3_readMoon_20 : decode cX3_readMoon 20 = .ok (.bipush 30, 2) := by decide +kernel
theorem dX3_readMoon_22 : decode cX3_readMoon 22 = .ok (.invokevirtual 109, 3) := by decide +kernel
theorem dX3_readMoon_25 : decode cX3_readMoon 25 = .ok (.ifCond .ne 5, 3) := by decide +kernel
theorem dX3_readMoon_28 : decode cX3_readMoon 28 = .ok (.iconst 0, 1) := by decide +kernel
theorem dX3_readMoon_29 : decode cX3_readMoon 29 = .ok (.ireturn, 1) := by decide +kernel
theorem dX3_readMoon_30 : decode cX3_readMoon 30 = .ok (.aload_n 0, 1) := by decide +kernel
theorem dX3_readMoon_31 : decode cX3_readMoon 31 = .ok (.getfield 51, 3) := by decide +kernel
theorem dX3_readMoon_34 : decode cX3_readMoon 34 = .ok (.aload_n 0, 1) := by decide +kernel
theorem dX3_readMoon_35 : decode cX3_readMoon 35 = .ok (.getfield 34, 3) := by decide +kernel
theorem dX3_readMoon_38 : decode cX3_readMoon 38 = .ok (.putfield 113, 3) := by decide +kernel
theorem dX3_readMoon_41 : decode cX3_readMoon 41 = .ok (.aload_n 0, 1) := by decide +kernel
theorem dX3_readMoon_42 : decode cX3_readMoon 42 = .ok (.iconst 0, 1) := by decide +kernel
theorem dX3_readMoon_43 : decode cX3_readMoon 43 = .ok (.bipush 15, 2) := by decide +kernel
theorem dX3_readMoon_45 : decode cX3_readMoon 45 = .ok (.invokevirtual 109, 3) := by decide +kernel
theorem dX3_readMoon_48 : decode cX3_readMoon 48 = .ok (.ifCond .ne 5, 3) := by decide +kernel
theorem dX3_readMoon_51 : decode cX3_readMoon 51 = .ok (.iconst 0, 1) := by decide +kernel
theorem dX3_readMoon_52 : decode cX3_readMoon 52 = .ok (.ireturn, 1) := by decide +kernel
theorem dX3_readMoon_53 : decode cX3_readMoon 53 = .ok (.aload_n 0, 1) := by decide +kernel
theorem dX3_readMoon_54 : decode cX3_readMoon 54 = .ok (.getfield 51, 3) := by decide +kernel
theorem dX3_readMoon_57 : decode cX3_readMoon 57 = .ok (.aload_n 0, 1) := by decide +kernel
theorem dX3_readMoon_58 : decode cX3_readMoon 58 = .ok (.getfield 34, 3) := by decide +kernel
theorem dX3_readMoon_61 : decode cX3_readMoon 61 = .ok (.putfield 116, 3) := by decide +kernel
theorem dX3_readMoon_64 : decode cX3_readMoon 64 = .ok (.aload_n 0, 1) := by decide +kernel
theorem dX3_readMoon_65 : decode cX3_readMoon 65 = .ok (.invokevirtual 119, 3) := by decide +kernel
theorem dX3_readMoon_68 : decode cX3_readMoon 68 = .ok (.ireturn, 1) := by decide +kernel
theorem ilX3_readStrike_wsX3_readStrike_r1 : ∀ w ∈ wsX3_readStrike_r1, w ∈ wsX3_readStrike := fun _ h => List.mem_cons_of_mem _ (List.mem_append_left _ (List.mem_append_left _ (List.mem_append_left _ (List.mem_append_left _ (h)))))
theorem ilX3_readStrike_wsX3_readStrike_r2 : ∀ w ∈ wsX3_readStrike_r2, w ∈ wsX3_readStrike := fun _ h => List.mem_cons_of_mem _ (List.mem_append_left _ (List.mem_append_left _ (List.mem_append_left _ (List.mem_append_right _ (h)))))
theorem ilX3_readStrike_wsX30 : ∀ w ∈ wsX30, w ∈ wsX3_readStrike := fun _ h => List.mem_cons_of_mem _ (List.mem_append_left _ (List.mem_append_left _ (List.mem_append_right _ (h))))
theorem ilX3_readStrike_wsX10 : ∀ w ∈ wsX10, w ∈ wsX3_readStrike := fun _ h => List.mem_cons_of_mem _ (List.mem_append_left _ (List.mem_append_right _ (h)))
theorem ilX3_readStrike_wsX50 : ∀ w ∈ wsX50, w ∈ wsX3_readStrike := fun _ h => List.mem_cons_of_mem _ (List.mem_append_right _ (h))
set_option maxRecDepth 20000 in
theorem ggX3_readStrike_X3_step : GoodIn wsX3_readStrike wsX3_step := goodIn_sub (List.forall_mem_cons.mpr ⟨ilX3_readStrike_wsX3_readStrike_r1 _ (List.mem_of_getElem? (i := 9) rfl), (List.forall_mem_append.mpr ⟨(List.forall_mem_append.mpr ⟨(List.forall_mem_cons.mpr ⟨ilX3_readStrike_wsX3_readStrike_r1 _ (List.mem_of_getElem? (i := 10) rfl), (List.forall_mem_cons.mpr ⟨ilX3_readStrike_wsX3_readStrike_r1 _ (List.mem_of_getElem? (i := 11) rfl), (List.forall_mem_cons.mpr ⟨ilX3_readStrike_wsX3_readStrike_r1 _ (List.mem_of_getElem? (i := 12) rfl), (List.forall_mem_cons.mpr ⟨ilX3_readStrike_wsX3_readStrike_r1 _ (List.mem_of_getElem? (i := 13) rfl), (List.forall_mem_cons.mpr ⟨ilX3_readStrike_wsX3_readStrike_r1 _ (List.mem_of_getElem? (i := 14) rfl), (List.forall_mem_cons.mpr ⟨ilX3_readStrike_wsX3_readStrike_r1 _ (List.mem_of_getElem? (i := 15) rfl), (List.forall_mem_cons.mpr ⟨ilX3_readStrike_wsX3_readStrike_r1 _ (List.mem_of_getElem? (i := 16) rfl), (List.forall_mem_cons.mpr ⟨ilX3_readStrike_wsX3_readStrike_r1 _ (List.mem_of_getElem? (i := 17) rfl), (List.forall_mem_cons.mpr ⟨ilX3_readStrike_wsX3_readStrike_r1 _ (List.mem_of_getElem? (i := 18) rfl), (List.forall_mem_cons.mpr ⟨ilX3_readStrike_wsX3_readStrike_r1 _ (List.mem_of_getElem? (i := 19) rfl), (List.forall_mem_cons.mpr ⟨ilX3_readStrike_wsX3_readStrike_r1 _ (List.mem_of_getElem? (i := 20) rfl), (List.forall_mem_cons.mpr ⟨ilX3_readStrike_wsX3_readStrike_r1 _ (List.mem_of_getElem? (i := 21) rfl), (List.forall_mem_cons.mpr ⟨ilX3_readStrike_wsX3_readStrike_r1 _ (List.mem_of_getElem? (i := 22) rfl), (List.forall_mem_cons.mpr ⟨ilX3_readStrike_wsX3_readStrike_r1 _ (List.mem_of_getElem? (i := 23) rfl), (List.forall_mem_cons.mpr ⟨ilX3_readStrike_wsX3_readStrike_r2 _ (List.mem_of_getElem? (i := 0) rfl), (List.forall_mem_cons.mpr ⟨ilX3_readStrike_wsX3_readStrike_r1 _ (List.mem_of_getElem? (i := 8) rfl), (List.forall_mem_cons.mpr ⟨ilX3_readStrike_wsX3_readStrike_r2 _ (List.mem_of_getElem? (i := 1) rfl), (List.forall_mem_cons.mpr ⟨ilX3_readStrike_wsX3_readStrike_r2 _ (List.mem_of_getElem? (i := 2) rfl), (List.forall_mem_cons.mpr ⟨ilX3_readStrike_wsX3_readStrike_r2 _ (List.mem_of_getElem? (i := 3) rfl), (List.forall_mem_cons.mpr ⟨ilX3_readStrike_wsX3_readStrike_r2 _ (List.mem_of_getElem? (i := 4) rfl), (List.forall_mem_cons.mpr ⟨ilX3_readStrike_wsX3_readStrike_r2 _ (List.mem_of_getElem? (i := 5) rfl), (List.forall_mem_cons.mpr ⟨ilX3_readStrike_wsX3_readStrike_r2 _ (List.mem_of_getElem? (i := 6) rfl), (List.forall_mem_cons.mpr ⟨ilX3_readStrike_wsX3_readStrike_r2 _ (List.mem_of_getElem? (i := 7) rfl), (fun _ h => absurd h List.not_mem_nil)⟩)⟩)⟩)⟩)⟩)⟩)⟩)⟩)⟩)⟩)⟩)⟩)⟩)⟩)⟩)⟩)⟩)⟩)⟩)⟩)⟩)⟩)⟩), ilX3_readStrike_wsX30⟩), ilX3_readStrike_wsX50⟩)⟩) (by decide +kernel)
set_option maxRecDepth 20000 in
theorem gX3_readStrike_X3_step : GoodIn wsX3_readStrike (wsV RX3 60 RX3 yX3_step wsX3_step) := goodIn_app (goodIn_sub (List.forall_mem_cons.mpr ⟨ilX3_readStrike_wsX3_readStrike_r1 _ (List.mem_of_getElem? (i := 5) rfl), (List.forall_mem_cons.mpr ⟨ilX3_readStrike_wsX3_readStrike_r1 _ (List.mem_of_getElem? (i := 6) rfl), (List.forall_mem_cons.mpr ⟨ilX3_readStrike_wsX3_readStrike_r1 _ (List.mem_of_getElem? (i := 7) rfl), (List.forall_mem_cons.mpr ⟨ilX3_readStrike_wsX3_readStrike_r1 _ (List.mem_of_getElem? (i := 8) rfl), (fun _ h => absurd h List.not_mem_nil)⟩)⟩)⟩)⟩) (by decide +kernel)) ggX3_readStrike_X3_step
set_option maxRecDepth 20000 in
theorem ggX3_readStrike_X3_takeNumber : GoodIn wsX3_readStrike wsX3_takeNumber := goodIn_sub (List.forall_mem_cons.mpr ⟨ilX3_readStrike_wsX3_readStrike_r2 _ (List.mem_of_getElem? (i := 11) rfl), (List.forall_mem_append.mpr ⟨(List.forall_mem_append.mpr ⟨(List.forall_mem_append.mpr ⟨(List.forall_mem_cons.mpr ⟨ilX3_readStrike_wsX3_readStrike_r1 _ (List.mem_of_getElem? (i := 14) rfl), (List.forall_mem_cons.mpr ⟨ilX3_readStrike_wsX3_readStrike_r1 _ (List.mem_of_getElem? (i := 16) rfl), (List.forall_mem_cons.mpr ⟨ilX3_readStrike_wsX3_readStrike_r1 _ (List.mem_of_getElem? (i := 2) rfl), (List.forall_mem_cons.mpr ⟨ilX3_readStrike_wsX3_readStrike_r2 _ (List.mem_of_getElem? (i := 12) rfl), (List.forall_mem_cons.mpr ⟨ilX3_readStrike_wsX3_readStrike_r2 _ (List.mem_of_getElem? (i := 13) rfl), (List.forall_mem_cons.mpr ⟨ilX3_readStrike_wsX3_readStrike_r2 _ (List.mem_of_getElem? (i := 14) rfl), (List.forall_mem_cons.mpr ⟨ilX3_readStrike_wsX3_readStrike_r1 _ (List.mem_of_getElem? (i := 5) rfl), (List.forall_mem_cons.mpr ⟨ilX3_readStrike_wsX3_readStrike_r1 _ (List.mem_of_getElem? (i := 6) rfl), (List.forall_mem_cons.mpr ⟨ilX3_readStrike_wsX3_readStrike_r1 _ (List.mem_of_getElem? (i := 7) rfl), (List.forall_mem_cons.mpr ⟨ilX3_readStrike_wsX3_readStrike_r1 _ (List.mem_of_getElem? (i := 8) rfl), (List.forall_mem_cons.mpr ⟨ilX3_readStrike_wsX3_readStrike_r1 _ (List.mem_of_getElem? (i := 9) rfl), (List.forall_mem_cons.mpr ⟨ilX3_readStrike_wsX3_readStrike_r1 _ (List.mem_of_getElem? (i := 10) rfl), (List.forall_mem_cons.mpr ⟨ilX3_readStrike_wsX3_readStrike_r1 _ (List.mem_of_getElem? (i := 11) rfl), (List.forall_mem_cons.mpr ⟨ilX3_readStrike_wsX3_readStrike_r1 _ (List.mem_of_getElem? (i := 12) rfl), (List.forall_mem_cons.mpr ⟨ilX3_readStrike_wsX3_readStrike_r1 _ (List.mem_of_getElem? (i := 13) rfl), (List.forall_mem_cons.mpr ⟨ilX3_readStrike_wsX3_readStrike_r1 _ (List.mem_of_getElem? (i := 15) rfl), (List.forall_mem_cons.mpr ⟨ilX3_readStrike_wsX3_readStrike_r1 _ (List.mem_of_getElem? (i := 17) rfl), (List.forall_mem_cons.mpr ⟨ilX3_readStrike_wsX3_readStrike_r1 _ (List.mem_of_getElem? (i := 18) rfl), (List.forall_mem_cons.mpr ⟨ilX3_readStrike_wsX3_readStrike_r1 _ (List.mem_of_getElem? (i := 19) rfl), (List.forall_mem_cons.mpr ⟨ilX3_readStrike_wsX3_readStrike_r1 _ (List.mem_of_getElem? (i := 20) rfl), (List.forall_mem_cons.mpr ⟨ilX3_readStrike_wsX3_readStrike_r1 _ (List.mem_of_getElem? (i := 21) rfl), (List.forall_mem_cons.mpr ⟨ilX3_readStrike_wsX3_readStrike_r1 _ (List.mem_of_getElem? (i := 22) rfl), (List.forall_mem_cons.mpr ⟨ilX3_readStrike_wsX3_readStrike_r1 _ (List.mem_of_getElem? (i := 23) rfl), (List.forall_mem_cons.mpr ⟨ilX3_readStrike_wsX3_readStrike_r2 _ (List.mem_of_getElem? (i := 0) rfl), (fun _ h => absurd h List.not_mem_nil)⟩)⟩)⟩)⟩)⟩)⟩)⟩)⟩)⟩)⟩)⟩)⟩)⟩)⟩)⟩)⟩)⟩)⟩)⟩)⟩)⟩)⟩)⟩)⟩), (List.forall_mem_cons.mpr ⟨ilX3_readStrike_wsX3_readStrike_r2 _ (List.mem_of_getElem? (i := 1) rfl), (List.forall_mem_cons.mpr ⟨ilX3_readStrike_wsX3_readStrike_r2 _ (List.mem_of_getElem? (i := 2) rfl), (List.forall_mem_cons.mpr ⟨ilX3_readStrike_wsX3_readStrike_r2 _ (List.mem_of_getElem? (i := 3) rfl), (List.forall_mem_cons.mpr ⟨ilX3_readStrike_wsX3_readStrike_r2 _ (List.mem_of_getElem? (i := 4) rfl), (List.forall_mem_cons.mpr ⟨ilX3_readStrike_wsX3_readStrike_r2 _ (List.mem_of_getElem? (i := 5) rfl), (List.forall_mem_cons.mpr ⟨ilX3_readStrike_wsX3_readStrike_r2 _ (List.mem_of_getElem? (i := 6) rfl), (List.forall_mem_cons.mpr ⟨ilX3_readStrike_wsX3_readStrike_r2 _ (List.mem_of_getElem? (i := 7) rfl), (fun _ h => absurd h List.not_mem_nil)⟩)⟩)⟩)⟩)⟩)⟩)⟩)⟩), ilX3_readStrike_wsX30⟩), ilX3_readStrike_wsX50⟩)⟩) (by decide +kernel)
set_option maxRecDepth 20000 in
theorem gX3_readStrike_X3_takeNumber : GoodIn wsX3_readStrike (wsV RX3 109 RX3 yX3_takeNumber wsX3_takeNumber) := goodIn_app (goodIn_sub (List.forall_mem_cons.mpr ⟨ilX3_readStrike_wsX3_readStrike_r2 _ (List.mem_of_getElem? (i := 8) rfl), (List.forall_mem_cons.mpr ⟨ilX3_readStrike_wsX3_readStrike_r2 _ (List.mem_of_getElem? (i := 9) rfl), (List.forall_mem_cons.mpr ⟨ilX3_readStrike_wsX3_readStrike_r2 _ (List.mem_of_getElem? (i := 10) rfl), (List.forall_mem_cons.mpr ⟨ilX3_readStrike_wsX3_readStrike_r1 _ (List.mem_of_getElem? (i := 8) rfl), (fun _ h => absurd h List.not_mem_nil)⟩)⟩)⟩)⟩) (by decide +kernel)) ggX3_readStrike_X3_takeNumber
set_option maxRecDepth 20000 in
theorem ggX3_readStrike_X3_takeStop : GoodIn wsX3_readStrike wsX3_takeStop := goodIn_sub (List.forall_mem_cons.mpr ⟨ilX3_readStrike_wsX3_readStrike_r2 _ (List.mem_of_getElem? (i := 18) rfl), (List.forall_mem_append.mpr ⟨(List.forall_mem_append.mpr ⟨(List.forall_mem_append.mpr ⟨(List.forall_mem_cons.mpr ⟨ilX3_readStrike_wsX3_readStrike_r1 _ (List.mem_of_getElem? (i := 14) rfl), (List.forall_mem_cons.mpr ⟨ilX3_readStrike_wsX3_readStrike_r1 _ (List.mem_of_getElem? (i := 5) rfl), (List.forall_mem_cons.mpr ⟨ilX3_readStrike_wsX3_readStrike_r1 _ (List.mem_of_getElem? (i := 6) rfl), (List.forall_mem_cons.mpr ⟨ilX3_readStrike_wsX3_readStrike_r1 _ (List.mem_of_getElem? (i := 7) rfl), (List.forall_mem_cons.mpr ⟨ilX3_readStrike_wsX3_readStrike_r1 _ (List.mem_of_getElem? (i := 8) rfl), (List.forall_mem_cons.mpr ⟨ilX3_readStrike_wsX3_readStrike_r1 _ (List.mem_of_getElem? (i := 9) rfl), (List.forall_mem_cons.mpr ⟨ilX3_readStrike_wsX3_readStrike_r1 _ (List.mem_of_getElem? (i := 10) rfl), (List.forall_mem_cons.mpr ⟨ilX3_readStrike_wsX3_readStrike_r1 _ (List.mem_of_getElem? (i := 11) rfl), (List.forall_mem_cons.mpr ⟨ilX3_readStrike_wsX3_readStrike_r1 _ (List.mem_of_getElem? (i := 12) rfl), (List.forall_mem_cons.mpr ⟨ilX3_readStrike_wsX3_readStrike_r1 _ (List.mem_of_getElem? (i := 13) rfl), (List.forall_mem_cons.mpr ⟨ilX3_readStrike_wsX3_readStrike_r1 _ (List.mem_of_getElem? (i := 15) rfl), (List.forall_mem_cons.mpr ⟨ilX3_readStrike_wsX3_readStrike_r1 _ (List.mem_of_getElem? (i := 16) rfl), (List.forall_mem_cons.mpr ⟨ilX3_readStrike_wsX3_readStrike_r1 _ (List.mem_of_getElem? (i := 17) rfl), (List.forall_mem_cons.mpr ⟨ilX3_readStrike_wsX3_readStrike_r1 _ (List.mem_of_getElem? (i := 18) rfl), (List.forall_mem_cons.mpr ⟨ilX3_readStrike_wsX3_readStrike_r1 _ (List.mem_of_getElem? (i := 19) rfl), (List.forall_mem_cons.mpr ⟨ilX3_readStrike_wsX3_readStrike_r1 _ (List.mem_of_getElem? (i := 20) rfl), (List.forall_mem_cons.mpr ⟨ilX3_readStrike_wsX3_readStrike_r1 _ (List.mem_of_getElem? (i := 21) rfl), (List.forall_mem_cons.mpr ⟨ilX3_readStrike_wsX3_readStrike_r1 _ (List.mem_of_getElem? (i := 22) rfl), (List.forall_mem_cons.mpr ⟨ilX3_readStrike_wsX3_readStrike_r1 _ (List.mem_of_getElem? (i := 23) rfl), (List.forall_mem_cons.mpr ⟨ilX3_readStrike_wsX3_readStrike_r2 _ (List.mem_of_getElem? (i := 0) rfl), (List.forall_mem_cons.mpr ⟨ilX3_readStrike_wsX3_readStrike_r2 _ (List.mem_of_getElem? (i := 1) rfl), (List.forall_mem_cons.mpr ⟨ilX3_readStrike_wsX3_readStrike_r2 _ (List.mem_of_getElem? (i := 2) rfl), (List.forall_mem_cons.mpr ⟨ilX3_readStrike_wsX3_readStrike_r2 _ (List.mem_of_getElem? (i := 3) rfl), (List.forall_mem_cons.mpr ⟨ilX3_readStrike_wsX3_readStrike_r2 _ (List.mem_of_getElem? (i := 4) rfl), (fun _ h => absurd h List.not_mem_nil)⟩)⟩)⟩)⟩)⟩)⟩)⟩)⟩)⟩)⟩)⟩)⟩)⟩)⟩)⟩)⟩)⟩)⟩)⟩)⟩)⟩)⟩)⟩)⟩), (List.forall_mem_cons.mpr ⟨ilX3_readStrike_wsX3_readStrike_r2 _ (List.mem_of_getElem? (i := 5) rfl), (List.forall_mem_cons.mpr ⟨ilX3_readStrike_wsX3_readStrike_r2 _ (List.mem_of_getElem? (i := 6) rfl), (List.forall_mem_cons.mpr ⟨ilX3_readStrike_wsX3_readStrike_r2 _ (List.mem_of_getElem? (i := 7) rfl), (fun _ h => absurd h List.not_mem_nil)⟩)⟩)⟩)⟩), ilX3_readStrike_wsX30⟩), ilX3_readStrike_wsX50⟩)⟩) (by decide +kernel)
set_option maxRecDepth 20000 in
theorem gX3_readStrike_X3_takeStop : GoodIn wsX3_readStrike (wsV RX3 119 RX3 yX3_takeStop wsX3_takeStop) := goodIn_app (goodIn_sub (List.forall_mem_cons.mpr ⟨ilX3_readStrike_wsX3_readStrike_r2 _ (List.mem_of_getElem? (i := 15) rfl), (List.forall_mem_cons.mpr ⟨ilX3_readStrike_wsX3_readStrike_r2 _ (List.mem_of_getElem? (i := 16) rfl), (List.forall_mem_cons.mpr ⟨ilX3_readStrike_wsX3_readStrike_r2 _ (List.mem_of_getElem? (i := 17) rfl), (List.forall_mem_cons.mpr ⟨ilX3_readStrike_wsX3_readStrike_r1 _ (List.mem_of_getElem? (i := 8) rfl), (fun _ h => absurd h List.not_mem_nil)⟩)⟩)⟩)⟩) (by decide +kernel)) ggX3_readStrike_X3_takeStop
theorem dX3_readStrike_0 : decode cX3_readStrike 0 = .ok (.aload_n 0, 1) := by decide +kernel
theorem dX3_readStrike_1 : decode cX3_readStrike 1 = .ok (.getfield 41, 3) := by decide +kernel
theorem dX3_readStrike_4 : decode cX3_readStrike 4 = .ok (.ifCond .eq 5, 3) := by decide +kernel
theorem dX3_readStrike_7 : decode cX3_readStrike 7 = .ok (.iconst 0, 1) := by decide +kernel
theorem dX3_readStrike_8 : decode cX3_readStrike 8 = .ok (.ireturn, 1) := by decide +kernel
theorem dX3_readStrike_9 : decode cX3_readStrike 9 = .ok (.aload_n 0, 1) := by decide +kernel
theorem dX3_readStrike_10 : decode cX3_readStrike 10 = .ok (.iconst 1, 1) := by decide +kernel
theorem dX3_readStrike_11 : decode cX3_readStrike 11 = .ok (.putfield 41, 3) := by decide +kernel
theorem dX3_readStrike_14 : decode cX3_readStrike 14 = .ok (.aload_n 0, 1) := by decide +kernel
theorem dX3_readStrike_15 : decode cX3_readStrike 15 = .ok (.invokevirtual 60, 3) := by decide +kernel
theorem dX3_readStrike_18 : decode cX3_readStrike 18 = .ok (.aload_n 0, 1) := by decide +kernel
theorem dX3_readStrike_19 : decode cX3_readStrike 19 = .ok (.iconst 0, 1) := by decide +kernel
theorem dX3_readStrike_20 : decode cX3_readStrike 20 = .ok (.bipush 16, 2) := by decide +kernel
theorem dX3_readStrike_22 : decode cX3_readStrike 22 = .ok (.invokevirtual 109, 3) := by decide +kernel
theorem dX3_readStrike_25 : decode cX3_readStrike 25 = .ok (.ifCond .ne 5, 3) := by decide +kernel
theorem dX3_readStrike_28 : decode cX3_readStrike 28 = .ok (.iconst 0, 1) := by decide +kernel
theorem dX3_readStrike_29 : decode cX3_readStrike 29 = .ok (.ireturn, 1) := by decide +kernel
theorem dX3_readStrike_30 : decode cX3_readStrike 30 = .ok (.aload_n 0, 1) := by decide +kernel
theorem dX3_readStrike_31 : decode cX3_readStrike 31 = .ok (.getfield 51, 3) := by decide +kernel
theorem dX3_readStrike_34 : decode cX3_readStrike 34 = .ok (.aload_n 0, 1) := by decide +kernel
theorem dX3_readStrike_35 : decode cX3_readStrike 35 = .ok (.getfield 34, 3) := by decide +kernel
theorem dX3_readStrike_38 : decode cX3_readStrike 38 = .ok (.putfield 122, 3) := by decide +kernel
theorem dX3_readStrike_41 : decode cX3_readStrike 41 = .ok (.aload_n 0, 1) := by decide +kernel
theorem dX3_readStrike_42 : decode cX3_readStrike 42 = .ok (.iconst 1, 1) := by decide +kernel
theorem dX3_readStrike_43 : decode cX3_readStrike 43 = .ok (.bipush 9, 2) := by decide +kernel
theorem dX3_readStrike_45 : decode cX3_readStrike 45 = .ok (.invokevirtual 109, 3) := by decide +kernel
theorem dX3_readStrike_48 : decode cX3_readStrike 48 = .ok (.ifCond .ne 5, 3) := by decide +kernel
theorem dX3_readStrike_51 : decode cX3_readStrike 51 = .ok (.iconst 0, 1) := by decide +kernel
theorem dX3_readStrike_52 : decode cX3_readStrike 52 = .ok (.ireturn, 1) := by decide +kernel
theorem dX3_readStrike_53 : decode cX3_readStrike 53 = .ok (.aload_n 0, 1) := by decide +kernel
theorem dX3_readStrike_54 : decode cX3_readStrike 54 = .ok (.getfield 51, 3) := by decide +kernel
theorem dX3_readStrike_57 : decode cX3_readStrike 57 = .ok (.aload_n 0, 1) := by decide +kernel
theorem dX3_readStrike_58 : decode cX3_readStrike 58 = .ok (.getfield 34, 3) := by decide +kernel
theorem dX3_readStrike_61 : decode cX3_readStrike 61 = .ok (.putfield 125, 3) := by decide +kernel
theorem dX3_readStrike_64 : decode cX3_readStrike 64 = .ok (.aload_n 0, 1) := by decide +kernel
theorem dX3_readStrike_65 : decode cX3_readStrike 65 = .ok (.invokevirtual 119, 3) := by decide +kernel
theorem dX3_readStrike_68 : decode cX3_readStrike 68 = .ok (.ireturn, 1) := by decide +kernel
theorem ilX3_readWait_wsX3_readWait_r1 : ∀ w ∈ wsX3_readWait_r1, w ∈ wsX3_readWait := fun _ h => List.mem_cons_of_mem _ (List.mem_append_left _ (List.mem_append_left _ (List.mem_append_left _ (List.mem_append_left _ (h)))))
theorem ilX3_readWait_wsX3_readWait_r2 : ∀ w ∈ wsX3_readWait_r2, w ∈ wsX3_readWait := fun _ h => List.mem_cons_of_mem _ (List.mem_append_left _ (List.mem_append_left _ (List.mem_append_left _ (List.mem_append_right _ (h)))))
theorem ilX3_readWait_wsX30 : ∀ w ∈ wsX30, w ∈ wsX3_readWait := fun _ h => List.mem_cons_of_mem _ (List.mem_append_left _ (List.mem_append_left _ (List.mem_append_right _ (h))))
theorem ilX3_readWait_wsX10 : ∀ w ∈ wsX10, w ∈ wsX3_readWait := fun _ h => List.mem_cons_of_mem _ (List.mem_append_left _ (List.mem_append_right _ (h)))
theorem ilX3_readWait_wsX50 : ∀ w ∈ wsX50, w ∈ wsX3_readWait := fun _ h => List.mem_cons_of_mem _ (List.mem_append_right _ (h))
set_option maxRecDepth 20000 in
theorem ggX3_readWait_X3_step : GoodIn wsX3_readWait wsX3_step := goodIn_sub (List.forall_mem_cons.mpr ⟨ilX3_readWait_wsX3_readWait_r1 _ (List.mem_of_getElem? (i := 8) rfl), (List.forall_mem_append.mpr ⟨(List.forall_mem_append.mpr ⟨(List.forall_mem_cons.mpr ⟨ilX3_readWait_wsX3_readWait_r1 _ (List.mem_of_getElem? (i := 9) rfl), (List.forall_mem_cons.mpr ⟨ilX3_readWait_wsX3_readWait_r1 _ (List.mem_of_getElem? (i := 10) rfl), (List.forall_mem_cons.mpr ⟨ilX3_readWait_wsX3_readWait_r1 _ (List.mem_of_getElem? (i := 11) rfl), (List.forall_mem_cons.mpr ⟨ilX3_readWait_wsX3_readWait_r1 _ (List.mem_of_getElem? (i := 12) rfl), (List.forall_mem_cons.mpr ⟨ilX3_readWait_wsX3_readWait_r1 _ (List.mem_of_getElem? (i := 13) rfl), (List.forall_mem_cons.mpr ⟨ilX3_readWait_wsX3_readWait_r1 _ (List.mem_of_getElem? (i := 14) rfl), (List.forall_mem_cons.mpr ⟨ilX3_readWait_wsX3_readWait_r1 _ (List.mem_of_getElem? (i := 15) rfl), (List.forall_mem_cons.mpr ⟨ilX3_readWait_wsX3_readWait_r1 _ (List.mem_of_getElem? (i := 16) rfl), (List.forall_mem_cons.mpr ⟨ilX3_readWait_wsX3_readWait_r1 _ (List.mem_of_getElem? (i := 17) rfl), (List.forall_mem_cons.mpr ⟨ilX3_readWait_wsX3_readWait_r1 _ (List.mem_of_getElem? (i := 18) rfl), (List.forall_mem_cons.mpr ⟨ilX3_readWait_wsX3_readWait_r1 _ (List.mem_of_getElem? (i := 19) rfl), (List.forall_mem_cons.mpr ⟨ilX3_readWait_wsX3_readWait_r1 _ (List.mem_of_getElem? (i := 20) rfl), (List.forall_mem_cons.mpr ⟨ilX3_readWait_wsX3_readWait_r1 _ (List.mem_of_getElem? (i := 21) rfl), (List.forall_mem_cons.mpr ⟨ilX3_readWait_wsX3_readWait_r1 _ (List.mem_of_getElem? (i := 22) rfl), (List.forall_mem_cons.mpr ⟨ilX3_readWait_wsX3_readWait_r1 _ (List.mem_of_getElem? (i := 23) rfl), (List.forall_mem_cons.mpr ⟨ilX3_readWait_wsX3_readWait_r1 _ (List.mem_of_getElem? (i := 7) rfl), (List.forall_mem_cons.mpr ⟨ilX3_readWait_wsX3_readWait_r2 _ (List.mem_of_getElem? (i := 0) rfl), (List.forall_mem_cons.mpr ⟨ilX3_readWait_wsX3_readWait_r2 _ (List.mem_of_getElem? (i := 1) rfl), (List.forall_mem_cons.mpr ⟨ilX3_readWait_wsX3_readWait_r2 _ (List.mem_of_getElem? (i := 2) rfl), (List.forall_mem_cons.mpr ⟨ilX3_readWait_wsX3_readWait_r2 _ (List.mem_of_getElem? (i := 3) rfl), (List.forall_mem_cons.mpr ⟨ilX3_readWait_wsX3_readWait_r2 _ (List.mem_of_getElem? (i := 4) rfl), (List.forall_mem_cons.mpr ⟨ilX3_readWait_wsX3_readWait_r2 _ (List.mem_of_getElem? (i := 5) rfl), (List.forall_mem_cons.mpr ⟨ilX3_readWait_wsX3_readWait_r2 _ (List.mem_of_getElem? (i := 6) rfl), (fun _ h => absurd h List.not_mem_nil)⟩)⟩)⟩)⟩)⟩)⟩)⟩)⟩)⟩)⟩)⟩)⟩)⟩)⟩)⟩)⟩)⟩)⟩)⟩)⟩)⟩)⟩)⟩), ilX3_readWait_wsX30⟩), ilX3_readWait_wsX50⟩)⟩) (by decide +kernel)
set_option maxRecDepth 20000 in
theorem gX3_readWait_X3_step : GoodIn wsX3_readWait (wsV RX3 60 RX3 yX3_step wsX3_step) := goodIn_app (goodIn_sub (List.forall_mem_cons.mpr ⟨ilX3_readWait_wsX3_readWait_r1 _ (List.mem_of_getElem? (i := 4) rfl), (List.forall_mem_cons.mpr ⟨ilX3_readWait_wsX3_readWait_r1 _ (List.mem_of_getElem? (i := 5) rfl), (List.forall_mem_cons.mpr ⟨ilX3_readWait_wsX3_readWait_r1 _ (List.mem_of_getElem? (i := 6) rfl), (List.forall_mem_cons.mpr ⟨ilX3_readWait_wsX3_readWait_r1 _ (List.mem_of_getElem? (i := 7) rfl), (fun _ h => absurd h List.not_mem_nil)⟩)⟩)⟩)⟩) (by decide +kernel)) ggX3_readWait_X3_step
set_option maxRecDepth 20000 in
theorem ggX3_readWait_X3_takeNumber : GoodIn wsX3_readWait wsX3_takeNumber := goodIn_sub (List.forall_mem_cons.mpr ⟨ilX3_readWait_wsX3_readWait_r2 _ (List.mem_of_getElem? (i := 10) rfl), (List.forall_mem_append.mpr ⟨(List.forall_mem_append.mpr ⟨(List.forall_mem_append.mpr ⟨(List.forall_mem_cons.mpr ⟨ilX3_readWait_wsX3_readWait_r1 _ (List.mem_of_getElem? (i := 13) rfl), (List.forall_mem_cons.mpr ⟨ilX3_readWait_wsX3_readWait_r1 _ (List.mem_of_getElem? (i := 15) rfl), (List.forall_mem_cons.mpr ⟨ilX3_readWait_wsX3_readWait_r1 _ (List.mem_of_getElem? (i := 2) rfl), (List.forall_mem_cons.mpr ⟨ilX3_readWait_wsX3_readWait_r2 _ (List.mem_of_getElem? (i := 11) rfl), (List.forall_mem_cons.mpr ⟨ilX3_readWait_wsX3_readWait_r2 _ (List.mem_of_getElem? (i := 12) rfl), (List.forall_mem_cons.mpr ⟨ilX3_readWait_wsX3_readWait_r2 _ (List.mem_of_getElem? (i := 13) rfl), (List.forall_mem_cons.mpr ⟨ilX3_readWait_wsX3_readWait_r1 _ (List.mem_of_getElem? (i := 4) rfl), (List.forall_mem_cons.mpr ⟨ilX3_readWait_wsX3_readWait_r1 _ (List.mem_of_getElem? (i := 5) rfl), (List.forall_mem_cons.mpr ⟨ilX3_readWait_wsX3_readWait_r1 _ (List.mem_of_getElem? (i := 6) rfl), (List.forall_mem_cons.mpr ⟨ilX3_readWait_wsX3_readWait_r1 _ (List.mem_of_getElem? (i := 7) rfl), (List.forall_mem_cons.mpr ⟨ilX3_readWait_wsX3_readWait_r1 _ (List.mem_of_getElem? (i := 8) rfl), (List.forall_mem_cons.mpr ⟨ilX3_readWait_wsX3_readWait_r1 _ (List.mem_of_getElem? (i := 9) rfl), (List.forall_mem_cons.mpr ⟨ilX3_readWait_wsX3_readWait_r1 _ (List.mem_of_getElem? (i := 10) rfl), (List.forall_mem_cons.mpr ⟨ilX3_readWait_wsX3_readWait_r1 _ (List.mem_of_getElem? (i := 11) rfl), (List.forall_mem_cons.mpr ⟨ilX3_readWait_wsX3_readWait_r1 _ (List.mem_of_getElem? (i := 12) rfl), (List.forall_mem_cons.mpr ⟨ilX3_readWait_wsX3_readWait_r1 _ (List.mem_of_getElem? (i := 14) rfl), (List.forall_mem_cons.mpr ⟨ilX3_readWait_wsX3_readWait_r1 _ (List.mem_of_getElem? (i := 16) rfl), (List.forall_mem_cons.mpr ⟨ilX3_readWait_wsX3_readWait_r1 _ (List.mem_of_getElem? (i := 17) rfl), (List.forall_mem_cons.mpr ⟨ilX3_readWait_wsX3_readWait_r1 _ (List.mem_of_getElem? (i := 18) rfl), (List.forall_mem_cons.mpr ⟨ilX3_readWait_wsX3_readWait_r1 _ (List.mem_of_getElem? (i := 19) rfl), (List.forall_mem_cons.mpr ⟨ilX3_readWait_wsX3_readWait_r1 _ (List.mem_of_getElem? (i := 20) rfl), (List.forall_mem_cons.mpr ⟨ilX3_readWait_wsX3_readWait_r1 _ (List.mem_of_getElem? (i := 21) rfl), (List.forall_mem_cons.mpr ⟨ilX3_readWait_wsX3_readWait_r1 _ (List.mem_of_getElem? (i := 22) rfl), (List.forall_mem_cons.mpr ⟨ilX3_readWait_wsX3_readWait_r1 _ (List.mem_of_getElem? (i := 23) rfl), (fun _ h => absurd h List.not_mem_nil)⟩)⟩)⟩)⟩)⟩)⟩)⟩)⟩)⟩)⟩)⟩)⟩)⟩)⟩)⟩)⟩)⟩)⟩)⟩)⟩)⟩)⟩)⟩)⟩), (List.forall_mem_cons.mpr ⟨ilX3_readWait_wsX3_readWait_r2 _ (List.mem_of_getElem? (i := 0) rfl), (List.forall_mem_cons.mpr ⟨ilX3_readWait_wsX3_readWait_r2 _ (List.mem_of_getElem? (i := 1) rfl), (List.forall_mem_cons.mpr ⟨ilX3_readWait_wsX3_readWait_r2 _ (List.mem_of_getElem? (i := 2) rfl), (List.forall_mem_cons.mpr ⟨ilX3_readWait_wsX3_readWait_r2 _ (List.mem_of_getElem? (i := 3) rfl), (List.forall_mem_cons.mpr ⟨ilX3_readWait_wsX3_readWait_r2 _ (List.mem_of_getElem? (i := 4) rfl), (List.forall_mem_cons.mpr ⟨ilX3_readWait_wsX3_readWait_r2 _ (List.mem_of_getElem? (i := 5) rfl), (List.forall_mem_cons.mpr ⟨ilX3_readWait_wsX3_readWait_r2 _ (List.mem_of_getElem? (i := 6) rfl), (fun _ h => absurd h List.not_mem_nil)⟩)⟩)⟩)⟩)⟩)⟩)⟩)⟩), ilX3_readWait_wsX30⟩), ilX3_readWait_wsX50⟩)⟩) (by decide +kernel)
set_option maxRecDepth 20000 in
theorem gX3_readWait_X3_takeNumber : GoodIn wsX3_readWait (wsV RX3 109 RX3 yX3_takeNumber wsX3_takeNumber) := goodIn_app (goodIn_sub (List.forall_mem_cons.mpr ⟨ilX3_readWait_wsX3_readWait_r2 _ (List.mem_of_getElem? (i := 7) rfl), (List.forall_mem_cons.mpr ⟨ilX3_readWait_wsX3_readWait_r2 _ (List.mem_of_getElem? (i := 8) rfl), (List.forall_mem_cons.mpr ⟨ilX3_readWait_wsX3_readWait_r2 _ (List.mem_of_getElem? (i := 9) rfl), (List.forall_mem_cons.mpr ⟨ilX3_readWait_wsX3_readWait_r1 _ (List.mem_of_getElem? (i := 7) rfl), (fun _ h => absurd h List.not_mem_nil)⟩)⟩)⟩)⟩) (by decide +kernel)) ggX3_readWait_X3_takeNumber
set_option maxRecDepth 20000 in
theorem ggX3_readWait_X3_takeStop : GoodIn wsX3_readWait wsX3_takeStop := goodIn_sub (List.forall_mem_cons.mpr ⟨ilX3_readWait_wsX3_readWait_r2 _ (List.mem_of_getElem? (i := 17) rfl), (List.forall_mem_append.mpr ⟨(List.forall_mem_append.mpr ⟨(List.forall_mem_append.mpr ⟨(List.forall_mem_cons.mpr ⟨ilX3_readWait_wsX3_readWait_r1 _ (List.mem_of_getElem? (i := 13) rfl), (List.forall_mem_cons.mpr ⟨ilX3_readWait_wsX3_readWait_r1 _ (List.mem_of_getElem? (i := 4) rfl), (List.forall_mem_cons.mpr ⟨ilX3_readWait_wsX3_readWait_r1 _ (List.mem_of_getElem? (i := 5) rfl), (List.forall_mem_cons.mpr ⟨ilX3_readWait_wsX3_readWait_r1 _ (List.mem_of_getElem? (i := 6) rfl), (List.forall_mem_cons.mpr ⟨ilX3_readWait_wsX3_readWait_r1 _ (List.mem_of_getElem? (i := 7) rfl), (List.forall_mem_cons.mpr ⟨ilX3_readWait_wsX3_readWait_r1 _ (List.mem_of_getElem? (i := 8) rfl), (List.forall_mem_cons.mpr ⟨ilX3_readWait_wsX3_readWait_r1 _ (List.mem_of_getElem? (i := 9) rfl), (List.forall_mem_cons.mpr ⟨ilX3_readWait_wsX3_readWait_r1 _ (List.mem_of_getElem? (i := 10) rfl), (List.forall_mem_cons.mpr ⟨ilX3_readWait_wsX3_readWait_r1 _ (List.mem_of_getElem? (i := 11) rfl), (List.forall_mem_cons.mpr ⟨ilX3_readWait_wsX3_readWait_r1 _ (List.mem_of_getElem? (i := 12) rfl), (List.forall_mem_cons.mpr ⟨ilX3_readWait_wsX3_readWait_r1 _ (List.mem_of_getElem? (i := 14) rfl), (List.forall_mem_cons.mpr ⟨ilX3_readWait_wsX3_readWait_r1 _ (List.mem_of_getElem? (i := 15) rfl), (List.forall_mem_cons.mpr ⟨ilX3_readWait_wsX3_readWait_r1 _ (List.mem_of_getElem? (i := 16) rfl), (List.forall_mem_cons.mpr ⟨ilX3_readWait_wsX3_readWait_r1 _ (List.mem_of_getElem? (i := 17) rfl), (List.forall_mem_cons.mpr ⟨ilX3_readWait_wsX3_readWait_r1 _ (List.mem_of_getElem? (i := 18) rfl), (List.forall_mem_cons.mpr ⟨ilX3_readWait_wsX3_readWait_r1 _ (List.mem_of_getElem? (i := 19) rfl), (List.forall_mem_cons.mpr ⟨ilX3_readWait_wsX3_readWait_r1 _ (List.mem_of_getElem? (i := 20) rfl), (List.forall_mem_cons.mpr ⟨ilX3_readWait_wsX3_readWait_r1 _ (List.mem_of_getElem? (i := 21) rfl), (List.forall_mem_cons.mpr ⟨ilX3_readWait_wsX3_readWait_r1 _ (List.mem_of_getElem? (i := 22) rfl), (List.forall_mem_cons.mpr ⟨ilX3_readWait_wsX3_readWait_r1 _ (List.mem_of_getElem? (i := 23) rfl), (List.forall_mem_cons.mpr ⟨ilX3_readWait_wsX3_readWait_r2 _ (List.mem_of_getElem? (i := 0) rfl), (List.forall_mem_cons.mpr ⟨ilX3_readWait_wsX3_readWait_r2 _ (List.mem_of_getElem? (i := 1) rfl), (List.forall_mem_cons.mpr ⟨ilX3_readWait_wsX3_readWait_r2 _ (List.mem_of_getElem? (i := 2) rfl), (List.forall_mem_cons.mpr ⟨ilX3_readWait_wsX3_readWait_r2 _ (List.mem_of_getElem? (i := 3) rfl), (fun _ h => absurd h List.not_mem_nil)⟩)⟩)⟩)⟩)⟩)⟩)⟩)⟩)⟩)⟩)⟩)⟩)⟩)⟩)⟩)⟩)⟩)⟩)⟩)⟩)⟩)⟩)⟩)⟩), (List.forall_mem_cons.mpr ⟨ilX3_readWait_wsX3_readWait_r2 _ (List.mem_of_getElem? (i := 4) rfl), (List.forall_mem_cons.mpr ⟨ilX3_readWait_wsX3_readWait_r2 _ (List.mem_of_getElem? (i := 5) rfl), (List.forall_mem_cons.mpr ⟨ilX3_readWait_wsX3_readWait_r2 _ (List.mem_of_getElem? (i := 6) rfl), (fun _ h => absurd h List.not_mem_nil)⟩)⟩)⟩)⟩), ilX3_readWait_wsX30⟩), ilX3_readWait_wsX50⟩)⟩) (by decide +kernel)
set_option maxRecDepth 20000 in
theorem gX3_readWait_X3_takeStop : GoodIn wsX3_readWait (wsV RX3 119 RX3 yX3_takeStop wsX3_takeStop) := goodIn_app (goodIn_sub (List.forall_mem_cons.mpr ⟨ilX3_readWait_wsX3_readWait_r2 _ (List.mem_of_getElem? (i := 14) rfl), (List.forall_mem_cons.mpr ⟨ilX3_readWait_wsX3_readWait_r2 _ (List.mem_of_getElem? (i := 15) rfl), (List.forall_mem_cons.mpr ⟨ilX3_readWait_wsX3_readWait_r2 _ (List.mem_of_getElem? (i := 16) rfl), (List.forall_mem_cons.mpr ⟨ilX3_readWait_wsX3_readWait_r1 _ (List.mem_of_getElem? (i := 7) rfl), (fun _ h => absurd h List.not_mem_nil)⟩)⟩)⟩)⟩) (by decide +kernel)) ggX3_readWait_X3_takeStop
theorem dX3_readWait_0 : decode cX3_readWait 0 = .ok (.aload_n 0, 1) := by decide +kernel
theorem dX3_readWait_1 : decode cX3_readWait 1 = .ok (.getfield 44, 3) := by decide +kernel
theorem dX3_readWait_4 : decode cX3_readWait 4 = .ok (.ifCond .eq 5, 3) := by decide +kernel
theorem dX3_readWait_7 : decode cX3_readWait 7 = .ok (.iconst 0, 1) := by decide +kernel
theorem dX3_readWait_8 : decode cX3_readWait 8 = .ok (.ireturn, 1) := by decide +kernel
theorem dX3_readWait_9 : decode cX3_readWait 9 = .ok (.aload_n 0, 1) := by decide +kernel
theorem dX3_readWait_10 : decode cX3_readWait 10 = .ok (.iconst 1, 1) := by decide +kernel
theorem dX3_readWait_11 : decode cX3_readWait 11 = .ok (.putfield 44, 3) := by decide +kernel
theorem dX3_readWait_14 : decode cX3_readWait 14 = .ok (.aload_n 0, 1) := by decide +kernel
theorem dX3_readWait_15 : decode cX3_readWait 15 = .ok (.invokevirtual 60, 3) := by decide +kernel
theorem dX3_readWait_18 : decode cX3_readWait 18 = .ok (.aload_n 0, 1) := by decide +kernel
theorem dX3_readWait_19 : decode cX3_readWait 19 = .ok (.iconst 0, 1) := by decide +kernel
theorem dX3_readWait_20 : decode cX3_readWait 20 = .ok (.bipush 50, 2) := by decide +kernel
theorem dX3_readWait_22 : decode cX3_readWait 22 = .ok (.invokevirtual 109, 3) := by decide +kernel
theorem dX3_readWait_25 : decode cX3_readWait 25 = .ok (.ifCond .ne 5, 3) := by decide +kernel
theorem dX3_readWait_28 : decode cX3_readWait 28 = .ok (.iconst 0, 1) := by decide +kernel
theorem dX3_readWait_29 : decode cX3_readWait 29 = .ok (.ireturn, 1) := by decide +kernel
theorem dX3_readWait_30 : decode cX3_readWait 30 = .ok (.aload_n 0, 1) := by decide +kernel
theorem dX3_readWait_31 : decode cX3_readWait 31 = .ok (.getfield 51, 3) := by decide +kernel
theorem dX3_readWait_34 : decode cX3_readWait 34 = .ok (.aload_n 0, 1) := by decide +kernel
theorem dX3_readWait_35 : decode cX3_readWait 35 = .ok (.getfield 34, 3) := by decide +kernel
theorem dX3_readWait_38 : decode cX3_readWait 38 = .ok (.putfield 128, 3) := by decide +kernel
theorem dX3_readWait_41 : decode cX3_readWait 41 = .ok (.aload_n 0, 1) := by decide +kernel
theorem dX3_readWait_42 : decode cX3_readWait 42 = .ok (.invokevirtual 119, 3) := by decide +kernel
theorem dX3_readWait_45 : decode cX3_readWait 45 = .ok (.ireturn, 1) := by decide +kernel
theorem ilX3_readSort_wsX3_readSort_r1 : ∀ w ∈ wsX3_readSort_r1, w ∈ wsX3_readSort := fun _ h => List.mem_cons_of_mem _ (List.mem_append_left _ (List.mem_append_left _ (List.mem_append_left _ (List.mem_append_left _ (h)))))
theorem ilX3_readSort_wsX3_readSort_r2 : ∀ w ∈ wsX3_readSort_r2, w ∈ wsX3_readSort := fun _ h => List.mem_cons_of_mem _ (List.mem_append_left _ (List.mem_append_left _ (List.mem_append_left _ (List.mem_append_right _ (List.mem_append_left _ (h))))))
theorem ilX3_readSort_wsX3_readSort_r3 : ∀ w ∈ wsX3_readSort_r3, w ∈ wsX3_readSort := fun _ h => List.mem_cons_of_mem _ (List.mem_append_left _ (List.mem_append_left _ (List.mem_append_left _ (List.mem_append_right _ (List.mem_append_right _ (List.mem_append_left _ (h)))))))
theorem ilX3_readSort_wsX3_readSort_r4 : ∀ w ∈ wsX3_readSort_r4, w ∈ wsX3_readSort := fun _ h => List.mem_cons_of_mem _ (List.mem_append_left _ (List.mem_append_left _ (List.mem_append_left _ (List.mem_append_right _ (List.mem_append_right _ (List.mem_append_right _ (List.mem_append_left _ (h))))))))
theorem ilX3_readSort_wsX3_readSort_r5 : ∀ w ∈ wsX3_readSort_r5, w ∈ wsX3_readSort := fun _ h => List.mem_cons_of_mem _ (List.mem_append_left _ (List.mem_append_left _ (List.mem_append_left _ (List.mem_append_right _ (List.mem_append_right _ (List.mem_append_right _ (List.mem_append_right _ (List.mem_append_left _ (h)))))))))
theorem ilX3_readSort_wsX3_readSort_r6 : ∀ w ∈ wsX3_readSort_r6, w ∈ wsX3_readSort := fun _ h => List.mem_cons_of_mem _ (List.mem_append_left _ (List.mem_append_left _ (List.mem_append_left _ (List.mem_append_right _ (List.mem_append_right _ (List.mem_append_right _ (List.mem_append_right _ (List.mem_append_right _ (h)))))))))
theorem ilX3_readSort_wsX30 : ∀ w ∈ wsX30, w ∈ wsX3_readSort := fun _ h => List.mem_cons_of_mem _ (List.mem_append_left _ (List.mem_append_left _ (List.mem_append_right _ (h))))
theorem ilX3_readSort_wsX10 : ∀ w ∈ wsX10, w ∈ wsX3_readSort := fun _ h => List.mem_cons_of_mem _ (List.mem_append_left _ (List.mem_append_right _ (h)))
theorem ilX3_readSort_wsX50 : ∀ w ∈ wsX50, w ∈ wsX3_readSort := fun _ h => List.mem_cons_of_mem _ (List.mem_append_right _ (h))
set_option maxRecDepth 20000 in
theorem ggX3_readSort_X3_step : GoodIn wsX3_readSort wsX3_step := goodIn_sub (List.forall_mem_cons.mpr ⟨ilX3_readSort_wsX3_readSort_r1 _ (List.mem_of_getElem? (i := 14) rfl), (List.forall_mem_append.mpr ⟨(List.forall_mem_append.mpr ⟨(List.forall_mem_cons.mpr ⟨ilX3_readSort_wsX3_readSort_r1 _ (List.mem_of_getElem? (i := 5) rfl), (List.forall_mem_cons.mpr ⟨ilX3_readSort_wsX3_readSort_r1 _ (List.mem_of_getElem? (i := 3) rfl), (List.forall_mem_cons.mpr ⟨ilX3_readSort_wsX3_readSort_r1 _ (List.mem_of_getElem? (i := 15) rfl), (List.forall_mem_cons.mpr ⟨ilX3_readSort_wsX3_readSort_r1 _ (List.mem_of_getElem? (i := 16) rfl), (List.forall_mem_cons.mpr ⟨ilX3_readSort_wsX3_readSort_r1 _ (List.mem_of_getElem? (i := 17) rfl), (List.forall_mem_cons.mpr ⟨ilX3_readSort_wsX3_readSort_r1 _ (List.mem_of_getElem? (i := 18) rfl), (List.forall_mem_cons.mpr ⟨ilX3_readSort_wsX3_readSort_r1 _ (List.mem_of_getElem? (i := 19) rfl), (List.forall_mem_cons.mpr ⟨ilX3_readSort_wsX3_readSort_r1 _ (List.mem_of_getElem? (i := 20) rfl), (List.forall_mem_cons.mpr ⟨ilX3_readSort_wsX3_readSort_r1 _ (List.mem_of_getElem? (i := 21) rfl), (List.forall_mem_cons.mpr ⟨ilX3_readSort_wsX3_readSort_r1 _ (List.mem_of_getElem? (i := 22) rfl), (List.forall_mem_cons.mpr ⟨ilX3_readSort_wsX3_readSort_r1 _ (List.mem_of_getElem? (i := 23) rfl), (List.forall_mem_cons.mpr ⟨ilX3_readSort_wsX3_readSort_r2 _ (List.mem_of_getElem? (i := 0) rfl), (List.forall_mem_cons.mpr ⟨ilX3_readSort_wsX3_readSort_r2 _ (List.mem_of_getElem? (i := 1) rfl), (List.forall_mem_cons.mpr ⟨ilX3_readSort_wsX3_readSort_r2 _ (List.mem_of_getElem? (i := 2) rfl), (List.forall_mem_cons.mpr ⟨ilX3_readSort_wsX3_readSort_r2 _ (List.mem_of_getElem? (i := 3) rfl), (List.forall_mem_cons.mpr ⟨ilX3_readSort_wsX3_readSort_r1 _ (List.mem_of_getElem? (i := 13) rfl), (List.forall_mem_cons.mpr ⟨ilX3_readSort_wsX3_readSort_r2 _ (List.mem_of_getElem? (i := 4) rfl), (List.forall_mem_cons.mpr ⟨ilX3_readSort_wsX3_readSort_r2 _ (List.mem_of_getElem? (i := 5) rfl), (List.forall_mem_cons.mpr ⟨ilX3_readSort_wsX3_readSort_r2 _ (List.mem_of_getElem? (i := 6) rfl), (List.forall_mem_cons.mpr ⟨ilX3_readSort_wsX3_readSort_r2 _ (List.mem_of_getElem? (i := 7) rfl), (List.forall_mem_cons.mpr ⟨ilX3_readSort_wsX3_readSort_r2 _ (List.mem_of_getElem? (i := 8) rfl), (List.forall_mem_cons.mpr ⟨ilX3_readSort_wsX3_readSort_r2 _ (List.mem_of_getElem? (i := 9) rfl), (List.forall_mem_cons.mpr ⟨ilX3_readSort_wsX3_readSort_r2 _ (List.mem_of_getElem? (i := 10) rfl), (fun _ h => absurd h List.not_mem_nil)⟩)⟩)⟩)⟩)⟩)⟩)⟩)⟩)⟩)⟩)⟩)⟩)⟩)⟩)⟩)⟩)⟩)⟩)⟩)⟩)⟩)⟩)⟩), ilX3_readSort_wsX30⟩), ilX3_readSort_wsX50⟩)⟩) (by decide +kernel)
set_option maxRecDepth 20000 in
theorem gX3_readSort_X3_step : GoodIn wsX3_readSort (wsV RX3 60 RX3 yX3_step wsX3_step) := goodIn_app (goodIn_sub (List.forall_mem_cons.mpr ⟨ilX3_readSort_wsX3_readSort_r1 _ (List.mem_of_getElem? (i := 10) rfl), (List.forall_mem_cons.mpr ⟨ilX3_readSort_wsX3_readSort_r1 _ (List.mem_of_getElem? (i := 11) rfl), (List.forall_mem_cons.mpr ⟨ilX3_readSort_wsX3_readSort_r1 _ (List.mem_of_getElem? (i := 12) rfl), (List.forall_mem_cons.mpr ⟨ilX3_readSort_wsX3_readSort_r1 _ (List.mem_of_getElem? (i := 13) rfl), (fun _ h => absurd h List.not_mem_nil)⟩)⟩)⟩)⟩) (by decide +kernel)) ggX3_readSort_X3_step
set_option maxRecDepth 20000 in
theorem ggX3_readSort_X3_canBeName : GoodIn wsX3_readSort wsX3_canBeName := goodIn_sub (List.forall_mem_cons.mpr ⟨ilX3_readSort_wsX3_readSort_r2 _ (List.mem_of_getElem? (i := 14) rfl), (List.forall_mem_append.mpr ⟨(List.forall_mem_append.mpr ⟨(List.forall_mem_append.mpr ⟨(List.forall_mem_append.mpr ⟨(List.forall_mem_cons.mpr ⟨ilX3_readSort_wsX3_readSort_r1 _ (List.mem_of_getElem? (i := 17) rfl), (List.forall_mem_cons.mpr ⟨ilX3_readSort_wsX3_readSort_r1 _ (List.mem_of_getElem? (i := 5) rfl), (List.forall_mem_cons.mpr ⟨ilX3_readSort_wsX3_readSort_r1 _ (List.mem_of_getElem? (i := 3) rfl), (List.forall_mem_cons.mpr ⟨ilX3_readSort_wsX3_readSort_r1 _ (List.mem_of_getElem? (i := 0) rfl), (List.forall_mem_cons.mpr ⟨ilX3_readSort_wsX3_readSort_r1 _ (List.mem_of_getElem? (i := 1) rfl), (List.forall_mem_cons.mpr ⟨ilX3_readSort_wsX3_readSort_r2 _ (List.mem_of_getElem? (i := 15) rfl), (List.forall_mem_cons.mpr ⟨ilX3_readSort_wsX3_readSort_r2 _ (List.mem_of_getElem? (i := 16) rfl), (List.forall_mem_cons.mpr ⟨ilX3_readSort_wsX3_readSort_r2 _ (List.mem_of_getElem? (i := 17) rfl), (List.forall_mem_cons.mpr ⟨ilX3_readSort_wsX3_readSort_r1 _ (List.mem_of_getElem? (i := 13) rfl), (List.forall_mem_cons.mpr ⟨ilX3_readSort_wsX3_readSort_r2 _ (List.mem_of_getElem? (i := 18) rfl), (List.forall_mem_cons.mpr ⟨ilX3_readSort_wsX3_readSort_r2 _ (List.mem_of_getElem? (i := 19) rfl), (List.forall_mem_cons.mpr ⟨ilX3_readSort_wsX3_readSort_r2 _ (List.mem_of_getElem? (i := 20) rfl), (List.forall_mem_cons.mpr ⟨ilX3_readSort_wsX3_readSort_r2 _ (List.mem_of_getElem? (i := 21) rfl), (List.forall_mem_cons.mpr ⟨ilX3_readSort_wsX3_readSort_r2 _ (List.mem_of_getElem? (i := 22) rfl), (List.forall_mem_cons.mpr ⟨ilX3_readSort_wsX3_readSort_r1 _ (List.mem_of_getElem? (i := 15) rfl), (List.forall_mem_cons.mpr ⟨ilX3_readSort_wsX3_readSort_r1 _ (List.mem_of_getElem? (i := 18) rfl), (List.forall_mem_cons.mpr ⟨ilX3_readSort_wsX3_readSort_r2 _ (List.mem_of_getElem? (i := 23) rfl), (List.forall_mem_cons.mpr ⟨ilX3_readSort_wsX3_readSort_r3 _ (List.mem_of_getElem? (i := 0) rfl), (List.forall_mem_cons.mpr ⟨ilX3_readSort_wsX3_readSort_r3 _ (List.mem_of_getElem? (i := 1) rfl), (List.forall_mem_cons.mpr ⟨ilX3_readSort_wsX3_readSort_r3 _ (List.mem_of_getElem? (i := 2) rfl), (List.forall_mem_cons.mpr ⟨ilX3_readSort_wsX3_readSort_r3 _ (List.mem_of_getElem? (i := 3) rfl), (List.forall_mem_cons.mpr ⟨ilX3_readSort_wsX3_readSort_r3 _ (List.mem_of_getElem? (i := 4) rfl), (List.forall_mem_cons.mpr ⟨ilX3_readSort_wsX3_readSort_r3 _ (List.mem_of_getElem? (i := 5) rfl), (List.forall_mem_cons.mpr ⟨ilX3_readSort_wsX3_readSort_r3 _ (List.mem_of_getElem? (i := 6) rfl), (fun _ h => absurd h List.not_mem_nil)⟩)⟩)⟩)⟩)⟩)⟩)⟩)⟩)⟩)⟩)⟩)⟩)⟩)⟩)⟩)⟩)⟩)⟩)⟩)⟩)⟩)⟩)⟩)⟩), (List.forall_mem_append.mpr ⟨(List.forall_mem_cons.mpr ⟨ilX3_readSort_wsX3_readSort_r3 _ (List.mem_of_getElem? (i := 7) rfl), (List.forall_mem_cons.mpr ⟨ilX3_readSort_wsX3_readSort_r3 _ (List.mem_of_getElem? (i := 8) rfl), (List.forall_mem_cons.mpr ⟨ilX3_readSort_wsX3_readSort_r3 _ (List.mem_of_getElem? (i := 9) rfl), (List.forall_mem_cons.mpr ⟨ilX3_readSort_wsX3_readSort_r3 _ (List.mem_of_getElem? (i := 10) rfl), (List.forall_mem_cons.mpr ⟨ilX3_readSort_wsX3_readSort_r3 _ (List.mem_of_getElem? (i := 11) rfl), (List.forall_mem_cons.mpr ⟨ilX3_readSort_wsX3_readSort_r3 _ (List.mem_of_getElem? (i := 12) rfl), (List.forall_mem_cons.mpr ⟨ilX3_readSort_wsX3_readSort_r3 _ (List.mem_of_getElem? (i := 13) rfl), (List.forall_mem_cons.mpr ⟨ilX3_readSort_wsX3_readSort_r3 _ (List.mem_of_getElem? (i := 14) rfl), (List.forall_mem_cons.mpr ⟨ilX3_readSort_wsX3_readSort_r3 _ (List.mem_of_getElem? (i := 15) rfl), (List.forall_mem_cons.mpr ⟨ilX3_readSort_wsX3_readSort_r3 _ (List.mem_of_getElem? (i := 16) rfl), (List.forall_mem_cons.mpr ⟨ilX3_readSort_wsX3_readSort_r3 _ (List.mem_of_getElem? (i := 17) rfl), (List.forall_mem_cons.mpr ⟨ilX3_readSort_wsX3_readSort_r3 _ (List.mem_of_getElem? (i := 18) rfl), (List.forall_mem_cons.mpr ⟨ilX3_readSort_wsX3_readSort_r3 _ (List.mem_of_getElem? (i := 19) rfl), (List.forall_mem_cons.mpr ⟨ilX3_readSort_wsX3_readSort_r3 _ (List.mem_of_getElem? (i := 20) rfl), (List.forall_mem_cons.mpr ⟨ilX3_readSort_wsX3_readSort_r3 _ (List.mem_of_getElem? (i := 21) rfl), (List.forall_mem_cons.mpr ⟨ilX3_readSort_wsX3_readSort_r3 _ (List.mem_of_getElem? (i := 22) rfl), (List.forall_mem_cons.mpr ⟨ilX3_readSort_wsX3_readSort_r3 _ (List.mem_of_getElem? (i := 23) rfl), (List.forall_mem_cons.mpr ⟨ilX3_readSort_wsX3_readSort_r4 _ (List.mem_of_getElem? (i := 0) rfl), (List.forall_mem_cons.mpr ⟨ilX3_readSort_wsX3_readSort_r4 _ (List.mem_of_getElem? (i := 1) rfl), (List.forall_mem_cons.mpr ⟨ilX3_readSort_wsX3_readSort_r4 _ (List.mem_of_getElem? (i := 2) rfl), (List.forall_mem_cons.mpr ⟨ilX3_readSort_wsX3_readSort_r4 _ (List.mem_of_getElem? (i := 3) rfl), (List.forall_mem_cons.mpr ⟨ilX3_readSort_wsX3_readSort_r4 _ (List.mem_of_getElem? (i := 4) rfl), (List.forall_mem_cons.mpr ⟨ilX3_readSort_wsX3_readSort_r4 _ (List.mem_of_getElem? (i := 5) rfl), (List.forall_mem_cons.mpr ⟨ilX3_readSort_wsX3_readSort_r4 _ (List.mem_of_getElem? (i := 6) rfl), (fun _ h => absurd h List.not_mem_nil)⟩)⟩)⟩)⟩)⟩)⟩)⟩)⟩)⟩)⟩)⟩)⟩)⟩)⟩)⟩)⟩)⟩)⟩)⟩)⟩)⟩)⟩)⟩)⟩), (List.forall_mem_append.mpr ⟨(List.forall_mem_cons.mpr ⟨ilX3_readSort_wsX3_readSort_r4 _ (List.mem_of_getElem? (i := 7) rfl), (List.forall_mem_cons.mpr ⟨ilX3_readSort_wsX3_readSort_r4 _ (List.mem_of_getElem? (i := 8) rfl), (List.forall_mem_cons.mpr ⟨ilX3_readSort_wsX3_readSort_r4 _ (List.mem_of_getElem? (i := 9) rfl), (List.forall_mem_cons.mpr ⟨ilX3_readSort_wsX3_readSort_r4 _ (List.mem_of_getElem? (i := 10) rfl), (List.forall_mem_cons.mpr ⟨ilX3_readSort_wsX3_readSort_r4 _ (List.mem_of_getElem? (i := 11) rfl), (List.forall_mem_cons.mpr ⟨ilX3_readSort_wsX3_readSort_r4 _ (List.mem_of_getElem? (i := 12) rfl), (List.forall_mem_cons.mpr ⟨ilX3_readSort_wsX3_readSort_r4 _ (List.mem_of_getElem? (i := 13) rfl), (List.forall_mem_cons.mpr ⟨ilX3_readSort_wsX3_readSort_r4 _ (List.mem_of_getElem? (i := 14) rfl), (List.forall_mem_cons.mpr ⟨ilX3_readSort_wsX3_readSort_r4 _ (List.mem_of_getElem? (i := 15) rfl), (List.forall_mem_cons.mpr ⟨ilX3_readSort_wsX3_readSort_r4 _ (List.mem_of_getElem? (i := 16) rfl), (List.forall_mem_cons.mpr ⟨ilX3_readSort_wsX3_readSort_r4 _ (List.mem_of_getElem? (i := 17) rfl), (List.forall_mem_cons.mpr ⟨ilX3_readSort_wsX3_readSort_r4 _ (List.mem_of_getElem? (i := 18) rfl), (List.forall_mem_cons.mpr ⟨ilX3_readSort_wsX3_readSort_r4 _ (List.mem_of_getElem? (i := 19) rfl), (List.forall_mem_cons.mpr ⟨ilX3_readSort_wsX3_readSort_r4 _ (List.mem_of_getElem? (i := 20) rfl), (List.forall_mem_cons.mpr ⟨ilX3_readSort_wsX3_readSort_r4 _ (List.mem_of_getElem? (i := 21) rfl), (List.forall_mem_cons.mpr ⟨ilX3_readSort_wsX3_readSort_r4 _ (List.mem_of_getElem? (i := 22) rfl), (List.forall_mem_cons.mpr ⟨ilX3_readSort_wsX3_readSort_r4 _ (List.mem_of_getElem? (i := 23) rfl), (List.forall_mem_cons.mpr ⟨ilX3_readSort_wsX3_readSort_r5 _ (List.mem_of_getElem? (i := 0) rfl), (List.forall_mem_cons.mpr ⟨ilX3_readSort_wsX3_readSort_r5 _ (List.mem_of_getElem? (i := 1) rfl), (List.forall_mem_cons.mpr ⟨ilX3_readSort_wsX3_readSort_r5 _ (List.mem_of_getElem? (i := 2) rfl), (List.forall_mem_cons.mpr ⟨ilX3_readSort_wsX3_readSort_r5 _ (List.mem_of_getElem? (i := 3) rfl), (List.forall_mem_cons.mpr ⟨ilX3_readSort_wsX3_readSort_r5 _ (List.mem_of_getElem? (i := 4) rfl), (List.forall_mem_cons.mpr ⟨ilX3_readSort_wsX3_readSort_r5 _ (List.mem_of_getElem? (i := 5) rfl), (List.forall_mem_cons.mpr ⟨ilX3_readSort_wsX3_readSort_r5 _ (List.mem_of_getElem? (i := 6) rfl), (fun _ h => absurd h List.not_mem_nil)⟩)⟩)⟩)⟩)⟩)⟩)⟩)⟩)⟩)⟩)⟩)⟩)⟩)⟩)⟩)⟩)⟩)⟩)⟩)⟩)⟩)⟩)⟩)⟩), (List.forall_mem_cons.mpr ⟨ilX3_readSort_wsX3_readSort_r5 _ (List.mem_of_getElem? (i := 7) rfl), (List.forall_mem_cons.mpr ⟨ilX3_readSort_wsX3_readSort_r1 _ (List.mem_of_getElem? (i := 4) rfl), (List.forall_mem_cons.mpr ⟨ilX3_readSort_wsX3_readSort_r1 _ (List.mem_of_getElem? (i := 2) rfl), (fun _ h => absurd h List.not_mem_nil)⟩)⟩)⟩)⟩)⟩)⟩), ilX3_readSort_wsX30⟩), ilX3_readSort_wsX10⟩), ilX3_readSort_wsX50⟩)⟩) (by decide +kernel)
set_option maxRecDepth 20000 in
theorem gX3_readSort_X3_canBeName : GoodIn wsX3_readSort (wsV RX3 130 RX3 yX3_canBeName wsX3_canBeName) := goodIn_app (goodIn_sub (List.forall_mem_cons.mpr ⟨ilX3_readSort_wsX3_readSort_r2 _ (List.mem_of_getElem? (i := 11) rfl), (List.forall_mem_cons.mpr ⟨ilX3_readSort_wsX3_readSort_r2 _ (List.mem_of_getElem? (i := 12) rfl), (List.forall_mem_cons.mpr ⟨ilX3_readSort_wsX3_readSort_r2 _ (List.mem_of_getElem? (i := 13) rfl), (List.forall_mem_cons.mpr ⟨ilX3_readSort_wsX3_readSort_r1 _ (List.mem_of_getElem? (i := 13) rfl), (fun _ h => absurd h List.not_mem_nil)⟩)⟩)⟩)⟩) (by decide +kernel)) ggX3_readSort_X3_canBeName
set_option maxRecDepth 20000 in
theorem ggX3_readSort_X3_takeNumber : GoodIn wsX3_readSort wsX3_takeNumber := goodIn_sub (List.forall_mem_cons.mpr ⟨ilX3_readSort_wsX3_readSort_r5 _ (List.mem_of_getElem? (i := 11) rfl), (List.forall_mem_append.mpr ⟨(List.forall_mem_append.mpr ⟨(List.forall_mem_append.mpr ⟨(List.forall_mem_cons.mpr ⟨ilX3_readSort_wsX3_readSort_r1 _ (List.mem_of_getElem? (i := 17) rfl), (List.forall_mem_cons.mpr ⟨ilX3_readSort_wsX3_readSort_r1 _ (List.mem_of_getElem? (i := 19) rfl), (List.forall_mem_cons.mpr ⟨ilX3_readSort_wsX3_readSort_r1 _ (List.mem_of_getElem? (i := 9) rfl), (List.forall_mem_cons.mpr ⟨ilX3_readSort_wsX3_readSort_r5 _ (List.mem_of_getElem? (i := 12) rfl), (List.forall_mem_cons.mpr ⟨ilX3_readSort_wsX3_readSort_r5 _ (List.mem_of_getElem? (i := 13) rfl), (List.forall_mem_cons.mpr ⟨ilX3_readSort_wsX3_readSort_r5 _ (List.mem_of_getElem? (i := 14) rfl), (List.forall_mem_cons.mpr ⟨ilX3_readSort_wsX3_readSort_r1 _ (List.mem_of_getElem? (i := 10) rfl), (List.forall_mem_cons.mpr ⟨ilX3_readSort_wsX3_readSort_r1 _ (List.mem_of_getElem? (i := 11) rfl), (List.forall_mem_cons.mpr ⟨ilX3_readSort_wsX3_readSort_r1 _ (List.mem_of_getElem? (i := 12) rfl), (List.forall_mem_cons.mpr ⟨ilX3_readSort_wsX3_readSort_r1 _ (List.mem_of_getElem? (i := 13) rfl), (List.forall_mem_cons.mpr ⟨ilX3_readSort_wsX3_readSort_r1 _ (List.mem_of_getElem? (i := 14) rfl), (List.forall_mem_cons.mpr ⟨ilX3_readSort_wsX3_readSort_r1 _ (List.mem_of_getElem? (i := 5) rfl), (List.forall_mem_cons.mpr ⟨ilX3_readSort_wsX3_readSort_r1 _ (List.mem_of_getElem? (i := 3) rfl), (List.forall_mem_cons.mpr ⟨ilX3_readSort_wsX3_readSort_r1 _ (List.mem_of_getElem? (i := 15) rfl), (List.forall_mem_cons.mpr ⟨ilX3_readSort_wsX3_readSort_r1 _ (List.mem_of_getElem? (i := 16) rfl), (List.forall_mem_cons.mpr ⟨ilX3_readSort_wsX3_readSort_r1 _ (List.mem_of_getElem? (i := 18) rfl), (List.forall_mem_cons.mpr ⟨ilX3_readSort_wsX3_readSort_r1 _ (List.mem_of_getElem? (i := 20) rfl), (List.forall_mem_cons.mpr ⟨ilX3_readSort_wsX3_readSort_r1 _ (List.mem_of_getElem? (i := 21) rfl), (List.forall_mem_cons.mpr ⟨ilX3_readSort_wsX3_readSort_r1 _ (List.mem_of_getElem? (i := 22) rfl), (List.forall_mem_cons.mpr ⟨ilX3_readSort_wsX3_readSort_r1 _ (List.mem_of_getElem? (i := 23) rfl), (List.forall_mem_cons.mpr ⟨ilX3_readSort_wsX3_readSort_r2 _ (List.mem_of_getElem? (i := 0) rfl), (List.forall_mem_cons.mpr ⟨ilX3_readSort_wsX3_readSort_r2 _ (List.mem_of_getElem? (i := 1) rfl), (List.forall_mem_cons.mpr ⟨ilX3_readSort_wsX3_readSort_r2 _ (List.mem_of_getElem? (i := 2) rfl), (List.forall_mem_cons.mpr ⟨ilX3_readSort_wsX3_readSort_r2 _ (List.mem_of_getElem? (i := 3) rfl), (fun _ h => absurd h List.not_mem_nil)⟩)⟩)⟩)⟩)⟩)⟩)⟩)⟩)⟩)⟩)⟩)⟩)⟩)⟩)⟩)⟩)⟩)⟩)⟩)⟩)⟩)⟩)⟩)⟩), (List.forall_mem_cons.mpr ⟨ilX3_readSort_wsX3_readSort_r2 _ (List.mem_of_getElem? (i := 4) rfl), (List.forall_mem_cons.mpr ⟨ilX3_readSort_wsX3_readSort_r2 _ (List.mem_of_getElem? (i := 5) rfl), (List.forall_mem_cons.mpr ⟨ilX3_readSort_wsX3_readSort_r2 _ (List.mem_of_getElem? (i := 6) rfl), (List.forall_mem_cons.mpr ⟨ilX3_readSort_wsX3_readSort_r2 _ (List.mem_of_getElem? (i := 7) rfl), (List.forall_mem_cons.mpr ⟨ilX3_readSort_wsX3_readSort_r2 _ (List.mem_of_getElem? (i := 8) rfl), (List.forall_mem_cons.mpr ⟨ilX3_readSort_wsX3_readSort_r2 _ (List.mem_of_getElem? (i := 9) rfl), (List.forall_mem_cons.mpr ⟨ilX3_readSort_wsX3_readSort_r2 _ (List.mem_of_getElem? (i := 10) rfl), (fun _ h => absurd h List.not_mem_nil)⟩)⟩)⟩)⟩)⟩)⟩)⟩)⟩), ilX3_readSort_wsX30⟩), ilX3_readSort_wsX50⟩)⟩) (by decide +kernel)
set_option maxRecDepth 20000 in
theorem gX3_readSort_X3_takeNumber : GoodIn wsX3_readSort (wsV RX3 109 RX3 yX3_takeNumber wsX3_takeNumber) := goodIn_app (goodIn_sub (List.forall_mem_cons.mpr ⟨ilX3_readSort_wsX3_readSort_r5 _ (List.mem_of_getElem? (i := 8) rfl), (List.forall_mem_cons.mpr ⟨ilX3_readSort_wsX3_readSort_r5 _ (List.mem_of_getElem? (i := 9) rfl), (List.forall_mem_cons.mpr ⟨ilX3_readSort_wsX3_readSort_r5 _ (List.mem_of_getElem? (i := 10) rfl), (List.forall_mem_cons.mpr ⟨ilX3_readSort_wsX3_readSort_r1 _ (List.mem_of_getElem? (i := 13) rfl), (fun _ h => absurd h List.not_mem_nil)⟩)⟩)⟩)⟩) (by decide +kernel)) ggX3_readSort_X3_takeNumber
set_option maxRecDepth 20000 in
theorem ggX3_readSort_X1_addSort : GoodIn wsX3_readSort wsX1_addSort := goodIn_sub (List.forall_mem_cons.mpr ⟨ilX3_readSort_wsX3_readSort_r5 _ (List.mem_of_getElem? (i := 19) rfl), (List.forall_mem_append.mpr ⟨(List.forall_mem_cons.mpr ⟨ilX3_readSort_wsX3_readSort_r5 _ (List.mem_of_getElem? (i := 20) rfl), (List.forall_mem_cons.mpr ⟨ilX3_readSort_wsX3_readSort_r5 _ (List.mem_of_getElem? (i := 21) rfl), (List.forall_mem_cons.mpr ⟨ilX3_readSort_wsX3_readSort_r5 _ (List.mem_of_getElem? (i := 22) rfl), (List.forall_mem_cons.mpr ⟨ilX3_readSort_wsX3_readSort_r5 _ (List.mem_of_getElem? (i := 23) rfl), (List.forall_mem_cons.mpr ⟨ilX3_readSort_wsX3_readSort_r6 _ (List.mem_of_getElem? (i := 0) rfl), (List.forall_mem_cons.mpr ⟨ilX3_readSort_wsX3_readSort_r6 _ (List.mem_of_getElem? (i := 1) rfl), (List.forall_mem_cons.mpr ⟨ilX3_readSort_wsX3_readSort_r6 _ (List.mem_of_getElem? (i := 2) rfl), (fun _ h => absurd h List.not_mem_nil)⟩)⟩)⟩)⟩)⟩)⟩)⟩), ilX3_readSort_wsX10⟩)⟩) (by decide +kernel)
set_option maxRecDepth 20000 in
theorem gX3_readSort_X1_addSort : GoodIn wsX3_readSort (wsV RX3 139 RX1 yX1_addSort wsX1_addSort) := goodIn_app (goodIn_sub (List.forall_mem_cons.mpr ⟨ilX3_readSort_wsX3_readSort_r5 _ (List.mem_of_getElem? (i := 15) rfl), (List.forall_mem_cons.mpr ⟨ilX3_readSort_wsX3_readSort_r5 _ (List.mem_of_getElem? (i := 16) rfl), (List.forall_mem_cons.mpr ⟨ilX3_readSort_wsX3_readSort_r5 _ (List.mem_of_getElem? (i := 17) rfl), (List.forall_mem_cons.mpr ⟨ilX3_readSort_wsX3_readSort_r5 _ (List.mem_of_getElem? (i := 18) rfl), (fun _ h => absurd h List.not_mem_nil)⟩)⟩)⟩)⟩) (by decide +kernel)) ggX3_readSort_X1_addSort
set_option maxRecDepth 20000 in
theorem ggX3_readSort_X3_takeStop : GoodIn wsX3_readSort wsX3_takeStop := goodIn_sub (List.forall_mem_cons.mpr ⟨ilX3_readSort_wsX3_readSort_r6 _ (List.mem_of_getElem? (i := 6) rfl), (List.forall_mem_append.mpr ⟨(List.forall_mem_append.mpr ⟨(List.forall_mem_append.mpr ⟨(List.forall_mem_cons.mpr ⟨ilX3_readSort_wsX3_readSort_r1 _ (List.mem_of_getElem? (i := 17) rfl), (List.forall_mem_cons.mpr ⟨ilX3_readSort_wsX3_readSort_r1 _ (List.mem_of_getElem? (i := 10) rfl), (List.forall_mem_cons.mpr ⟨ilX3_readSort_wsX3_readSort_r1 _ (List.mem_of_getElem? (i := 11) rfl), (List.forall_mem_cons.mpr ⟨ilX3_readSort_wsX3_readSort_r1 _ (List.mem_of_getElem? (i := 12) rfl), (List.forall_mem_cons.mpr ⟨ilX3_readSort_wsX3_readSort_r1 _ (List.mem_of_getElem? (i := 13) rfl), (List.forall_mem_cons.mpr ⟨ilX3_readSort_wsX3_readSort_r1 _ (List.mem_of_getElem? (i := 14) rfl), (List.forall_mem_cons.mpr ⟨ilX3_readSort_wsX3_readSort_r1 _ (List.mem_of_getElem? (i := 5) rfl), (List.forall_mem_cons.mpr ⟨ilX3_readSort_wsX3_readSort_r1 _ (List.mem_of_getElem? (i := 3) rfl), (List.forall_mem_cons.mpr ⟨ilX3_readSort_wsX3_readSort_r1 _ (List.mem_of_getElem? (i := 15) rfl), (List.forall_mem_cons.mpr ⟨ilX3_readSort_wsX3_readSort_r1 _ (List.mem_of_getElem? (i := 16) rfl), (List.forall_mem_cons.mpr ⟨ilX3_readSort_wsX3_readSort_r1 _ (List.mem_of_getElem? (i := 18) rfl), (List.forall_mem_cons.mpr ⟨ilX3_readSort_wsX3_readSort_r1 _ (List.mem_of_getElem? (i := 19) rfl), (List.forall_mem_cons.mpr ⟨ilX3_readSort_wsX3_readSort_r1 _ (List.mem_of_getElem? (i := 20) rfl), (List.forall_mem_cons.mpr ⟨ilX3_readSort_wsX3_readSort_r1 _ (List.mem_of_getElem? (i := 21) rfl), (List.forall_mem_cons.mpr ⟨ilX3_readSort_wsX3_readSort_r1 _ (List.mem_of_getElem? (i := 22) rfl), (List.forall_mem_cons.mpr ⟨ilX3_readSort_wsX3_readSort_r1 _ (List.mem_of_getElem? (i := 23) rfl), (List.forall_mem_cons.mpr ⟨ilX3_readSort_wsX3_readSort_r2 _ (List.mem_of_getElem? (i := 0) rfl), (List.forall_mem_cons.mpr ⟨ilX3_readSort_wsX3_readSort_r2 _ (List.mem_of_getElem? (i := 1) rfl), (List.forall_mem_cons.mpr ⟨ilX3_readSort_wsX3_readSort_r2 _ (List.mem_of_getElem? (i := 2) rfl), (List.forall_mem_cons.mpr ⟨ilX3_readSort_wsX3_readSort_r2 _ (List.mem_of_getElem? (i := 3) rfl), (List.forall_mem_cons.mpr ⟨ilX3_readSort_wsX3_readSort_r2 _ (List.mem_of_getElem? (i := 4) rfl), (List.forall_mem_cons.mpr ⟨ilX3_readSort_wsX3_readSort_r2 _ (List.mem_of_getElem? (i := 5) rfl), (List.forall_mem_cons.mpr ⟨ilX3_readSort_wsX3_readSort_r2 _ (List.mem_of_getElem? (i := 6) rfl), (List.forall_mem_cons.mpr ⟨ilX3_readSort_wsX3_readSort_r2 _ (List.mem_of_getElem? (i := 7) rfl), (fun _ h => absurd h List.not_mem_nil)⟩)⟩)⟩)⟩)⟩)⟩)⟩)⟩)⟩)⟩)⟩)⟩)⟩)⟩)⟩)⟩)⟩)⟩)⟩)⟩)⟩)⟩)⟩)⟩), (List.forall_mem_cons.mpr ⟨ilX3_readSort_wsX3_readSort_r2 _ (List.mem_of_getElem? (i := 8) rfl), (List.forall_mem_cons.mpr ⟨ilX3_readSort_wsX3_readSort_r2 _ (List.mem_of_getElem? (i := 9) rfl), (List.forall_mem_cons.mpr ⟨ilX3_readSort_wsX3_readSort_r2 _ (List.mem_of_getElem? (i := 10) rfl), (fun _ h => absurd h List.not_mem_nil)⟩)⟩)⟩)⟩), ilX3_readSort_wsX30⟩), ilX3_readSort_wsX50⟩)⟩) (by decide +kernel)
set_option maxRecDepth 20000 in
theorem gX3_readSort_X3_takeStop : GoodIn wsX3_readSort (wsV RX3 119 RX3 yX3_takeStop wsX3_takeStop) := goodIn_app (goodIn_sub (List.forall_mem_cons.mpr ⟨ilX3_readSort_wsX3_readSort_r6 _ (List.mem_of_getElem? (i := 3) rfl), (List.forall_mem_cons.mpr ⟨ilX3_readSort_wsX3_readSort_r6 _ (List.mem_of_getElem? (i := 4) rfl), (List.forall_mem_cons.mpr ⟨ilX3_readSort_wsX3_readSort_r6 _ (List.mem_of_getElem? (i := 5) rfl), (List.forall_mem_cons.mpr ⟨ilX3_readSort_wsX3_readSort_r1 _ (List.mem_of_getElem? (i := 13) rfl), (fun _ h => absurd h List.not_mem_nil)⟩)⟩)⟩)⟩) (by decide +kernel)) ggX3_readSort_X3_takeStop
theorem dX3_readSort_0 : decode cX3_readSort 0 = .ok (.aload_n 0, 1) := by decide +kernel
theorem dX3_readSort_1 : decode cX3_readSort 1 = .ok (.getfield 51, 3) := by decide +kernel
theorem dX3_readSort_4 : decode cX3_readSort 4 = .ok (.getfield 67, 3) := by decide +kernel
theorem dX3_readSort_7 : decode cX3_readSort 7 = .ok (.istore_n 1, 1) := by decide +kernel
theorem dX3_readSort_8 : decode cX3_readSort 8 = .ok (.iload_n 1, 1) := by decide +kernel
theorem dX3_readSort_9 : decode cX3_readSort 9 = .ok (.bipush 6, 2) := by decide +kernel
theorem dX3_readSort_11 : decode cX3_readSort 11 = .ok (.if_icmp .lt 5, 3) := by decide +kernel
theorem dX3_readSort_14 : decode cX3_readSort 14 = .ok (.iconst 0, 1) := by decide +kernel
theorem dX3_readSort_15 : decode cX3_readSort 15 = .ok (.ireturn, 1) := by decide +kernel
theorem dX3_readSort_16 : decode cX3_readSort 16 = .ok (.aload_n 0, 1) := by decide +kernel
theorem dX3_readSort_17 : decode cX3_readSort 17 = .ok (.invokevirtual 60, 3) := by decide +kernel
theorem dX3_readSort_20 : decode cX3_readSort 20 = .ok (.aload_n 0, 1) := by decide +kernel
theorem dX3_readSort_21 : decode cX3_readSort 21 = .ok (.invokevirtual 130, 3) := by decide +kernel
theorem dX3_readSort_24 : decode cX3_readSort 24 = .ok (.ifCond .ne 5, 3) := by decide +kernel
theorem dX3_readSort_27 : decode cX3_readSort 27 = .ok (.iconst 0, 1) := by decide +kernel
theorem dX3_readSort_28 : decode cX3_readSort 28 = .ok (.ireturn, 1) := by decide +kernel
theorem dX3_readSort_29 : decode cX3_readSort 29 = .ok (.aload_n 0, 1) := by decide +kernel
theorem dX3_readSort_30 : decode cX3_readSort 30 = .ok (.getfield 9, 3) := by decide +kernel
theorem dX3_readSort_33 : decode cX3_readSort 33 = .ok (.iload_n 1, 1) := by decide +kernel
theorem dX3_readSort_34 : decode cX3_readSort 34 = .ok (.aload_n 0, 1) := by decide +kernel
theorem dX3_readSort_35 : decode cX3_readSort 35 = .ok (.getfield 21, 3) := by decide +kernel
theorem dX3_readSort_38 : decode cX3_readSort 38 = .ok (.iastore, 1) := by decide +kernel
theorem dX3_readSort_39 : decode cX3_readSort 39 = .ok (.aload_n 0, 1) := by decide +kernel
theorem dX3_readSort_40 : decode cX3_readSort 40 = .ok (.getfield 15, 3) := by decide +kernel
theorem dX3_readSort_43 : decode cX3_readSort 43 = .ok (.iload_n 1, 1) := by decide +kernel
theorem dX3_readSort_44 : decode cX3_readSort 44 = .ok (.aload_n 0, 1) := by decide +kernel
theorem dX3_readSort_45 : decode cX3_readSort 45 = .ok (.getfield 25, 3) := by decide +kernel
theorem dX3_readSort_48 : decode cX3_readSort 48 = .ok (.iastore, 1) := by decide +kernel
theorem dX3_readSort_49 : decode cX3_readSort 49 = .ok (.aload_n 0, 1) := by decide +kernel
theorem dX3_readSort_50 : decode cX3_readSort 50 = .ok (.invokevirtual 60, 3) := by decide +kernel
theorem dX3_readSort_53 : decode cX3_readSort 53 = .ok (.iconst 0, 1) := by decide +kernel
theorem dX3_readSort_54 : decode cX3_readSort 54 = .ok (.istore_n 2, 1) := by decide +kernel
theorem dX3_readSort_55 : decode cX3_readSort 55 = .ok (.iload_n 2, 1) := by decide +kernel
theorem dX3_readSort_56 : decode cX3_readSort 56 = .ok (.aload_n 0, 1) := by decide +kernel
theorem dX3_readSort_57 : decode cX3_readSort 57 = .ok (.getfield 18, 3) := by decide +kernel
theorem dX3_readSort_60 : decode cX3_readSort 60 = .ok (.arraylength, 1) := by decide +kernel
theorem dX3_readSort_61 : decode cX3_readSort 61 = .ok (.if_icmp .ge 38, 3) := by decide +kernel
theorem dX3_readSort_64 : decode cX3_readSort 64 = .ok (.aload_n 0, 1) := by decide +kernel
theorem dX3_readSort_65 : decode cX3_readSort 65 = .ok (.getstatic 133, 3) := by decide +kernel
theorem dX3_readSort_68 : decode cX3_readSort 68 = .ok (.iload_n 2, 1) := by decide +kernel
theorem dX3_readSort_69 : decode cX3_readSort 69 = .ok (.iaload, 1) := by decide +kernel
theorem dX3_readSort_70 : decode cX3_readSort 70 = .ok (.getstatic 136, 3) := by decide +kernel
theorem dX3_readSort_73 : decode cX3_readSort 73 = .ok (.iload_n 2, 1) := by decide +kernel
theorem dX3_readSort_74 : decode cX3_readSort 74 = .ok (.iaload, 1) := by decide +kernel
theorem dX3_readSort_75 : decode cX3_readSort 75 = .ok (.invokevirtual 109, 3) := by decide +kernel
theorem dX3_readSort_78 : decode cX3_readSort 78 = .ok (.ifCond .ne 5, 3) := by decide +kernel
theorem dX3_readSort_81 : decode cX3_readSort 81 = .ok (.iconst 0, 1) := by decide +kernel
theorem dX3_readSort_82 : decode cX3_readSort 82 = .ok (.ireturn, 1) := by decide +kernel
theorem dX3_readSort_83 : decode cX3_readSort 83 = .ok (.aload_n 0, 1) := by decide +kernel
theorem dX3_readSort_84 : decode cX3_readSort 84 = .ok (.getfield 18, 3) := by decide +kernel
theorem dX3_readSort_87 : decode cX3_readSort 87 = .ok (.iload_n 2, 1) := by decide +kernel
theorem dX3_readSort_88 : decode cX3_readSort 88 = .ok (.aload_n 0, 1) := by decide +kernel
theorem dX3_readSort_89 : decode cX3_readSort 89 = .ok (.getfield 34, 3) := by decide +kernel
theorem dX3_readSort_92 : decode cX3_readSort 92 = .ok (.iastore, 1) := by decide +kernel
theorem dX3_readSort_93 : decode cX3_readSort 93 = .ok (.iinc 2 1, 3) := by decide +kernel
theorem dX3_readSort_96 : decode cX3_readSort 96 = .ok (.goto (-41), 3) := by decide +kernel
theorem dX3_readSort_99 : decode cX3_readSort 99 = .ok (.aload_n 0, 1) := by decide +kernel
theorem dX3_readSort_100 : decode cX3_readSort 100 = .ok (.getfield 51, 3) := by decide +kernel
theorem dX3_readSort_103 : decode cX3_readSort 103 = .ok (.aload_n 0, 1) := by decide +kernel
theorem dX3_readSort_104 : decode cX3_readSort 104 = .ok (.getfield 18, 3) := by decide +kernel
theorem dX3_readSort_107 : decode cX3_readSort 107 = .ok (.invokevirtual 139, 3) := by decide +kernel
theorem dX3_readSort_110 : decode cX3_readSort 110 = .ok (.aload_n 0, 1) := by decide +kernel
theorem dX3_readSort_111 : decode cX3_readSort 111 = .ok (.invokevirtual 119, 3) := by decide +kernel
theorem dX3_readSort_114 : decode cX3_readSort 114 = .ok (.ireturn, 1) := by decide +kernel
theorem ilX3_readSpare_wsX3_readSpare_r1 : ∀ w ∈ wsX3_readSpare_r1, w ∈ wsX3_readSpare := fun _ h => List.mem_cons_of_mem _ (List.mem_append_left _ (List.mem_append_left _ (List.mem_append_left _ (List.mem_append_left _ (h)))))
theorem ilX3_readSpare_wsX3_readSpare_r2 : ∀ w ∈ wsX3_readSpare_r2, w ∈ wsX3_readSpare := fun _ h => List.mem_cons_of_mem _ (List.mem_append_left _ (List.mem_append_left _ (List.mem_append_left _ (List.mem_append_right _ (List.mem_append_left _ (h))))))
theorem ilX3_readSpare_wsX3_readSpare_r3 : ∀ w ∈ wsX3_readSpare_r3, w ∈ wsX3_readSpare := fun _ h => List.mem_cons_of_mem _ (List.mem_append_left _ (List.mem_append_left _ (List.mem_append_left _ (List.mem_append_right _ (List.mem_append_right _ (List.mem_append_left _ (h)))))))
theorem ilX3_readSpare_wsX3_readSpare_r4 : ∀ w ∈ wsX3_readSpare_r4, w ∈ wsX3_readSpare := fun _ h => List.mem_cons_of_mem _ (List.mem_append_left _ (List.mem_append_left _ (List.mem_append_left _ (List.mem_append_right _ (List.mem_append_right _ (List.mem_append_right _ (h)))))))
theorem ilX3_readSpare_wsX30 : ∀ w ∈ wsX30, w ∈ wsX3_readSpare := fun _ h => List.mem_cons_of_mem _ (List.mem_append_left _ (List.mem_append_left _ (List.mem_append_right _ (h))))
theorem ilX3_readSpare_wsX10 : ∀ w ∈ wsX10, w ∈ wsX3_readSpare := fun _ h => List.mem_cons_of_mem _ (List.mem_append_left _ (List.mem_append_right _ (h)))
theorem ilX3_readSpare_wsX50 : ∀ w ∈ wsX50, w ∈ wsX3_readSpare := fun _ h => List.mem_cons_of_mem _ (List.mem_append_right _ (h))
set_option maxRecDepth 20000 in
theorem ggX3_readSpare_X3_step : GoodIn wsX3_readSpare wsX3_step := goodIn_sub (List.forall_mem_cons.mpr ⟨ilX3_readSpare_wsX3_readSpare_r1 _ (List.mem_of_getElem? (i := 6) rfl), (List.forall_mem_append.mpr ⟨(List.forall_mem_append.mpr ⟨(List.forall_mem_cons.mpr ⟨ilX3_readSpare_wsX3_readSpare_r1 _ (List.mem_of_getElem? (i := 7) rfl), (List.forall_mem_cons.mpr ⟨ilX3_readSpare_wsX3_readSpare_r1 _ (List.mem_of_getElem? (i := 8) rfl), (List.forall_mem_cons.mpr ⟨ilX3_readSpare_wsX3_readSpare_r1 _ (List.mem_of_getElem? (i := 9) rfl), (List.forall_mem_cons.mpr ⟨ilX3_readSpare_wsX3_readSpare_r1 _ (List.mem_of_getElem? (i := 10) rfl), (List.forall_mem_cons.mpr ⟨ilX3_readSpare_wsX3_readSpare_r1 _ (List.mem_of_getElem? (i := 11) rfl), (List.forall_mem_cons.mpr ⟨ilX3_readSpare_wsX3_readSpare_r1 _ (List.mem_of_getElem? (i := 12) rfl), (List.forall_mem_cons.mpr ⟨ilX3_readSpare_wsX3_readSpare_r1 _ (List.mem_of_getElem? (i := 13) rfl), (List.forall_mem_cons.mpr ⟨ilX3_readSpare_wsX3_readSpare_r1 _ (List.mem_of_getElem? (i := 14) rfl), (List.forall_mem_cons.mpr ⟨ilX3_readSpare_wsX3_readSpare_r1 _ (List.mem_of_getElem? (i := 15) rfl), (List.forall_mem_cons.mpr ⟨ilX3_readSpare_wsX3_readSpare_r1 _ (List.mem_of_getElem? (i := 16) rfl), (List.forall_mem_cons.mpr ⟨ilX3_readSpare_wsX3_readSpare_r1 _ (List.mem_of_getElem? (i := 17) rfl), (List.forall_mem_cons.mpr ⟨ilX3_readSpare_wsX3_readSpare_r1 _ (List.mem_of_getElem? (i := 18) rfl), (List.forall_mem_cons.mpr ⟨ilX3_readSpare_wsX3_readSpare_r1 _ (List.mem_of_getElem? (i := 19) rfl), (List.forall_mem_cons.mpr ⟨ilX3_readSpare_wsX3_readSpare_r1 _ (List.mem_of_getElem? (i := 20) rfl), (List.forall_mem_cons.mpr ⟨ilX3_readSpare_wsX3_readSpare_r1 _ (List.mem_of_getElem? (i := 21) rfl), (List.forall_mem_cons.mpr ⟨ilX3_readSpare_wsX3_readSpare_r1 _ (List.mem_of_getElem? (i := 5) rfl), (List.forall_mem_cons.mpr ⟨ilX3_readSpare_wsX3_readSpare_r1 _ (List.mem_of_getElem? (i := 22) rfl), (List.forall_mem_cons.mpr ⟨ilX3_readSpare_wsX3_readSpare_r1 _ (List.mem_of_getElem? (i := 23) rfl), (List.forall_mem_cons.mpr ⟨ilX3_readSpare_wsX3_readSpare_r2 _ (List.mem_of_getElem? (i := 0) rfl), (List.forall_mem_cons.mpr ⟨ilX3_readSpare_wsX3_readSpare_r2 _ (List.mem_of_getElem? (i := 1) rfl), (List.forall_mem_cons.mpr ⟨ilX3_readSpare_wsX3_readSpare_r2 _ (List.mem_of_getElem? (i := 2) rfl), (List.forall_mem_cons.mpr ⟨ilX3_readSpare_wsX3_readSpare_r2 _ (List.mem_of_getElem? (i := 3) rfl), (List.forall_mem_cons.mpr ⟨ilX3_readSpare_wsX3_readSpare_r2 _ (List.mem_of_getElem? (i := 4) rfl), (fun _ h => absurd h List.not_mem_nil)⟩)⟩)⟩)⟩)⟩)⟩)⟩)⟩)⟩)⟩)⟩)⟩)⟩)⟩)⟩)⟩)⟩)⟩)⟩)⟩)⟩)⟩)⟩), ilX3_readSpare_wsX30⟩), ilX3_readSpare_wsX50⟩)⟩) (by decide +kernel)
set_option maxRecDepth 20000 in
theorem gX3_readSpare_X3_step : GoodIn wsX3_readSpare (wsV RX3 60 RX3 yX3_step wsX3_step) := goodIn_app (goodIn_sub (List.forall_mem_cons.mpr ⟨ilX3_readSpare_wsX3_readSpare_r1 _ (List.mem_of_getElem? (i := 2) rfl), (List.forall_mem_cons.mpr ⟨ilX3_readSpare_wsX3_readSpare_r1 _ (List.mem_of_getElem? (i := 3) rfl), (List.forall_mem_cons.mpr ⟨ilX3_readSpare_wsX3_readSpare_r1 _ (List.mem_of_getElem? (i := 4) rfl), (List.forall_mem_cons.mpr ⟨ilX3_readSpare_wsX3_readSpare_r1 _ (List.mem_of_getElem? (i := 5) rfl), (fun _ h => absurd h List.not_mem_nil)⟩)⟩)⟩)⟩) (by decide +kernel)) ggX3_readSpare_X3_step
set_option maxRecDepth 20000 in
theorem ggX3_readSpare_X3_tokenKind : GoodIn wsX3_readSpare wsX3_tokenKind := goodIn_sub (List.forall_mem_cons.mpr ⟨ilX3_readSpare_wsX3_readSpare_r2 _ (List.mem_of_getElem? (i := 8) rfl), (List.forall_mem_append.mpr ⟨(List.forall_mem_append.mpr ⟨(List.forall_mem_append.mpr ⟨(List.forall_mem_cons.mpr ⟨ilX3_readSpare_wsX3_readSpare_r2 _ (List.mem_of_getElem? (i := 9) rfl), (List.forall_mem_cons.mpr ⟨ilX3_readSpare_wsX3_readSpare_r2 _ (List.mem_of_getElem? (i := 10) rfl), (List.forall_mem_cons.mpr ⟨ilX3_readSpare_wsX3_readSpare_r2 _ (List.mem_of_getElem? (i := 11) rfl), (List.forall_mem_cons.mpr ⟨ilX3_readSpare_wsX3_readSpare_r1 _ (List.mem_of_getElem? (i := 5) rfl), (List.forall_mem_cons.mpr ⟨ilX3_readSpare_wsX3_readSpare_r2 _ (List.mem_of_getElem? (i := 12) rfl), (List.forall_mem_cons.mpr ⟨ilX3_readSpare_wsX3_readSpare_r1 _ (List.mem_of_getElem? (i := 11) rfl), (List.forall_mem_cons.mpr ⟨ilX3_readSpare_wsX3_readSpare_r1 _ (List.mem_of_getElem? (i := 7) rfl), (List.forall_mem_cons.mpr ⟨ilX3_readSpare_wsX3_readSpare_r1 _ (List.mem_of_getElem? (i := 8) rfl), (List.forall_mem_cons.mpr ⟨ilX3_readSpare_wsX3_readSpare_r1 _ (List.mem_of_getElem? (i := 9) rfl), (List.forall_mem_cons.mpr ⟨ilX3_readSpare_wsX3_readSpare_r1 _ (List.mem_of_getElem? (i := 12) rfl), (List.forall_mem_cons.mpr ⟨ilX3_readSpare_wsX3_readSpare_r2 _ (List.mem_of_getElem? (i := 13) rfl), (List.forall_mem_cons.mpr ⟨ilX3_readSpare_wsX3_readSpare_r2 _ (List.mem_of_getElem? (i := 14) rfl), (List.forall_mem_cons.mpr ⟨ilX3_readSpare_wsX3_readSpare_r2 _ (List.mem_of_getElem? (i := 15) rfl), (List.forall_mem_cons.mpr ⟨ilX3_readSpare_wsX3_readSpare_r2 _ (List.mem_of_getElem? (i := 16) rfl), (List.forall_mem_cons.mpr ⟨ilX3_readSpare_wsX3_readSpare_r2 _ (List.mem_of_getElem? (i := 17) rfl), (List.forall_mem_cons.mpr ⟨ilX3_readSpare_wsX3_readSpare_r2 _ (List.mem_of_getElem? (i := 18) rfl), (List.forall_mem_cons.mpr ⟨ilX3_readSpare_wsX3_readSpare_r2 _ (List.mem_of_getElem? (i := 19) rfl), (List.forall_mem_cons.mpr ⟨ilX3_readSpare_wsX3_readSpare_r2 _ (List.mem_of_getElem? (i := 20) rfl), (List.forall_mem_cons.mpr ⟨ilX3_readSpare_wsX3_readSpare_r2 _ (List.mem_of_getElem? (i := 21) rfl), (List.forall_mem_cons.mpr ⟨ilX3_readSpare_wsX3_readSpare_r2 _ (List.mem_of_getElem? (i := 22) rfl), (List.forall_mem_cons.mpr ⟨ilX3_readSpare_wsX3_readSpare_r2 _ (List.mem_of_getElem? (i := 23) rfl), (List.forall_mem_cons.mpr ⟨ilX3_readSpare_wsX3_readSpare_r3 _ (List.mem_of_getElem? (i := 0) rfl), (List.forall_mem_cons.mpr ⟨ilX3_readSpare_wsX3_readSpare_r3 _ (List.mem_of_getElem? (i := 1) rfl), (List.forall_mem_cons.mpr ⟨ilX3_readSpare_wsX3_readSpare_r3 _ (List.mem_of_getElem? (i := 2) rfl), (fun _ h => absurd h List.not_mem_nil)⟩)⟩)⟩)⟩)⟩)⟩)⟩)⟩)⟩)⟩)⟩)⟩)⟩)⟩)⟩)⟩)⟩)⟩)⟩)⟩)⟩)⟩)⟩)⟩), (List.forall_mem_append.mpr ⟨(List.forall_mem_cons.mpr ⟨ilX3_readSpare_wsX3_readSpare_r3 _ (List.mem_of_getElem? (i := 3) rfl), (List.forall_mem_cons.mpr ⟨ilX3_readSpare_wsX3_readSpare_r3 _ (List.mem_of_getElem? (i := 4) rfl), (List.forall_mem_cons.mpr ⟨ilX3_readSpare_wsX3_readSpare_r3 _ (List.mem_of_getElem? (i := 5) rfl), (List.forall_mem_cons.mpr ⟨ilX3_readSpare_wsX3_readSpare_r3 _ (List.mem_of_getElem? (i := 6) rfl), (List.forall_mem_cons.mpr ⟨ilX3_readSpare_wsX3_readSpare_r3 _ (List.mem_of_getElem? (i := 7) rfl), (List.forall_mem_cons.mpr ⟨ilX3_readSpare_wsX3_readSpare_r3 _ (List.mem_of_getElem? (i := 8) rfl), (List.forall_mem_cons.mpr ⟨ilX3_readSpare_wsX3_readSpare_r3 _ (List.mem_of_getElem? (i := 9) rfl), (List.forall_mem_cons.mpr ⟨ilX3_readSpare_wsX3_readSpare_r3 _ (List.mem_of_getElem? (i := 10) rfl), (List.forall_mem_cons.mpr ⟨ilX3_readSpare_wsX3_readSpare_r3 _ (List.mem_of_getElem? (i := 11) rfl), (List.forall_mem_cons.mpr ⟨ilX3_readSpare_wsX3_readSpare_r3 _ (List.mem_of_getElem? (i := 12) rfl), (List.forall_mem_cons.mpr ⟨ilX3_readSpare_wsX3_readSpare_r3 _ (List.mem_of_getElem? (i := 13) rfl), (List.forall_mem_cons.mpr ⟨ilX3_readSpare_wsX3_readSpare_r3 _ (List.mem_of_getElem? (i := 14) rfl), (List.forall_mem_cons.mpr ⟨ilX3_readSpare_wsX3_readSpare_r3 _ (List.mem_of_getElem? (i := 15) rfl), (List.forall_mem_cons.mpr ⟨ilX3_readSpare_wsX3_readSpare_r3 _ (List.mem_of_getElem? (i := 16) rfl), (List.forall_mem_cons.mpr ⟨ilX3_readSpare_wsX3_readSpare_r3 _ (List.mem_of_getElem? (i := 17) rfl), (List.forall_mem_cons.mpr ⟨ilX3_readSpare_wsX3_readSpare_r3 _ (List.mem_of_getElem? (i := 18) rfl), (List.forall_mem_cons.mpr ⟨ilX3_readSpare_wsX3_readSpare_r3 _ (List.mem_of_getElem? (i := 19) rfl), (List.forall_mem_cons.mpr ⟨ilX3_readSpare_wsX3_readSpare_r3 _ (List.mem_of_getElem? (i := 20) rfl), (List.forall_mem_cons.mpr ⟨ilX3_readSpare_wsX3_readSpare_r3 _ (List.mem_of_getElem? (i := 21) rfl), (List.forall_mem_cons.mpr ⟨ilX3_readSpare_wsX3_readSpare_r3 _ (List.mem_of_getElem? (i := 22) rfl), (List.forall_mem_cons.mpr ⟨ilX3_readSpare_wsX3_readSpare_r3 _ (List.mem_of_getElem? (i := 23) rfl), (List.forall_mem_cons.mpr ⟨ilX3_readSpare_wsX3_readSpare_r4 _ (List.mem_of_getElem? (i := 0) rfl), (List.forall_mem_cons.mpr ⟨ilX3_readSpare_wsX3_readSpare_r4 _ (List.mem_of_getElem? (i := 1) rfl), (List.forall_mem_cons.mpr ⟨ilX3_readSpare_wsX3_readSpare_r4 _ (List.mem_of_getElem? (i := 2) rfl), (fun _ h => absurd h List.not_mem_nil)⟩)⟩)⟩)⟩)⟩)⟩)⟩)⟩)⟩)⟩)⟩)⟩)⟩)⟩)⟩)⟩)⟩)⟩)⟩)⟩)⟩)⟩)⟩)⟩), (List.forall_mem_cons.mpr ⟨ilX3_readSpare_wsX3_readSpare_r4 _ (List.mem_of_getElem? (i := 3) rfl), (List.forall_mem_cons.mpr ⟨ilX3_readSpare_wsX3_readSpare_r4 _ (List.mem_of_getElem? (i := 4) rfl), (List.forall_mem_cons.mpr ⟨ilX3_readSpare_wsX3_readSpare_r4 _ (List.mem_of_getElem? (i := 5) rfl), (List.forall_mem_cons.mpr ⟨ilX3_readSpare_wsX3_readSpare_r4 _ (List.mem_of_getElem? (i := 6) rfl), (List.forall_mem_cons.mpr ⟨ilX3_readSpare_wsX3_readSpare_r4 _ (List.mem_of_getElem? (i := 7) rfl), (List.forall_mem_cons.mpr ⟨ilX3_readSpare_wsX3_readSpare_r4 _ (List.mem_of_getElem? (i := 8) rfl), (List.forall_mem_cons.mpr ⟨ilX3_readSpare_wsX3_readSpare_r4 _ (List.mem_of_getElem? (i := 9) rfl), (List.forall_mem_cons.mpr ⟨ilX3_readSpare_wsX3_readSpare_r4 _ (List.mem_of_getElem? (i := 10) rfl), (List.forall_mem_cons.mpr ⟨ilX3_readSpare_wsX3_readSpare_r4 _ (List.mem_of_getElem? (i := 11) rfl), (List.forall_mem_cons.mpr ⟨ilX3_readSpare_wsX3_readSpare_r4 _ (List.mem_of_getElem? (i := 12) rfl), (List.forall_mem_cons.mpr ⟨ilX3_readSpare_wsX3_readSpare_r4 _ (List.mem_of_getElem? (i := 13) rfl), (fun _ h => absurd h List.not_mem_nil)⟩)⟩)⟩)⟩)⟩)⟩)⟩)⟩)⟩)⟩)⟩)⟩)⟩), ilX3_readSpare_wsX30⟩), ilX3_readSpare_wsX50⟩)⟩) (by decide +kernel)
set_option maxRecDepth 20000 in
theorem gX3_readSpare_X3_tokenKind : GoodIn wsX3_readSpare (wsV RX3 143 RX3 yX3_tokenKind wsX3_tokenKind) := goodIn_app (goodIn_sub (List.forall_mem_cons.mpr ⟨ilX3_readSpare_wsX3_readSpare_r2 _ (List.mem_of_getElem? (i := 5) rfl), (List.forall_mem_cons.mpr ⟨ilX3_readSpare_wsX3_readSpare_r2 _ (List.mem_of_getElem? (i := 6) rfl), (List.forall_mem_cons.mpr ⟨ilX3_readSpare_wsX3_readSpare_r2 _ (List.mem_of_getElem? (i := 7) rfl), (List.forall_mem_cons.mpr ⟨ilX3_readSpare_wsX3_readSpare_r1 _ (List.mem_of_getElem? (i := 5) rfl), (fun _ h => absurd h List.not_mem_nil)⟩)⟩)⟩)⟩) (by decide +kernel)) ggX3_readSpare_X3_tokenKind
set_option maxRecDepth 20000 in
theorem ggX3_readSpare_X1_isSpared : GoodIn wsX3_readSpare wsX1_isSpared := goodIn_sub (List.forall_mem_cons.mpr ⟨ilX3_readSpare_wsX3_readSpare_r4 _ (List.mem_of_getElem? (i := 18) rfl), (List.forall_mem_append.mpr ⟨(List.forall_mem_cons.mpr ⟨ilX3_readSpare_wsX3_readSpare_r4 _ (List.mem_of_getElem? (i := 19) rfl), (fun _ h => absurd h List.not_mem_nil)⟩), ilX3_readSpare_wsX10⟩)⟩) (by decide +kernel)
set_option maxRecDepth 20000 in
theorem gX3_readSpare_X1_isSpared : GoodIn wsX3_readSpare (wsV RX3 147 RX1 yX1_isSpared wsX1_isSpared) := goodIn_app (goodIn_sub (List.forall_mem_cons.mpr ⟨ilX3_readSpare_wsX3_readSpare_r4 _ (List.mem_of_getElem? (i := 14) rfl), (List.forall_mem_cons.mpr ⟨ilX3_readSpare_wsX3_readSpare_r4 _ (List.mem_of_getElem? (i := 15) rfl), (List.forall_mem_cons.mpr ⟨ilX3_readSpare_wsX3_readSpare_r4 _ (List.mem_of_getElem? (i := 16) rfl), (List.forall_mem_cons.mpr ⟨ilX3_readSpare_wsX3_readSpare_r4 _ (List.mem_of_getElem? (i := 17) rfl), (fun _ h => absurd h List.not_mem_nil)⟩)⟩)⟩)⟩) (by decide +kernel)) ggX3_readSpare_X1_isSpared
set_option maxRecDepth 20000 in
theorem ggX3_readSpare_X3_takeStop : GoodIn wsX3_readSpare wsX3_takeStop := goodIn_sub (List.forall_mem_cons.mpr ⟨ilX3_readSpare_wsX3_readSpare_r4 _ (List.mem_of_getElem? (i := 23) rfl), (List.forall_mem_append.mpr ⟨(List.forall_mem_append.mpr ⟨(List.forall_mem_append.mpr ⟨(List.forall_mem_cons.mpr ⟨ilX3_readSpare_wsX3_readSpare_r1 _ (List.mem_of_getElem? (i := 11) rfl), (List.forall_mem_cons.mpr ⟨ilX3_readSpare_wsX3_readSpare_r1 _ (List.mem_of_getElem? (i := 2) rfl), (List.forall_mem_cons.mpr ⟨ilX3_readSpare_wsX3_readSpare_r1 _ (List.mem_of_getElem? (i := 3) rfl), (List.forall_mem_cons.mpr ⟨ilX3_readSpare_wsX3_readSpare_r1 _ (List.mem_of_getElem? (i := 4) rfl), (List.forall_mem_cons.mpr ⟨ilX3_readSpare_wsX3_readSpare_r1 _ (List.mem_of_getElem? (i := 5) rfl), (List.forall_mem_cons.mpr ⟨ilX3_readSpare_wsX3_readSpare_r1 _ (List.mem_of_getElem? (i := 6) rfl), (List.forall_mem_cons.mpr ⟨ilX3_readSpare_wsX3_readSpare_r1 _ (List.mem_of_getElem? (i := 7) rfl), (List.forall_mem_cons.mpr ⟨ilX3_readSpare_wsX3_readSpare_r1 _ (List.mem_of_getElem? (i := 8) rfl), (List.forall_mem_cons.mpr ⟨ilX3_readSpare_wsX3_readSpare_r1 _ (List.mem_of_getElem? (i := 9) rfl), (List.forall_mem_cons.mpr ⟨ilX3_readSpare_wsX3_readSpare_r1 _ (List.mem_of_getElem? (i := 10) rfl), (List.forall_mem_cons.mpr ⟨ilX3_readSpare_wsX3_readSpare_r1 _ (List.mem_of_getElem? (i := 12) rfl), (List.forall_mem_cons.mpr ⟨ilX3_readSpare_wsX3_readSpare_r1 _ (List.mem_of_getElem? (i := 13) rfl), (List.forall_mem_cons.mpr ⟨ilX3_readSpare_wsX3_readSpare_r1 _ (List.mem_of_getElem? (i := 14) rfl), (List.forall_mem_cons.mpr ⟨ilX3_readSpare_wsX3_readSpare_r1 _ (List.mem_of_getElem? (i := 15) rfl), (List.forall_mem_cons.mpr ⟨ilX3_readSpare_wsX3_readSpare_r1 _ (List.mem_of_getElem? (i := 16) rfl), (List.forall_mem_cons.mpr ⟨ilX3_readSpare_wsX3_readSpare_r1 _ (List.mem_of_getElem? (i := 17) rfl), (List.forall_mem_cons.mpr ⟨ilX3_readSpare_wsX3_readSpare_r1 _ (List.mem_of_getElem? (i := 18) rfl), (List.forall_mem_cons.mpr ⟨ilX3_readSpare_wsX3_readSpare_r1 _ (List.mem_of_getElem? (i := 19) rfl), (List.forall_mem_cons.mpr ⟨ilX3_readSpare_wsX3_readSpare_r1 _ (List.mem_of_getElem? (i := 20) rfl), (List.forall_mem_cons.mpr ⟨ilX3_readSpare_wsX3_readSpare_r1 _ (List.mem_of_getElem? (i := 21) rfl), (List.forall_mem_cons.mpr ⟨ilX3_readSpare_wsX3_readSpare_r1 _ (List.mem_of_getElem? (i := 22) rfl), (List.forall_mem_cons.mpr ⟨ilX3_readSpare_wsX3_readSpare_r1 _ (List.mem_of_getElem? (i := 23) rfl), (List.forall_mem_cons.mpr ⟨ilX3_readSpare_wsX3_readSpare_r2 _ (List.mem_of_getElem? (i := 0) rfl), (List.forall_mem_cons.mpr ⟨ilX3_readSpare_wsX3_readSpare_r2 _ (List.mem_of_getElem? (i := 1) rfl), (fun _ h => absurd h List.not_mem_nil)⟩)⟩)⟩)⟩)⟩)⟩)⟩)⟩)⟩)⟩)⟩)⟩)⟩)⟩)⟩)⟩)⟩)⟩)⟩)⟩)⟩)⟩)⟩)⟩), (List.forall_mem_cons.mpr ⟨ilX3_readSpare_wsX3_readSpare_r2 _ (List.mem_of_getElem? (i := 2) rfl), (List.forall_mem_cons.mpr ⟨ilX3_readSpare_wsX3_readSpare_r2 _ (List.mem_of_getElem? (i := 3) rfl), (List.forall_mem_cons.mpr ⟨ilX3_readSpare_wsX3_readSpare_r2 _ (List.mem_of_getElem? (i := 4) rfl), (fun _ h => absurd h List.not_mem_nil)⟩)⟩)⟩)⟩), ilX3_readSpare_wsX30⟩), ilX3_readSpare_wsX50⟩)⟩) (by decide +kernel)
set_option maxRecDepth 20000 in
theorem gX3_readSpare_X3_takeStop : GoodIn wsX3_readSpare (wsV RX3 119 RX3 yX3_takeStop wsX3_takeStop) := goodIn_app (goodIn_sub (List.forall_mem_cons.mpr ⟨ilX3_readSpare_wsX3_readSpare_r4 _ (List.mem_of_getElem? (i := 20) rfl), (List.forall_mem_cons.mpr ⟨ilX3_readSpare_wsX3_readSpare_r4 _ (List.mem_of_getElem? (i := 21) rfl), (List.forall_mem_cons.mpr ⟨ilX3_readSpare_wsX3_readSpare_r4 _ (List.mem_of_getElem? (i := 22) rfl), (List.forall_mem_cons.mpr ⟨ilX3_readSpare_wsX3_readSpare_r1 _ (List.mem_of_getElem? (i := 5) rfl), (fun _ h => absurd h List.not_mem_nil)⟩)⟩)⟩)⟩) (by decide +kernel)) ggX3_readSpare_X3_takeStop
theorem dX3_readSpare_0 : decode cX3_readSpare 0 = .ok (.aload_n 0, 1) := by decide +kernel
theorem dX3_readSpare_1 : decode cX3_readSpare 1 = .ok (.invokevirtual 60, 3) := by decide +kernel
theorem dX3_readSpare_4 : decode cX3_readSpare 4 = .ok (.aload_n 0, 1) := by decide +kernel
theorem dX3_readSpare_5 : decode cX3_readSpare 5 = .ok (.invokevirtual 143, 3) := by decide +kernel
theorem dX3_readSpare_8 : decode cX3_readSpare 8 = .ok (.istore_n 1, 1) := by decide +kernel
theorem dX3_readSpare_9 : decode cX3_readSpare 9 = .ok (.iload_n 1, 1) := by decide +kernel
theorem dX3_readSpare_10 : decode cX3_readSpare 10 = .ok (.iconst (-1), 1) := by decide +kernel
theorem dX3_readSpare_11 : decode cX3_readSpare 11 = .ok (.if_icmp .eq 14, 3) := by decide +kernel
theorem dX3_readSpare_14 : decode cX3_readSpare 14 = .ok (.aload_n 0, 1) := by decide +kernel
theorem dX3_readSpare_15 : decode cX3_readSpare 15 = .ok (.getfield 51, 3) := by decide +kernel
theorem dX3_readSpare_18 : decode cX3_readSpare 18 = .ok (.iload_n 1, 1) := by decide +kernel
theorem dX3_readSpare_19 : decode cX3_readSpare 19 = .ok (.invokevirtual 147, 3) := by decide +kernel
theorem dX3_readSpare_22 : decode cX3_readSpare 22 = .ok (.ifCond .eq 5, 3) := by decide +kernel
theorem dX3_readSpare_25 : decode cX3_readSpare 25 = .ok (.iconst 0, 1) := by decide +kernel
theorem dX3_readSpare_26 : decode cX3_readSpare 26 = .ok (.ireturn, 1) := by decide +kernel
theorem dX3_readSpare_27 : decode cX3_readSpare 27 = .ok (.aload_n 0, 1) := by decide +kernel
theorem dX3_readSpare_28 : decode cX3_readSpare 28 = .ok (.getfield 51, 3) := by decide +kernel
theorem dX3_readSpare_31 : decode cX3_readSpare 31 = .ok (.dup, 1) := by decide +kernel
theorem dX3_readSpare_32 : decode cX3_readSpare 32 = .ok (.getfield 151, 3) := by decide +kernel
theorem dX3_readSpare_35 : decode cX3_readSpare 35 = .ok (.iconst 1, 1) := by decide +kernel
theorem dX3_readSpare_36 : decode cX3_readSpare 36 = .ok (.iload_n 1, 1) := by decide +kernel
theorem dX3_readSpare_37 : decode cX3_readSpare 37 = .ok (.ishl, 1) := by decide +kernel
theorem dX3_readSpare_38 : decode cX3_readSpare 38 = .ok (.ior, 1) := by decide +kernel
theorem dX3_readSpare_39 : decode cX3_readSpare 39 = .ok (.putfield 151, 3) := by decide +kernel
theorem dX3_readSpare_42 : decode cX3_readSpare 42 = .ok (.aload_n 0, 1) := by decide +kernel
theorem dX3_readSpare_43 : decode cX3_readSpare 43 = .ok (.invokevirtual 60, 3) := by decide +kernel
theorem dX3_readSpare_46 : decode cX3_readSpare 46 = .ok (.aload_n 0, 1) := by decide +kernel
theorem dX3_readSpare_47 : decode cX3_readSpare 47 = .ok (.invokevirtual 119, 3) := by decide +kernel
theorem dX3_readSpare_50 : decode cX3_readSpare 50 = .ok (.ireturn, 1) := by decide +kernel
theorem ilX3_readTurn_wsX3_readTurn_r1 : ∀ w ∈ wsX3_readTurn_r1, w ∈ wsX3_readTurn := fun _ h => List.mem_cons_of_mem _ (List.mem_append_left _ (List.mem_append_left _ (List.mem_append_left _ (List.mem_append_left _ (h)))))
theorem ilX3_readTurn_wsX3_readTurn_r2 : ∀ w ∈ wsX3_readTurn_r2, w ∈ wsX3_readTurn := fun _ h => List.mem_cons_of_mem _ (List.mem_append_left _ (List.mem_append_left _ (List.mem_append_left _ (List.mem_append_right _ (List.mem_append_left _ (h))))))
theorem ilX3_readTurn_wsX3_readTurn_r3 : ∀ w ∈ wsX3_readTurn_r3, w ∈ wsX3_readTurn := fun _ h => List.mem_cons_of_mem _ (List.mem_append_left _ (List.mem_append_left _ (List.mem_append_left _ (List.mem_append_right _ (List.mem_append_right _ (List.mem_append_left _ (h)))))))
theorem ilX3_readTurn_wsX3_readTurn_r4 : ∀ w ∈ wsX3_readTurn_r4, w ∈ wsX3_readTurn := fun _ h => List.mem_cons_of_mem _ (List.mem_append_left _ (List.mem_append_left _ (List.mem_append_left _ (List.mem_append_right _ (List.mem_append_right _ (List.mem_append_right _ (List.mem_append_left _ (h))))))))
theorem ilX3_readTurn_wsX3_readTurn_r5 : ∀ w ∈ wsX3_readTurn_r5, w ∈ wsX3_readTurn := fun _ h => List.mem_cons_of_mem _ (List.mem_append_left _ (List.mem_append_left _ (List.mem_append_left _ (List.mem_append_right _ (List.mem_append_right _ (List.mem_append_right _ (List.mem_append_right _ (h))))))))
theorem ilX3_readTurn_wsX30 : ∀ w ∈ wsX30, w ∈ wsX3_readTurn := fun _ h => List.mem_cons_of_mem _ (List.mem_append_left _ (List.mem_append_left _ (List.mem_append_right _ (h))))
theorem ilX3_readTurn_wsX10 : ∀ w ∈ wsX10, w ∈ wsX3_readTurn := fun _ h => List.mem_cons_of_mem _ (List.mem_append_left _ (List.mem_append_right _ (h)))
theorem ilX3_readTurn_wsX50 : ∀ w ∈ wsX50, w ∈ wsX3_readTurn := fun _ h => List.mem_cons_of_mem _ (List.mem_append_right _ (h))
set_option maxRecDepth 20000 in
theorem ggX3_readTurn_X3_step : GoodIn wsX3_readTurn wsX3_step := goodIn_sub (List.forall_mem_cons.mpr ⟨ilX3_readTurn_wsX3_readTurn_r1 _ (List.mem_of_getElem? (i := 7) rfl), (List.forall_mem_append.mpr ⟨(List.forall_mem_append.mpr ⟨(List.forall_mem_cons.mpr ⟨ilX3_readTurn_wsX3_readTurn_r1 _ (List.mem_of_getElem? (i := 8) rfl), (List.forall_mem_cons.mpr ⟨ilX3_readTurn_wsX3_readTurn_r1 _ (List.mem_of_getElem? (i := 9) rfl), (List.forall_mem_cons.mpr ⟨ilX3_readTurn_wsX3_readTurn_r1 _ (List.mem_of_getElem? (i := 10) rfl), (List.forall_mem_cons.mpr ⟨ilX3_readTurn_wsX3_readTurn_r1 _ (List.mem_of_getElem? (i := 11) rfl), (List.forall_mem_cons.mpr ⟨ilX3_readTurn_wsX3_readTurn_r1 _ (List.mem_of_getElem? (i := 12) rfl), (List.forall_mem_cons.mpr ⟨ilX3_readTurn_wsX3_readTurn_r1 _ (List.mem_of_getElem? (i := 13) rfl), (List.forall_mem_cons.mpr ⟨ilX3_readTurn_wsX3_readTurn_r1 _ (List.mem_of_getElem? (i := 14) rfl), (List.forall_mem_cons.mpr ⟨ilX3_readTurn_wsX3_readTurn_r1 _ (List.mem_of_getElem? (i := 15) rfl), (List.forall_mem_cons.mpr ⟨ilX3_readTurn_wsX3_readTurn_r1 _ (List.mem_of_getElem? (i := 16) rfl), (List.forall_mem_cons.mpr ⟨ilX3_readTurn_wsX3_readTurn_r1 _ (List.mem_of_getElem? (i := 17) rfl), (List.forall_mem_cons.mpr ⟨ilX3_readTurn_wsX3_readTurn_r1 _ (List.mem_of_getElem? (i := 18) rfl), (List.forall_mem_cons.mpr ⟨ilX3_readTurn_wsX3_readTurn_r1 _ (List.mem_of_getElem? (i := 19) rfl), (List.forall_mem_cons.mpr ⟨ilX3_readTurn_wsX3_readTurn_r1 _ (List.mem_of_getElem? (i := 20) rfl), (List.forall_mem_cons.mpr ⟨ilX3_readTurn_wsX3_readTurn_r1 _ (List.mem_of_getElem? (i := 21) rfl), (List.forall_mem_cons.mpr ⟨ilX3_readTurn_wsX3_readTurn_r1 _ (List.mem_of_getElem? (i := 22) rfl), (List.forall_mem_cons.mpr ⟨ilX3_readTurn_wsX3_readTurn_r1 _ (List.mem_of_getElem? (i := 6) rfl), (List.forall_mem_cons.mpr ⟨ilX3_readTurn_wsX3_readTurn_r1 _ (List.mem_of_getElem? (i := 23) rfl), (List.forall_mem_cons.mpr ⟨ilX3_readTurn_wsX3_readTurn_r2 _ (List.mem_of_getElem? (i := 0) rfl), (List.forall_mem_cons.mpr ⟨ilX3_readTurn_wsX3_readTurn_r2 _ (List.mem_of_getElem? (i := 1) rfl), (List.forall_mem_cons.mpr ⟨ilX3_readTurn_wsX3_readTurn_r2 _ (List.mem_of_getElem? (i := 2) rfl), (List.forall_mem_cons.mpr ⟨ilX3_readTurn_wsX3_readTurn_r2 _ (List.mem_of_getElem? (i := 3) rfl), (List.forall_mem_cons.mpr ⟨ilX3_readTurn_wsX3_readTurn_r2 _ (List.mem_of_getElem? (i := 4) rfl), (List.forall_mem_cons.mpr ⟨ilX3_readTurn_wsX3_readTurn_r2 _ (List.mem_of_getElem? (i := 5) rfl), (fun _ h => absurd h List.not_mem_nil)⟩)⟩)⟩)⟩)⟩)⟩)⟩)⟩)⟩)⟩)⟩)⟩)⟩)⟩)⟩)⟩)⟩)⟩)⟩)⟩)⟩)⟩)⟩), ilX3_readTurn_wsX30⟩), ilX3_readTurn_wsX50⟩)⟩) (by decide +kernel)
set_option maxRecDepth 20000 in
theorem gX3_readTurn_X3_step : GoodIn wsX3_readTurn (wsV RX3 60 RX3 yX3_step wsX3_step) := goodIn_app (goodIn_sub (List.forall_mem_cons.mpr ⟨ilX3_readTurn_wsX3_readTurn_r1 _ (List.mem_of_getElem? (i := 3) rfl), (List.forall_mem_cons.mpr ⟨ilX3_readTurn_wsX3_readTurn_r1 _ (List.mem_of_getElem? (i := 4) rfl), (List.forall_mem_cons.mpr ⟨ilX3_readTurn_wsX3_readTurn_r1 _ (List.mem_of_getElem? (i := 5) rfl), (List.forall_mem_cons.mpr ⟨ilX3_readTurn_wsX3_readTurn_r1 _ (List.mem_of_getElem? (i := 6) rfl), (fun _ h => absurd h List.not_mem_nil)⟩)⟩)⟩)⟩) (by decide +kernel)) ggX3_readTurn_X3_step
set_option maxRecDepth 20000 in
theorem ggX3_readTurn_X3_tokenKind : GoodIn wsX3_readTurn wsX3_tokenKind := goodIn_sub (List.forall_mem_cons.mpr ⟨ilX3_readTurn_wsX3_readTurn_r2 _ (List.mem_of_getElem? (i := 9) rfl), (List.forall_mem_append.mpr ⟨(List.forall_mem_append.mpr ⟨(List.forall_mem_append.mpr ⟨(List.forall_mem_cons.mpr ⟨ilX3_readTurn_wsX3_readTurn_r2 _ (List.mem_of_getElem? (i := 10) rfl), (List.forall_mem_cons.mpr ⟨ilX3_readTurn_wsX3_readTurn_r2 _ (List.mem_of_getElem? (i := 11) rfl), (List.forall_mem_cons.mpr ⟨ilX3_readTurn_wsX3_readTurn_r2 _ (List.mem_of_getElem? (i := 12) rfl), (List.forall_mem_cons.mpr ⟨ilX3_readTurn_wsX3_readTurn_r1 _ (List.mem_of_getElem? (i := 6) rfl), (List.forall_mem_cons.mpr ⟨ilX3_readTurn_wsX3_readTurn_r2 _ (List.mem_of_getElem? (i := 13) rfl), (List.forall_mem_cons.mpr ⟨ilX3_readTurn_wsX3_readTurn_r1 _ (List.mem_of_getElem? (i := 12) rfl), (List.forall_mem_cons.mpr ⟨ilX3_readTurn_wsX3_readTurn_r1 _ (List.mem_of_getElem? (i := 8) rfl), (List.forall_mem_cons.mpr ⟨ilX3_readTurn_wsX3_readTurn_r1 _ (List.mem_of_getElem? (i := 9) rfl), (List.forall_mem_cons.mpr ⟨ilX3_readTurn_wsX3_readTurn_r1 _ (List.mem_of_getElem? (i := 10) rfl), (List.forall_mem_cons.mpr ⟨ilX3_readTurn_wsX3_readTurn_r1 _ (List.mem_of_getElem? (i := 13) rfl), (List.forall_mem_cons.mpr ⟨ilX3_readTurn_wsX3_readTurn_r2 _ (List.mem_of_getElem? (i := 14) rfl), (List.forall_mem_cons.mpr ⟨ilX3_readTurn_wsX3_readTurn_r2 _ (List.mem_of_getElem? (i := 15) rfl), (List.forall_mem_cons.mpr ⟨ilX3_readTurn_wsX3_readTurn_r2 _ (List.mem_of_getElem? (i := 16) rfl), (List.forall_mem_cons.mpr ⟨ilX3_readTurn_wsX3_readTurn_r2 _ (List.mem_of_getElem? (i := 17) rfl), (List.forall_mem_cons.mpr ⟨ilX3_readTurn_wsX3_readTurn_r2 _ (List.mem_of_getElem? (i := 18) rfl), (List.forall_mem_cons.mpr ⟨ilX3_readTurn_wsX3_readTurn_r2 _ (List.mem_of_getElem? (i := 19) rfl), (List.forall_mem_cons.mpr ⟨ilX3_readTurn_wsX3_readTurn_r2 _ (List.mem_of_getElem? (i := 20) rfl), (List.forall_mem_cons.mpr ⟨ilX3_readTurn_wsX3_readTurn_r2 _ (List.mem_of_getElem? (i := 21) rfl), (List.forall_mem_cons.mpr ⟨ilX3_readTurn_wsX3_readTurn_r2 _ (List.mem_of_getElem? (i := 22) rfl), (List.forall_mem_cons.mpr ⟨ilX3_readTurn_wsX3_readTurn_r2 _ (List.mem_of_getElem? (i := 23) rfl), (List.forall_mem_cons.mpr ⟨ilX3_readTurn_wsX3_readTurn_r3 _ (List.mem_of_getElem? (i := 0) rfl), (List.forall_mem_cons.mpr ⟨ilX3_readTurn_wsX3_readTurn_r3 _ (List.mem_of_getElem? (i := 1) rfl), (List.forall_mem_cons.mpr ⟨ilX3_readTurn_wsX3_readTurn_r3 _ (List.mem_of_getElem? (i := 2) rfl), (List.forall_mem_cons.mpr ⟨ilX3_readTurn_wsX3_readTurn_r3 _ (List.mem_of_getElem? (i := 3) rfl), (fun _ h => absurd h List.not_mem_nil)⟩)⟩)⟩)⟩)⟩)⟩)⟩)⟩)⟩)⟩)⟩)⟩)⟩)⟩)⟩)⟩)⟩)⟩)⟩)⟩)⟩)⟩)⟩)⟩), (List.forall_mem_append.mpr ⟨(List.forall_mem_cons.mpr ⟨ilX3_readTurn_wsX3_readTurn_r3 _ (List.mem_of_getElem? (i := 4) rfl), (List.forall_mem_cons.mpr ⟨ilX3_readTurn_wsX3_readTurn_r3 _ (List.mem_of_getElem? (i := 5) rfl), (List.forall_mem_cons.mpr ⟨ilX3_readTurn_wsX3_readTurn_r3 _ (List.mem_of_getElem? (i := 6) rfl), (List.forall_mem_cons.mpr ⟨ilX3_readTurn_wsX3_readTurn_r3 _ (List.mem_of_getElem? (i := 7) rfl), (List.forall_mem_cons.mpr ⟨ilX3_readTurn_wsX3_readTurn_r3 _ (List.mem_of_getElem? (i := 8) rfl), (List.forall_mem_cons.mpr ⟨ilX3_readTurn_wsX3_readTurn_r3 _ (List.mem_of_getElem? (i := 9) rfl), (List.forall_mem_cons.mpr ⟨ilX3_readTurn_wsX3_readTurn_r3 _ (List.mem_of_getElem? (i := 10) rfl), (List.forall_mem_cons.mpr ⟨ilX3_readTurn_wsX3_readTurn_r3 _ (List.mem_of_getElem? (i := 11) rfl), (List.forall_mem_cons.mpr ⟨ilX3_readTurn_wsX3_readTurn_r3 _ (List.mem_of_getElem? (i := 12) rfl), (List.forall_mem_cons.mpr ⟨ilX3_readTurn_wsX3_readTurn_r3 _ (List.mem_of_getElem? (i := 13) rfl), (List.forall_mem_cons.mpr ⟨ilX3_readTurn_wsX3_readTurn_r3 _ (List.mem_of_getElem? (i := 14) rfl), (List.forall_mem_cons.mpr ⟨ilX3_readTurn_wsX3_readTurn_r3 _ (List.mem_of_getElem? (i := 15) rfl), (List.forall_mem_cons.mpr ⟨ilX3_readTurn_wsX3_readTurn_r3 _ (List.mem_of_getElem? (i := 16) rfl), (List.forall_mem_cons.mpr ⟨ilX3_readTurn_wsX3_readTurn_r3 _ (List.mem_of_getElem? (i := 17) rfl), (List.forall_mem_cons.mpr ⟨ilX3_readTurn_wsX3_readTurn_r3 _ (List.mem_of_getElem? (i := 18) rfl), (List.forall_mem_cons.mpr ⟨ilX3_readTurn_wsX3_readTurn_r3 _ (List.mem_of_getElem? (i := 19) rfl), (List.forall_mem_cons.mpr ⟨ilX3_readTurn_wsX3_readTurn_r3 _ (List.mem_of_getElem? (i := 20) rfl), (List.forall_mem_cons.mpr ⟨ilX3_readTurn_wsX3_readTurn_r3 _ (List.mem_of_getElem? (i := 21) rfl), (List.forall_mem_cons.mpr ⟨ilX3_readTurn_wsX3_readTurn_r3 _ (List.mem_of_getElem? (i := 22) rfl), (List.forall_mem_cons.mpr ⟨ilX3_readTurn_wsX3_readTurn_r3 _ (List.mem_of_getElem? (i := 23) rfl), (List.forall_mem_cons.mpr ⟨ilX3_readTurn_wsX3_readTurn_r4 _ (List.mem_of_getElem? (i := 0) rfl), (List.forall_mem_cons.mpr ⟨ilX3_readTurn_wsX3_readTurn_r4 _ (List.mem_of_getElem? (i := 1) rfl), (List.forall_mem_cons.mpr ⟨ilX3_readTurn_wsX3_readTurn_r4 _ (List.mem_of_getElem? (i := 2) rfl), (List.forall_mem_cons.mpr ⟨ilX3_readTurn_wsX3_readTurn_r4 _ (List.mem_of_getElem? (i := 3) rfl), (fun _ h => absurd h List.not_mem_nil)⟩)⟩)⟩)⟩)⟩)⟩)⟩)⟩)⟩)⟩)⟩)⟩)⟩)⟩)⟩)⟩)⟩)⟩)⟩)⟩)⟩)⟩)⟩)⟩), (List.forall_mem_cons.mpr ⟨ilX3_readTurn_wsX3_readTurn_r4 _ (List.mem_of_getElem? (i := 4) rfl), (List.forall_mem_cons.mpr ⟨ilX3_readTurn_wsX3_readTurn_r4 _ (List.mem_of_getElem? (i := 5) rfl), (List.forall_mem_cons.mpr ⟨ilX3_readTurn_wsX3_readTurn_r4 _ (List.mem_of_getElem? (i := 6) rfl), (List.forall_mem_cons.mpr ⟨ilX3_readTurn_wsX3_readTurn_r4 _ (List.mem_of_getElem? (i := 7) rfl), (List.forall_mem_cons.mpr ⟨ilX3_readTurn_wsX3_readTurn_r4 _ (List.mem_of_getElem? (i := 8) rfl), (List.forall_mem_cons.mpr ⟨ilX3_readTurn_wsX3_readTurn_r4 _ (List.mem_of_getElem? (i := 9) rfl), (List.forall_mem_cons.mpr ⟨ilX3_readTurn_wsX3_readTurn_r4 _ (List.mem_of_getElem? (i := 10) rfl), (List.forall_mem_cons.mpr ⟨ilX3_readTurn_wsX3_readTurn_r4 _ (List.mem_of_getElem? (i := 11) rfl), (List.forall_mem_cons.mpr ⟨ilX3_readTurn_wsX3_readTurn_r4 _ (List.mem_of_getElem? (i := 12) rfl), (List.forall_mem_cons.mpr ⟨ilX3_readTurn_wsX3_readTurn_r4 _ (List.mem_of_getElem? (i := 13) rfl), (List.forall_mem_cons.mpr ⟨ilX3_readTurn_wsX3_readTurn_r4 _ (List.mem_of_getElem? (i := 14) rfl), (fun _ h => absurd h List.not_mem_nil)⟩)⟩)⟩)⟩)⟩)⟩)⟩)⟩)⟩)⟩)⟩)⟩)⟩), ilX3_readTurn_wsX30⟩), ilX3_readTurn_wsX50⟩)⟩) (by decide +kernel)
set_option maxRecDepth 20000 in
theorem gX3_readTurn_X3_tokenKind : GoodIn wsX3_readTurn (wsV RX3 143 RX3 yX3_tokenKind wsX3_tokenKind) := goodIn_app (goodIn_sub (List.forall_mem_cons.mpr ⟨ilX3_readTurn_wsX3_readTurn_r2 _ (List.mem_of_getElem? (i := 6) rfl), (List.forall_mem_cons.mpr ⟨ilX3_readTurn_wsX3_readTurn_r2 _ (List.mem_of_getElem? (i := 7) rfl), (List.forall_mem_cons.mpr ⟨ilX3_readTurn_wsX3_readTurn_r2 _ (List.mem_of_getElem? (i := 8) rfl), (List.forall_mem_cons.mpr ⟨ilX3_readTurn_wsX3_readTurn_r1 _ (List.mem_of_getElem? (i := 6) rfl), (fun _ h => absurd h List.not_mem_nil)⟩)⟩)⟩)⟩) (by decide +kernel)) ggX3_readTurn_X3_tokenKind
set_option maxRecDepth 20000 in
theorem ggX3_readTurn_X1_hasTurn : GoodIn wsX3_readTurn wsX1_hasTurn := goodIn_sub (List.forall_mem_cons.mpr ⟨ilX3_readTurn_wsX3_readTurn_r4 _ (List.mem_of_getElem? (i := 19) rfl), (List.forall_mem_append.mpr ⟨(List.forall_mem_cons.mpr ⟨ilX3_readTurn_wsX3_readTurn_r4 _ (List.mem_of_getElem? (i := 20) rfl), (List.forall_mem_cons.mpr ⟨ilX3_readTurn_wsX3_readTurn_r4 _ (List.mem_of_getElem? (i := 21) rfl), (List.forall_mem_cons.mpr ⟨ilX3_readTurn_wsX3_readTurn_r4 _ (List.mem_of_getElem? (i := 22) rfl), (fun _ h => absurd h List.not_mem_nil)⟩)⟩)⟩), ilX3_readTurn_wsX10⟩)⟩) (by decide +kernel)
set_option maxRecDepth 20000 in
theorem gX3_readTurn_X1_hasTurn : GoodIn wsX3_readTurn (wsV RX3 157 RX1 yX1_hasTurn wsX1_hasTurn) := goodIn_app (goodIn_sub (List.forall_mem_cons.mpr ⟨ilX3_readTurn_wsX3_readTurn_r4 _ (List.mem_of_getElem? (i := 15) rfl), (List.forall_mem_cons.mpr ⟨ilX3_readTurn_wsX3_readTurn_r4 _ (List.mem_of_getElem? (i := 16) rfl), (List.forall_mem_cons.mpr ⟨ilX3_readTurn_wsX3_readTurn_r4 _ (List.mem_of_getElem? (i := 17) rfl), (List.forall_mem_cons.mpr ⟨ilX3_readTurn_wsX3_readTurn_r4 _ (List.mem_of_getElem? (i := 18) rfl), (fun _ h => absurd h List.not_mem_nil)⟩)⟩)⟩)⟩) (by decide +kernel)) ggX3_readTurn_X1_hasTurn
set_option maxRecDepth 20000 in
theorem ggX3_readTurn_X3_takeNumber : GoodIn wsX3_readTurn wsX3_takeNumber := goodIn_sub (List.forall_mem_cons.mpr ⟨ilX3_readTurn_wsX3_readTurn_r5 _ (List.mem_of_getElem? (i := 2) rfl), (List.forall_mem_append.mpr ⟨(List.forall_mem_append.mpr ⟨(List.forall_mem_append.mpr ⟨(List.forall_mem_cons.mpr ⟨ilX3_readTurn_wsX3_readTurn_r1 _ (List.mem_of_getElem? (i := 12) rfl), (List.forall_mem_cons.mpr ⟨ilX3_readTurn_wsX3_readTurn_r1 _ (List.mem_of_getElem? (i := 14) rfl), (List.forall_mem_cons.mpr ⟨ilX3_readTurn_wsX3_readTurn_r1 _ (List.mem_of_getElem? (i := 2) rfl), (List.forall_mem_cons.mpr ⟨ilX3_readTurn_wsX3_readTurn_r5 _ (List.mem_of_getElem? (i := 3) rfl), (List.forall_mem_cons.mpr ⟨ilX3_readTurn_wsX3_readTurn_r5 _ (List.mem_of_getElem? (i := 4) rfl), (List.forall_mem_cons.mpr ⟨ilX3_readTurn_wsX3_readTurn_r5 _ (List.mem_of_getElem? (i := 5) rfl), (List.forall_mem_cons.mpr ⟨ilX3_readTurn_wsX3_readTurn_r1 _ (List.mem_of_getElem? (i := 3) rfl), (List.forall_mem_cons.mpr ⟨ilX3_readTurn_wsX3_readTurn_r1 _ (List.mem_of_getElem? (i := 4) rfl), (List.forall_mem_cons.mpr ⟨ilX3_readTurn_wsX3_readTurn_r1 _ (List.mem_of_getElem? (i := 5) rfl), (List.forall_mem_cons.mpr ⟨ilX3_readTurn_wsX3_readTurn_r1 _ (List.mem_of_getElem? (i := 6) rfl), (List.forall_mem_cons.mpr ⟨ilX3_readTurn_wsX3_readTurn_r1 _ (List.mem_of_getElem? (i := 7) rfl), (List.forall_mem_cons.mpr ⟨ilX3_readTurn_wsX3_readTurn_r1 _ (List.mem_of_getElem? (i := 8) rfl), (List.forall_mem_cons.mpr ⟨ilX3_readTurn_wsX3_readTurn_r1 _ (List.mem_of_getElem? (i := 9) rfl), (List.forall_mem_cons.mpr ⟨ilX3_readTurn_wsX3_readTurn_r1 _ (List.mem_of_getElem? (i := 10) rfl), (List.forall_mem_cons.mpr ⟨ilX3_readTurn_wsX3_readTurn_r1 _ (List.mem_of_getElem? (i := 11) rfl), (List.forall_mem_cons.mpr ⟨ilX3_readTurn_wsX3_readTurn_r1 _ (List.mem_of_getElem? (i := 13) rfl), (List.forall_mem_cons.mpr ⟨ilX3_readTurn_wsX3_readTurn_r1 _ (List.mem_of_getElem? (i := 15) rfl), (List.forall_mem_cons.mpr ⟨ilX3_readTurn_wsX3_readTurn_r1 _ (List.mem_of_getElem? (i := 16) rfl), (List.forall_mem_cons.mpr ⟨ilX3_readTurn_wsX3_readTurn_r1 _ (List.mem_of_getElem? (i := 17) rfl), (List.forall_mem_cons.mpr ⟨ilX3_readTurn_wsX3_readTurn_r1 _ (List.mem_of_getElem? (i := 18) rfl), (List.forall_mem_cons.mpr ⟨ilX3_readTurn_wsX3_readTurn_r1 _ (List.mem_of_getElem? (i := 19) rfl), (List.forall_mem_cons.mpr ⟨ilX3_readTurn_wsX3_readTurn_r1 _ (List.mem_of_getElem? (i := 20) rfl), (List.forall_mem_cons.mpr ⟨ilX3_readTurn_wsX3_readTurn_r1 _ (List.mem_of_getElem? (i := 21) rfl), (List.forall_mem_cons.mpr ⟨ilX3_readTurn_wsX3_readTurn_r1 _ (List.mem_of_getElem? (i := 22) rfl), (fun _ h => absurd h List.not_mem_nil)⟩)⟩)⟩)⟩)⟩)⟩)⟩)⟩)⟩)⟩)⟩)⟩)⟩)⟩)⟩)⟩)⟩)⟩)⟩)⟩)⟩)⟩)⟩)⟩), (List.forall_mem_cons.mpr ⟨ilX3_readTurn_wsX3_readTurn_r1 _ (List.mem_of_getElem? (i := 23) rfl), (List.forall_mem_cons.mpr ⟨ilX3_readTurn_wsX3_readTurn_r2 _ (List.mem_of_getElem? (i := 0) rfl), (List.forall_mem_cons.mpr ⟨ilX3_readTurn_wsX3_readTurn_r2 _ (List.mem_of_getElem? (i := 1) rfl), (List.forall_mem_cons.mpr ⟨ilX3_readTurn_wsX3_readTurn_r2 _ (List.mem_of_getElem? (i := 2) rfl), (List.forall_mem_cons.mpr ⟨ilX3_readTurn_wsX3_readTurn_r2 _ (List.mem_of_getElem? (i := 3) rfl), (List.forall_mem_cons.mpr ⟨ilX3_readTurn_wsX3_readTurn_r2 _ (List.mem_of_getElem? (i := 4) rfl), (List.forall_mem_cons.mpr ⟨ilX3_readTurn_wsX3_readTurn_r2 _ (List.mem_of_getElem? (i := 5) rfl), (fun _ h => absurd h List.not_mem_nil)⟩)⟩)⟩)⟩)⟩)⟩)⟩)⟩), ilX3_readTurn_wsX30⟩), ilX3_readTurn_wsX50⟩)⟩) (by decide +kernel)
set_option maxRecDepth 20000 in
theorem gX3_readTurn_X3_takeNumber : GoodIn wsX3_readTurn (wsV RX3 109 RX3 yX3_takeNumber wsX3_takeNumber) := goodIn_app (goodIn_sub (List.forall_mem_cons.mpr ⟨ilX3_readTurn_wsX3_readTurn_r4 _ (List.mem_of_getElem? (i := 23) rfl), (List.forall_mem_cons.mpr ⟨ilX3_readTurn_wsX3_readTurn_r5 _ (List.mem_of_getElem? (i := 0) rfl), (List.forall_mem_cons.mpr ⟨ilX3_readTurn_wsX3_readTurn_r5 _ (List.mem_of_getElem? (i := 1) rfl), (List.forall_mem_cons.mpr ⟨ilX3_readTurn_wsX3_readTurn_r1 _ (List.mem_of_getElem? (i := 6) rfl), (fun _ h => absurd h List.not_mem_nil)⟩)⟩)⟩)⟩) (by decide +kernel)) ggX3_readTurn_X3_takeNumber
set_option maxRecDepth 20000 in
theorem ggX3_readTurn_X1_addTurn : GoodIn wsX3_readTurn wsX1_addTurn := goodIn_sub (List.forall_mem_cons.mpr ⟨ilX3_readTurn_wsX3_readTurn_r5 _ (List.mem_of_getElem? (i := 9) rfl), (List.forall_mem_append.mpr ⟨(List.forall_mem_cons.mpr ⟨ilX3_readTurn_wsX3_readTurn_r4 _ (List.mem_of_getElem? (i := 20) rfl), (List.forall_mem_cons.mpr ⟨ilX3_readTurn_wsX3_readTurn_r4 _ (List.mem_of_getElem? (i := 21) rfl), (List.forall_mem_cons.mpr ⟨ilX3_readTurn_wsX3_readTurn_r4 _ (List.mem_of_getElem? (i := 22) rfl), (List.forall_mem_cons.mpr ⟨ilX3_readTurn_wsX3_readTurn_r5 _ (List.mem_of_getElem? (i := 10) rfl), (fun _ h => absurd h List.not_mem_nil)⟩)⟩)⟩)⟩), ilX3_readTurn_wsX10⟩)⟩) (by decide +kernel)
set_option maxRecDepth 20000 in
theorem gX3_readTurn_X1_addTurn : GoodIn wsX3_readTurn (wsV RX3 160 RX1 yX1_addTurn wsX1_addTurn) := goodIn_app (goodIn_sub (List.forall_mem_cons.mpr ⟨ilX3_readTurn_wsX3_readTurn_r5 _ (List.mem_of_getElem? (i := 6) rfl), (List.forall_mem_cons.mpr ⟨ilX3_readTurn_wsX3_readTurn_r5 _ (List.mem_of_getElem? (i := 7) rfl), (List.forall_mem_cons.mpr ⟨ilX3_readTurn_wsX3_readTurn_r5 _ (List.mem_of_getElem? (i := 8) rfl), (List.forall_mem_cons.mpr ⟨ilX3_readTurn_wsX3_readTurn_r4 _ (List.mem_of_getElem? (i := 18) rfl), (fun _ h => absurd h List.not_mem_nil)⟩)⟩)⟩)⟩) (by decide +kernel)) ggX3_readTurn_X1_addTurn
set_option maxRecDepth 20000 in
theorem ggX3_readTurn_X3_takeStop : GoodIn wsX3_readTurn wsX3_takeStop := goodIn_sub (List.forall_mem_cons.mpr ⟨ilX3_readTurn_wsX3_readTurn_r5 _ (List.mem_of_getElem? (i := 14) rfl), (List.forall_mem_append.mpr ⟨(List.forall_mem_append.mpr ⟨(List.forall_mem_append.mpr ⟨(List.forall_mem_cons.mpr ⟨ilX3_readTurn_wsX3_readTurn_r1 _ (List.mem_of_getElem? (i := 12) rfl), (List.forall_mem_cons.mpr ⟨ilX3_readTurn_wsX3_readTurn_r1 _ (List.mem_of_getElem? (i := 3) rfl), (List.forall_mem_cons.mpr ⟨ilX3_readTurn_wsX3_readTurn_r1 _ (List.mem_of_getElem? (i := 4) rfl), (List.forall_mem_cons.mpr ⟨ilX3_readTurn_wsX3_readTurn_r1 _ (List.mem_of_getElem? (i := 5) rfl), (List.forall_mem_cons.mpr ⟨ilX3_readTurn_wsX3_readTurn_r1 _ (List.mem_of_getElem? (i := 6) rfl), (List.forall_mem_cons.mpr ⟨ilX3_readTurn_wsX3_readTurn_r1 _ (List.mem_of_getElem? (i := 7) rfl), (List.forall_mem_cons.mpr ⟨ilX3_readTurn_wsX3_readTurn_r1 _ (List.mem_of_getElem? (i := 8) rfl), (List.forall_mem_cons.mpr ⟨ilX3_readTurn_wsX3_readTurn_r1 _ (List.mem_of_getElem? (i := 9) rfl), (List.forall_mem_cons.mpr ⟨ilX3_readTurn_wsX3_readTurn_r1 _ (List.mem_of_getElem? (i := 10) rfl), (List.forall_mem_cons.mpr ⟨ilX3_readTurn_wsX3_readTurn_r1 _ (List.mem_of_getElem? (i := 11) rfl), (List.forall_mem_cons.mpr ⟨ilX3_readTurn_wsX3_readTurn_r1 _ (List.mem_of_getElem? (i := 13) rfl), (List.forall_mem_cons.mpr ⟨ilX3_readTurn_wsX3_readTurn_r1 _ (List.mem_of_getElem? (i := 14) rfl), (List.forall_mem_cons.mpr ⟨ilX3_readTurn_wsX3_readTurn_r1 _ (List.mem_of_getElem? (i := 15) rfl), (List.forall_mem_cons.mpr ⟨ilX3_readTurn_wsX3_readTurn_r1 _ (List.mem_of_getElem? (i := 16) rfl), (List.forall_mem_cons.mpr ⟨ilX3_readTurn_wsX3_readTurn_r1 _ (List.mem_of_getElem? (i := 17) rfl), (List.forall_mem_cons.mpr ⟨ilX3_readTurn_wsX3_readTurn_r1 _ (List.mem_of_getElem? (i := 18) rfl), (List.forall_mem_cons.mpr ⟨ilX3_readTurn_wsX3_readTurn_r1 _ (List.mem_of_getElem? (i := 19) rfl), (List.forall_mem_cons.mpr ⟨ilX3_readTurn_wsX3_readTurn_r1 _ (List.mem_of_getElem? (i := 20) rfl), (List.forall_mem_cons.mpr ⟨ilX3_readTurn_wsX3_readTurn_r1 _ (List.mem_of_getElem? (i := 21) rfl), (List.forall_mem_cons.mpr ⟨ilX3_readTurn_wsX3_readTurn_r1 _ (List.mem_of_getElem? (i := 22) rfl), (List.forall_mem_cons.mpr ⟨ilX3_readTurn_wsX3_readTurn_r1 _ (List.mem_of_getElem? (i := 23) rfl), (List.forall_mem_cons.mpr ⟨ilX3_readTurn_wsX3_readTurn_r2 _ (List.mem_of_getElem? (i := 0) rfl), (List.forall_mem_cons.mpr ⟨ilX3_readTurn_wsX3_readTurn_r2 _ (List.mem_of_getElem? (i := 1) rfl), (List.forall_mem_cons.mpr ⟨ilX3_readTurn_wsX3_readTurn_r2 _ (List.mem_of_getElem? (i := 2) rfl), (fun _ h => absurd h List.not_mem_nil)⟩)⟩)⟩)⟩)⟩)⟩)⟩)⟩)⟩)⟩)⟩)⟩)⟩)⟩)⟩)⟩)⟩)⟩)⟩)⟩)⟩)⟩)⟩)⟩), (List.forall_mem_cons.mpr ⟨ilX3_readTurn_wsX3_readTurn_r2 _ (List.mem_of_getElem? (i := 3) rfl), (List.forall_mem_cons.mpr ⟨ilX3_readTurn_wsX3_readTurn_r2 _ (List.mem_of_getElem? (i := 4) rfl), (List.forall_mem_cons.mpr ⟨ilX3_readTurn_wsX3_readTurn_r2 _ (List.mem_of_getElem? (i := 5) rfl), (fun _ h => absurd h List.not_mem_nil)⟩)⟩)⟩)⟩), ilX3_readTurn_wsX30⟩), ilX3_readTurn_wsX50⟩)⟩) (by decide +kernel)
set_option maxRecDepth 20000 in
theorem gX3_readTurn_X3_takeStop : GoodIn wsX3_readTurn (wsV RX3 119 RX3 yX3_takeStop wsX3_takeStop) := goodIn_app (goodIn_sub (List.forall_mem_cons.mpr ⟨ilX3_readTurn_wsX3_readTurn_r5 _ (List.mem_of_getElem? (i := 11) rfl), (List.forall_mem_cons.mpr ⟨ilX3_readTurn_wsX3_readTurn_r5 _ (List.mem_of_getElem? (i := 12) rfl), (List.forall_mem_cons.mpr ⟨ilX3_readTurn_wsX3_readTurn_r5 _ (List.mem_of_getElem? (i := 13) rfl), (List.forall_mem_cons.mpr ⟨ilX3_readTurn_wsX3_readTurn_r1 _ (List.mem_of_getElem? (i := 6) rfl), (fun _ h => absurd h List.not_mem_nil)⟩)⟩)⟩)⟩) (by decide +kernel)) ggX3_readTurn_X3_takeStop
theorem dX3_readTurn_0 : decode cX3_readTurn 0 = .ok (.aload_n 0, 1) := by decide +kernel
theorem dX3_readTurn_1 : decode cX3_readTurn 1 = .ok (.getfield 51, 3) := by decide +kernel
theorem dX3_readTurn_4 : decode cX3_readTurn 4 = .ok (.getfield 154, 3) := by decide +kernel
theorem dX3_readTurn_7 : decode cX3_readTurn 7 = .ok (.bipush 12, 2) := by decide +kernel
theorem dX3_readTurn_9 : decode cX3_readTurn 9 = .ok (.if_icmp .lt 5, 3) := by decide +kernel
theorem dX3_readTurn_12 : decode cX3_readTurn 12 = .ok (.iconst 0, 1) := by decide +kernel
theorem dX3_readTurn_13 : decode cX3_readTurn 13 = .ok (.ireturn, 1) := by decide +kernel
theorem dX3_readTurn_14 : decode cX3_readTurn 14 = .ok (.aload_n 0, 1) := by decide +kernel
theorem dX3_readTurn_15 : decode cX3_readTurn 15 = .ok (.invokevirtual 60, 3) := by decide +kernel
theorem dX3_readTurn_18 : decode cX3_readTurn 18 = .ok (.aload_n 0, 1) := by decide +kernel
theorem dX3_readTurn_19 : decode cX3_readTurn 19 = .ok (.invokevirtual 143, 3) := by decide +kernel
theorem dX3_readTurn_22 : decode cX3_readTurn 22 = .ok (.istore_n 1, 1) := by decide +kernel
theorem dX3_readTurn_23 : decode cX3_readTurn 23 = .ok (.iload_n 1, 1) := by decide +kernel
theorem dX3_readTurn_24 : decode cX3_readTurn 24 = .ok (.iconst (-1), 1) := by decide +kernel
theorem dX3_readTurn_25 : decode cX3_readTurn 25 = .ok (.if_icmp .ne 5, 3) := by decide +kernel
theorem dX3_readTurn_28 : decode cX3_readTurn 28 = .ok (.iconst 0, 1) := by decide +kernel
theorem dX3_readTurn_29 : decode cX3_readTurn 29 = .ok (.ireturn, 1) := by decide +kernel
theorem dX3_readTurn_30 : decode cX3_readTurn 30 = .ok (.aload_n 0, 1) := by decide +kernel
theorem dX3_readTurn_31 : decode cX3_readTurn 31 = .ok (.invokevirtual 60, 3) := by decide +kernel
theorem dX3_readTurn_34 : decode cX3_readTurn 34 = .ok (.aload_n 0, 1) := by decide +kernel
theorem dX3_readTurn_35 : decode cX3_readTurn 35 = .ok (.invokevirtual 143, 3) := by decide +kernel
theorem dX3_readTurn_38 : decode cX3_readTurn 38 = .ok (.istore_n 2, 1) := by decide +kernel
theorem dX3_readTurn_39 : decode cX3_readTurn 39 = .ok (.iload_n 2, 1) := by decide +kernel
theorem dX3_readTurn_40 : decode cX3_readTurn 40 = .ok (.iconst (-1), 1) := by decide +kernel
theorem dX3_readTurn_41 : decode cX3_readTurn 41 = .ok (.if_icmp .eq 20, 3) := by decide +kernel
theorem dX3_readTurn_44 : decode cX3_readTurn 44 = .ok (.iload_n 2, 1) := by decide +kernel
theorem dX3_readTurn_45 : decode cX3_readTurn 45 = .ok (.iload_n 1, 1) := by decide +kernel
theorem dX3_readTurn_46 : decode cX3_readTurn 46 = .ok (.if_icmp .eq 15, 3) := by decide +kernel
theorem dX3_readTurn_49 : decode cX3_readTurn 49 = .ok (.aload_n 0, 1) := by decide +kernel
theorem dX3_readTurn_50 : decode cX3_readTurn 50 = .ok (.getfield 51, 3) := by decide +kernel
theorem dX3_readTurn_53 : decode cX3_readTurn 53 = .ok (.iload_n 1, 1) := by decide +kernel
theorem dX3_readTurn_54 : decode cX3_readTurn 54 = .ok (.iload_n 2, 1) := by decide +kernel
theorem dX3_readTurn_55 : decode cX3_readTurn 55 = .ok (.invokevirtual 157, 3) := by decide +kernel
theorem dX3_readTurn_58 : decode cX3_readTurn 58 = .ok (.ifCond .eq 5, 3) := by decide +kernel
theorem dX3_readTurn_61 : decode cX3_readTurn 61 = .ok (.iconst 0, 1) := by decide +kernel
theorem dX3_readTurn_62 : decode cX3_readTurn 62 = .ok (.ireturn, 1) := by decide +kernel
theorem dX3_readTurn_63 : decode cX3_readTurn 63 = .ok (.aload_n 0, 1) := by decide +kernel
theorem dX3_readTurn_64 : decode cX3_readTurn 64 = .ok (.invokevirtual 60, 3) := by decide +kernel
theorem dX3_readTurn_67 : decode cX3_readTurn 67 = .ok (.aload_n 0, 1) := by decide +kernel
theorem dX3_readTurn_68 : decode cX3_readTurn 68 = .ok (.iconst 0, 1) := by decide +kernel
theorem dX3_readTurn_69 : decode cX3_readTurn 69 = .ok (.bipush 99, 2) := by decide +kernel
theorem dX3_readTurn_71 : decode cX3_readTurn 71 = .ok (.invokevirtual 109, 3) := by decide +kernel
theorem dX3_readTurn_74 : decode cX3_readTurn 74 = .ok (.ifCond .ne 5, 3) := by decide +kernel
theorem dX3_readTurn_77 : decode cX3_readTurn 77 = .ok (.iconst 0, 1) := by decide +kernel
theorem dX3_readTurn_78 : decode cX3_readTurn 78 = .ok (.ireturn, 1) := by decide +kernel
theorem dX3_readTurn_79 : decode cX3_readTurn 79 = .ok (.aload_n 0, 1) := by decide +kernel
theorem dX3_readTurn_80 : decode cX3_readTurn 80 = .ok (.getfield 51, 3) := by decide +kernel
theorem dX3_readTurn_83 : decode cX3_readTurn 83 = .ok (.iload_n 1, 1) := by decide +kernel
theorem dX3_readTurn_84 : decode cX3_readTurn 84 = .ok (.iload_n 2, 1) := by decide +kernel
theorem dX3_readTurn_85 : decode cX3_readTurn 85 = .ok (.aload_n 0, 1) := by decide +kernel
theorem dX3_readTurn_86 : decode cX3_readTurn 86 = .ok (.getfield 34, 3) := by decide +kernel
theorem dX3_readTurn_89 : decode cX3_readTurn 89 = .ok (.invokevirtual 160, 3) := by decide +kernel
theorem dX3_readTurn_92 : decode cX3_readTurn 92 = .ok (.aload_n 0, 1) := by decide +kernel
theorem dX3_readTurn_93 : decode cX3_readTurn 93 = .ok (.invokevirtual 119, 3) := by decide +kernel
theorem dX3_readTurn_96 : decode cX3_readTurn 96 = .ok (.ireturn, 1) := by decide +kernel
theorem ilX3_takeNumber_wsX3_takeNumber_r1 : ∀ w ∈ wsX3_takeNumber_r1, w ∈ wsX3_takeNumber := fun _ h => List.mem_cons_of_mem _ (List.mem_append_left _ (List.mem_append_left _ (List.mem_append_left _ (h))))
theorem ilX3_takeNumber_wsX3_takeNumber_r2 : ∀ w ∈ wsX3_takeNumber_r2, w ∈ wsX3_takeNumber := fun _ h => List.mem_cons_of_mem _ (List.mem_append_left _ (List.mem_append_left _ (List.mem_append_right _ (h))))
theorem ilX3_takeNumber_wsX30 : ∀ w ∈ wsX30, w ∈ wsX3_takeNumber := fun _ h => List.mem_cons_of_mem _ (List.mem_append_left _ (List.mem_append_right _ (h)))
theorem ilX3_takeNumber_wsX50 : ∀ w ∈ wsX50, w ∈ wsX3_takeNumber := fun _ h => List.mem_cons_of_mem _ (List.mem_append_right _ (h))
set_option maxRecDepth 20000 in
theorem ggX3_takeNumber_X7_isIn : GoodIn wsX3_takeNumber wsX7_isIn := goodIn_sub (List.forall_mem_cons.mpr ⟨ilX3_takeNumber_wsX3_takeNumber_r1 _ (List.mem_of_getElem? (i := 5) rfl), (fun _ h => absurd h List.not_mem_nil)⟩) (by decide +kernel)
set_option maxRecDepth 20000 in
theorem gX3_takeNumber_X7_isIn_n164 : GoodIn wsX3_takeNumber (wsX7_isIn) := ggX3_takeNumber_X7_isIn
set_option maxRecDepth 20000 in
theorem ggX3_takeNumber_X3_step : GoodIn wsX3_takeNumber wsX3_step := goodIn_sub (List.forall_mem_cons.mpr ⟨ilX3_takeNumber_wsX3_takeNumber_r1 _ (List.mem_of_getElem? (i := 10) rfl), (List.forall_mem_append.mpr ⟨(List.forall_mem_append.mpr ⟨(List.forall_mem_cons.mpr ⟨ilX3_takeNumber_wsX3_takeNumber_r1 _ (List.mem_of_getElem? (i := 11) rfl), (List.forall_mem_cons.mpr ⟨ilX3_takeNumber_wsX3_takeNumber_r1 _ (List.mem_of_getElem? (i := 12) rfl), (List.forall_mem_cons.mpr ⟨ilX3_takeNumber_wsX3_takeNumber_r1 _ (List.mem_of_getElem? (i := 13) rfl), (List.forall_mem_cons.mpr ⟨ilX3_takeNumber_wsX3_takeNumber_r1 _ (List.mem_of_getElem? (i := 14) rfl), (List.forall_mem_cons.mpr ⟨ilX3_takeNumber_wsX3_takeNumber_r1 _ (List.mem_of_getElem? (i := 0) rfl), (List.forall_mem_cons.mpr ⟨ilX3_takeNumber_wsX3_takeNumber_r1 _ (List.mem_of_getElem? (i := 15) rfl), (List.forall_mem_cons.mpr ⟨ilX3_takeNumber_wsX3_takeNumber_r1 _ (List.mem_of_getElem? (i := 1) rfl), (List.forall_mem_cons.mpr ⟨ilX3_takeNumber_wsX3_takeNumber_r1 _ (List.mem_of_getElem? (i := 16) rfl), (List.forall_mem_cons.mpr ⟨ilX3_takeNumber_wsX3_takeNumber_r1 _ (List.mem_of_getElem? (i := 17) rfl), (List.forall_mem_cons.mpr ⟨ilX3_takeNumber_wsX3_takeNumber_r1 _ (List.mem_of_getElem? (i := 18) rfl), (List.forall_mem_cons.mpr ⟨ilX3_takeNumber_wsX3_takeNumber_r1 _ (List.mem_of_getElem? (i := 19) rfl), (List.forall_mem_cons.mpr ⟨ilX3_takeNumber_wsX3_takeNumber_r1 _ (List.mem_of_getElem? (i := 20) rfl), (List.forall_mem_cons.mpr ⟨ilX3_takeNumber_wsX3_takeNumber_r1 _ (List.mem_of_getElem? (i := 21) rfl), (List.forall_mem_cons.mpr ⟨ilX3_takeNumber_wsX3_takeNumber_r1 _ (List.mem_of_getElem? (i := 22) rfl), (List.forall_mem_cons.mpr ⟨ilX3_takeNumber_wsX3_takeNumber_r1 _ (List.mem_of_getElem? (i := 23) rfl), (List.forall_mem_cons.mpr ⟨ilX3_takeNumber_wsX3_takeNumber_r1 _ (List.mem_of_getElem? (i := 9) rfl), (List.forall_mem_cons.mpr ⟨ilX3_takeNumber_wsX3_takeNumber_r2 _ (List.mem_of_getElem? (i := 0) rfl), (List.forall_mem_cons.mpr ⟨ilX3_takeNumber_wsX3_takeNumber_r2 _ (List.mem_of_getElem? (i := 1) rfl), (List.forall_mem_cons.mpr ⟨ilX3_takeNumber_wsX3_takeNumber_r2 _ (List.mem_of_getElem? (i := 2) rfl), (List.forall_mem_cons.mpr ⟨ilX3_takeNumber_wsX3_takeNumber_r2 _ (List.mem_of_getElem? (i := 3) rfl), (List.forall_mem_cons.mpr ⟨ilX3_takeNumber_wsX3_takeNumber_r2 _ (List.mem_of_getElem? (i := 4) rfl), (List.forall_mem_cons.mpr ⟨ilX3_takeNumber_wsX3_takeNumber_r2 _ (List.mem_of_getElem? (i := 5) rfl), (List.forall_mem_cons.mpr ⟨ilX3_takeNumber_wsX3_takeNumber_r2 _ (List.mem_of_getElem? (i := 6) rfl), (fun _ h => absurd h List.not_mem_nil)⟩)⟩)⟩)⟩)⟩)⟩)⟩)⟩)⟩)⟩)⟩)⟩)⟩)⟩)⟩)⟩)⟩)⟩)⟩)⟩)⟩)⟩)⟩), ilX3_takeNumber_wsX30⟩), ilX3_takeNumber_wsX50⟩)⟩) (by decide +kernel)
set_option maxRecDepth 20000 in
theorem gX3_takeNumber_X3_step : GoodIn wsX3_takeNumber (wsV RX3 60 RX3 yX3_step wsX3_step) := goodIn_app (goodIn_sub (List.forall_mem_cons.mpr ⟨ilX3_takeNumber_wsX3_takeNumber_r1 _ (List.mem_of_getElem? (i := 6) rfl), (List.forall_mem_cons.mpr ⟨ilX3_takeNumber_wsX3_takeNumber_r1 _ (List.mem_of_getElem? (i := 7) rfl), (List.forall_mem_cons.mpr ⟨ilX3_takeNumber_wsX3_takeNumber_r1 _ (List.mem_of_getElem? (i := 8) rfl), (List.forall_mem_cons.mpr ⟨ilX3_takeNumber_wsX3_takeNumber_r1 _ (List.mem_of_getElem? (i := 9) rfl), (fun _ h => absurd h List.not_mem_nil)⟩)⟩)⟩)⟩) (by decide +kernel)) ggX3_takeNumber_X3_step
theorem dX3_takeNumber_0 : decode cX3_takeNumber 0 = .ok (.aload_n 0, 1) := by decide +kernel
theorem dX3_takeNumber_1 : decode cX3_takeNumber 1 = .ok (.getfield 28, 3) := by decide +kernel
theorem dX3_takeNumber_4 : decode cX3_takeNumber 4 = .ok (.iconst 2, 1) := by decide +kernel
theorem dX3_takeNumber_5 : decode cX3_takeNumber 5 = .ok (.if_icmp .ne 15, 3) := by decide +kernel
theorem dX3_takeNumber_8 : decode cX3_takeNumber 8 = .ok (.aload_n 0, 1) := by decide +kernel
theorem dX3_takeNumber_9 : decode cX3_takeNumber 9 = .ok (.getfield 31, 3) := by decide +kernel
theorem dX3_takeNumber_12 : decode cX3_takeNumber 12 = .ok (.iload_n 1, 1) := by decide +kernel
theorem dX3_takeNumber_13 : decode cX3_takeNumber 13 = .ok (.iload_n 2, 1) := by decide +kernel
theorem dX3_takeNumber_14 : decode cX3_takeNumber 14 = .ok (.invokestatic 164, 3) := by decide +kernel
theorem dX3_takeNumber_17 : decode cX3_takeNumber 17 = .ok (.ifCond .ne 5, 3) := by decide +kernel
theorem dX3_takeNumber_20 : decode cX3_takeNumber 20 = .ok (.iconst 0, 1) := by decide +kernel
theorem dX3_takeNumber_21 : decode cX3_takeNumber 21 = .ok (.ireturn, 1) := by decide +kernel
theorem dX3_takeNumber_22 : decode cX3_takeNumber 22 = .ok (.aload_n 0, 1) := by decide +kernel
theorem dX3_takeNumber_23 : decode cX3_takeNumber 23 = .ok (.aload_n 0, 1) := by decide +kernel
theorem dX3_takeNumber_24 : decode cX3_takeNumber 24 = .ok (.getfield 31, 3) := by decide +kernel
theorem dX3_takeNumber_27 : decode cX3_takeNumber 27 = .ok (.putfield 34, 3) := by decide +kernel
theorem dX3_takeNumber_30 : decode cX3_takeNumber 30 = .ok (.aload_n 0, 1) := by decide +kernel
theorem dX3_takeNumber_31 : decode cX3_takeNumber 31 = .ok (.invokevirtual 60, 3) := by decide +kernel
theorem dX3_takeNumber_34 : decode cX3_takeNumber 34 = .ok (.iconst 1, 1) := by decide +kernel
theorem dX3_takeNumber_35 : decode cX3_takeNumber 35 = .ok (.ireturn, 1) := by decide +kernel
theorem ilX3_takeStop_wsX3_takeStop_r1 : ∀ w ∈ wsX3_takeStop_r1, w ∈ wsX3_takeStop := fun _ h => List.mem_cons_of_mem _ (List.mem_append_left _ (List.mem_append_left _ (List.mem_append_left _ (h))))
theorem ilX3_takeStop_wsX3_takeStop_r2 : ∀ w ∈ wsX3_takeStop_r2, w ∈ wsX3_takeStop := fun _ h => List.mem_cons_of_mem _ (List.mem_append_left _ (List.mem_append_left _ (List.mem_append_right _ (h))))
theorem ilX3_takeStop_wsX30 : ∀ w ∈ wsX30, w ∈ wsX3_takeStop := fun _ h => List.mem_cons_of_mem _ (List.mem_append_left _ (List.mem_append_right _ (h)))
theorem ilX3_takeStop_wsX50 : ∀ w ∈ wsX50, w ∈ wsX3_takeStop := fun _ h => List.mem_cons_of_mem _ (List.mem_append_right _ (h))
set_option maxRecDepth 20000 in
theorem ggX3_takeStop_X3_step : GoodIn wsX3_takeStop wsX3_step := goodIn_sub (List.forall_mem_cons.mpr ⟨ilX3_takeStop_wsX3_takeStop_r1 _ (List.mem_of_getElem? (i := 5) rfl), (List.forall_mem_append.mpr ⟨(List.forall_mem_append.mpr ⟨(List.forall_mem_cons.mpr ⟨ilX3_takeStop_wsX3_takeStop_r1 _ (List.mem_of_getElem? (i := 6) rfl), (List.forall_mem_cons.mpr ⟨ilX3_takeStop_wsX3_takeStop_r1 _ (List.mem_of_getElem? (i := 7) rfl), (List.forall_mem_cons.mpr ⟨ilX3_takeStop_wsX3_takeStop_r1 _ (List.mem_of_getElem? (i := 8) rfl), (List.forall_mem_cons.mpr ⟨ilX3_takeStop_wsX3_takeStop_r1 _ (List.mem_of_getElem? (i := 9) rfl), (List.forall_mem_cons.mpr ⟨ilX3_takeStop_wsX3_takeStop_r1 _ (List.mem_of_getElem? (i := 0) rfl), (List.forall_mem_cons.mpr ⟨ilX3_takeStop_wsX3_takeStop_r1 _ (List.mem_of_getElem? (i := 10) rfl), (List.forall_mem_cons.mpr ⟨ilX3_takeStop_wsX3_takeStop_r1 _ (List.mem_of_getElem? (i := 11) rfl), (List.forall_mem_cons.mpr ⟨ilX3_takeStop_wsX3_takeStop_r1 _ (List.mem_of_getElem? (i := 12) rfl), (List.forall_mem_cons.mpr ⟨ilX3_takeStop_wsX3_takeStop_r1 _ (List.mem_of_getElem? (i := 13) rfl), (List.forall_mem_cons.mpr ⟨ilX3_takeStop_wsX3_takeStop_r1 _ (List.mem_of_getElem? (i := 14) rfl), (List.forall_mem_cons.mpr ⟨ilX3_takeStop_wsX3_takeStop_r1 _ (List.mem_of_getElem? (i := 15) rfl), (List.forall_mem_cons.mpr ⟨ilX3_takeStop_wsX3_takeStop_r1 _ (List.mem_of_getElem? (i := 16) rfl), (List.forall_mem_cons.mpr ⟨ilX3_takeStop_wsX3_takeStop_r1 _ (List.mem_of_getElem? (i := 17) rfl), (List.forall_mem_cons.mpr ⟨ilX3_takeStop_wsX3_takeStop_r1 _ (List.mem_of_getElem? (i := 18) rfl), (List.forall_mem_cons.mpr ⟨ilX3_takeStop_wsX3_takeStop_r1 _ (List.mem_of_getElem? (i := 19) rfl), (List.forall_mem_cons.mpr ⟨ilX3_takeStop_wsX3_takeStop_r1 _ (List.mem_of_getElem? (i := 4) rfl), (List.forall_mem_cons.mpr ⟨ilX3_takeStop_wsX3_takeStop_r1 _ (List.mem_of_getElem? (i := 20) rfl), (List.forall_mem_cons.mpr ⟨ilX3_takeStop_wsX3_takeStop_r1 _ (List.mem_of_getElem? (i := 21) rfl), (List.forall_mem_cons.mpr ⟨ilX3_takeStop_wsX3_takeStop_r1 _ (List.mem_of_getElem? (i := 22) rfl), (List.forall_mem_cons.mpr ⟨ilX3_takeStop_wsX3_takeStop_r1 _ (List.mem_of_getElem? (i := 23) rfl), (List.forall_mem_cons.mpr ⟨ilX3_takeStop_wsX3_takeStop_r2 _ (List.mem_of_getElem? (i := 0) rfl), (List.forall_mem_cons.mpr ⟨ilX3_takeStop_wsX3_takeStop_r2 _ (List.mem_of_getElem? (i := 1) rfl), (List.forall_mem_cons.mpr ⟨ilX3_takeStop_wsX3_takeStop_r2 _ (List.mem_of_getElem? (i := 2) rfl), (fun _ h => absurd h List.not_mem_nil)⟩)⟩)⟩)⟩)⟩)⟩)⟩)⟩)⟩)⟩)⟩)⟩)⟩)⟩)⟩)⟩)⟩)⟩)⟩)⟩)⟩)⟩)⟩), ilX3_takeStop_wsX30⟩), ilX3_takeStop_wsX50⟩)⟩) (by decide +kernel)
set_option maxRecDepth 20000 in
theorem gX3_takeStop_X3_step : GoodIn wsX3_takeStop (wsV RX3 60 RX3 yX3_step wsX3_step) := goodIn_app (goodIn_sub (List.forall_mem_cons.mpr ⟨ilX3_takeStop_wsX3_takeStop_r1 _ (List.mem_of_getElem? (i := 1) rfl), (List.forall_mem_cons.mpr ⟨ilX3_takeStop_wsX3_takeStop_r1 _ (List.mem_of_getElem? (i := 2) rfl), (List.forall_mem_cons.mpr ⟨ilX3_takeStop_wsX3_takeStop_r1 _ (List.mem_of_getElem? (i := 3) rfl), (List.forall_mem_cons.mpr ⟨ilX3_takeStop_wsX3_takeStop_r1 _ (List.mem_of_getElem? (i := 4) rfl), (fun _ h => absurd h List.not_mem_nil)⟩)⟩)⟩)⟩) (by decide +kernel)) ggX3_takeStop_X3_step
theorem dX3_takeStop_0 : decode cX3_takeStop 0 = .ok (.aload_n 0, 1) := by decide +kernel
theorem dX3_takeStop_1 : decode cX3_takeStop 1 = .ok (.getfield 28, 3) := by decide +kernel
theorem dX3_takeStop_4 : decode cX3_takeStop 4 = .ok (.iconst 3, 1) := by decide +kernel
theorem dX3_takeStop_5 : decode cX3_takeStop 5 = .ok (.if_icmp .eq 5, 3) := by decide +kernel
theorem dX3_takeStop_8 : decode cX3_takeStop 8 = .ok (.iconst 0, 1) := by decide +kernel
theorem dX3_takeStop_9 : decode cX3_takeStop 9 = .ok (.ireturn, 1) := by decide +kernel
theorem dX3_takeStop_10 : decode cX3_takeStop 10 = .ok (.aload_n 0, 1) := by decide +kernel
theorem dX3_takeStop_11 : decode cX3_takeStop 11 = .ok (.invokevirtual 60, 3) := by decide +kernel
theorem dX3_takeStop_14 : decode cX3_takeStop 14 = .ok (.iconst 1, 1) := by decide +kernel
theorem dX3_takeStop_15 : decode cX3_takeStop 15 = .ok (.ireturn, 1) := by decide +kernel
theorem ilX3_canBeName_wsX3_canBeName_r1 : ∀ w ∈ wsX3_canBeName_r1, w ∈ wsX3_canBeName := fun _ h => List.mem_cons_of_mem _ (List.mem_append_left _ (List.mem_append_left _ (List.mem_append_left _ (List.mem_append_left _ (h)))))
theorem ilX3_canBeName_wsX3_canBeName_r2 : ∀ w ∈ wsX3_canBeName_r2, w ∈ wsX3_canBeName := fun _ h => List.mem_cons_of_mem _ (List.mem_append_left _ (List.mem_append_left _ (List.mem_append_left _ (List.mem_append_right _ (List.mem_append_left _ (h))))))
theorem ilX3_canBeName_wsX3_canBeName_r3 : ∀ w ∈ wsX3_canBeName_r3, w ∈ wsX3_canBeName := fun _ h => List.mem_cons_of_mem _ (List.mem_append_left _ (List.mem_append_left _ (List.mem_append_left _ (List.mem_append_right _ (List.mem_append_right _ (List.mem_append_left _ (h)))))))
theorem ilX3_canBeName_wsX3_canBeName_r4 : ∀ w ∈ wsX3_canBeName_r4, w ∈ wsX3_canBeName := fun _ h => List.mem_cons_of_mem _ (List.mem_append_left _ (List.mem_append_left _ (List.mem_append_left _ (List.mem_append_right _ (List.mem_append_right _ (List.mem_append_right _ (h)))))))
theorem ilX3_canBeName_wsX30 : ∀ w ∈ wsX30, w ∈ wsX3_canBeName := fun _ h => List.mem_cons_of_mem _ (List.mem_append_left _ (List.mem_append_left _ (List.mem_append_right _ (h))))
theorem ilX3_canBeName_wsX10 : ∀ w ∈ wsX10, w ∈ wsX3_canBeName := fun _ h => List.mem_cons_of_mem _ (List.mem_append_left _ (List.mem_append_right _ (h)))
theorem ilX3_canBeName_wsX50 : ∀ w ∈ wsX50, w ∈ wsX3_canBeName := fun _ h => List.mem_cons_of_mem _ (List.mem_append_right _ (h))
set_option maxRecDepth 20000 in
theorem ggX3_canBeName_X3_tokenKind : GoodIn wsX3_canBeName wsX3_tokenKind := goodIn_sub (List.forall_mem_cons.mpr ⟨ilX3_canBeName_wsX3_canBeName_r1 _ (List.mem_of_getElem? (i := 9) rfl), (List.forall_mem_append.mpr ⟨(List.forall_mem_append.mpr ⟨(List.forall_mem_append.mpr ⟨(List.forall_mem_cons.mpr ⟨ilX3_canBeName_wsX3_canBeName_r1 _ (List.mem_of_getElem? (i := 10) rfl), (List.forall_mem_cons.mpr ⟨ilX3_canBeName_wsX3_canBeName_r1 _ (List.mem_of_getElem? (i := 11) rfl), (List.forall_mem_cons.mpr ⟨ilX3_canBeName_wsX3_canBeName_r1 _ (List.mem_of_getElem? (i := 12) rfl), (List.forall_mem_cons.mpr ⟨ilX3_canBeName_wsX3_canBeName_r1 _ (List.mem_of_getElem? (i := 8) rfl), (List.forall_mem_cons.mpr ⟨ilX3_canBeName_wsX3_canBeName_r1 _ (List.mem_of_getElem? (i := 13) rfl), (List.forall_mem_cons.mpr ⟨ilX3_canBeName_wsX3_canBeName_r1 _ (List.mem_of_getElem? (i := 0) rfl), (List.forall_mem_cons.mpr ⟨ilX3_canBeName_wsX3_canBeName_r1 _ (List.mem_of_getElem? (i := 1) rfl), (List.forall_mem_cons.mpr ⟨ilX3_canBeName_wsX3_canBeName_r1 _ (List.mem_of_getElem? (i := 2) rfl), (List.forall_mem_cons.mpr ⟨ilX3_canBeName_wsX3_canBeName_r1 _ (List.mem_of_getElem? (i := 14) rfl), (List.forall_mem_cons.mpr ⟨ilX3_canBeName_wsX3_canBeName_r1 _ (List.mem_of_getElem? (i := 15) rfl), (List.forall_mem_cons.mpr ⟨ilX3_canBeName_wsX3_canBeName_r1 _ (List.mem_of_getElem? (i := 16) rfl), (List.forall_mem_cons.mpr ⟨ilX3_canBeName_wsX3_canBeName_r1 _ (List.mem_of_getElem? (i := 17) rfl), (List.forall_mem_cons.mpr ⟨ilX3_canBeName_wsX3_canBeName_r1 _ (List.mem_of_getElem? (i := 18) rfl), (List.forall_mem_cons.mpr ⟨ilX3_canBeName_wsX3_canBeName_r1 _ (List.mem_of_getElem? (i := 19) rfl), (List.forall_mem_cons.mpr ⟨ilX3_canBeName_wsX3_canBeName_r1 _ (List.mem_of_getElem? (i := 20) rfl), (List.forall_mem_cons.mpr ⟨ilX3_canBeName_wsX3_canBeName_r1 _ (List.mem_of_getElem? (i := 21) rfl), (List.forall_mem_cons.mpr ⟨ilX3_canBeName_wsX3_canBeName_r1 _ (List.mem_of_getElem? (i := 22) rfl), (List.forall_mem_cons.mpr ⟨ilX3_canBeName_wsX3_canBeName_r1 _ (List.mem_of_getElem? (i := 23) rfl), (List.forall_mem_cons.mpr ⟨ilX3_canBeName_wsX3_canBeName_r2 _ (List.mem_of_getElem? (i := 0) rfl), (List.forall_mem_cons.mpr ⟨ilX3_canBeName_wsX3_canBeName_r2 _ (List.mem_of_getElem? (i := 1) rfl), (List.forall_mem_cons.mpr ⟨ilX3_canBeName_wsX3_canBeName_r2 _ (List.mem_of_getElem? (i := 2) rfl), (List.forall_mem_cons.mpr ⟨ilX3_canBeName_wsX3_canBeName_r2 _ (List.mem_of_getElem? (i := 3) rfl), (List.forall_mem_cons.mpr ⟨ilX3_canBeName_wsX3_canBeName_r2 _ (List.mem_of_getElem? (i := 4) rfl), (List.forall_mem_cons.mpr ⟨ilX3_canBeName_wsX3_canBeName_r2 _ (List.mem_of_getElem? (i := 5) rfl), (fun _ h => absurd h List.not_mem_nil)⟩)⟩)⟩)⟩)⟩)⟩)⟩)⟩)⟩)⟩)⟩)⟩)⟩)⟩)⟩)⟩)⟩)⟩)⟩)⟩)⟩)⟩)⟩)⟩), (List.forall_mem_append.mpr ⟨(List.forall_mem_cons.mpr ⟨ilX3_canBeName_wsX3_canBeName_r2 _ (List.mem_of_getElem? (i := 6) rfl), (List.forall_mem_cons.mpr ⟨ilX3_canBeName_wsX3_canBeName_r2 _ (List.mem_of_getElem? (i := 7) rfl), (List.forall_mem_cons.mpr ⟨ilX3_canBeName_wsX3_canBeName_r2 _ (List.mem_of_getElem? (i := 8) rfl), (List.forall_mem_cons.mpr ⟨ilX3_canBeName_wsX3_canBeName_r2 _ (List.mem_of_getElem? (i := 9) rfl), (List.forall_mem_cons.mpr ⟨ilX3_canBeName_wsX3_canBeName_r2 _ (List.mem_of_getElem? (i := 10) rfl), (List.forall_mem_cons.mpr ⟨ilX3_canBeName_wsX3_canBeName_r2 _ (List.mem_of_getElem? (i := 11) rfl), (List.forall_mem_cons.mpr ⟨ilX3_canBeName_wsX3_canBeName_r2 _ (List.mem_of_getElem? (i := 12) rfl), (List.forall_mem_cons.mpr ⟨ilX3_canBeName_wsX3_canBeName_r2 _ (List.mem_of_getElem? (i := 13) rfl), (List.forall_mem_cons.mpr ⟨ilX3_canBeName_wsX3_canBeName_r2 _ (List.mem_of_getElem? (i := 14) rfl), (List.forall_mem_cons.mpr ⟨ilX3_canBeName_wsX3_canBeName_r2 _ (List.mem_of_getElem? (i := 15) rfl), (List.forall_mem_cons.mpr ⟨ilX3_canBeName_wsX3_canBeName_r2 _ (List.mem_of_getElem? (i := 16) rfl), (List.forall_mem_cons.mpr ⟨ilX3_canBeName_wsX3_canBeName_r2 _ (List.mem_of_getElem? (i := 17) rfl), (List.forall_mem_cons.mpr ⟨ilX3_canBeName_wsX3_canBeName_r2 _ (List.mem_of_getElem? (i := 18) rfl), (List.forall_mem_cons.mpr ⟨ilX3_canBeName_wsX3_canBeName_r2 _ (List.mem_of_getElem? (i := 19) rfl), (List.forall_mem_cons.mpr ⟨ilX3_canBeName_wsX3_canBeName_r2 _ (List.mem_of_getElem? (i := 20) rfl), (List.forall_mem_cons.mpr ⟨ilX3_canBeName_wsX3_canBeName_r2 _ (List.mem_of_getElem? (i := 21) rfl), (List.forall_mem_cons.mpr ⟨ilX3_canBeName_wsX3_canBeName_r2 _ (List.mem_of_getElem? (i := 22) rfl), (List.forall_mem_cons.mpr ⟨ilX3_canBeName_wsX3_canBeName_r2 _ (List.mem_of_getElem? (i := 23) rfl), (List.forall_mem_cons.mpr ⟨ilX3_canBeName_wsX3_canBeName_r3 _ (List.mem_of_getElem? (i := 0) rfl), (List.forall_mem_cons.mpr ⟨ilX3_canBeName_wsX3_canBeName_r3 _ (List.mem_of_getElem? (i := 1) rfl), (List.forall_mem_cons.mpr ⟨ilX3_canBeName_wsX3_canBeName_r3 _ (List.mem_of_getElem? (i := 2) rfl), (List.forall_mem_cons.mpr ⟨ilX3_canBeName_wsX3_canBeName_r3 _ (List.mem_of_getElem? (i := 3) rfl), (List.forall_mem_cons.mpr ⟨ilX3_canBeName_wsX3_canBeName_r3 _ (List.mem_of_getElem? (i := 4) rfl), (List.forall_mem_cons.mpr ⟨ilX3_canBeName_wsX3_canBeName_r3 _ (List.mem_of_getElem? (i := 5) rfl), (fun _ h => absurd h List.not_mem_nil)⟩)⟩)⟩)⟩)⟩)⟩)⟩)⟩)⟩)⟩)⟩)⟩)⟩)⟩)⟩)⟩)⟩)⟩)⟩)⟩)⟩)⟩)⟩)⟩), (List.forall_mem_cons.mpr ⟨ilX3_canBeName_wsX3_canBeName_r3 _ (List.mem_of_getElem? (i := 6) rfl), (List.forall_mem_cons.mpr ⟨ilX3_canBeName_wsX3_canBeName_r3 _ (List.mem_of_getElem? (i := 7) rfl), (List.forall_mem_cons.mpr ⟨ilX3_canBeName_wsX3_canBeName_r3 _ (List.mem_of_getElem? (i := 8) rfl), (List.forall_mem_cons.mpr ⟨ilX3_canBeName_wsX3_canBeName_r3 _ (List.mem_of_getElem? (i := 9) rfl), (List.forall_mem_cons.mpr ⟨ilX3_canBeName_wsX3_canBeName_r3 _ (List.mem_of_getElem? (i := 10) rfl), (List.forall_mem_cons.mpr ⟨ilX3_canBeName_wsX3_canBeName_r3 _ (List.mem_of_getElem? (i := 11) rfl), (List.forall_mem_cons.mpr ⟨ilX3_canBeName_wsX3_canBeName_r3 _ (List.mem_of_getElem? (i := 12) rfl), (List.forall_mem_cons.mpr ⟨ilX3_canBeName_wsX3_canBeName_r3 _ (List.mem_of_getElem? (i := 13) rfl), (List.forall_mem_cons.mpr ⟨ilX3_canBeName_wsX3_canBeName_r3 _ (List.mem_of_getElem? (i := 14) rfl), (List.forall_mem_cons.mpr ⟨ilX3_canBeName_wsX3_canBeName_r3 _ (List.mem_of_getElem? (i := 15) rfl), (List.forall_mem_cons.mpr ⟨ilX3_canBeName_wsX3_canBeName_r3 _ (List.mem_of_getElem? (i := 16) rfl), (fun _ h => absurd h List.not_mem_nil)⟩)⟩)⟩)⟩)⟩)⟩)⟩)⟩)⟩)⟩)⟩)⟩)⟩), ilX3_canBeName_wsX30⟩), ilX3_canBeName_wsX50⟩)⟩) (by decide +kernel)
set_option maxRecDepth 20000 in
theorem gX3_canBeName_X3_tokenKind : GoodIn wsX3_canBeName (wsV RX3 143 RX3 yX3_tokenKind wsX3_tokenKind) := goodIn_app (goodIn_sub (List.forall_mem_cons.mpr ⟨ilX3_canBeName_wsX3_canBeName_r1 _ (List.mem_of_getElem? (i := 5) rfl), (List.forall_mem_cons.mpr ⟨ilX3_canBeName_wsX3_canBeName_r1 _ (List.mem_of_getElem? (i := 6) rfl), (List.forall_mem_cons.mpr ⟨ilX3_canBeName_wsX3_canBeName_r1 _ (List.mem_of_getElem? (i := 7) rfl), (List.forall_mem_cons.mpr ⟨ilX3_canBeName_wsX3_canBeName_r1 _ (List.mem_of_getElem? (i := 8) rfl), (fun _ h => absurd h List.not_mem_nil)⟩)⟩)⟩)⟩) (by decide +kernel)) ggX3_canBeName_X3_tokenKind
set_option maxRecDepth 20000 in
theorem ggX3_canBeName_X3_isLineWord : GoodIn wsX3_canBeName wsX3_isLineWord := goodIn_sub (List.forall_mem_cons.mpr ⟨ilX3_canBeName_wsX3_canBeName_r3 _ (List.mem_of_getElem? (i := 20) rfl), (List.forall_mem_append.mpr ⟨(List.forall_mem_append.mpr ⟨(List.forall_mem_append.mpr ⟨(List.forall_mem_cons.mpr ⟨ilX3_canBeName_wsX3_canBeName_r1 _ (List.mem_of_getElem? (i := 10) rfl), (List.forall_mem_cons.mpr ⟨ilX3_canBeName_wsX3_canBeName_r1 _ (List.mem_of_getElem? (i := 11) rfl), (List.forall_mem_cons.mpr ⟨ilX3_canBeName_wsX3_canBeName_r1 _ (List.mem_of_getElem? (i := 12) rfl), (List.forall_mem_cons.mpr ⟨ilX3_canBeName_wsX3_canBeName_r1 _ (List.mem_of_getElem? (i := 8) rfl), (List.forall_mem_cons.mpr ⟨ilX3_canBeName_wsX3_canBeName_r1 _ (List.mem_of_getElem? (i := 13) rfl), (List.forall_mem_cons.mpr ⟨ilX3_canBeName_wsX3_canBeName_r1 _ (List.mem_of_getElem? (i := 0) rfl), (List.forall_mem_cons.mpr ⟨ilX3_canBeName_wsX3_canBeName_r1 _ (List.mem_of_getElem? (i := 1) rfl), (List.forall_mem_cons.mpr ⟨ilX3_canBeName_wsX3_canBeName_r1 _ (List.mem_of_getElem? (i := 2) rfl), (List.forall_mem_cons.mpr ⟨ilX3_canBeName_wsX3_canBeName_r1 _ (List.mem_of_getElem? (i := 14) rfl), (List.forall_mem_cons.mpr ⟨ilX3_canBeName_wsX3_canBeName_r1 _ (List.mem_of_getElem? (i := 15) rfl), (List.forall_mem_cons.mpr ⟨ilX3_canBeName_wsX3_canBeName_r1 _ (List.mem_of_getElem? (i := 16) rfl), (List.forall_mem_cons.mpr ⟨ilX3_canBeName_wsX3_canBeName_r1 _ (List.mem_of_getElem? (i := 17) rfl), (List.forall_mem_cons.mpr ⟨ilX3_canBeName_wsX3_canBeName_r1 _ (List.mem_of_getElem? (i := 18) rfl), (List.forall_mem_cons.mpr ⟨ilX3_canBeName_wsX3_canBeName_r1 _ (List.mem_of_getElem? (i := 19) rfl), (List.forall_mem_cons.mpr ⟨ilX3_canBeName_wsX3_canBeName_r1 _ (List.mem_of_getElem? (i := 20) rfl), (List.forall_mem_cons.mpr ⟨ilX3_canBeName_wsX3_canBeName_r1 _ (List.mem_of_getElem? (i := 21) rfl), (List.forall_mem_cons.mpr ⟨ilX3_canBeName_wsX3_canBeName_r1 _ (List.mem_of_getElem? (i := 22) rfl), (List.forall_mem_cons.mpr ⟨ilX3_canBeName_wsX3_canBeName_r1 _ (List.mem_of_getElem? (i := 23) rfl), (List.forall_mem_cons.mpr ⟨ilX3_canBeName_wsX3_canBeName_r2 _ (List.mem_of_getElem? (i := 0) rfl), (List.forall_mem_cons.mpr ⟨ilX3_canBeName_wsX3_canBeName_r2 _ (List.mem_of_getElem? (i := 1) rfl), (List.forall_mem_cons.mpr ⟨ilX3_canBeName_wsX3_canBeName_r2 _ (List.mem_of_getElem? (i := 2) rfl), (List.forall_mem_cons.mpr ⟨ilX3_canBeName_wsX3_canBeName_r2 _ (List.mem_of_getElem? (i := 3) rfl), (List.forall_mem_cons.mpr ⟨ilX3_canBeName_wsX3_canBeName_r2 _ (List.mem_of_getElem? (i := 4) rfl), (List.forall_mem_cons.mpr ⟨ilX3_canBeName_wsX3_canBeName_r2 _ (List.mem_of_getElem? (i := 5) rfl), (fun _ h => absurd h List.not_mem_nil)⟩)⟩)⟩)⟩)⟩)⟩)⟩)⟩)⟩)⟩)⟩)⟩)⟩)⟩)⟩)⟩)⟩)⟩)⟩)⟩)⟩)⟩)⟩)⟩), (List.forall_mem_append.mpr ⟨(List.forall_mem_cons.mpr ⟨ilX3_canBeName_wsX3_canBeName_r2 _ (List.mem_of_getElem? (i := 6) rfl), (List.forall_mem_cons.mpr ⟨ilX3_canBeName_wsX3_canBeName_r2 _ (List.mem_of_getElem? (i := 7) rfl), (List.forall_mem_cons.mpr ⟨ilX3_canBeName_wsX3_canBeName_r2 _ (List.mem_of_getElem? (i := 8) rfl), (List.forall_mem_cons.mpr ⟨ilX3_canBeName_wsX3_canBeName_r2 _ (List.mem_of_getElem? (i := 9) rfl), (List.forall_mem_cons.mpr ⟨ilX3_canBeName_wsX3_canBeName_r2 _ (List.mem_of_getElem? (i := 10) rfl), (List.forall_mem_cons.mpr ⟨ilX3_canBeName_wsX3_canBeName_r2 _ (List.mem_of_getElem? (i := 11) rfl), (List.forall_mem_cons.mpr ⟨ilX3_canBeName_wsX3_canBeName_r2 _ (List.mem_of_getElem? (i := 12) rfl), (List.forall_mem_cons.mpr ⟨ilX3_canBeName_wsX3_canBeName_r2 _ (List.mem_of_getElem? (i := 13) rfl), (List.forall_mem_cons.mpr ⟨ilX3_canBeName_wsX3_canBeName_r2 _ (List.mem_of_getElem? (i := 14) rfl), (List.forall_mem_cons.mpr ⟨ilX3_canBeName_wsX3_canBeName_r2 _ (List.mem_of_getElem? (i := 15) rfl), (List.forall_mem_cons.mpr ⟨ilX3_canBeName_wsX3_canBeName_r2 _ (List.mem_of_getElem? (i := 16) rfl), (List.forall_mem_cons.mpr ⟨ilX3_canBeName_wsX3_canBeName_r2 _ (List.mem_of_getElem? (i := 17) rfl), (List.forall_mem_cons.mpr ⟨ilX3_canBeName_wsX3_canBeName_r2 _ (List.mem_of_getElem? (i := 18) rfl), (List.forall_mem_cons.mpr ⟨ilX3_canBeName_wsX3_canBeName_r2 _ (List.mem_of_getElem? (i := 19) rfl), (List.forall_mem_cons.mpr ⟨ilX3_canBeName_wsX3_canBeName_r2 _ (List.mem_of_getElem? (i := 20) rfl), (List.forall_mem_cons.mpr ⟨ilX3_canBeName_wsX3_canBeName_r2 _ (List.mem_of_getElem? (i := 21) rfl), (List.forall_mem_cons.mpr ⟨ilX3_canBeName_wsX3_canBeName_r2 _ (List.mem_of_getElem? (i := 22) rfl), (List.forall_mem_cons.mpr ⟨ilX3_canBeName_wsX3_canBeName_r2 _ (List.mem_of_getElem? (i := 23) rfl), (List.forall_mem_cons.mpr ⟨ilX3_canBeName_wsX3_canBeName_r3 _ (List.mem_of_getElem? (i := 0) rfl), (List.forall_mem_cons.mpr ⟨ilX3_canBeName_wsX3_canBeName_r3 _ (List.mem_of_getElem? (i := 1) rfl), (List.forall_mem_cons.mpr ⟨ilX3_canBeName_wsX3_canBeName_r3 _ (List.mem_of_getElem? (i := 2) rfl), (List.forall_mem_cons.mpr ⟨ilX3_canBeName_wsX3_canBeName_r3 _ (List.mem_of_getElem? (i := 3) rfl), (List.forall_mem_cons.mpr ⟨ilX3_canBeName_wsX3_canBeName_r3 _ (List.mem_of_getElem? (i := 4) rfl), (List.forall_mem_cons.mpr ⟨ilX3_canBeName_wsX3_canBeName_r3 _ (List.mem_of_getElem? (i := 5) rfl), (fun _ h => absurd h List.not_mem_nil)⟩)⟩)⟩)⟩)⟩)⟩)⟩)⟩)⟩)⟩)⟩)⟩)⟩)⟩)⟩)⟩)⟩)⟩)⟩)⟩)⟩)⟩)⟩)⟩), (List.forall_mem_cons.mpr ⟨ilX3_canBeName_wsX3_canBeName_r3 _ (List.mem_of_getElem? (i := 6) rfl), (List.forall_mem_cons.mpr ⟨ilX3_canBeName_wsX3_canBeName_r3 _ (List.mem_of_getElem? (i := 7) rfl), (List.forall_mem_cons.mpr ⟨ilX3_canBeName_wsX3_canBeName_r3 _ (List.mem_of_getElem? (i := 8) rfl), (List.forall_mem_cons.mpr ⟨ilX3_canBeName_wsX3_canBeName_r3 _ (List.mem_of_getElem? (i := 9) rfl), (List.forall_mem_cons.mpr ⟨ilX3_canBeName_wsX3_canBeName_r3 _ (List.mem_of_getElem? (i := 10) rfl), (List.forall_mem_cons.mpr ⟨ilX3_canBeName_wsX3_canBeName_r3 _ (List.mem_of_getElem? (i := 11) rfl), (List.forall_mem_cons.mpr ⟨ilX3_canBeName_wsX3_canBeName_r3 _ (List.mem_of_getElem? (i := 12) rfl), (List.forall_mem_cons.mpr ⟨ilX3_canBeName_wsX3_canBeName_r3 _ (List.mem_of_getElem? (i := 13) rfl), (List.forall_mem_cons.mpr ⟨ilX3_canBeName_wsX3_canBeName_r3 _ (List.mem_of_getElem? (i := 14) rfl), (List.forall_mem_cons.mpr ⟨ilX3_canBeName_wsX3_canBeName_r3 _ (List.mem_of_getElem? (i := 15) rfl), (List.forall_mem_cons.mpr ⟨ilX3_canBeName_wsX3_canBeName_r3 _ (List.mem_of_getElem? (i := 16) rfl), (fun _ h => absurd h List.not_mem_nil)⟩)⟩)⟩)⟩)⟩)⟩)⟩)⟩)⟩)⟩)⟩)⟩)⟩), ilX3_canBeName_wsX30⟩), ilX3_canBeName_wsX50⟩)⟩) (by decide +kernel)
set_option maxRecDepth 20000 in
theorem gX3_canBeName_X3_isLineWord : GoodIn wsX3_canBeName (wsV RX3 168 RX3 yX3_isLineWord wsX3_isLineWord) := goodIn_app (goodIn_sub (List.forall_mem_cons.mpr ⟨ilX3_canBeName_wsX3_canBeName_r3 _ (List.mem_of_getElem? (i := 17) rfl), (List.forall_mem_cons.mpr ⟨ilX3_canBeName_wsX3_canBeName_r3 _ (List.mem_of_getElem? (i := 18) rfl), (List.forall_mem_cons.mpr ⟨ilX3_canBeName_wsX3_canBeName_r3 _ (List.mem_of_getElem? (i := 19) rfl), (List.forall_mem_cons.mpr ⟨ilX3_canBeName_wsX3_canBeName_r1 _ (List.mem_of_getElem? (i := 8) rfl), (fun _ h => absurd h List.not_mem_nil)⟩)⟩)⟩)⟩) (by decide +kernel)) ggX3_canBeName_X3_isLineWord
set_option maxRecDepth 20000 in
theorem ggX3_canBeName_X3_tokenIsName : GoodIn wsX3_canBeName wsX3_tokenIsName := goodIn_sub (List.forall_mem_cons.mpr ⟨ilX3_canBeName_wsX3_canBeName_r4 _ (List.mem_of_getElem? (i := 0) rfl), (List.forall_mem_append.mpr ⟨(List.forall_mem_append.mpr ⟨(List.forall_mem_cons.mpr ⟨ilX3_canBeName_wsX3_canBeName_r4 _ (List.mem_of_getElem? (i := 1) rfl), (List.forall_mem_cons.mpr ⟨ilX3_canBeName_wsX3_canBeName_r4 _ (List.mem_of_getElem? (i := 2) rfl), (List.forall_mem_cons.mpr ⟨ilX3_canBeName_wsX3_canBeName_r1 _ (List.mem_of_getElem? (i := 1) rfl), (List.forall_mem_cons.mpr ⟨ilX3_canBeName_wsX3_canBeName_r1 _ (List.mem_of_getElem? (i := 2) rfl), (List.forall_mem_cons.mpr ⟨ilX3_canBeName_wsX3_canBeName_r1 _ (List.mem_of_getElem? (i := 14) rfl), (List.forall_mem_cons.mpr ⟨ilX3_canBeName_wsX3_canBeName_r1 _ (List.mem_of_getElem? (i := 15) rfl), (fun _ h => absurd h List.not_mem_nil)⟩)⟩)⟩)⟩)⟩)⟩), ilX3_canBeName_wsX30⟩), ilX3_canBeName_wsX50⟩)⟩) (by decide +kernel)
set_option maxRecDepth 20000 in
theorem gX3_canBeName_X3_tokenIsName : GoodIn wsX3_canBeName (wsV RX3 171 RX3 yX3_tokenIsName wsX3_tokenIsName) := goodIn_app (goodIn_sub (List.forall_mem_cons.mpr ⟨ilX3_canBeName_wsX3_canBeName_r3 _ (List.mem_of_getElem? (i := 21) rfl), (List.forall_mem_cons.mpr ⟨ilX3_canBeName_wsX3_canBeName_r3 _ (List.mem_of_getElem? (i := 22) rfl), (List.forall_mem_cons.mpr ⟨ilX3_canBeName_wsX3_canBeName_r3 _ (List.mem_of_getElem? (i := 23) rfl), (List.forall_mem_cons.mpr ⟨ilX3_canBeName_wsX3_canBeName_r1 _ (List.mem_of_getElem? (i := 8) rfl), (fun _ h => absurd h List.not_mem_nil)⟩)⟩)⟩)⟩) (by decide +kernel)) ggX3_canBeName_X3_tokenIsName
theorem dX3_canBeName_0 : decode cX3_canBeName 0 = .ok (.aload_n 0, 1) := by decide +kernel
theorem dX3_canBeName_1 : decode cX3_canBeName 1 = .ok (.getfield 28, 3) := by decide +kernel
theorem dX3_canBeName_4 : decode cX3_canBeName 4 = .ok (.iconst 1, 1) := by decide +kernel
theorem dX3_canBeName_5 : decode cX3_canBeName 5 = .ok (.if_icmp .ne 32, 3) := by decide +kernel
theorem dX3_canBeName_8 : decode cX3_canBeName 8 = .ok (.aload_n 0, 1) := by decide +kernel
theorem dX3_canBeName_9 : decode cX3_canBeName 9 = .ok (.getfield 25, 3) := by decide +kernel
theorem dX3_canBeName_12 : decode cX3_canBeName 12 = .ok (.aload_n 0, 1) := by decide +kernel
theorem dX3_canBeName_13 : decode cX3_canBeName 13 = .ok (.getfield 21, 3) := by decide +kernel
theorem dX3_canBeName_16 : decode cX3_canBeName 16 = .ok (.isub, 1) := by decide +kernel
theorem dX3_canBeName_17 : decode cX3_canBeName 17 = .ok (.bipush 8, 2) := by decide +kernel
theorem dX3_canBeName_19 : decode cX3_canBeName 19 = .ok (.if_icmp .gt 18, 3) := by decide +kernel
theorem dX3_canBeName_22 : decode cX3_canBeName 22 = .ok (.aload_n 0, 1) := by decide +kernel
theorem dX3_canBeName_23 : decode cX3_canBeName 23 = .ok (.invokevirtual 143, 3) := by decide +kernel
theorem dX3_canBeName_26 : decode cX3_canBeName 26 = .ok (.iconst (-1), 1) := by decide +kernel
theorem dX3_canBeName_27 : decode cX3_canBeName 27 = .ok (.if_icmp .ne 10, 3) := by decide +kernel
theorem dX3_canBeName_30 : decode cX3_canBeName 30 = .ok (.aload_n 0, 1) := by decide +kernel
theorem dX3_canBeName_31 : decode cX3_canBeName 31 = .ok (.invokevirtual 168, 3) := by decide +kernel
theorem dX3_canBeName_34 : decode cX3_canBeName 34 = .ok (.ifCond .eq 5, 3) := by decide +kernel
theorem dX3_canBeName_37 : decode cX3_canBeName 37 = .ok (.iconst 0, 1) := by decide +kernel
theorem dX3_canBeName_38 : decode cX3_canBeName 38 = .ok (.ireturn, 1) := by decide +kernel
theorem dX3_canBeName_39 : decode cX3_canBeName 39 = .ok (.iconst 0, 1) := by decide +kernel
theorem dX3_canBeName_40 : decode cX3_canBeName 40 = .ok (.istore_n 1, 1) := by decide +kernel
theorem dX3_canBeName_41 : decode cX3_canBeName 41 = .ok (.iload_n 1, 1) := by decide +kernel
theorem dX3_canBeName_42 : decode cX3_canBeName 42 = .ok (.aload_n 0, 1) := by decide +kernel
theorem dX3_canBeName_43 : decode cX3_canBeName 43 = .ok (.getfield 51, 3) := by decide +kernel
theorem dX3_canBeName_46 : decode cX3_canBeName 46 = .ok (.getfield 67, 3) := by decide +kernel
theorem dX3_canBeName_49 : decode cX3_canBeName 49 = .ok (.if_icmp .ge 19, 3) := by decide +kernel
theorem dX3_canBeName_52 : decode cX3_canBeName 52 = .ok (.aload_n 0, 1) := by decide +kernel
theorem dX3_canBeName_53 : decode cX3_canBeName 53 = .ok (.iload_n 1, 1) := by decide +kernel
theorem dX3_canBeName_54 : decode cX3_canBeName 54 = .ok (.invokevirtual 171, 3) := by decide +kernel
theorem dX3_canBeName_57 : decode cX3_canBeName 57 = .ok (.ifCond .eq 5, 3) := by decide +kernel
theorem dX3_canBeName_60 : decode cX3_canBeName 60 = .ok (.iconst 0, 1) := by decide +kernel
theorem dX3_canBeName_61 : decode cX3_canBeName 61 = .ok (.ireturn, 1) := by decide +kernel
theorem dX3_canBeName_62 : decode cX3_canBeName 62 = .ok (.iinc 1 1, 3) := by decide +kernel
theorem dX3_canBeName_65 : decode cX3_canBeName 65 = .ok (.goto (-24), 3) := by decide +kernel
theorem dX3_canBeName_68 : decode cX3_canBeName 68 = .ok (.iconst 1, 1) := by decide +kernel
theorem dX3_canBeName_69 : decode cX3_canBeName 69 = .ok (.ireturn, 1) := by decide +kernel
theorem dX3_tokenIsName_0 : decode cX3_tokenIsName 0 = .ok (.aload_n 0, 1) := by decide +kernel
theorem dX3_tokenIsName_1 : decode cX3_tokenIsName 1 = .ok (.getfield 15, 3) := by decide +kernel
theorem dX3_tokenIsName_4 : decode cX3_tokenIsName 4 = .ok (.iload_n 1, 1) := by decide +kernel
theorem dX3_tokenIsName_5 : decode cX3_tokenIsName 5 = .ok (.iaload, 1) := by decide +kernel
theorem dX3_tokenIsName_6 : decode cX3_tokenIsName 6 = .ok (.aload_n 0, 1) := by decide +kernel
theorem dX3_tokenIsName_7 : decode cX3_tokenIsName 7 = .ok (.getfield 9, 3) := by decide +kernel
theorem dX3_tokenIsName_10 : decode cX3_tokenIsName 10 = .ok (.iload_n 1, 1) := by decide +kernel
theorem dX3_tokenIsName_11 : decode cX3_tokenIsName 11 = .ok (.iaload, 1) := by decide +kernel
theorem dX3_tokenIsName_12 : decode cX3_tokenIsName 12 = .ok (.isub, 1) := by decide +kernel
theorem dX3_tokenIsName_13 : decode cX3_tokenIsName 13 = .ok (.istore_n 2, 1) := by decide +kernel
theorem dX3_tokenIsName_14 : decode cX3_tokenIsName 14 = .ok (.aload_n 0, 1) := by decide +kernel
theorem dX3_tokenIsName_15 : decode cX3_tokenIsName 15 = .ok (.getfield 25, 3) := by decide +kernel
theorem dX3_tokenIsName_18 : decode cX3_tokenIsName 18 = .ok (.aload_n 0, 1) := by decide +kernel
theorem dX3_tokenIsName_19 : decode cX3_tokenIsName 19 = .ok (.getfield 21, 3) := by decide +kernel
theorem dX3_tokenIsName_22 : decode cX3_tokenIsName 22 = .ok (.isub, 1) := by decide +kernel
theorem dX3_tokenIsName_23 : decode cX3_tokenIsName 23 = .ok (.iload_n 2, 1) := by decide +kernel
theorem dX3_tokenIsName_24 : decode cX3_tokenIsName 24 = .ok (.if_icmp .eq 5, 3) := by decide +kernel
theorem dX3_tokenIsName_27 : decode cX3_tokenIsName 27 = .ok (.iconst 0, 1) := by decide +kernel
theorem dX3_tokenIsName_28 : decode cX3_tokenIsName 28 = .ok (.ireturn, 1) := by decide +kernel
theorem dX3_tokenIsName_29 : decode cX3_tokenIsName 29 = .ok (.iconst 0, 1) := by decide +kernel
theorem dX3_tokenIsName_30 : decode cX3_tokenIsName 30 = .ok (.istore_n 3, 1) := by decide +kernel
theorem dX3_tokenIsName_31 : decode cX3_tokenIsName 31 = .ok (.iload_n 3, 1) := by decide +kernel
theorem dX3_tokenIsName_32 : decode cX3_tokenIsName 32 = .ok (.iload_n 2, 1) := by decide +kernel
theorem dX3_tokenIsName_33 : decode cX3_tokenIsName 33 = .ok (.if_icmp .ge 44, 3) := by decide +kernel
theorem dX3_tokenIsName_36 : decode cX3_tokenIsName 36 = .ok (.aload_n 0, 1) := by decide +kernel
theorem dX3_tokenIsName_37 : decode cX3_tokenIsName 37 = .ok (.getfield 47, 3) := by decide +kernel
theorem dX3_tokenIsName_40 : decode cX3_tokenIsName 40 = .ok (.getfield 174, 3) := by decide +kernel
theorem dX3_tokenIsName_43 : decode cX3_tokenIsName 43 = .ok (.aload_n 0, 1) := by decide +kernel
theorem dX3_tokenIsName_44 : decode cX3_tokenIsName 44 = .ok (.getfield 21, 3) := by decide +kernel
theorem dX3_tokenIsName_47 : decode cX3_tokenIsName 47 = .ok (.iload_n 3, 1) := by decide +kernel
theorem dX3_tokenIsName_48 : decode cX3_tokenIsName 48 = .ok (.iadd, 1) := by decide +kernel
theorem dX3_tokenIsName_49 : decode cX3_tokenIsName 49 = .ok (.baload, 1) := by decide +kernel
theorem dX3_tokenIsName_50 : decode cX3_tokenIsName 50 = .ok (.aload_n 0, 1) := by decide +kernel
theorem dX3_tokenIsName_51 : decode cX3_tokenIsName 51 = .ok (.getfield 47, 3) := by decide +kernel
theorem dX3_tokenIsName_54 : decode cX3_tokenIsName 54 = .ok (.getfield 174, 3) := by decide +kernel
theorem dX3_tokenIsName_57 : decode cX3_tokenIsName 57 = .ok (.aload_n 0, 1) := by decide +kernel
theorem dX3_tokenIsName_58 : decode cX3_tokenIsName 58 = .ok (.getfield 9, 3) := by decide +kernel
theorem dX3_tokenIsName_61 : decode cX3_tokenIsName 61 = .ok (.iload_n 1, 1) := by decide +kernel
theorem dX3_tokenIsName_62 : decode cX3_tokenIsName 62 = .ok (.iaload, 1) := by decide +kernel
theorem dX3_tokenIsName_63 : decode cX3_tokenIsName 63 = .ok (.iload_n 3, 1) := by decide +kernel
theorem dX3_tokenIsName_64 : decode cX3_tokenIsName 64 = .ok (.iadd, 1) := by decide +kernel
theorem dX3_tokenIsName_65 : decode cX3_tokenIsName 65 = .ok (.baload, 1) := by decide +kernel
theorem dX3_tokenIsName_66 : decode cX3_tokenIsName 66 = .ok (.if_icmp .eq 5, 3) := by decide +kernel
theorem dX3_tokenIsName_69 : decode cX3_tokenIsName 69 = .ok (.iconst 0, 1) := by decide +kernel
theorem dX3_tokenIsName_70 : decode cX3_tokenIsName 70 = .ok (.ireturn, 1) := by decide +kernel
theorem dX3_tokenIsName_71 : decode cX3_tokenIsName 71 = .ok (.iinc 3 1, 3) := by decide +kernel
theorem dX3_tokenIsName_74 : decode cX3_tokenIsName 74 = .ok (.goto (-43), 3) := by decide +kernel
theorem dX3_tokenIsName_77 : decode cX3_tokenIsName 77 = .ok (.iconst 1, 1) := by decide +kernel
theorem dX3_tokenIsName_78 : decode cX3_tokenIsName 78 = .ok (.ireturn, 1) := by decide +kernel
theorem ilX3_isLineWord_wsX3_isLineWord_r1 : ∀ w ∈ wsX3_isLineWord_r1, w ∈ wsX3_isLineWord := fun _ h => List.mem_cons_of_mem _ (List.mem_append_left _ (List.mem_append_left _ (List.mem_append_left _ (h))))
theorem ilX3_isLineWord_wsX3_isLineWord_r2 : ∀ w ∈ wsX3_isLineWord_r2, w ∈ wsX3_isLineWord := fun _ h => List.mem_cons_of_mem _ (List.mem_append_left _ (List.mem_append_left _ (List.mem_append_right _ (List.mem_append_left _ (h)))))
theorem ilX3_isLineWord_wsX3_isLineWord_r3 : ∀ w ∈ wsX3_isLineWord_r3, w ∈ wsX3_isLineWord := fun _ h => List.mem_cons_of_mem _ (List.mem_append_left _ (List.mem_append_left _ (List.mem_append_right _ (List.mem_append_right _ (h)))))
theorem ilX3_isLineWord_wsX30 : ∀ w ∈ wsX30, w ∈ wsX3_isLineWord := fun _ h => List.mem_cons_of_mem _ (List.mem_append_left _ (List.mem_append_right _ (h)))
theorem ilX3_isLineWord_wsX50 : ∀ w ∈ wsX50, w ∈ wsX3_isLineWord := fun _ h => List.mem_cons_of_mem _ (List.mem_append_right _ (h))
set_option maxRecDepth 20000 in
theorem ggX3_isLineWord_X3_tokenIs : GoodIn wsX3_isLineWord wsX3_tokenIs := goodIn_sub (List.forall_mem_cons.mpr ⟨ilX3_isLineWord_wsX3_isLineWord_r1 _ (List.mem_of_getElem? (i := 4) rfl), (List.forall_mem_append.mpr ⟨(List.forall_mem_append.mpr ⟨(List.forall_mem_append.mpr ⟨(List.forall_mem_cons.mpr ⟨ilX3_isLineWord_wsX3_isLineWord_r1 _ (List.mem_of_getElem? (i := 5) rfl), (List.forall_mem_cons.mpr ⟨ilX3_isLineWord_wsX3_isLineWord_r1 _ (List.mem_of_getElem? (i := 6) rfl), (List.forall_mem_cons.mpr ⟨ilX3_isLineWord_wsX3_isLineWord_r1 _ (List.mem_of_getElem? (i := 7) rfl), (List.forall_mem_cons.mpr ⟨ilX3_isLineWord_wsX3_isLineWord_r1 _ (List.mem_of_getElem? (i := 8) rfl), (List.forall_mem_cons.mpr ⟨ilX3_isLineWord_wsX3_isLineWord_r1 _ (List.mem_of_getElem? (i := 9) rfl), (List.forall_mem_cons.mpr ⟨ilX3_isLineWord_wsX3_isLineWord_r1 _ (List.mem_of_getElem? (i := 10) rfl), (List.forall_mem_cons.mpr ⟨ilX3_isLineWord_wsX3_isLineWord_r1 _ (List.mem_of_getElem? (i := 11) rfl), (List.forall_mem_cons.mpr ⟨ilX3_isLineWord_wsX3_isLineWord_r1 _ (List.mem_of_getElem? (i := 12) rfl), (List.forall_mem_cons.mpr ⟨ilX3_isLineWord_wsX3_isLineWord_r1 _ (List.mem_of_getElem? (i := 13) rfl), (List.forall_mem_cons.mpr ⟨ilX3_isLineWord_wsX3_isLineWord_r1 _ (List.mem_of_getElem? (i := 14) rfl), (List.forall_mem_cons.mpr ⟨ilX3_isLineWord_wsX3_isLineWord_r1 _ (List.mem_of_getElem? (i := 15) rfl), (List.forall_mem_cons.mpr ⟨ilX3_isLineWord_wsX3_isLineWord_r1 _ (List.mem_of_getElem? (i := 16) rfl), (List.forall_mem_cons.mpr ⟨ilX3_isLineWord_wsX3_isLineWord_r1 _ (List.mem_of_getElem? (i := 17) rfl), (List.forall_mem_cons.mpr ⟨ilX3_isLineWord_wsX3_isLineWord_r1 _ (List.mem_of_getElem? (i := 18) rfl), (List.forall_mem_cons.mpr ⟨ilX3_isLineWord_wsX3_isLineWord_r1 _ (List.mem_of_getElem? (i := 19) rfl), (List.forall_mem_cons.mpr ⟨ilX3_isLineWord_wsX3_isLineWord_r1 _ (List.mem_of_getElem? (i := 20) rfl), (List.forall_mem_cons.mpr ⟨ilX3_isLineWord_wsX3_isLineWord_r1 _ (List.mem_of_getElem? (i := 21) rfl), (List.forall_mem_cons.mpr ⟨ilX3_isLineWord_wsX3_isLineWord_r1 _ (List.mem_of_getElem? (i := 22) rfl), (List.forall_mem_cons.mpr ⟨ilX3_isLineWord_wsX3_isLineWord_r1 _ (List.mem_of_getElem? (i := 23) rfl), (List.forall_mem_cons.mpr ⟨ilX3_isLineWord_wsX3_isLineWord_r2 _ (List.mem_of_getElem? (i := 0) rfl), (List.forall_mem_cons.mpr ⟨ilX3_isLineWord_wsX3_isLineWord_r2 _ (List.mem_of_getElem? (i := 1) rfl), (List.forall_mem_cons.mpr ⟨ilX3_isLineWord_wsX3_isLineWord_r2 _ (List.mem_of_getElem? (i := 2) rfl), (List.forall_mem_cons.mpr ⟨ilX3_isLineWord_wsX3_isLineWord_r2 _ (List.mem_of_getElem? (i := 3) rfl), (List.forall_mem_cons.mpr ⟨ilX3_isLineWord_wsX3_isLineWord_r2 _ (List.mem_of_getElem? (i := 4) rfl), (fun _ h => absurd h List.not_mem_nil)⟩)⟩)⟩)⟩)⟩)⟩)⟩)⟩)⟩)⟩)⟩)⟩)⟩)⟩)⟩)⟩)⟩)⟩)⟩)⟩)⟩)⟩)⟩)⟩), (List.forall_mem_append.mpr ⟨(List.forall_mem_cons.mpr ⟨ilX3_isLineWord_wsX3_isLineWord_r2 _ (List.mem_of_getElem? (i := 5) rfl), (List.forall_mem_cons.mpr ⟨ilX3_isLineWord_wsX3_isLineWord_r2 _ (List.mem_of_getElem? (i := 6) rfl), (List.forall_mem_cons.mpr ⟨ilX3_isLineWord_wsX3_isLineWord_r2 _ (List.mem_of_getElem? (i := 7) rfl), (List.forall_mem_cons.mpr ⟨ilX3_isLineWord_wsX3_isLineWord_r2 _ (List.mem_of_getElem? (i := 8) rfl), (List.forall_mem_cons.mpr ⟨ilX3_isLineWord_wsX3_isLineWord_r2 _ (List.mem_of_getElem? (i := 9) rfl), (List.forall_mem_cons.mpr ⟨ilX3_isLineWord_wsX3_isLineWord_r2 _ (List.mem_of_getElem? (i := 10) rfl), (List.forall_mem_cons.mpr ⟨ilX3_isLineWord_wsX3_isLineWord_r2 _ (List.mem_of_getElem? (i := 11) rfl), (List.forall_mem_cons.mpr ⟨ilX3_isLineWord_wsX3_isLineWord_r2 _ (List.mem_of_getElem? (i := 12) rfl), (List.forall_mem_cons.mpr ⟨ilX3_isLineWord_wsX3_isLineWord_r2 _ (List.mem_of_getElem? (i := 13) rfl), (List.forall_mem_cons.mpr ⟨ilX3_isLineWord_wsX3_isLineWord_r2 _ (List.mem_of_getElem? (i := 14) rfl), (List.forall_mem_cons.mpr ⟨ilX3_isLineWord_wsX3_isLineWord_r2 _ (List.mem_of_getElem? (i := 15) rfl), (List.forall_mem_cons.mpr ⟨ilX3_isLineWord_wsX3_isLineWord_r2 _ (List.mem_of_getElem? (i := 16) rfl), (List.forall_mem_cons.mpr ⟨ilX3_isLineWord_wsX3_isLineWord_r2 _ (List.mem_of_getElem? (i := 17) rfl), (List.forall_mem_cons.mpr ⟨ilX3_isLineWord_wsX3_isLineWord_r2 _ (List.mem_of_getElem? (i := 18) rfl), (List.forall_mem_cons.mpr ⟨ilX3_isLineWord_wsX3_isLineWord_r2 _ (List.mem_of_getElem? (i := 19) rfl), (List.forall_mem_cons.mpr ⟨ilX3_isLineWord_wsX3_isLineWord_r2 _ (List.mem_of_getElem? (i := 20) rfl), (List.forall_mem_cons.mpr ⟨ilX3_isLineWord_wsX3_isLineWord_r2 _ (List.mem_of_getElem? (i := 21) rfl), (List.forall_mem_cons.mpr ⟨ilX3_isLineWord_wsX3_isLineWord_r2 _ (List.mem_of_getElem? (i := 22) rfl), (List.forall_mem_cons.mpr ⟨ilX3_isLineWord_wsX3_isLineWord_r2 _ (List.mem_of_getElem? (i := 23) rfl), (List.forall_mem_cons.mpr ⟨ilX3_isLineWord_wsX3_isLineWord_r3 _ (List.mem_of_getElem? (i := 0) rfl), (List.forall_mem_cons.mpr ⟨ilX3_isLineWord_wsX3_isLineWord_r3 _ (List.mem_of_getElem? (i := 1) rfl), (List.forall_mem_cons.mpr ⟨ilX3_isLineWord_wsX3_isLineWord_r3 _ (List.mem_of_getElem? (i := 2) rfl), (List.forall_mem_cons.mpr ⟨ilX3_isLineWord_wsX3_isLineWord_r3 _ (List.mem_of_getElem? (i := 3) rfl), (List.forall_mem_cons.mpr ⟨ilX3_isLineWord_wsX3_isLineWord_r3 _ (List.mem_of_getElem? (i := 4) rfl), (fun _ h => absurd h List.not_mem_nil)⟩)⟩)⟩)⟩)⟩)⟩)⟩)⟩)⟩)⟩)⟩)⟩)⟩)⟩)⟩)⟩)⟩)⟩)⟩)⟩)⟩)⟩)⟩)⟩), (List.forall_mem_cons.mpr ⟨ilX3_isLineWord_wsX3_isLineWord_r3 _ (List.mem_of_getElem? (i := 5) rfl), (List.forall_mem_cons.mpr ⟨ilX3_isLineWord_wsX3_isLineWord_r3 _ (List.mem_of_getElem? (i := 6) rfl), (List.forall_mem_cons.mpr ⟨ilX3_isLineWord_wsX3_isLineWord_r3 _ (List.mem_of_getElem? (i := 7) rfl), (List.forall_mem_cons.mpr ⟨ilX3_isLineWord_wsX3_isLineWord_r3 _ (List.mem_of_getElem? (i := 8) rfl), (List.forall_mem_cons.mpr ⟨ilX3_isLineWord_wsX3_isLineWord_r3 _ (List.mem_of_getElem? (i := 9) rfl), (List.forall_mem_cons.mpr ⟨ilX3_isLineWord_wsX3_isLineWord_r3 _ (List.mem_of_getElem? (i := 10) rfl), (fun _ h => absurd h List.not_mem_nil)⟩)⟩)⟩)⟩)⟩)⟩)⟩)⟩), ilX3_isLineWord_wsX30⟩), ilX3_isLineWord_wsX50⟩)⟩) (by decide +kernel)
set_option maxRecDepth 20000 in
theorem gX3_isLineWord_X3_tokenIs : GoodIn wsX3_isLineWord (wsV RX3 77 RX3 yX3_tokenIs wsX3_tokenIs) := goodIn_app (goodIn_sub (List.forall_mem_cons.mpr ⟨ilX3_isLineWord_wsX3_isLineWord_r1 _ (List.mem_of_getElem? (i := 0) rfl), (List.forall_mem_cons.mpr ⟨ilX3_isLineWord_wsX3_isLineWord_r1 _ (List.mem_of_getElem? (i := 1) rfl), (List.forall_mem_cons.mpr ⟨ilX3_isLineWord_wsX3_isLineWord_r1 _ (List.mem_of_getElem? (i := 2) rfl), (List.forall_mem_cons.mpr ⟨ilX3_isLineWord_wsX3_isLineWord_r1 _ (List.mem_of_getElem? (i := 3) rfl), (fun _ h => absurd h List.not_mem_nil)⟩)⟩)⟩)⟩) (by decide +kernel)) ggX3_isLineWord_X3_tokenIs
theorem dX3_isLineWord_0 : decode cX3_isLineWord 0 = .ok (.aload_n 0, 1) := by decide +kernel
theorem dX3_isLineWord_1 : decode cX3_isLineWord 1 = .ok (.ldc 75, 2) := by decide +kernel
theorem dX3_isLineWord_3 : decode cX3_isLineWord 3 = .ok (.invokevirtual 77, 3) := by decide +kernel
theorem dX3_isLineWord_6 : decode cX3_isLineWord 6 = .ok (.ifCond .ne 48, 3) := by decide +kernel
theorem dX3_isLineWord_9 : decode cX3_isLineWord 9 = .ok (.aload_n 0, 1) := by decide +kernel
theorem dX3_isLineWord_10 : decode cX3_isLineWord 10 = .ok (.ldc 84, 2) := by decide +kernel
theorem dX3_isLineWord_12 : decode cX3_isLineWord 12 = .ok (.invokevirtual 77, 3) := by decide +kernel
theorem dX3_isLineWord_15 : decode cX3_isLineWord 15 = .ok (.ifCond .ne 39, 3) := by decide +kernel
theorem dX3_isLineWord_18 : decode cX3_isLineWord 18 = .ok (.aload_n 0, 1) := by decide +kernel
theorem dX3_isLineWord_19 : decode cX3_isLineWord 19 = .ok (.ldc 89, 2) := by decide +kernel
theorem dX3_isLineWord_21 : decode cX3_isLineWord 21 = .ok (.invokevirtual 77, 3) := by decide +kernel
theorem dX3_isLineWord_24 : decode cX3_isLineWord 24 = .ok (.ifCond .ne 30, 3) := by decide +kernel
theorem dX3_isLineWord_27 : decode cX3_isLineWord 27 = .ok (.aload_n 0, 1) := by decide +kernel
theorem dX3_isLineWord_28 : decode cX3_isLineWord 28 = .ok (.ldc 94, 2) := by decide +kernel
theorem dX3_isLineWord_30 : decode cX3_isLineWord 30 = .ok (.invokevirtual 77, 3) := by decide +kernel
theorem dX3_isLineWord_33 : decode cX3_isLineWord 33 = .ok (.ifCond .ne 21, 3) := by decide +kernel
theorem dX3_isLineWord_36 : decode cX3_isLineWord 36 = .ok (.aload_n 0, 1) := by decide +kernel
theorem dX3_isLineWord_37 : decode cX3_isLineWord 37 = .ok (.ldc 99, 2) := by decide +kernel
theorem dX3_isLineWord_39 : decode cX3_isLineWord 39 = .ok (.invokevirtual 77, 3) := by decide +kernel
theorem dX3_isLineWord_42 : decode cX3_isLineWord 42 = .ok (.ifCond .ne 12, 3) := by decide +kernel
theorem dX3_isLineWord_45 : decode cX3_isLineWord 45 = .ok (.aload_n 0, 1) := by decide +kernel
theorem dX3_isLineWord_46 : decode cX3_isLineWord 46 = .ok (.ldc 104, 2) := by decide +kernel
theorem dX3_isLineWord_48 : decode cX3_isLineWord 48 = .ok (.invokevirtual 77, 3) := by decide +kernel
theorem dX3_isLineWord_51 : decode cX3_isLineWord 51 = .ok (.ifCond .eq 7, 3) := by decide +kernel
theorem dX3_isLineWord_54 : decode cX3_isLineWord 54 = .ok (.iconst 1, 1) := by decide +kernel
theorem dX3_isLineWord_55 : decode cX3_isLineWord 55 = .ok (.goto 4, 3) := by decide +kernel
theorem dX3_isLineWord_58 : decode cX3_isLineWord 58 = .ok (.iconst 0, 1) := by decide +kernel
theorem dX3_isLineWord_59 : decode cX3_isLineWord 59 = .ok (.ireturn, 1) := by decide +kernel
theorem ilX3_tokenKind_wsX3_tokenKind_r1 : ∀ w ∈ wsX3_tokenKind_r1, w ∈ wsX3_tokenKind := fun _ h => List.mem_cons_of_mem _ (List.mem_append_left _ (List.mem_append_left _ (List.mem_append_left _ (h))))
theorem ilX3_tokenKind_wsX3_tokenKind_r2 : ∀ w ∈ wsX3_tokenKind_r2, w ∈ wsX3_tokenKind := fun _ h => List.mem_cons_of_mem _ (List.mem_append_left _ (List.mem_append_left _ (List.mem_append_right _ (List.mem_append_left _ (h)))))
theorem ilX3_tokenKind_wsX3_tokenKind_r3 : ∀ w ∈ wsX3_tokenKind_r3, w ∈ wsX3_tokenKind := fun _ h => List.mem_cons_of_mem _ (List.mem_append_left _ (List.mem_append_left _ (List.mem_append_right _ (List.mem_append_right _ (h)))))
theorem ilX3_tokenKind_wsX30 : ∀ w ∈ wsX30, w ∈ wsX3_tokenKind := fun _ h => List.mem_cons_of_mem _ (List.mem_append_left _ (List.mem_append_right _ (h)))
theorem ilX3_tokenKind_wsX50 : ∀ w ∈ wsX50, w ∈ wsX3_tokenKind := fun _ h => List.mem_cons_of_mem _ (List.mem_append_right _ (h))
set_option maxRecDepth 20000 in
theorem ggX3_tokenKind_X3_tokenIs : GoodIn wsX3_tokenKind wsX3_tokenIs := goodIn_sub (List.forall_mem_cons.mpr ⟨ilX3_tokenKind_wsX3_tokenKind_r1 _ (List.mem_of_getElem? (i := 4) rfl), (List.forall_mem_append.mpr ⟨(List.forall_mem_append.mpr ⟨(List.forall_mem_append.mpr ⟨(List.forall_mem_cons.mpr ⟨ilX3_tokenKind_wsX3_tokenKind_r1 _ (List.mem_of_getElem? (i := 5) rfl), (List.forall_mem_cons.mpr ⟨ilX3_tokenKind_wsX3_tokenKind_r1 _ (List.mem_of_getElem? (i := 6) rfl), (List.forall_mem_cons.mpr ⟨ilX3_tokenKind_wsX3_tokenKind_r1 _ (List.mem_of_getElem? (i := 7) rfl), (List.forall_mem_cons.mpr ⟨ilX3_tokenKind_wsX3_tokenKind_r1 _ (List.mem_of_getElem? (i := 8) rfl), (List.forall_mem_cons.mpr ⟨ilX3_tokenKind_wsX3_tokenKind_r1 _ (List.mem_of_getElem? (i := 9) rfl), (List.forall_mem_cons.mpr ⟨ilX3_tokenKind_wsX3_tokenKind_r1 _ (List.mem_of_getElem? (i := 10) rfl), (List.forall_mem_cons.mpr ⟨ilX3_tokenKind_wsX3_tokenKind_r1 _ (List.mem_of_getElem? (i := 11) rfl), (List.forall_mem_cons.mpr ⟨ilX3_tokenKind_wsX3_tokenKind_r1 _ (List.mem_of_getElem? (i := 12) rfl), (List.forall_mem_cons.mpr ⟨ilX3_tokenKind_wsX3_tokenKind_r1 _ (List.mem_of_getElem? (i := 13) rfl), (List.forall_mem_cons.mpr ⟨ilX3_tokenKind_wsX3_tokenKind_r1 _ (List.mem_of_getElem? (i := 14) rfl), (List.forall_mem_cons.mpr ⟨ilX3_tokenKind_wsX3_tokenKind_r1 _ (List.mem_of_getElem? (i := 15) rfl), (List.forall_mem_cons.mpr ⟨ilX3_tokenKind_wsX3_tokenKind_r1 _ (List.mem_of_getElem? (i := 16) rfl), (List.forall_mem_cons.mpr ⟨ilX3_tokenKind_wsX3_tokenKind_r1 _ (List.mem_of_getElem? (i := 17) rfl), (List.forall_mem_cons.mpr ⟨ilX3_tokenKind_wsX3_tokenKind_r1 _ (List.mem_of_getElem? (i := 18) rfl), (List.forall_mem_cons.mpr ⟨ilX3_tokenKind_wsX3_tokenKind_r1 _ (List.mem_of_getElem? (i := 19) rfl), (List.forall_mem_cons.mpr ⟨ilX3_tokenKind_wsX3_tokenKind_r1 _ (List.mem_of_getElem? (i := 20) rfl), (List.forall_mem_cons.mpr ⟨ilX3_tokenKind_wsX3_tokenKind_r1 _ (List.mem_of_getElem? (i := 21) rfl), (List.forall_mem_cons.mpr ⟨ilX3_tokenKind_wsX3_tokenKind_r1 _ (List.mem_of_getElem? (i := 22) rfl), (List.forall_mem_cons.mpr ⟨ilX3_tokenKind_wsX3_tokenKind_r1 _ (List.mem_of_getElem? (i := 23) rfl), (List.forall_mem_cons.mpr ⟨ilX3_tokenKind_wsX3_tokenKind_r2 _ (List.mem_of_getElem? (i := 0) rfl), (List.forall_mem_cons.mpr ⟨ilX3_tokenKind_wsX3_tokenKind_r2 _ (List.mem_of_getElem? (i := 1) rfl), (List.forall_mem_cons.mpr ⟨ilX3_tokenKind_wsX3_tokenKind_r2 _ (List.mem_of_getElem? (i := 2) rfl), (List.forall_mem_cons.mpr ⟨ilX3_tokenKind_wsX3_tokenKind_r2 _ (List.mem_of_getElem? (i := 3) rfl), (List.forall_mem_cons.mpr ⟨ilX3_tokenKind_wsX3_tokenKind_r2 _ (List.mem_of_getElem? (i := 4) rfl), (fun _ h => absurd h List.not_mem_nil)⟩)⟩)⟩)⟩)⟩)⟩)⟩)⟩)⟩)⟩)⟩)⟩)⟩)⟩)⟩)⟩)⟩)⟩)⟩)⟩)⟩)⟩)⟩)⟩), (List.forall_mem_append.mpr ⟨(List.forall_mem_cons.mpr ⟨ilX3_tokenKind_wsX3_tokenKind_r2 _ (List.mem_of_getElem? (i := 5) rfl), (List.forall_mem_cons.mpr ⟨ilX3_tokenKind_wsX3_tokenKind_r2 _ (List.mem_of_getElem? (i := 6) rfl), (List.forall_mem_cons.mpr ⟨ilX3_tokenKind_wsX3_tokenKind_r2 _ (List.mem_of_getElem? (i := 7) rfl), (List.forall_mem_cons.mpr ⟨ilX3_tokenKind_wsX3_tokenKind_r2 _ (List.mem_of_getElem? (i := 8) rfl), (List.forall_mem_cons.mpr ⟨ilX3_tokenKind_wsX3_tokenKind_r2 _ (List.mem_of_getElem? (i := 9) rfl), (List.forall_mem_cons.mpr ⟨ilX3_tokenKind_wsX3_tokenKind_r2 _ (List.mem_of_getElem? (i := 10) rfl), (List.forall_mem_cons.mpr ⟨ilX3_tokenKind_wsX3_tokenKind_r2 _ (List.mem_of_getElem? (i := 11) rfl), (List.forall_mem_cons.mpr ⟨ilX3_tokenKind_wsX3_tokenKind_r2 _ (List.mem_of_getElem? (i := 12) rfl), (List.forall_mem_cons.mpr ⟨ilX3_tokenKind_wsX3_tokenKind_r2 _ (List.mem_of_getElem? (i := 13) rfl), (List.forall_mem_cons.mpr ⟨ilX3_tokenKind_wsX3_tokenKind_r2 _ (List.mem_of_getElem? (i := 14) rfl), (List.forall_mem_cons.mpr ⟨ilX3_tokenKind_wsX3_tokenKind_r2 _ (List.mem_of_getElem? (i := 15) rfl), (List.forall_mem_cons.mpr ⟨ilX3_tokenKind_wsX3_tokenKind_r2 _ (List.mem_of_getElem? (i := 16) rfl), (List.forall_mem_cons.mpr ⟨ilX3_tokenKind_wsX3_tokenKind_r2 _ (List.mem_of_getElem? (i := 17) rfl), (List.forall_mem_cons.mpr ⟨ilX3_tokenKind_wsX3_tokenKind_r2 _ (List.mem_of_getElem? (i := 18) rfl), (List.forall_mem_cons.mpr ⟨ilX3_tokenKind_wsX3_tokenKind_r2 _ (List.mem_of_getElem? (i := 19) rfl), (List.forall_mem_cons.mpr ⟨ilX3_tokenKind_wsX3_tokenKind_r2 _ (List.mem_of_getElem? (i := 20) rfl), (List.forall_mem_cons.mpr ⟨ilX3_tokenKind_wsX3_tokenKind_r2 _ (List.mem_of_getElem? (i := 21) rfl), (List.forall_mem_cons.mpr ⟨ilX3_tokenKind_wsX3_tokenKind_r2 _ (List.mem_of_getElem? (i := 22) rfl), (List.forall_mem_cons.mpr ⟨ilX3_tokenKind_wsX3_tokenKind_r2 _ (List.mem_of_getElem? (i := 23) rfl), (List.forall_mem_cons.mpr ⟨ilX3_tokenKind_wsX3_tokenKind_r3 _ (List.mem_of_getElem? (i := 0) rfl), (List.forall_mem_cons.mpr ⟨ilX3_tokenKind_wsX3_tokenKind_r3 _ (List.mem_of_getElem? (i := 1) rfl), (List.forall_mem_cons.mpr ⟨ilX3_tokenKind_wsX3_tokenKind_r3 _ (List.mem_of_getElem? (i := 2) rfl), (List.forall_mem_cons.mpr ⟨ilX3_tokenKind_wsX3_tokenKind_r3 _ (List.mem_of_getElem? (i := 3) rfl), (List.forall_mem_cons.mpr ⟨ilX3_tokenKind_wsX3_tokenKind_r3 _ (List.mem_of_getElem? (i := 4) rfl), (fun _ h => absurd h List.not_mem_nil)⟩)⟩)⟩)⟩)⟩)⟩)⟩)⟩)⟩)⟩)⟩)⟩)⟩)⟩)⟩)⟩)⟩)⟩)⟩)⟩)⟩)⟩)⟩)⟩), (List.forall_mem_cons.mpr ⟨ilX3_tokenKind_wsX3_tokenKind_r3 _ (List.mem_of_getElem? (i := 5) rfl), (List.forall_mem_cons.mpr ⟨ilX3_tokenKind_wsX3_tokenKind_r3 _ (List.mem_of_getElem? (i := 6) rfl), (List.forall_mem_cons.mpr ⟨ilX3_tokenKind_wsX3_tokenKind_r3 _ (List.mem_of_getElem? (i := 7) rfl), (List.forall_mem_cons.mpr ⟨ilX3_tokenKind_wsX3_tokenKind_r3 _ (List.mem_of_getElem? (i := 8) rfl), (List.forall_mem_cons.mpr ⟨ilX3_tokenKind_wsX3_tokenKind_r3 _ (List.mem_of_getElem? (i := 9) rfl), (List.forall_mem_cons.mpr ⟨ilX3_tokenKind_wsX3_tokenKind_r3 _ (List.mem_of_getElem? (i := 10) rfl), (fun _ h => absurd h List.not_mem_nil)⟩)⟩)⟩)⟩)⟩)⟩)⟩)⟩), ilX3_tokenKind_wsX30⟩), ilX3_tokenKind_wsX50⟩)⟩) (by decide +kernel)
set_option maxRecDepth 20000 in
theorem gX3_tokenKind_X3_tokenIs : GoodIn wsX3_tokenKind (wsV RX3 77 RX3 yX3_tokenIs wsX3_tokenIs) := goodIn_app (goodIn_sub (List.forall_mem_cons.mpr ⟨ilX3_tokenKind_wsX3_tokenKind_r1 _ (List.mem_of_getElem? (i := 0) rfl), (List.forall_mem_cons.mpr ⟨ilX3_tokenKind_wsX3_tokenKind_r1 _ (List.mem_of_getElem? (i := 1) rfl), (List.forall_mem_cons.mpr ⟨ilX3_tokenKind_wsX3_tokenKind_r1 _ (List.mem_of_getElem? (i := 2) rfl), (List.forall_mem_cons.mpr ⟨ilX3_tokenKind_wsX3_tokenKind_r1 _ (List.mem_of_getElem? (i := 3) rfl), (fun _ h => absurd h List.not_mem_nil)⟩)⟩)⟩)⟩) (by decide +kernel)) ggX3_tokenKind_X3_tokenIs
theorem dX3_tokenKind_0 : decode cX3_tokenKind 0 = .ok (.aload_n 0, 1) := by decide +kernel
theorem dX3_tokenKind_1 : decode cX3_tokenKind 1 = .ok (.ldc 178, 2) := by decide +kernel
theorem dX3_tokenKind_3 : decode cX3_tokenKind 3 = .ok (.invokevirtual 77, 3) := by decide +kernel
theorem dX3_tokenKind_6 : decode cX3_tokenKind 6 = .ok (.ifCond .eq 5, 3) := by decide +kernel
theorem dX3_tokenKind_9 : decode cX3_tokenKind 9 = .ok (.iconst 0, 1) := by decide +kernel
theorem dX3_tokenKind_10 : decode cX3_tokenKind 10 = .ok (.ireturn, 1) := by decide +kernel
theorem dX3_tokenKind_11 : decode cX3_tokenKind 11 = .ok (.aload_n 0, 1) := by decide +kernel
theorem dX3_tokenKind_12 : decode cX3_tokenKind 12 = .ok (.ldc 180, 2) := by decide +kernel
theorem dX3_tokenKind_14 : decode cX3_tokenKind 14 = .ok (.invokevirtual 77, 3) := by decide +kernel
theorem dX3_tokenKind_17 : decode cX3_tokenKind 17 = .ok (.ifCond .eq 5, 3) := by decide +kernel
theorem dX3_tokenKind_20 : decode cX3_tokenKind 20 = .ok (.iconst 1, 1) := by decide +kernel
theorem dX3_tokenKind_21 : decode cX3_tokenKind 21 = .ok (.ireturn, 1) := by decide +kernel
theorem dX3_tokenKind_22 : decode cX3_tokenKind 22 = .ok (.aload_n 0, 1) := by decide +kernel
theorem dX3_tokenKind_23 : decode cX3_tokenKind 23 = .ok (.ldc 182, 2) := by decide +kernel
theorem dX3_tokenKind_25 : decode cX3_tokenKind 25 = .ok (.invokevirtual 77, 3) := by decide +kernel
theorem dX3_tokenKind_28 : decode cX3_tokenKind 28 = .ok (.ifCond .eq 5, 3) := by decide +kernel
theorem dX3_tokenKind_31 : decode cX3_tokenKind 31 = .ok (.iconst 2, 1) := by decide +kernel
theorem dX3_tokenKind_32 : decode cX3_tokenKind 32 = .ok (.ireturn, 1) := by decide +kernel
theorem dX3_tokenKind_33 : decode cX3_tokenKind 33 = .ok (.aload_n 0, 1) := by decide +kernel
theorem dX3_tokenKind_34 : decode cX3_tokenKind 34 = .ok (.ldc 184, 2) := by decide +kernel
theorem dX3_tokenKind_36 : decode cX3_tokenKind 36 = .ok (.invokevirtual 77, 3) := by decide +kernel
theorem dX3_tokenKind_39 : decode cX3_tokenKind 39 = .ok (.ifCond .eq 5, 3) := by decide +kernel
theorem dX3_tokenKind_42 : decode cX3_tokenKind 42 = .ok (.iconst 3, 1) := by decide +kernel
theorem dX3_tokenKind_43 : decode cX3_tokenKind 43 = .ok (.ireturn, 1) := by decide +kernel
theorem dX3_tokenKind_44 : decode cX3_tokenKind 44 = .ok (.aload_n 0, 1) := by decide +kernel
theorem dX3_tokenKind_45 : decode cX3_tokenKind 45 = .ok (.ldc 186, 2) := by decide +kernel
theorem dX3_tokenKind_47 : decode cX3_tokenKind 47 = .ok (.invokevirtual 77, 3) := by decide +kernel
theorem dX3_tokenKind_50 : decode cX3_tokenKind 50 = .ok (.ifCond .eq 7, 3) := by decide +kernel
theorem dX3_tokenKind_53 : decode cX3_tokenKind 53 = .ok (.iconst 4, 1) := by decide +kernel
theorem dX3_tokenKind_54 : decode cX3_tokenKind 54 = .ok (.goto 4, 3) := by decide +kernel
theorem dX3_tokenKind_57 : decode cX3_tokenKind 57 = .ok (.iconst (-1), 1) := by decide +kernel
theorem dX3_tokenKind_58 : decode cX3_tokenKind 58 = .ok (.ireturn, 1) := by decide +kernel
theorem ilX3_tokenIs_wsX3_tokenIs_r1 : ∀ w ∈ wsX3_tokenIs_r1, w ∈ wsX3_tokenIs := fun _ h => List.mem_cons_of_mem _ (List.mem_append_left _ (List.mem_append_left _ (List.mem_append_left _ (h))))
theorem ilX3_tokenIs_wsX3_tokenIs_r2 : ∀ w ∈ wsX3_tokenIs_r2, w ∈ wsX3_tokenIs := fun _ h => List.mem_cons_of_mem _ (List.mem_append_left _ (List.mem_append_left _ (List.mem_append_right _ (List.mem_append_left _ (h)))))
theorem ilX3_tokenIs_wsX3_tokenIs_r3 : ∀ w ∈ wsX3_tokenIs_r3, w ∈ wsX3_tokenIs := fun _ h => List.mem_cons_of_mem _ (List.mem_append_left _ (List.mem_append_left _ (List.mem_append_right _ (List.mem_append_right _ (h)))))
theorem ilX3_tokenIs_wsX30 : ∀ w ∈ wsX30, w ∈ wsX3_tokenIs := fun _ h => List.mem_cons_of_mem _ (List.mem_append_left _ (List.mem_append_right _ (h)))
theorem ilX3_tokenIs_wsX50 : ∀ w ∈ wsX50, w ∈ wsX3_tokenIs := fun _ h => List.mem_cons_of_mem _ (List.mem_append_right _ (h))
set_option maxRecDepth 20000 in
theorem ggX3_tokenIs_J0_length_8abf5 : GoodIn wsX3_tokenIs wsJ0_length_8abf5 := goodIn_sub (List.forall_mem_cons.mpr ⟨ilX3_tokenIs_wsX3_tokenIs_r1 _ (List.mem_of_getElem? (i := 9) rfl), (List.forall_mem_cons.mpr ⟨ilX3_tokenIs_wsX3_tokenIs_r1 _ (List.mem_of_getElem? (i := 10) rfl), (List.forall_mem_cons.mpr ⟨ilX3_tokenIs_wsX3_tokenIs_r1 _ (List.mem_of_getElem? (i := 11) rfl), (List.forall_mem_cons.mpr ⟨ilX3_tokenIs_wsX3_tokenIs_r1 _ (List.mem_of_getElem? (i := 12) rfl), (List.forall_mem_cons.mpr ⟨ilX3_tokenIs_wsX3_tokenIs_r1 _ (List.mem_of_getElem? (i := 13) rfl), (List.forall_mem_cons.mpr ⟨ilX3_tokenIs_wsX3_tokenIs_r1 _ (List.mem_of_getElem? (i := 8) rfl), (List.forall_mem_cons.mpr ⟨ilX3_tokenIs_wsX3_tokenIs_r1 _ (List.mem_of_getElem? (i := 14) rfl), (List.forall_mem_cons.mpr ⟨ilX3_tokenIs_wsX3_tokenIs_r1 _ (List.mem_of_getElem? (i := 15) rfl), (List.forall_mem_cons.mpr ⟨ilX3_tokenIs_wsX3_tokenIs_r1 _ (List.mem_of_getElem? (i := 16) rfl), (fun _ h => absurd h List.not_mem_nil)⟩)⟩)⟩)⟩)⟩)⟩)⟩)⟩)⟩) (by decide +kernel)
set_option maxRecDepth 20000 in
theorem gX3_tokenIs_J0_length_8abf5 : GoodIn wsX3_tokenIs (wsV RX3 188 RJ0 yJ0_length_8abf5 wsJ0_length_8abf5) := goodIn_app (goodIn_sub (List.forall_mem_cons.mpr ⟨ilX3_tokenIs_wsX3_tokenIs_r1 _ (List.mem_of_getElem? (i := 5) rfl), (List.forall_mem_cons.mpr ⟨ilX3_tokenIs_wsX3_tokenIs_r1 _ (List.mem_of_getElem? (i := 6) rfl), (List.forall_mem_cons.mpr ⟨ilX3_tokenIs_wsX3_tokenIs_r1 _ (List.mem_of_getElem? (i := 7) rfl), (List.forall_mem_cons.mpr ⟨ilX3_tokenIs_wsX3_tokenIs_r1 _ (List.mem_of_getElem? (i := 8) rfl), (fun _ h => absurd h List.not_mem_nil)⟩)⟩)⟩)⟩) (by decide +kernel)) ggX3_tokenIs_J0_length_8abf5
set_option maxRecDepth 20000 in
theorem ggX3_tokenIs_J0_charAt_5068e : GoodIn wsX3_tokenIs wsJ0_charAt_5068e := goodIn_sub (List.forall_mem_cons.mpr ⟨ilX3_tokenIs_wsX3_tokenIs_r1 _ (List.mem_of_getElem? (i := 20) rfl), (List.forall_mem_append.mpr ⟨(List.forall_mem_cons.mpr ⟨ilX3_tokenIs_wsX3_tokenIs_r1 _ (List.mem_of_getElem? (i := 10) rfl), (List.forall_mem_cons.mpr ⟨ilX3_tokenIs_wsX3_tokenIs_r1 _ (List.mem_of_getElem? (i := 21) rfl), (List.forall_mem_cons.mpr ⟨ilX3_tokenIs_wsX3_tokenIs_r1 _ (List.mem_of_getElem? (i := 22) rfl), (List.forall_mem_cons.mpr ⟨ilX3_tokenIs_wsX3_tokenIs_r1 _ (List.mem_of_getElem? (i := 23) rfl), (List.forall_mem_cons.mpr ⟨ilX3_tokenIs_wsX3_tokenIs_r1 _ (List.mem_of_getElem? (i := 8) rfl), (List.forall_mem_cons.mpr ⟨ilX3_tokenIs_wsX3_tokenIs_r2 _ (List.mem_of_getElem? (i := 0) rfl), (List.forall_mem_cons.mpr ⟨ilX3_tokenIs_wsX3_tokenIs_r1 _ (List.mem_of_getElem? (i := 15) rfl), (List.forall_mem_cons.mpr ⟨ilX3_tokenIs_wsX3_tokenIs_r1 _ (List.mem_of_getElem? (i := 16) rfl), (List.forall_mem_cons.mpr ⟨ilX3_tokenIs_wsX3_tokenIs_r2 _ (List.mem_of_getElem? (i := 1) rfl), (List.forall_mem_cons.mpr ⟨ilX3_tokenIs_wsX3_tokenIs_r2 _ (List.mem_of_getElem? (i := 2) rfl), (List.forall_mem_cons.mpr ⟨ilX3_tokenIs_wsX3_tokenIs_r2 _ (List.mem_of_getElem? (i := 3) rfl), (List.forall_mem_cons.mpr ⟨ilX3_tokenIs_wsX3_tokenIs_r2 _ (List.mem_of_getElem? (i := 4) rfl), (List.forall_mem_cons.mpr ⟨ilX3_tokenIs_wsX3_tokenIs_r2 _ (List.mem_of_getElem? (i := 5) rfl), (List.forall_mem_cons.mpr ⟨ilX3_tokenIs_wsX3_tokenIs_r2 _ (List.mem_of_getElem? (i := 6) rfl), (List.forall_mem_cons.mpr ⟨ilX3_tokenIs_wsX3_tokenIs_r2 _ (List.mem_of_getElem? (i := 7) rfl), (List.forall_mem_cons.mpr ⟨ilX3_tokenIs_wsX3_tokenIs_r2 _ (List.mem_of_getElem? (i := 8) rfl), (List.forall_mem_cons.mpr ⟨ilX3_tokenIs_wsX3_tokenIs_r2 _ (List.mem_of_getElem? (i := 9) rfl), (List.forall_mem_cons.mpr ⟨ilX3_tokenIs_wsX3_tokenIs_r2 _ (List.mem_of_getElem? (i := 10) rfl), (List.forall_mem_cons.mpr ⟨ilX3_tokenIs_wsX3_tokenIs_r2 _ (List.mem_of_getElem? (i := 11) rfl), (List.forall_mem_cons.mpr ⟨ilX3_tokenIs_wsX3_tokenIs_r2 _ (List.mem_of_getElem? (i := 12) rfl), (List.forall_mem_cons.mpr ⟨ilX3_tokenIs_wsX3_tokenIs_r2 _ (List.mem_of_getElem? (i := 13) rfl), (List.forall_mem_cons.mpr ⟨ilX3_tokenIs_wsX3_tokenIs_r2 _ (List.mem_of_getElem? (i := 14) rfl), (List.forall_mem_cons.mpr ⟨ilX3_tokenIs_wsX3_tokenIs_r2 _ (List.mem_of_getElem? (i := 15) rfl), (List.forall_mem_cons.mpr ⟨ilX3_tokenIs_wsX3_tokenIs_r2 _ (List.mem_of_getElem? (i := 16) rfl), (fun _ h => absurd h List.not_mem_nil)⟩)⟩)⟩)⟩)⟩)⟩)⟩)⟩)⟩)⟩)⟩)⟩)⟩)⟩)⟩)⟩)⟩)⟩)⟩)⟩)⟩)⟩)⟩)⟩), (List.forall_mem_cons.mpr ⟨ilX3_tokenIs_wsX3_tokenIs_r2 _ (List.mem_of_getElem? (i := 17) rfl), (List.forall_mem_cons.mpr ⟨ilX3_tokenIs_wsX3_tokenIs_r2 _ (List.mem_of_getElem? (i := 18) rfl), (List.forall_mem_cons.mpr ⟨ilX3_tokenIs_wsX3_tokenIs_r2 _ (List.mem_of_getElem? (i := 19) rfl), (List.forall_mem_cons.mpr ⟨ilX3_tokenIs_wsX3_tokenIs_r2 _ (List.mem_of_getElem? (i := 20) rfl), (List.forall_mem_cons.mpr ⟨ilX3_tokenIs_wsX3_tokenIs_r2 _ (List.mem_of_getElem? (i := 21) rfl), (List.forall_mem_cons.mpr ⟨ilX3_tokenIs_wsX3_tokenIs_r2 _ (List.mem_of_getElem? (i := 22) rfl), (List.forall_mem_cons.mpr ⟨ilX3_tokenIs_wsX3_tokenIs_r2 _ (List.mem_of_getElem? (i := 23) rfl), (List.forall_mem_cons.mpr ⟨ilX3_tokenIs_wsX3_tokenIs_r3 _ (List.mem_of_getElem? (i := 0) rfl), (List.forall_mem_cons.mpr ⟨ilX3_tokenIs_wsX3_tokenIs_r3 _ (List.mem_of_getElem? (i := 1) rfl), (List.forall_mem_cons.mpr ⟨ilX3_tokenIs_wsX3_tokenIs_r3 _ (List.mem_of_getElem? (i := 2) rfl), (List.forall_mem_cons.mpr ⟨ilX3_tokenIs_wsX3_tokenIs_r3 _ (List.mem_of_getElem? (i := 3) rfl), (List.forall_mem_cons.mpr ⟨ilX3_tokenIs_wsX3_tokenIs_r3 _ (List.mem_of_getElem? (i := 4) rfl), (List.forall_mem_cons.mpr ⟨ilX3_tokenIs_wsX3_tokenIs_r3 _ (List.mem_of_getElem? (i := 5) rfl), (fun _ h => absurd h List.not_mem_nil)⟩)⟩)⟩)⟩)⟩)⟩)⟩)⟩)⟩)⟩)⟩)⟩)⟩)⟩)⟩) (by decide +kernel)
set_option maxRecDepth 20000 in
theorem gX3_tokenIs_J0_charAt_5068e : GoodIn wsX3_tokenIs (wsV RX3 192 RJ0 yJ0_charAt_5068e wsJ0_charAt_5068e) := goodIn_app (goodIn_sub (List.forall_mem_cons.mpr ⟨ilX3_tokenIs_wsX3_tokenIs_r1 _ (List.mem_of_getElem? (i := 17) rfl), (List.forall_mem_cons.mpr ⟨ilX3_tokenIs_wsX3_tokenIs_r1 _ (List.mem_of_getElem? (i := 18) rfl), (List.forall_mem_cons.mpr ⟨ilX3_tokenIs_wsX3_tokenIs_r1 _ (List.mem_of_getElem? (i := 19) rfl), (List.forall_mem_cons.mpr ⟨ilX3_tokenIs_wsX3_tokenIs_r1 _ (List.mem_of_getElem? (i := 8) rfl), (fun _ h => absurd h List.not_mem_nil)⟩)⟩)⟩)⟩) (by decide +kernel)) ggX3_tokenIs_J0_charAt_5068e
theorem dX3_tokenIs_0 : decode cX3_tokenIs 0 = .ok (.aload_n 0, 1) := by decide +kernel
theorem dX3_tokenIs_1 : decode cX3_tokenIs 1 = .ok (.getfield 28, 3) := by decide +kernel
theorem dX3_tokenIs_4 : decode cX3_tokenIs 4 = .ok (.iconst 1, 1) := by decide +kernel
theorem dX3_tokenIs_5 : decode cX3_tokenIs 5 = .ok (.if_icmp .ne 19, 3) := by decide +kernel
theorem dX3_tokenIs_8 : decode cX3_tokenIs 8 = .ok (.aload_n 0, 1) := by decide +kernel
theorem dX3_tokenIs_9 : decode cX3_tokenIs 9 = .ok (.getfield 25, 3) := by decide +kernel
theorem dX3_tokenIs_12 : decode cX3_tokenIs 12 = .ok (.aload_n 0, 1) := by decide +kernel
theorem dX3_tokenIs_13 : decode cX3_tokenIs 13 = .ok (.getfield 21, 3) := by decide +kernel
theorem dX3_tokenIs_16 : decode cX3_tokenIs 16 = .ok (.isub, 1) := by decide +kernel
theorem dX3_tokenIs_17 : decode cX3_tokenIs 17 = .ok (.aload_n 1, 1) := by decide +kernel
theorem dX3_tokenIs_18 : decode cX3_tokenIs 18 = .ok (.invokevirtual 188, 3) := by decide +kernel
theorem dX3_tokenIs_21 : decode cX3_tokenIs 21 = .ok (.if_icmp .eq 5, 3) := by decide +kernel
theorem dX3_tokenIs_24 : decode cX3_tokenIs 24 = .ok (.iconst 0, 1) := by decide +kernel
theorem dX3_tokenIs_25 : decode cX3_tokenIs 25 = .ok (.ireturn, 1) := by decide +kernel
theorem dX3_tokenIs_26 : decode cX3_tokenIs 26 = .ok (.iconst 0, 1) := by decide +kernel
theorem dX3_tokenIs_27 : decode cX3_tokenIs 27 = .ok (.istore_n 2, 1) := by decide +kernel
theorem dX3_tokenIs_28 : decode cX3_tokenIs 28 = .ok (.iload_n 2, 1) := by decide +kernel
theorem dX3_tokenIs_29 : decode cX3_tokenIs 29 = .ok (.aload_n 1, 1) := by decide +kernel
theorem dX3_tokenIs_30 : decode cX3_tokenIs 30 = .ok (.invokevirtual 188, 3) := by decide +kernel
theorem dX3_tokenIs_33 : decode cX3_tokenIs 33 = .ok (.if_icmp .ge 33, 3) := by decide +kernel
theorem dX3_tokenIs_36 : decode cX3_tokenIs 36 = .ok (.aload_n 0, 1) := by decide +kernel
theorem dX3_tokenIs_37 : decode cX3_tokenIs 37 = .ok (.getfield 47, 3) := by decide +kernel
theorem dX3_tokenIs_40 : decode cX3_tokenIs 40 = .ok (.getfield 174, 3) := by decide +kernel
theorem dX3_tokenIs_43 : decode cX3_tokenIs 43 = .ok (.aload_n 0, 1) := by decide +kernel
theorem dX3_tokenIs_44 : decode cX3_tokenIs 44 = .ok (.getfield 21, 3) := by decide +kernel
theorem dX3_tokenIs_47 : decode cX3_tokenIs 47 = .ok (.iload_n 2, 1) := by decide +kernel
theorem dX3_tokenIs_48 : decode cX3_tokenIs 48 = .ok (.iadd, 1) := by decide +kernel
theorem dX3_tokenIs_49 : decode cX3_tokenIs 49 = .ok (.baload, 1) := by decide +kernel
theorem dX3_tokenIs_50 : decode cX3_tokenIs 50 = .ok (.aload_n 1, 1) := by decide +kernel
theorem dX3_tokenIs_51 : decode cX3_tokenIs 51 = .ok (.iload_n 2, 1) := by decide +kernel
theorem dX3_tokenIs_52 : decode cX3_tokenIs 52 = .ok (.invokevirtual 192, 3) := by decide +kernel
theorem dX3_tokenIs_55 : decode cX3_tokenIs 55 = .ok (.if_icmp .eq 5, 3) := by decide +kernel
theorem dX3_tokenIs_58 : decode cX3_tokenIs 58 = .ok (.iconst 0, 1) := by decide +kernel
theorem dX3_tokenIs_59 : decode cX3_tokenIs 59 = .ok (.ireturn, 1) := by decide +kernel
theorem dX3_tokenIs_60 : decode cX3_tokenIs 60 = .ok (.iinc 2 1, 3) := by decide +kernel
theorem dX3_tokenIs_63 : decode cX3_tokenIs 63 = .ok (.goto (-35), 3) := by decide +kernel
theorem dX3_tokenIs_66 : decode cX3_tokenIs 66 = .ok (.iconst 1, 1) := by decide +kernel
theorem dX3_tokenIs_67 : decode cX3_tokenIs 67 = .ok (.ireturn, 1) := by decide +kernel
theorem ilX3_step_wsX30 : ∀ w ∈ wsX30, w ∈ wsX3_step := fun _ h => List.mem_cons_of_mem _ (List.mem_append_left _ (List.mem_append_right _ (h)))
theorem ilX3_step_wsX50 : ∀ w ∈ wsX50, w ∈ wsX3_step := fun _ h => List.mem_cons_of_mem _ (List.mem_append_right _ (h))
set_option maxRecDepth 20000 in
theorem ggX3_step_X3_skipBlanks : GoodIn wsX3_step wsX3_skipBlanks := goodIn_sub (List.forall_mem_cons.mpr ⟨List.mem_cons_of_mem _ (List.mem_append_left _ (List.mem_append_left _ (List.mem_of_getElem? (i := 16) rfl))), (List.forall_mem_append.mpr ⟨(List.forall_mem_append.mpr ⟨(List.forall_mem_cons.mpr ⟨List.mem_cons_of_mem _ (List.mem_append_left _ (List.mem_append_left _ (List.mem_of_getElem? (i := 0) rfl))), (List.forall_mem_cons.mpr ⟨List.mem_cons_of_mem _ (List.mem_append_left _ (List.mem_append_left _ (List.mem_of_getElem? (i := 2) rfl))), (List.forall_mem_cons.mpr ⟨List.mem_cons_of_mem _ (List.mem_append_left _ (List.mem_append_left _ (List.mem_of_getElem? (i := 3) rfl))), (List.forall_mem_cons.mpr ⟨List.mem_cons_of_mem _ (List.mem_append_left _ (List.mem_append_left _ (List.mem_of_getElem? (i := 5) rfl))), (fun _ h => absurd h List.not_mem_nil)⟩)⟩)⟩)⟩), ilX3_step_wsX30⟩), ilX3_step_wsX50⟩)⟩) (by decide +kernel)
set_option maxRecDepth 20000 in
theorem gX3_step_X3_skipBlanks : GoodIn wsX3_step (wsV RX3 196 RX3 yX3_skipBlanks wsX3_skipBlanks) := goodIn_app (goodIn_sub (List.forall_mem_cons.mpr ⟨List.mem_cons_of_mem _ (List.mem_append_left _ (List.mem_append_left _ (List.mem_of_getElem? (i := 12) rfl))), (List.forall_mem_cons.mpr ⟨List.mem_cons_of_mem _ (List.mem_append_left _ (List.mem_append_left _ (List.mem_of_getElem? (i := 13) rfl))), (List.forall_mem_cons.mpr ⟨List.mem_cons_of_mem _ (List.mem_append_left _ (List.mem_append_left _ (List.mem_of_getElem? (i := 14) rfl))), (List.forall_mem_cons.mpr ⟨List.mem_cons_of_mem _ (List.mem_append_left _ (List.mem_append_left _ (List.mem_of_getElem? (i := 15) rfl))), (fun _ h => absurd h List.not_mem_nil)⟩)⟩)⟩)⟩) (by decide +kernel)) ggX3_step_X3_skipBlanks
set_option maxRecDepth 20000 in
theorem ggX3_step_X3_isLetter : GoodIn wsX3_step wsX3_isLetter := goodIn_sub (List.forall_mem_cons.mpr ⟨List.mem_cons_of_mem _ (List.mem_append_left _ (List.mem_append_left _ (List.mem_of_getElem? (i := 19) rfl))), (fun _ h => absurd h List.not_mem_nil)⟩) (by decide +kernel)
set_option maxRecDepth 20000 in
theorem gX3_step_X3_isLetter : GoodIn wsX3_step (va_wsS RX3 199 yX3_isLetter wsX3_isLetter) := goodIn_app (goodIn_of _ (by decide +kernel)) ggX3_step_X3_isLetter
set_option maxRecDepth 20000 in
theorem ggX3_step_X3_isDigit : GoodIn wsX3_step wsX3_isDigit := goodIn_sub (List.forall_mem_cons.mpr ⟨List.mem_cons_of_mem _ (List.mem_append_left _ (List.mem_append_left _ (List.mem_of_getElem? (i := 22) rfl))), (fun _ h => absurd h List.not_mem_nil)⟩) (by decide +kernel)
set_option maxRecDepth 20000 in
theorem gX3_step_X3_isDigit : GoodIn wsX3_step (va_wsS RX3 202 yX3_isDigit wsX3_isDigit) := goodIn_app (goodIn_of _ (by decide +kernel)) ggX3_step_X3_isDigit
theorem dX3_step_0 : decode cX3_step 0 = .ok (.aload_n 0, 1) := by decide +kernel
theorem dX3_step_1 : decode cX3_step 1 = .ok (.invokevirtual 196, 3) := by decide +kernel
theorem dX3_step_4 : decode cX3_step 4 = .ok (.aload_n 0, 1) := by decide +kernel
theorem dX3_step_5 : decode cX3_step 5 = .ok (.aload_n 0, 1) := by decide +kernel
theorem dX3_step_6 : decode cX3_step 6 = .ok (.getfield 25, 3) := by decide +kernel
theorem dX3_step_9 : decode cX3_step 9 = .ok (.putfield 21, 3) := by decide +kernel
theorem dX3_step_12 : decode cX3_step 12 = .ok (.aload_n 0, 1) := by decide +kernel
theorem dX3_step_13 : decode cX3_step 13 = .ok (.getfield 25, 3) := by decide +kernel
theorem dX3_step_16 : decode cX3_step 16 = .ok (.aload_n 0, 1) := by decide +kernel
theorem dX3_step_17 : decode cX3_step 17 = .ok (.getfield 47, 3) := by decide +kernel
theorem dX3_step_20 : decode cX3_step 20 = .ok (.getfield 70, 3) := by decide +kernel
theorem dX3_step_23 : decode cX3_step 23 = .ok (.if_icmp .lt 9, 3) := by decide +kernel
theorem dX3_step_26 : decode cX3_step 26 = .ok (.aload_n 0, 1) := by decide +kernel
theorem dX3_step_27 : decode cX3_step 27 = .ok (.iconst 0, 1) := by decide +kernel
theorem dX3_step_28 : decode cX3_step 28 = .ok (.putfield 28, 3) := by decide +kernel
theorem dX3_step_31 : decode cX3_step 31 = .ok (.return_, 1) := by decide +kernel
theorem dX3_step_32 : decode cX3_step 32 = .ok (.aload_n 0, 1) := by decide +kernel
theorem dX3_step_33 : decode cX3_step 33 = .ok (.getfield 47, 3) := by decide +kernel
theorem dX3_step_36 : decode cX3_step 36 = .ok (.getfield 174, 3) := by decide +kernel
theorem dX3_step_39 : decode cX3_step 39 = .ok (.aload_n 0, 1) := by decide +kernel
theorem dX3_step_40 : decode cX3_step 40 = .ok (.getfield 25, 3) := by decide +kernel
theorem dX3_step_43 : decode cX3_step 43 = .ok (.baload, 1) := by decide +kernel
theorem dX3_step_44 : decode cX3_step 44 = .ok (.istore_n 1, 1) := by decide +kernel
theorem dX3_step_45 : decode cX3_step 45 = .ok (.aload_n 0, 1) := by decide +kernel
theorem dX3_step_46 : decode cX3_step 46 = .ok (.iconst 0, 1) := by decide +kernel
theorem dX3_step_47 : decode cX3_step 47 = .ok (.putfield 31, 3) := by decide +kernel
theorem dX3_step_50 : decode cX3_step 50 = .ok (.iload_n 1, 1) := by decide +kernel
theorem dX3_step_51 : decode cX3_step 51 = .ok (.invokestatic 199, 3) := by decide +kernel
theorem dX3_step_54 : decode cX3_step 54 = .ok (.ifCond .eq 53, 3) := by decide +kernel
theorem dX3_step_57 : decode cX3_step 57 = .ok (.aload_n 0, 1) := by decide +kernel
theorem dX3_step_58 : decode cX3_step 58 = .ok (.iconst 1, 1) := by decide +kernel
theorem dX3_step_59 : decode cX3_step 59 = .ok (.putfield 28, 3) := by decide +kernel
theorem dX3_step_62 : decode cX3_step 62 = .ok (.aload_n 0, 1) := by decide +kernel
theorem dX3_step_63 : decode cX3_step 63 = .ok (.getfield 25, 3) := by decide +kernel
theorem dX3_step_66 : decode cX3_step 66 = .ok (.aload_n 0, 1) := by decide +kernel
theorem dX3_step_67 : decode cX3_step 67 = .ok (.getfield 47, 3) := by decide +kernel
theorem dX3_step_70 : decode cX3_step 70 = .ok (.getfield 70, 3) := by decide +kernel
theorem dX3_step_73 : decode cX3_step 73 = .ok (.if_icmp .ge 148, 3) := by decide +kernel
theorem dX3_step_76 : decode cX3_step 76 = .ok (.aload_n 0, 1) := by decide +kernel
theorem dX3_step_77 : decode cX3_step 77 = .ok (.getfield 47, 3) := by decide +kernel
theorem dX3_step_80 : decode cX3_step 80 = .ok (.getfield 174, 3) := by decide +kernel
theorem dX3_step_83 : decode cX3_step 83 = .ok (.aload_n 0, 1) := by decide +kernel
theorem dX3_step_84 : decode cX3_step 84 = .ok (.getfield 25, 3) := by decide +kernel
theorem dX3_step_87 : decode cX3_step 87 = .ok (.baload, 1) := by decide +kernel
theorem dX3_step_88 : decode cX3_step 88 = .ok (.invokestatic 199, 3) := by decide +kernel
theorem dX3_step_91 : decode cX3_step 91 = .ok (.ifCond .eq 130, 3) := by decide +kernel
theorem dX3_step_94 : decode cX3_step 94 = .ok (.aload_n 0, 1) := by decide +kernel
theorem dX3_step_95 : decode cX3_step 95 = .ok (.dup, 1) := by decide +kernel
theorem dX3_step_96 : decode cX3_step 96 = .ok (.getfield 25, 3) := by decide +kernel
theorem dX3_step_99 : decode cX3_step 99 = .ok (.iconst 1, 1) := by decide +kernel
theorem dX3_step_100 : decode cX3_step 100 = .ok (.iadd, 1) := by decide +kernel
theorem dX3_step_101 : decode cX3_step 101 = .ok (.putfield 25, 3) := by decide +kernel
theorem dX3_step_104 : decode cX3_step 104 = .ok (.goto (-42), 3) := by decide +kernel
theorem dX3_step_107 : decode cX3_step 107 = .ok (.iload_n 1, 1) := by decide +kernel
theorem dX3_step_108 : decode cX3_step 108 = .ok (.invokestatic 202, 3) := by decide +kernel
theorem dX3_step_111 : decode cX3_step 111 = .ok (.ifCond .eq 85, 3) := by decide +kernel
theorem dX3_step_114 : decode cX3_step 114 = .ok (.aload_n 0, 1) := by decide +kernel
theorem dX3_step_115 : decode cX3_step 115 = .ok (.iconst 2, 1) := by decide +kernel
theorem dX3_step_116 : decode cX3_step 116 = .ok (.putfield 28, 3) := by decide +kernel
theorem dX3_step_119 : decode cX3_step 119 = .ok (.aload_n 0, 1) := by decide +kernel
theorem dX3_step_120 : decode cX3_step 120 = .ok (.getfield 25, 3) := by decide +kernel
theorem dX3_step_123 : decode cX3_step 123 = .ok (.aload_n 0, 1) := by decide +kernel
theorem dX3_step_124 : decode cX3_step 124 = .ok (.getfield 47, 3) := by decide +kernel
theorem dX3_step_127 : decode cX3_step 127 = .ok (.getfield 70, 3) := by decide +kernel
theorem dX3_step_130 : decode cX3_step 130 = .ok (.if_icmp .ge 91, 3) := by decide +kernel
theorem dX3_step_133 : decode cX3_step 133 = .ok (.aload_n 0, 1) := by decide +kernel
theorem dX3_step_134 : decode cX3_step 134 = .ok (.getfield 47, 3) := by decide +kernel
theorem dX3_step_137 : decode cX3_step 137 = .ok (.getfield 174, 3) := by decide +kernel
theorem dX3_step_140 : decode cX3_step 140 = .ok (.aload_n 0, 1) := by decide +kernel
theorem dX3_step_141 : decode cX3_step 141 = .ok (.getfield 25, 3) := by decide +kernel
theorem dX3_step_144 : decode cX3_step 144 = .ok (.baload, 1) := by decide +kernel
theorem dX3_step_145 : decode cX3_step 145 = .ok (.invokestatic 202, 3) := by decide +kernel
theorem dX3_step_148 : decode cX3_step 148 = .ok (.ifCond .eq 73, 3) := by decide +kernel
theorem dX3_step_151 : decode cX3_step 151 = .ok (.aload_n 0, 1) := by decide +kernel
theorem dX3_step_152 : decode cX3_step 152 = .ok (.ldc 205, 2) := by decide +kernel
theorem dX3_step_154 : decode cX3_step 154 = .ok (.aload_n 0, 1) := by decide +kernel
theorem dX3_step_155 : decode cX3_step 155 = .ok (.getfield 31, 3) := by decide +kernel
theorem dX3_step_158 : decode cX3_step 158 = .ok (.bipush 10, 2) := by decide +kernel
theorem dX3_step_160 : decode cX3_step 160 = .ok (.imul, 1) := by decide +kernel
theorem dX3_step_161 : decode cX3_step 161 = .ok (.aload_n 0, 1) := by decide +kernel
theorem dX3_step_162 : decode cX3_step 162 = .ok (.getfield 47, 3) := by decide +kernel
theorem dX3_step_165 : decode cX3_step 165 = .ok (.getfield 174, 3) := by decide +kernel
theorem dX3_step_168 : decode cX3_step 168 = .ok (.aload_n 0, 1) := by decide +kernel
theorem dX3_step_169 : decode cX3_step 169 = .ok (.getfield 25, 3) := by decide +kernel
theorem dX3_step_172 : decode cX3_step 172 = .ok (.baload, 1) := by decide +kernel
theorem dX3_step_173 : decode cX3_step 173 = .ok (.iadd, 1) := by decide +kernel
theorem dX3_step_174 : decode cX3_step 174 = .ok (.bipush 48, 2) := by decide +kernel
theorem dX3_step_176 : decode cX3_step 176 = .ok (.isub, 1) := by decide +kernel
theorem dX3_step_177 : decode cX3_step 177 = .ok (.invokestatic 206, 3) := by decide +kernel
theorem dX3_step_180 : decode cX3_step 180 = .ok (.putfield 31, 3) := by decide +kernel
theorem dX3_step_183 : decode cX3_step 183 = .ok (.aload_n 0, 1) := by decide +kernel
theorem dX3_step_184 : decode cX3_step 184 = .ok (.dup, 1) := by decide +kernel
theorem dX3_step_185 : decode cX3_step 185 = .ok (.getfield 25, 3) := by decide +kernel
theorem dX3_step_188 : decode cX3_step 188 = .ok (.iconst 1, 1) := by decide +kernel
theorem dX3_step_189 : decode cX3_step 189 = .ok (.iadd, 1) := by decide +kernel
theorem dX3_step_190 : decode cX3_step 190 = .ok (.putfield 25, 3) := by decide +kernel
theorem dX3_step_193 : decode cX3_step 193 = .ok (.goto (-74), 3) := by decide +kernel
theorem dX3_step_196 : decode cX3_step 196 = .ok (.aload_n 0, 1) := by decide +kernel
theorem dX3_step_197 : decode cX3_step 197 = .ok (.iload_n 1, 1) := by decide +kernel
theorem dX3_step_198 : decode cX3_step 198 = .ok (.bipush 59, 2) := by decide +kernel
theorem dX3_step_200 : decode cX3_step 200 = .ok (.if_icmp .ne 7, 3) := by decide +kernel
theorem dX3_step_203 : decode cX3_step 203 = .ok (.iconst 3, 1) := by decide +kernel
theorem dX3_step_204 : decode cX3_step 204 = .ok (.goto 4, 3) := by decide +kernel
theorem dX3_step_207 : decode cX3_step 207 = .ok (.iconst 4, 1) := by decide +kernel
theorem dX3_step_208 : decode cX3_step 208 = .ok (.putfield 28, 3) := by decide +kernel
theorem dX3_step_211 : decode cX3_step 211 = .ok (.aload_n 0, 1) := by decide +kernel
theorem dX3_step_212 : decode cX3_step 212 = .ok (.dup, 1) := by decide +kernel
theorem dX3_step_213 : decode cX3_step 213 = .ok (.getfield 25, 3) := by decide +kernel
theorem dX3_step_216 : decode cX3_step 216 = .ok (.iconst 1, 1) := by decide +kernel
theorem dX3_step_217 : decode cX3_step 217 = .ok (.iadd, 1) := by decide +kernel
theorem dX3_step_218 : decode cX3_step 218 = .ok (.putfield 25, 3) := by decide +kernel
theorem dX3_step_221 : decode cX3_step 221 = .ok (.return_, 1) := by decide +kernel
theorem dX3_skipBlanks_0 : decode cX3_skipBlanks 0 = .ok (.aload_n 0, 1) := by decide +kernel
theorem dX3_skipBlanks_1 : decode cX3_skipBlanks 1 = .ok (.getfield 25, 3) := by decide +kernel
theorem dX3_skipBlanks_4 : decode cX3_skipBlanks 4 = .ok (.aload_n 0, 1) := by decide +kernel
theorem dX3_skipBlanks_5 : decode cX3_skipBlanks 5 = .ok (.getfield 47, 3) := by decide +kernel
theorem dX3_skipBlanks_8 : decode cX3_skipBlanks 8 = .ok (.getfield 70, 3) := by decide +kernel
theorem dX3_skipBlanks_11 : decode cX3_skipBlanks 11 = .ok (.if_icmp .ge 50, 3) := by decide +kernel
theorem dX3_skipBlanks_14 : decode cX3_skipBlanks 14 = .ok (.aload_n 0, 1) := by decide +kernel
theorem dX3_skipBlanks_15 : decode cX3_skipBlanks 15 = .ok (.getfield 47, 3) := by decide +kernel
theorem dX3_skipBlanks_18 : decode cX3_skipBlanks 18 = .ok (.getfield 174, 3) := by decide +kernel
theorem dX3_skipBlanks_21 : decode cX3_skipBlanks 21 = .ok (.aload_n 0, 1) := by decide +kernel
theorem dX3_skipBlanks_22 : decode cX3_skipBlanks 22 = .ok (.getfield 25, 3) := by decide +kernel
theorem dX3_skipBlanks_25 : decode cX3_skipBlanks 25 = .ok (.baload, 1) := by decide +kernel
theorem dX3_skipBlanks_26 : decode cX3_skipBlanks 26 = .ok (.bipush 32, 2) := by decide +kernel
theorem dX3_skipBlanks_28 : decode cX3_skipBlanks 28 = .ok (.if_icmp .eq 20, 3) := by decide +kernel
theorem dX3_skipBlanks_31 : decode cX3_skipBlanks 31 = .ok (.aload_n 0, 1) := by decide +kernel
theorem dX3_skipBlanks_32 : decode cX3_skipBlanks 32 = .ok (.getfield 47, 3) := by decide +kernel
theorem dX3_skipBlanks_35 : decode cX3_skipBlanks 35 = .ok (.getfield 174, 3) := by decide +kernel
theorem dX3_skipBlanks_38 : decode cX3_skipBlanks 38 = .ok (.aload_n 0, 1) := by decide +kernel
theorem dX3_skipBlanks_39 : decode cX3_skipBlanks 39 = .ok (.getfield 25, 3) := by decide +kernel
theorem dX3_skipBlanks_42 : decode cX3_skipBlanks 42 = .ok (.baload, 1) := by decide +kernel
theorem dX3_skipBlanks_43 : decode cX3_skipBlanks 43 = .ok (.bipush 10, 2) := by decide +kernel
theorem dX3_skipBlanks_45 : decode cX3_skipBlanks 45 = .ok (.if_icmp .ne 16, 3) := by decide +kernel
theorem dX3_skipBlanks_48 : decode cX3_skipBlanks 48 = .ok (.aload_n 0, 1) := by decide +kernel
theorem dX3_skipBlanks_49 : decode cX3_skipBlanks 49 = .ok (.dup, 1) := by decide +kernel
theorem dX3_skipBlanks_50 : decode cX3_skipBlanks 50 = .ok (.getfield 25, 3) := by decide +kernel
theorem dX3_skipBlanks_53 : decode cX3_skipBlanks 53 = .ok (.iconst 1, 1) := by decide +kernel
theorem dX3_skipBlanks_54 : decode cX3_skipBlanks 54 = .ok (.iadd, 1) := by decide +kernel
theorem dX3_skipBlanks_55 : decode cX3_skipBlanks 55 = .ok (.putfield 25, 3) := by decide +kernel
theorem dX3_skipBlanks_58 : decode cX3_skipBlanks 58 = .ok (.goto (-58), 3) := by decide +kernel
theorem dX3_skipBlanks_61 : decode cX3_skipBlanks 61 = .ok (.return_, 1) := by decide +kernel
theorem dX3_isLetter_0 : decode cX3_isLetter 0 = .ok (.iload_n 0, 1) := by decide +kernel
theorem dX3_isLetter_1 : decode cX3_isLetter 1 = .ok (.bipush 97, 2) := by decide +kernel
theorem dX3_isLetter_3 : decode cX3_isLetter 3 = .ok (.if_icmp .lt 13, 3) := by decide +kernel
theorem dX3_isLetter_6 : decode cX3_isLetter 6 = .ok (.iload_n 0, 1) := by decide +kernel
theorem dX3_isLetter_7 : decode cX3_isLetter 7 = .ok (.bipush 122, 2) := by decide +kernel
theorem dX3_isLetter_9 : decode cX3_isLetter 9 = .ok (.if_icmp .gt 7, 3) := by decide +kernel
theorem dX3_isLetter_12 : decode cX3_isLetter 12 = .ok (.iconst 1, 1) := by decide +kernel
theorem dX3_isLetter_13 : decode cX3_isLetter 13 = .ok (.goto 4, 3) := by decide +kernel
theorem dX3_isLetter_16 : decode cX3_isLetter 16 = .ok (.iconst 0, 1) := by decide +kernel
theorem dX3_isLetter_17 : decode cX3_isLetter 17 = .ok (.ireturn, 1) := by decide +kernel
theorem dX3_isDigit_0 : decode cX3_isDigit 0 = .ok (.iload_n 0, 1) := by decide +kernel
theorem dX3_isDigit_1 : decode cX3_isDigit 1 = .ok (.bipush 48, 2) := by decide +kernel
theorem dX3_isDigit_3 : decode cX3_isDigit 3 = .ok (.if_icmp .lt 13, 3) := by decide +kernel
theorem dX3_isDigit_6 : decode cX3_isDigit 6 = .ok (.iload_n 0, 1) := by decide +kernel
theorem dX3_isDigit_7 : decode cX3_isDigit 7 = .ok (.bipush 57, 2) := by decide +kernel
theorem dX3_isDigit_9 : decode cX3_isDigit 9 = .ok (.if_icmp .gt 7, 3) := by decide +kernel
theorem dX3_isDigit_12 : decode cX3_isDigit 12 = .ok (.iconst 1, 1) := by decide +kernel
theorem dX3_isDigit_13 : decode cX3_isDigit 13 = .ok (.goto 4, 3) := by decide +kernel
theorem dX3_isDigit_16 : decode cX3_isDigit 16 = .ok (.iconst 0, 1) := by decide +kernel
theorem dX3_isDigit_17 : decode cX3_isDigit 17 = .ok (.ireturn, 1) := by decide +kernel
theorem dX4_init_0 : decode cX4_init 0 = .ok (.aload_n 0, 1) := by decide +kernel
theorem dX4_init_1 : decode cX4_init 1 = .ok (.invokespecial 3, 3) := by decide +kernel
theorem dX4_init_4 : decode cX4_init 4 = .ok (.aload_n 0, 1) := by decide +kernel
theorem dX4_init_5 : decode cX4_init 5 = .ok (.bipush 6, 2) := by decide +kernel
theorem dX4_init_7 : decode cX4_init 7 = .ok (.newarray .int, 2) := by decide +kernel
theorem dX4_init_9 : decode cX4_init 9 = .ok (.putfield 9, 3) := by decide +kernel
theorem dX4_init_12 : decode cX4_init 12 = .ok (.aload_n 0, 1) := by decide +kernel
theorem dX4_init_13 : decode cX4_init 13 = .ok (.bipush 6, 2) := by decide +kernel
theorem dX4_init_15 : decode cX4_init 15 = .ok (.newarray .int, 2) := by decide +kernel
theorem dX4_init_17 : decode cX4_init 17 = .ok (.putfield 15, 3) := by decide +kernel
theorem dX4_init_20 : decode cX4_init 20 = .ok (.aload_n 0, 1) := by decide +kernel
theorem dX4_init_21 : decode cX4_init 21 = .ok (.iconst 0, 1) := by decide +kernel
theorem dX4_init_22 : decode cX4_init 22 = .ok (.putfield 18, 3) := by decide +kernel
theorem dX4_init_25 : decode cX4_init 25 = .ok (.aload_n 0, 1) := by decide +kernel
theorem dX4_init_26 : decode cX4_init 26 = .ok (.iconst 0, 1) := by decide +kernel
theorem dX4_init_27 : decode cX4_init 27 = .ok (.putfield 22, 3) := by decide +kernel
theorem dX4_init_30 : decode cX4_init 30 = .ok (.aload_n 0, 1) := by decide +kernel
theorem dX4_init_31 : decode cX4_init 31 = .ok (.iconst 0, 1) := by decide +kernel
theorem dX4_init_32 : decode cX4_init 32 = .ok (.putfield 25, 3) := by decide +kernel
theorem dX4_init_35 : decode cX4_init 35 = .ok (.aload_n 0, 1) := by decide +kernel
theorem dX4_init_36 : decode cX4_init 36 = .ok (.iconst 0, 1) := by decide +kernel
theorem dX4_init_37 : decode cX4_init 37 = .ok (.putfield 28, 3) := by decide +kernel
theorem dX4_init_40 : decode cX4_init 40 = .ok (.aload_n 0, 1) := by decide +kernel
theorem dX4_init_41 : decode cX4_init 41 = .ok (.iconst (-1), 1) := by decide +kernel
theorem dX4_init_42 : decode cX4_init 42 = .ok (.putfield 31, 3) := by decide +kernel
theorem dX4_init_45 : decode cX4_init 45 = .ok (.aload_n 0, 1) := by decide +kernel
theorem dX4_init_46 : decode cX4_init 46 = .ok (.bipush 6, 2) := by decide +kernel
theorem dX4_init_48 : decode cX4_init 48 = .ok (.newarray .int, 2) := by decide +kernel
theorem dX4_init_50 : decode cX4_init 50 = .ok (.putfield 34, 3) := by decide +kernel
theorem dX4_init_53 : decode cX4_init 53 = .ok (.return_, 1) := by decide +kernel
theorem dX4_backOf_0 : decode cX4_backOf 0 = .ok (.aload_n 0, 1) := by decide +kernel
theorem dX4_backOf_1 : decode cX4_backOf 1 = .ok (.getfield 37, 3) := by decide +kernel
theorem dX4_backOf_4 : decode cX4_backOf 4 = .ok (.iload 4, 2) := by decide +kernel
theorem dX4_backOf_6 : decode cX4_backOf 6 = .ok (.imul, 1) := by decide +kernel
theorem dX4_backOf_7 : decode cX4_backOf 7 = .ok (.istore 5, 2) := by decide +kernel
theorem dX4_backOf_9 : decode cX4_backOf 9 = .ok (.iload 5, 2) := by decide +kernel
theorem dX4_backOf_11 : decode cX4_backOf 11 = .ok (.iconst 1, 1) := by decide +kernel
theorem dX4_backOf_12 : decode cX4_backOf 12 = .ok (.if_icmp .ge 7, 3) := by decide +kernel
theorem dX4_backOf_15 : decode cX4_backOf 15 = .ok (.sipush 1000, 3) := by decide +kernel
theorem dX4_backOf_18 : decode cX4_backOf 18 = .ok (.ireturn, 1) := by decide +kernel
theorem dX4_backOf_19 : decode cX4_backOf 19 = .ok (.iload_n 2, 1) := by decide +kernel
theorem dX4_backOf_20 : decode cX4_backOf 20 = .ok (.aload_n 0, 1) := by decide +kernel
theorem dX4_backOf_21 : decode cX4_backOf 21 = .ok (.getfield 42, 3) := by decide +kernel
theorem dX4_backOf_24 : decode cX4_backOf 24 = .ok (.iload_n 1, 1) := by decide +kernel
theorem dX4_backOf_25 : decode cX4_backOf 25 = .ok (.iaload, 1) := by decide +kernel
theorem dX4_backOf_26 : decode cX4_backOf 26 = .ok (.iadd, 1) := by decide +kernel
theorem dX4_backOf_27 : decode cX4_backOf 27 = .ok (.istore 6, 2) := by decide +kernel
theorem dX4_backOf_29 : decode cX4_backOf 29 = .ok (.sipush 256, 3) := by decide +kernel
theorem dX4_backOf_32 : decode cX4_backOf 32 = .ok (.iload_n 3, 1) := by decide +kernel
theorem dX4_backOf_33 : decode cX4_backOf 33 = .ok (.bipush 16, 2) := by decide +kernel
theorem dX4_backOf_35 : decode cX4_backOf 35 = .ok (.aload_n 0, 1) := by decide +kernel
theorem dX4_backOf_36 : decode cX4_backOf 36 = .ok (.getfield 45, 3) := by decide +kernel
theorem dX4_backOf_39 : decode cX4_backOf 39 = .ok (.isub, 1) := by decide +kernel
theorem dX4_backOf_40 : decode cX4_backOf 40 = .ok (.imul, 1) := by decide +kernel
theorem dX4_backOf_41 : decode cX4_backOf 41 = .ok (.isub, 1) := by decide +kernel
theorem dX4_backOf_42 : decode cX4_backOf 42 = .ok (.istore 7, 2) := by decide +kernel
theorem dX4_backOf_44 : decode cX4_backOf 44 = .ok (.sipush 1000, 3) := by decide +kernel
theorem dX4_backOf_47 : decode cX4_backOf 47 = .ok (.istore 8, 2) := by decide +kernel
theorem dX4_backOf_49 : decode cX4_backOf 49 = .ok (.iload_n 2, 1) := by decide +kernel
theorem dX4_backOf_50 : decode cX4_backOf 50 = .ok (.iload 5, 2) := by decide +kernel
theorem dX4_backOf_52 : decode cX4_backOf 52 = .ok (.idiv, 1) := by decide +kernel
theorem dX4_backOf_53 : decode cX4_backOf 53 = .ok (.iconst 1, 1) := by decide +kernel
theorem dX4_backOf_54 : decode cX4_backOf 54 = .ok (.iadd, 1) := by decide +kernel
theorem dX4_backOf_55 : decode cX4_backOf 55 = .ok (.iload 5, 2) := by decide +kernel
theorem dX4_backOf_57 : decode cX4_backOf 57 = .ok (.imul, 1) := by decide +kernel
theorem dX4_backOf_58 : decode cX4_backOf 58 = .ok (.istore 9, 2) := by decide +kernel
theorem dX4_backOf_60 : decode cX4_backOf 60 = .ok (.iload 9, 2) := by decide +kernel
theorem dX4_backOf_62 : decode cX4_backOf 62 = .ok (.iload 6, 2) := by decide +kernel
theorem dX4_backOf_64 : decode cX4_backOf 64 = .ok (.if_icmp .ge 24, 3) := by decide +kernel
theorem dX4_backOf_67 : decode cX4_backOf 67 = .ok (.iload 8, 2) := by decide +kernel
theorem dX4_backOf_69 : decode cX4_backOf 69 = .ok (.iload 7, 2) := by decide +kernel
theorem dX4_backOf_71 : decode cX4_backOf 71 = .ok (.imul, 1) := by decide +kernel
theorem dX4_backOf_72 : decode cX4_backOf 72 = .ok (.sipush 256, 3) := by decide +kernel
theorem dX4_backOf_75 : decode cX4_backOf 75 = .ok (.idiv, 1) := by decide +kernel
theorem dX4_backOf_76 : decode cX4_backOf 76 = .ok (.istore 8, 2) := by decide +kernel
theorem dX4_backOf_78 : decode cX4_backOf 78 = .ok (.iload 9, 2) := by decide +kernel
theorem dX4_backOf_80 : decode cX4_backOf 80 = .ok (.iload 5, 2) := by decide +kernel
theorem dX4_backOf_82 : decode cX4_backOf 82 = .ok (.iadd, 1) := by decide +kernel
theorem dX4_backOf_83 : decode cX4_backOf 83 = .ok (.istore 9, 2) := by decide +kernel
theorem dX4_backOf_85 : decode cX4_backOf 85 = .ok (.goto (-25), 3) := by decide +kernel
theorem dX4_backOf_88 : decode cX4_backOf 88 = .ok (.iload 8, 2) := by decide +kernel
theorem dX4_backOf_90 : decode cX4_backOf 90 = .ok (.sipush 1000, 3) := by decide +kernel
theorem dX4_backOf_93 : decode cX4_backOf 93 = .ok (.iload 8, 2) := by decide +kernel
theorem dX4_backOf_95 : decode cX4_backOf 95 = .ok (.isub, 1) := by decide +kernel
theorem dX4_backOf_96 : decode cX4_backOf 96 = .ok (.aload_n 0, 1) := by decide +kernel
theorem dX4_backOf_97 : decode cX4_backOf 97 = .ok (.getfield 48, 3) := by decide +kernel
theorem dX4_backOf_100 : decode cX4_backOf 100 = .ok (.iload_n 1, 1) := by decide +kernel
theorem dX4_backOf_101 : decode cX4_backOf 101 = .ok (.iaload, 1) := by decide +kernel
theorem dX4_backOf_102 : decode cX4_backOf 102 = .ok (.imul, 1) := by decide +kernel
theorem dX4_backOf_103 : decode cX4_backOf 103 = .ok (.bipush 16, 2) := by decide +kernel
theorem dX4_backOf_105 : decode cX4_backOf 105 = .ok (.idiv, 1) := by decide +kernel
theorem dX4_backOf_106 : decode cX4_backOf 106 = .ok (.iadd, 1) := by decide +kernel
theorem dX4_backOf_107 : decode cX4_backOf 107 = .ok (.ireturn, 1) := by decide +kernel
theorem dX4_leastPrice_0 : decode cX4_leastPrice 0 = .ok (.iload_n 2, 1) := by decide +kernel
theorem dX4_leastPrice_1 : decode cX4_leastPrice 1 = .ok (.iconst 1, 1) := by decide +kernel
theorem dX4_leastPrice_2 : decode cX4_leastPrice 2 = .ok (.if_icmp .ge 5, 3) := by decide +kernel
theorem dX4_leastPrice_5 : decode cX4_leastPrice 5 = .ok (.iconst (-1), 1) := by decide +kernel
theorem dX4_leastPrice_6 : decode cX4_leastPrice 6 = .ok (.ireturn, 1) := by decide +kernel
theorem dX4_leastPrice_7 : decode cX4_leastPrice 7 = .ok (.bipush 100, 2) := by decide +kernel
theorem dX4_leastPrice_9 : decode cX4_leastPrice 9 = .ok (.aload_n 0, 1) := by decide +kernel
theorem dX4_leastPrice_10 : decode cX4_leastPrice 10 = .ok (.getfield 51, 3) := by decide +kernel
theorem dX4_leastPrice_13 : decode cX4_leastPrice 13 = .ok (.aload_n 0, 1) := by decide +kernel
theorem dX4_leastPrice_14 : decode cX4_leastPrice 14 = .ok (.getfield 42, 3) := by decide +kernel
theorem dX4_leastPrice_17 : decode cX4_leastPrice 17 = .ok (.iload_n 1, 1) := by decide +kernel
theorem dX4_leastPrice_18 : decode cX4_leastPrice 18 = .ok (.iaload, 1) := by decide +kernel
theorem dX4_leastPrice_19 : decode cX4_leastPrice 19 = .ok (.imul, 1) := by decide +kernel
theorem dX4_leastPrice_20 : decode cX4_leastPrice 20 = .ok (.bipush 10, 2) := by decide +kernel
theorem dX4_leastPrice_22 : decode cX4_leastPrice 22 = .ok (.idiv, 1) := by decide +kernel
theorem dX4_leastPrice_23 : decode cX4_leastPrice 23 = .ok (.iadd, 1) := by decide +kernel
theorem dX4_leastPrice_24 : decode cX4_leastPrice 24 = .ok (.sipush 1000, 3) := by decide +kernel
theorem dX4_leastPrice_27 : decode cX4_leastPrice 27 = .ok (.imul, 1) := by decide +kernel
theorem dX4_leastPrice_28 : decode cX4_leastPrice 28 = .ok (.istore_n 3, 1) := by decide +kernel
theorem dX4_leastPrice_29 : decode cX4_leastPrice 29 = .ok (.iload_n 3, 1) := by decide +kernel
theorem dX4_leastPrice_30 : decode cX4_leastPrice 30 = .ok (.iload_n 2, 1) := by decide +kernel
theorem dX4_leastPrice_31 : decode cX4_leastPrice 31 = .ok (.iadd, 1) := by decide +kernel
theorem dX4_leastPrice_32 : decode cX4_leastPrice 32 = .ok (.iconst 1, 1) := by decide +kernel
theorem dX4_leastPrice_33 : decode cX4_leastPrice 33 = .ok (.isub, 1) := by decide +kernel
theorem dX4_leastPrice_34 : decode cX4_leastPrice 34 = .ok (.iload_n 2, 1) := by decide +kernel
theorem dX4_leastPrice_35 : decode cX4_leastPrice 35 = .ok (.idiv, 1) := by decide +kernel
theorem dX4_leastPrice_36 : decode cX4_leastPrice 36 = .ok (.bipush 100, 2) := by decide +kernel
theorem dX4_leastPrice_38 : decode cX4_leastPrice 38 = .ok (.isub, 1) := by decide +kernel
theorem dX4_leastPrice_39 : decode cX4_leastPrice 39 = .ok (.istore 4, 2) := by decide +kernel
theorem dX4_leastPrice_41 : decode cX4_leastPrice 41 = .ok (.iload 4, 2) := by decide +kernel
theorem dX4_leastPrice_43 : decode cX4_leastPrice 43 = .ok (.sipush 400, 3) := by decide +kernel
theorem dX4_leastPrice_46 : decode cX4_leastPrice 46 = .ok (.if_icmp .le 7, 3) := by decide +kernel
theorem dX4_leastPrice_49 : decode cX4_leastPrice 49 = .ok (.iconst (-1), 1) := by decide +kernel
theorem dX4_leastPrice_50 : decode cX4_leastPrice 50 = .ok (.goto 5, 3) := by decide +kernel
theorem dX4_leastPrice_53 : decode cX4_leastPrice 53 = .ok (.iload 4, 2) := by decide +kernel
theorem dX4_leastPrice_55 : decode cX4_leastPrice 55 = .ok (.ireturn, 1) := by decide +kernel
theorem dX4_mostPrice_0 : decode cX4_mostPrice 0 = .ok (.aload_n 0, 1) := by decide +kernel
theorem dX4_mostPrice_1 : decode cX4_mostPrice 1 = .ok (.getfield 54, 3) := by decide +kernel
theorem dX4_mostPrice_4 : decode cX4_mostPrice 4 = .ok (.iload_n 1, 1) := by decide +kernel
theorem dX4_mostPrice_5 : decode cX4_mostPrice 5 = .ok (.iaload, 1) := by decide +kernel
theorem dX4_mostPrice_6 : decode cX4_mostPrice 6 = .ok (.iconst 1, 1) := by decide +kernel
theorem dX4_mostPrice_7 : decode cX4_mostPrice 7 = .ok (.if_icmp .ge 5, 3) := by decide +kernel
theorem dX4_mostPrice_10 : decode cX4_mostPrice 10 = .ok (.iconst (-1), 1) := by decide +kernel
theorem dX4_mostPrice_11 : decode cX4_mostPrice 11 = .ok (.ireturn, 1) := by decide +kernel
theorem dX4_mostPrice_12 : decode cX4_mostPrice 12 = .ok (.sipush 400, 3) := by decide +kernel
theorem dX4_mostPrice_15 : decode cX4_mostPrice 15 = .ok (.aload_n 0, 1) := by decide +kernel
theorem dX4_mostPrice_16 : decode cX4_mostPrice 16 = .ok (.getfield 57, 3) := by decide +kernel
theorem dX4_mostPrice_19 : decode cX4_mostPrice 19 = .ok (.iload_n 1, 1) := by decide +kernel
theorem dX4_mostPrice_20 : decode cX4_mostPrice 20 = .ok (.iaload, 1) := by decide +kernel
theorem dX4_mostPrice_21 : decode cX4_mostPrice 21 = .ok (.bipush 100, 2) := by decide +kernel
theorem dX4_mostPrice_23 : decode cX4_mostPrice 23 = .ok (.imul, 1) := by decide +kernel
theorem dX4_mostPrice_24 : decode cX4_mostPrice 24 = .ok (.aload_n 0, 1) := by decide +kernel
theorem dX4_mostPrice_25 : decode cX4_mostPrice 25 = .ok (.getfield 54, 3) := by decide +kernel
theorem dX4_mostPrice_28 : decode cX4_mostPrice 28 = .ok (.iload_n 1, 1) := by decide +kernel
theorem dX4_mostPrice_29 : decode cX4_mostPrice 29 = .ok (.iaload, 1) := by decide +kernel
theorem dX4_mostPrice_30 : decode cX4_mostPrice 30 = .ok (.idiv, 1) := by decide +kernel
theorem dX4_mostPrice_31 : decode cX4_mostPrice 31 = .ok (.invokestatic 60, 3) := by decide +kernel
theorem dX4_mostPrice_34 : decode cX4_mostPrice 34 = .ok (.ireturn, 1) := by decide +kernel
theorem ilX4_marginOf_wsX10 : ∀ w ∈ wsX10, w ∈ wsX4_marginOf := fun _ h => List.mem_cons_of_mem _ (List.mem_append_right _ (h))
set_option maxRecDepth 20000 in
theorem ggX4_marginOf_X4_mostPrice : GoodIn wsX4_marginOf wsX4_mostPrice := goodIn_sub (List.forall_mem_cons.mpr ⟨List.mem_cons_of_mem _ (List.mem_append_left _ (List.mem_of_getElem? (i := 3) rfl)), (List.forall_mem_append.mpr ⟨(List.forall_mem_cons.mpr ⟨List.mem_cons_of_mem _ (List.mem_append_left _ (List.mem_of_getElem? (i := 4) rfl)), (List.forall_mem_cons.mpr ⟨List.mem_cons_of_mem _ (List.mem_append_left _ (List.mem_of_getElem? (i := 5) rfl)), (List.forall_mem_cons.mpr ⟨List.mem_cons_of_mem _ (List.mem_append_left _ (List.mem_of_getElem? (i := 6) rfl)), (List.forall_mem_cons.mpr ⟨List.mem_cons_of_mem _ (List.mem_append_left _ (List.mem_of_getElem? (i := 7) rfl)), (List.forall_mem_cons.mpr ⟨List.mem_cons_of_mem _ (List.mem_append_left _ (List.mem_of_getElem? (i := 8) rfl)), (List.forall_mem_cons.mpr ⟨List.mem_cons_of_mem _ (List.mem_append_left _ (List.mem_of_getElem? (i := 9) rfl)), (fun _ h => absurd h List.not_mem_nil)⟩)⟩)⟩)⟩)⟩)⟩), ilX4_marginOf_wsX10⟩)⟩) (by decide +kernel)
set_option maxRecDepth 20000 in
theorem gX4_marginOf_X4_mostPrice : GoodIn wsX4_marginOf (va_wsS RX4 66 yX4_mostPrice wsX4_mostPrice) := goodIn_app (goodIn_of _ (by decide +kernel)) ggX4_marginOf_X4_mostPrice
set_option maxRecDepth 20000 in
theorem ggX4_marginOf_X4_backOf : GoodIn wsX4_marginOf wsX4_backOf := goodIn_sub (List.forall_mem_cons.mpr ⟨List.mem_cons_of_mem _ (List.mem_append_left _ (List.mem_of_getElem? (i := 12) rfl)), (List.forall_mem_append.mpr ⟨(List.forall_mem_cons.mpr ⟨List.mem_cons_of_mem _ (List.mem_append_left _ (List.mem_of_getElem? (i := 13) rfl)), (List.forall_mem_cons.mpr ⟨List.mem_cons_of_mem _ (List.mem_append_left _ (List.mem_of_getElem? (i := 14) rfl)), (List.forall_mem_cons.mpr ⟨List.mem_cons_of_mem _ (List.mem_append_left _ (List.mem_of_getElem? (i := 15) rfl)), (List.forall_mem_cons.mpr ⟨List.mem_cons_of_mem _ (List.mem_append_left _ (List.mem_of_getElem? (i := 16) rfl)), (fun _ h => absurd h List.not_mem_nil)⟩)⟩)⟩)⟩), ilX4_marginOf_wsX10⟩)⟩) (by decide +kernel)
set_option maxRecDepth 20000 in
theorem gX4_marginOf_X4_backOf : GoodIn wsX4_marginOf (va_wsS RX4 70 yX4_backOf wsX4_backOf) := goodIn_app (goodIn_of _ (by decide +kernel)) ggX4_marginOf_X4_backOf
set_option maxRecDepth 20000 in
theorem ggX4_marginOf_X4_leastPrice : GoodIn wsX4_marginOf wsX4_leastPrice := goodIn_sub (List.forall_mem_cons.mpr ⟨List.mem_cons_of_mem _ (List.mem_append_left _ (List.mem_of_getElem? (i := 19) rfl)), (List.forall_mem_append.mpr ⟨(List.forall_mem_cons.mpr ⟨List.mem_cons_of_mem _ (List.mem_append_left _ (List.mem_of_getElem? (i := 20) rfl)), (List.forall_mem_cons.mpr ⟨List.mem_cons_of_mem _ (List.mem_append_left _ (List.mem_of_getElem? (i := 14) rfl)), (fun _ h => absurd h List.not_mem_nil)⟩)⟩), ilX4_marginOf_wsX10⟩)⟩) (by decide +kernel)
set_option maxRecDepth 20000 in
theorem gX4_marginOf_X4_leastPrice : GoodIn wsX4_marginOf (va_wsS RX4 74 yX4_leastPrice wsX4_leastPrice) := goodIn_app (goodIn_of _ (by decide +kernel)) ggX4_marginOf_X4_leastPrice
theorem dX4_marginOf_0 : decode cX4_marginOf 0 = .ok (.aload_n 0, 1) := by decide +kernel
theorem dX4_marginOf_1 : decode cX4_marginOf 1 = .ok (.iload_n 1, 1) := by decide +kernel
theorem dX4_marginOf_2 : decode cX4_marginOf 2 = .ok (.invokestatic 66, 3) := by decide +kernel
theorem dX4_marginOf_5 : decode cX4_marginOf 5 = .ok (.istore 5, 2) := by decide +kernel
theorem dX4_marginOf_7 : decode cX4_marginOf 7 = .ok (.aload_n 0, 1) := by decide +kernel
theorem dX4_marginOf_8 : decode cX4_marginOf 8 = .ok (.iload_n 1, 1) := by decide +kernel
theorem dX4_marginOf_9 : decode cX4_marginOf 9 = .ok (.aload_n 0, 1) := by decide +kernel
theorem dX4_marginOf_10 : decode cX4_marginOf 10 = .ok (.iload_n 1, 1) := by decide +kernel
theorem dX4_marginOf_11 : decode cX4_marginOf 11 = .ok (.iload_n 2, 1) := by decide +kernel
theorem dX4_marginOf_12 : decode cX4_marginOf 12 = .ok (.iload_n 3, 1) := by decide +kernel
theorem dX4_marginOf_13 : decode cX4_marginOf 13 = .ok (.iload 4, 2) := by decide +kernel
theorem dX4_marginOf_15 : decode cX4_marginOf 15 = .ok (.invokestatic 70, 3) := by decide +kernel
theorem dX4_marginOf_18 : decode cX4_marginOf 18 = .ok (.invokestatic 74, 3) := by decide +kernel
theorem dX4_marginOf_21 : decode cX4_marginOf 21 = .ok (.istore 6, 2) := by decide +kernel
theorem dX4_marginOf_23 : decode cX4_marginOf 23 = .ok (.iload 6, 2) := by decide +kernel
