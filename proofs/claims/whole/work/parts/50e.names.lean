set_option maxRecDepth 20000 in
theorem gX8_goesOn_X8_pays : GoodIn wsX8_goesOn (wsV RX8 316 RX8 yX8_pays wsX8_pays) := goodIn_app (goodIn_sub (List.forall_mem_cons.mpr ⟨ilX8_goesOn_wsX8_goesOn_r1 _ (List.mem_of_getElem? (i := 10) rfl), (List.forall_mem_cons.mpr ⟨ilX8_goesOn_wsX8_goesOn_r1 _ (List.mem_of_getElem? (i := 11) rfl), (List.forall_mem_cons.mpr ⟨ilX8_goesOn_wsX8_goesOn_r1 _ (List.mem_of_getElem? (i := 12) rfl), (List.forall_mem_cons.mpr ⟨ilX8_goesOn_wsX8_goesOn_r1 _ (List.mem_of_getElem? (i := 7) rfl), (fun _ h => absurd h List.not_mem_nil)⟩)⟩)⟩)⟩) (by decide +kernel)) ggX8_goesOn_X8_pays
set_option maxRecDepth 20000 in
theorem ggX8_goesOn_X8_isStruck : GoodIn wsX8_goesOn wsX8_isStruck := goodIn_sub (List.forall_mem_cons.mpr ⟨ilX8_goesOn_wsX8_goesOn_r2 _ (List.mem_of_getElem? (i := 3) rfl), (List.forall_mem_append.mpr ⟨(List.forall_mem_cons.mpr ⟨ilX8_goesOn_wsX8_goesOn_r2 _ (List.mem_of_getElem? (i := 4) rfl), (fun _ h => absurd h List.not_mem_nil)⟩), ilX8_goesOn_wsX80⟩)⟩) (by decide +kernel)
set_option maxRecDepth 20000 in
theorem gX8_goesOn_X8_isStruck : GoodIn wsX8_goesOn (wsV RX8 255 RX8 yX8_isStruck wsX8_isStruck) := goodIn_app (goodIn_sub (List.forall_mem_cons.mpr ⟨ilX8_goesOn_wsX8_goesOn_r2 _ (List.mem_of_getElem? (i := 0) rfl), (List.forall_mem_cons.mpr ⟨ilX8_goesOn_wsX8_goesOn_r2 _ (List.mem_of_getElem? (i := 1) rfl), (List.forall_mem_cons.mpr ⟨ilX8_goesOn_wsX8_goesOn_r2 _ (List.mem_of_getElem? (i := 2) rfl), (List.forall_mem_cons.mpr ⟨ilX8_goesOn_wsX8_goesOn_r1 _ (List.mem_of_getElem? (i := 7) rfl), (fun _ h => absurd h List.not_mem_nil)⟩)⟩)⟩)⟩) (by decide +kernel)) ggX8_goesOn_X8_isStruck
set_option maxRecDepth 20000 in
theorem ggX8_goesOn_X8_draws : GoodIn wsX8_goesOn wsX8_draws := goodIn_sub (List.forall_mem_cons.mpr ⟨ilX8_goesOn_wsX8_goesOn_r2 _ (List.mem_of_getElem? (i := 8) rfl), (List.forall_mem_append.mpr ⟨(List.forall_mem_cons.mpr ⟨ilX8_goesOn_wsX8_goesOn_r2 _ (List.mem_of_getElem? (i := 9) rfl), (List.forall_mem_cons.mpr ⟨ilX8_goesOn_wsX8_goesOn_r2 _ (List.mem_of_getElem? (i := 10) rfl), (List.forall_mem_cons.mpr ⟨ilX8_goesOn_wsX8_goesOn_r2 _ (List.mem_of_getElem? (i := 11) rfl), (List.forall_mem_cons.mpr ⟨ilX8_goesOn_wsX8_goesOn_r2 _ (List.mem_of_getElem? (i := 12) rfl), (List.forall_mem_cons.mpr ⟨ilX8_goesOn_wsX8_goesOn_r2 _ (List.mem_of_getElem? (i := 13) rfl), (List.forall_mem_cons.mpr ⟨ilX8_goesOn_wsX8_goesOn_r2 _ (List.mem_of_getElem? (i := 14) rfl), (fun _ h => absurd h List.not_mem_nil)⟩)⟩)⟩)⟩)⟩)⟩), ilX8_goesOn_wsX80⟩)⟩) (by decide +kernel)
set_option maxRecDepth 20000 in
theorem gX8_goesOn_X8_draws : GoodIn wsX8_goesOn (wsV RX8 320 RX8 yX8_draws wsX8_draws) := goodIn_app (goodIn_sub (List.forall_mem_cons.mpr ⟨ilX8_goesOn_wsX8_goesOn_r2 _ (List.mem_of_getElem? (i := 5) rfl), (List.forall_mem_cons.mpr ⟨ilX8_goesOn_wsX8_goesOn_r2 _ (List.mem_of_getElem? (i := 6) rfl), (List.forall_mem_cons.mpr ⟨ilX8_goesOn_wsX8_goesOn_r2 _ (List.mem_of_getElem? (i := 7) rfl), (List.forall_mem_cons.mpr ⟨ilX8_goesOn_wsX8_goesOn_r1 _ (List.mem_of_getElem? (i := 7) rfl), (fun _ h => absurd h List.not_mem_nil)⟩)⟩)⟩)⟩) (by decide +kernel)) ggX8_goesOn_X8_draws
set_option maxRecDepth 20000 in
theorem ggX8_goesOn_X8_of : GoodIn wsX8_goesOn wsX8_of := goodIn_sub (List.forall_mem_cons.mpr ⟨ilX8_goesOn_wsX8_goesOn_r1 _ (List.mem_of_getElem? (i := 22) rfl), (List.forall_mem_append.mpr ⟨(List.forall_mem_cons.mpr ⟨ilX8_goesOn_wsX8_goesOn_r1 _ (List.mem_of_getElem? (i := 23) rfl), (fun _ h => absurd h List.not_mem_nil)⟩), ilX8_goesOn_wsX80⟩)⟩) (by decide +kernel)
set_option maxRecDepth 20000 in
theorem gX8_goesOn_X8_of : GoodIn wsX8_goesOn (wsV RX8 217 RX8 yX8_of wsX8_of) := goodIn_app (goodIn_sub (List.forall_mem_cons.mpr ⟨ilX8_goesOn_wsX8_goesOn_r1 _ (List.mem_of_getElem? (i := 19) rfl), (List.forall_mem_cons.mpr ⟨ilX8_goesOn_wsX8_goesOn_r1 _ (List.mem_of_getElem? (i := 20) rfl), (List.forall_mem_cons.mpr ⟨ilX8_goesOn_wsX8_goesOn_r1 _ (List.mem_of_getElem? (i := 21) rfl), (List.forall_mem_cons.mpr ⟨ilX8_goesOn_wsX8_goesOn_r1 _ (List.mem_of_getElem? (i := 7) rfl), (fun _ h => absurd h List.not_mem_nil)⟩)⟩)⟩)⟩) (by decide +kernel)) ggX8_goesOn_X8_of
set_option maxRecDepth 20000 in
theorem ggX8_goesOn_X8_strikes : GoodIn wsX8_goesOn wsX8_strikes := goodIn_sub (List.forall_mem_cons.mpr ⟨ilX8_goesOn_wsX8_goesOn_r2 _ (List.mem_of_getElem? (i := 18) rfl), (List.forall_mem_append.mpr ⟨(List.forall_mem_cons.mpr ⟨ilX8_goesOn_wsX8_goesOn_r2 _ (List.mem_of_getElem? (i := 19) rfl), (List.forall_mem_cons.mpr ⟨ilX8_goesOn_wsX8_goesOn_r1 _ (List.mem_of_getElem? (i := 9) rfl), (List.forall_mem_cons.mpr ⟨ilX8_goesOn_wsX8_goesOn_r2 _ (List.mem_of_getElem? (i := 20) rfl), (List.forall_mem_cons.mpr ⟨ilX8_goesOn_wsX8_goesOn_r2 _ (List.mem_of_getElem? (i := 21) rfl), (List.forall_mem_cons.mpr ⟨ilX8_goesOn_wsX8_goesOn_r2 _ (List.mem_of_getElem? (i := 22) rfl), (List.forall_mem_cons.mpr ⟨ilX8_goesOn_wsX8_goesOn_r1 _ (List.mem_of_getElem? (i := 4) rfl), (List.forall_mem_cons.mpr ⟨ilX8_goesOn_wsX8_goesOn_r1 _ (List.mem_of_getElem? (i := 5) rfl), (List.forall_mem_cons.mpr ⟨ilX8_goesOn_wsX8_goesOn_r1 _ (List.mem_of_getElem? (i := 6) rfl), (List.forall_mem_cons.mpr ⟨ilX8_goesOn_wsX8_goesOn_r1 _ (List.mem_of_getElem? (i := 7) rfl), (List.forall_mem_cons.mpr ⟨ilX8_goesOn_wsX8_goesOn_r1 _ (List.mem_of_getElem? (i := 8) rfl), (fun _ h => absurd h List.not_mem_nil)⟩)⟩)⟩)⟩)⟩)⟩)⟩)⟩)⟩)⟩), ilX8_goesOn_wsX80⟩)⟩) (by decide +kernel)
set_option maxRecDepth 20000 in
theorem gX8_goesOn_X8_strikes : GoodIn wsX8_goesOn (wsV RX8 323 RX8 yX8_strikes wsX8_strikes) := goodIn_app (goodIn_sub (List.forall_mem_cons.mpr ⟨ilX8_goesOn_wsX8_goesOn_r2 _ (List.mem_of_getElem? (i := 15) rfl), (List.forall_mem_cons.mpr ⟨ilX8_goesOn_wsX8_goesOn_r2 _ (List.mem_of_getElem? (i := 16) rfl), (List.forall_mem_cons.mpr ⟨ilX8_goesOn_wsX8_goesOn_r2 _ (List.mem_of_getElem? (i := 17) rfl), (List.forall_mem_cons.mpr ⟨ilX8_goesOn_wsX8_goesOn_r1 _ (List.mem_of_getElem? (i := 7) rfl), (fun _ h => absurd h List.not_mem_nil)⟩)⟩)⟩)⟩) (by decide +kernel)) ggX8_goesOn_X8_strikes
theorem dX8_goesOn_0 : decode cX8_goesOn 0 = .ok (.aload_n 0, 1) := by decide +kernel
theorem dX8_goesOn_1 : decode cX8_goesOn 1 = .ok (.dup, 1) := by decide +kernel
theorem dX8_goesOn_2 : decode cX8_goesOn 2 = .ok (.getfield 211, 3) := by decide +kernel
theorem dX8_goesOn_5 : decode cX8_goesOn 5 = .ok (.iconst 1, 1) := by decide +kernel
theorem dX8_goesOn_6 : decode cX8_goesOn 6 = .ok (.iadd, 1) := by decide +kernel
theorem dX8_goesOn_7 : decode cX8_goesOn 7 = .ok (.putfield 211, 3) := by decide +kernel
theorem dX8_goesOn_10 : decode cX8_goesOn 10 = .ok (.iconst 0, 1) := by decide +kernel
theorem dX8_goesOn_11 : decode cX8_goesOn 11 = .ok (.istore_n 2, 1) := by decide +kernel
theorem dX8_goesOn_12 : decode cX8_goesOn 12 = .ok (.iload_n 2, 1) := by decide +kernel
theorem dX8_goesOn_13 : decode cX8_goesOn 13 = .ok (.bipush 40, 2) := by decide +kernel
theorem dX8_goesOn_15 : decode cX8_goesOn 15 = .ok (.if_icmp .ge 36, 3) := by decide +kernel
theorem dX8_goesOn_18 : decode cX8_goesOn 18 = .ok (.aload_n 0, 1) := by decide +kernel
theorem dX8_goesOn_19 : decode cX8_goesOn 19 = .ok (.iload_n 2, 1) := by decide +kernel
theorem dX8_goesOn_20 : decode cX8_goesOn 20 = .ok (.iconst 3, 1) := by decide +kernel
theorem dX8_goesOn_21 : decode cX8_goesOn 21 = .ok (.invokevirtual 305, 3) := by decide +kernel
theorem dX8_goesOn_24 : decode cX8_goesOn 24 = .ok (.ifCond .le 21, 3) := by decide +kernel
theorem dX8_goesOn_27 : decode cX8_goesOn 27 = .ok (.aload_n 0, 1) := by decide +kernel
theorem dX8_goesOn_28 : decode cX8_goesOn 28 = .ok (.iload_n 2, 1) := by decide +kernel
theorem dX8_goesOn_29 : decode cX8_goesOn 29 = .ok (.iconst 5, 1) := by decide +kernel
theorem dX8_goesOn_30 : decode cX8_goesOn 30 = .ok (.invokevirtual 305, 3) := by decide +kernel
theorem dX8_goesOn_33 : decode cX8_goesOn 33 = .ok (.aload_n 0, 1) := by decide +kernel
theorem dX8_goesOn_34 : decode cX8_goesOn 34 = .ok (.getfield 211, 3) := by decide +kernel
theorem dX8_goesOn_37 : decode cX8_goesOn 37 = .ok (.if_icmp .ne 8, 3) := by decide +kernel
theorem dX8_goesOn_40 : decode cX8_goesOn 40 = .ok (.aload_n 0, 1) := by decide +kernel
theorem dX8_goesOn_41 : decode cX8_goesOn 41 = .ok (.iload_n 2, 1) := by decide +kernel
theorem dX8_goesOn_42 : decode cX8_goesOn 42 = .ok (.invokevirtual 316, 3) := by decide +kernel
theorem dX8_goesOn_45 : decode cX8_goesOn 45 = .ok (.iinc 2 1, 3) := by decide +kernel
theorem dX8_goesOn_48 : decode cX8_goesOn 48 = .ok (.goto (-36), 3) := by decide +kernel
theorem dX8_goesOn_51 : decode cX8_goesOn 51 = .ok (.aload_n 0, 1) := by decide +kernel
theorem dX8_goesOn_52 : decode cX8_goesOn 52 = .ok (.aload_n 0, 1) := by decide +kernel
theorem dX8_goesOn_53 : decode cX8_goesOn 53 = .ok (.getfield 211, 3) := by decide +kernel
theorem dX8_goesOn_56 : decode cX8_goesOn 56 = .ok (.aload_n 0, 1) := by decide +kernel
theorem dX8_goesOn_57 : decode cX8_goesOn 57 = .ok (.getfield 232, 3) := by decide +kernel
theorem dX8_goesOn_60 : decode cX8_goesOn 60 = .ok (.invokevirtual 255, 3) := by decide +kernel
theorem dX8_goesOn_63 : decode cX8_goesOn 63 = .ok (.ifCond .ne 4, 3) := by decide +kernel
theorem dX8_goesOn_66 : decode cX8_goesOn 66 = .ok (.return_, 1) := by decide +kernel
theorem dX8_goesOn_67 : decode cX8_goesOn 67 = .ok (.iload_n 1, 1) := by decide +kernel
theorem dX8_goesOn_68 : decode cX8_goesOn 68 = .ok (.ifCond .ne 15, 3) := by decide +kernel
theorem dX8_goesOn_71 : decode cX8_goesOn 71 = .ok (.aload_n 0, 1) := by decide +kernel
theorem dX8_goesOn_72 : decode cX8_goesOn 72 = .ok (.invokevirtual 320, 3) := by decide +kernel
theorem dX8_goesOn_75 : decode cX8_goesOn 75 = .ok (.aload_n 0, 1) := by decide +kernel
theorem dX8_goesOn_76 : decode cX8_goesOn 76 = .ok (.getfield 227, 3) := by decide +kernel
theorem dX8_goesOn_79 : decode cX8_goesOn 79 = .ok (.if_icmp .ge 4, 3) := by decide +kernel
theorem dX8_goesOn_82 : decode cX8_goesOn 82 = .ok (.return_, 1) := by decide +kernel
theorem dX8_goesOn_83 : decode cX8_goesOn 83 = .ok (.iconst 0, 1) := by decide +kernel
theorem dX8_goesOn_84 : decode cX8_goesOn 84 = .ok (.istore_n 2, 1) := by decide +kernel
theorem dX8_goesOn_85 : decode cX8_goesOn 85 = .ok (.iload_n 2, 1) := by decide +kernel
theorem dX8_goesOn_86 : decode cX8_goesOn 86 = .ok (.bipush 40, 2) := by decide +kernel
theorem dX8_goesOn_88 : decode cX8_goesOn 88 = .ok (.if_icmp .ge 69, 3) := by decide +kernel
theorem dX8_goesOn_91 : decode cX8_goesOn 91 = .ok (.aload_n 0, 1) := by decide +kernel
theorem dX8_goesOn_92 : decode cX8_goesOn 92 = .ok (.iload_n 2, 1) := by decide +kernel
theorem dX8_goesOn_93 : decode cX8_goesOn 93 = .ok (.iconst 3, 1) := by decide +kernel
theorem dX8_goesOn_94 : decode cX8_goesOn 94 = .ok (.invokevirtual 305, 3) := by decide +kernel
theorem dX8_goesOn_97 : decode cX8_goesOn 97 = .ok (.ifCond .eq 54, 3) := by decide +kernel
theorem dX8_goesOn_100 : decode cX8_goesOn 100 = .ok (.aload_n 0, 1) := by decide +kernel
theorem dX8_goesOn_101 : decode cX8_goesOn 101 = .ok (.getfield 237, 3) := by decide +kernel
theorem dX8_goesOn_104 : decode cX8_goesOn 104 = .ok (.aload_n 0, 1) := by decide +kernel
theorem dX8_goesOn_105 : decode cX8_goesOn 105 = .ok (.iload_n 2, 1) := by decide +kernel
theorem dX8_goesOn_106 : decode cX8_goesOn 106 = .ok (.iconst 2, 1) := by decide +kernel
theorem dX8_goesOn_107 : decode cX8_goesOn 107 = .ok (.invokevirtual 305, 3) := by decide +kernel
theorem dX8_goesOn_110 : decode cX8_goesOn 110 = .ok (.ishr, 1) := by decide +kernel
theorem dX8_goesOn_111 : decode cX8_goesOn 111 = .ok (.iconst 1, 1) := by decide +kernel
theorem dX8_goesOn_112 : decode cX8_goesOn 112 = .ok (.iand, 1) := by decide +kernel
theorem dX8_goesOn_113 : decode cX8_goesOn 113 = .ok (.iconst 1, 1) := by decide +kernel
theorem dX8_goesOn_114 : decode cX8_goesOn 114 = .ok (.if_icmp .ne 6, 3) := by decide +kernel
theorem dX8_goesOn_117 : decode cX8_goesOn 117 = .ok (.goto 34, 3) := by decide +kernel
theorem dX8_goesOn_120 : decode cX8_goesOn 120 = .ok (.iload_n 1, 1) := by decide +kernel
theorem dX8_goesOn_121 : decode cX8_goesOn 121 = .ok (.ifCond .ne 24, 3) := by decide +kernel
theorem dX8_goesOn_124 : decode cX8_goesOn 124 = .ok (.aload_n 0, 1) := by decide +kernel
theorem dX8_goesOn_125 : decode cX8_goesOn 125 = .ok (.invokevirtual 320, 3) := by decide +kernel
theorem dX8_goesOn_128 : decode cX8_goesOn 128 = .ok (.aload_n 0, 1) := by decide +kernel
theorem dX8_goesOn_129 : decode cX8_goesOn 129 = .ok (.aload_n 0, 1) := by decide +kernel
theorem dX8_goesOn_130 : decode cX8_goesOn 130 = .ok (.iload_n 2, 1) := by decide +kernel
theorem dX8_goesOn_131 : decode cX8_goesOn 131 = .ok (.iconst 1, 1) := by decide +kernel
theorem dX8_goesOn_132 : decode cX8_goesOn 132 = .ok (.invokevirtual 305, 3) := by decide +kernel
theorem dX8_goesOn_135 : decode cX8_goesOn 135 = .ok (.iconst 5, 1) := by decide +kernel
theorem dX8_goesOn_136 : decode cX8_goesOn 136 = .ok (.invokevirtual 217, 3) := by decide +kernel
theorem dX8_goesOn_139 : decode cX8_goesOn 139 = .ok (.if_icmp .ge 6, 3) := by decide +kernel
theorem dX8_goesOn_142 : decode cX8_goesOn 142 = .ok (.goto 9, 3) := by decide +kernel
theorem dX8_goesOn_145 : decode cX8_goesOn 145 = .ok (.aload_n 0, 1) := by decide +kernel
theorem dX8_goesOn_146 : decode cX8_goesOn 146 = .ok (.iload_n 2, 1) := by decide +kernel
theorem dX8_goesOn_147 : decode cX8_goesOn 147 = .ok (.iload_n 1, 1) := by decide +kernel
theorem dX8_goesOn_148 : decode cX8_goesOn 148 = .ok (.invokevirtual 323, 3) := by decide +kernel
theorem dX8_goesOn_151 : decode cX8_goesOn 151 = .ok (.iinc 2 1, 3) := by decide +kernel
theorem dX8_goesOn_154 : decode cX8_goesOn 154 = .ok (.goto (-69), 3) := by decide +kernel
theorem dX8_goesOn_157 : decode cX8_goesOn 157 = .ok (.return_, 1) := by decide +kernel
theorem ilX8_go_wsX8_go_r1 : ∀ w ∈ wsX8_go_r1, w ∈ wsX8_go := fun _ h => List.mem_cons_of_mem _ (List.mem_append_left _ (List.mem_append_left _ (h)))
theorem ilX8_go_wsX8_go_r2 : ∀ w ∈ wsX8_go_r2, w ∈ wsX8_go := fun _ h => List.mem_cons_of_mem _ (List.mem_append_left _ (List.mem_append_right _ (List.mem_append_left _ (h))))
theorem ilX8_go_wsX8_go_r3 : ∀ w ∈ wsX8_go_r3, w ∈ wsX8_go := fun _ h => List.mem_cons_of_mem _ (List.mem_append_left _ (List.mem_append_right _ (List.mem_append_right _ (h))))
theorem ilX8_go_wsX80 : ∀ w ∈ wsX80, w ∈ wsX8_go := fun _ h => List.mem_cons_of_mem _ (List.mem_append_right _ (h))
set_option maxRecDepth 20000 in
theorem ggX8_go_X8_in : GoodIn wsX8_go wsX8_in := goodIn_sub (List.forall_mem_cons.mpr ⟨ilX8_go_wsX8_go_r1 _ (List.mem_of_getElem? (i := 5) rfl), (fun _ h => absurd h List.not_mem_nil)⟩) (by decide +kernel)
set_option maxRecDepth 20000 in
theorem gX8_go_X8_in : GoodIn wsX8_go (va_wsS RX8 92 yX8_in wsX8_in) := goodIn_app (goodIn_of _ (by decide +kernel)) ggX8_go_X8_in
set_option maxRecDepth 20000 in
theorem ggX8_go_X8_goesOn : GoodIn wsX8_go wsX8_goesOn := goodIn_sub (List.forall_mem_cons.mpr ⟨ilX8_go_wsX8_go_r1 _ (List.mem_of_getElem? (i := 9) rfl), (List.forall_mem_append.mpr ⟨(List.forall_mem_append.mpr ⟨(List.forall_mem_cons.mpr ⟨ilX8_go_wsX8_go_r1 _ (List.mem_of_getElem? (i := 1) rfl), (List.forall_mem_cons.mpr ⟨ilX8_go_wsX8_go_r1 _ (List.mem_of_getElem? (i := 10) rfl), (List.forall_mem_cons.mpr ⟨ilX8_go_wsX8_go_r1 _ (List.mem_of_getElem? (i := 11) rfl), (List.forall_mem_cons.mpr ⟨ilX8_go_wsX8_go_r1 _ (List.mem_of_getElem? (i := 12) rfl), (List.forall_mem_cons.mpr ⟨ilX8_go_wsX8_go_r1 _ (List.mem_of_getElem? (i := 13) rfl), (List.forall_mem_cons.mpr ⟨ilX8_go_wsX8_go_r1 _ (List.mem_of_getElem? (i := 14) rfl), (List.forall_mem_cons.mpr ⟨ilX8_go_wsX8_go_r1 _ (List.mem_of_getElem? (i := 15) rfl), (List.forall_mem_cons.mpr ⟨ilX8_go_wsX8_go_r1 _ (List.mem_of_getElem? (i := 4) rfl), (List.forall_mem_cons.mpr ⟨ilX8_go_wsX8_go_r1 _ (List.mem_of_getElem? (i := 16) rfl), (List.forall_mem_cons.mpr ⟨ilX8_go_wsX8_go_r1 _ (List.mem_of_getElem? (i := 17) rfl), (List.forall_mem_cons.mpr ⟨ilX8_go_wsX8_go_r1 _ (List.mem_of_getElem? (i := 18) rfl), (List.forall_mem_cons.mpr ⟨ilX8_go_wsX8_go_r1 _ (List.mem_of_getElem? (i := 19) rfl), (List.forall_mem_cons.mpr ⟨ilX8_go_wsX8_go_r1 _ (List.mem_of_getElem? (i := 20) rfl), (List.forall_mem_cons.mpr ⟨ilX8_go_wsX8_go_r1 _ (List.mem_of_getElem? (i := 21) rfl), (List.forall_mem_cons.mpr ⟨ilX8_go_wsX8_go_r1 _ (List.mem_of_getElem? (i := 22) rfl), (List.forall_mem_cons.mpr ⟨ilX8_go_wsX8_go_r1 _ (List.mem_of_getElem? (i := 23) rfl), (List.forall_mem_cons.mpr ⟨ilX8_go_wsX8_go_r2 _ (List.mem_of_getElem? (i := 0) rfl), (List.forall_mem_cons.mpr ⟨ilX8_go_wsX8_go_r2 _ (List.mem_of_getElem? (i := 1) rfl), (List.forall_mem_cons.mpr ⟨ilX8_go_wsX8_go_r2 _ (List.mem_of_getElem? (i := 2) rfl), (List.forall_mem_cons.mpr ⟨ilX8_go_wsX8_go_r2 _ (List.mem_of_getElem? (i := 3) rfl), (List.forall_mem_cons.mpr ⟨ilX8_go_wsX8_go_r2 _ (List.mem_of_getElem? (i := 4) rfl), (List.forall_mem_cons.mpr ⟨ilX8_go_wsX8_go_r2 _ (List.mem_of_getElem? (i := 5) rfl), (List.forall_mem_cons.mpr ⟨ilX8_go_wsX8_go_r2 _ (List.mem_of_getElem? (i := 6) rfl), (List.forall_mem_cons.mpr ⟨ilX8_go_wsX8_go_r2 _ (List.mem_of_getElem? (i := 7) rfl), (fun _ h => absurd h List.not_mem_nil)⟩)⟩)⟩)⟩)⟩)⟩)⟩)⟩)⟩)⟩)⟩)⟩)⟩)⟩)⟩)⟩)⟩)⟩)⟩)⟩)⟩)⟩)⟩)⟩), (List.forall_mem_cons.mpr ⟨ilX8_go_wsX8_go_r2 _ (List.mem_of_getElem? (i := 8) rfl), (List.forall_mem_cons.mpr ⟨ilX8_go_wsX8_go_r2 _ (List.mem_of_getElem? (i := 9) rfl), (List.forall_mem_cons.mpr ⟨ilX8_go_wsX8_go_r2 _ (List.mem_of_getElem? (i := 10) rfl), (List.forall_mem_cons.mpr ⟨ilX8_go_wsX8_go_r2 _ (List.mem_of_getElem? (i := 11) rfl), (List.forall_mem_cons.mpr ⟨ilX8_go_wsX8_go_r2 _ (List.mem_of_getElem? (i := 12) rfl), (List.forall_mem_cons.mpr ⟨ilX8_go_wsX8_go_r2 _ (List.mem_of_getElem? (i := 13) rfl), (List.forall_mem_cons.mpr ⟨ilX8_go_wsX8_go_r2 _ (List.mem_of_getElem? (i := 14) rfl), (List.forall_mem_cons.mpr ⟨ilX8_go_wsX8_go_r2 _ (List.mem_of_getElem? (i := 15) rfl), (List.forall_mem_cons.mpr ⟨ilX8_go_wsX8_go_r2 _ (List.mem_of_getElem? (i := 16) rfl), (List.forall_mem_cons.mpr ⟨ilX8_go_wsX8_go_r2 _ (List.mem_of_getElem? (i := 17) rfl), (List.forall_mem_cons.mpr ⟨ilX8_go_wsX8_go_r2 _ (List.mem_of_getElem? (i := 18) rfl), (List.forall_mem_cons.mpr ⟨ilX8_go_wsX8_go_r2 _ (List.mem_of_getElem? (i := 19) rfl), (List.forall_mem_cons.mpr ⟨ilX8_go_wsX8_go_r2 _ (List.mem_of_getElem? (i := 20) rfl), (List.forall_mem_cons.mpr ⟨ilX8_go_wsX8_go_r2 _ (List.mem_of_getElem? (i := 21) rfl), (List.forall_mem_cons.mpr ⟨ilX8_go_wsX8_go_r2 _ (List.mem_of_getElem? (i := 22) rfl), (List.forall_mem_cons.mpr ⟨ilX8_go_wsX8_go_r2 _ (List.mem_of_getElem? (i := 23) rfl), (List.forall_mem_cons.mpr ⟨ilX8_go_wsX8_go_r3 _ (List.mem_of_getElem? (i := 0) rfl), (List.forall_mem_cons.mpr ⟨ilX8_go_wsX8_go_r3 _ (List.mem_of_getElem? (i := 1) rfl), (List.forall_mem_cons.mpr ⟨ilX8_go_wsX8_go_r3 _ (List.mem_of_getElem? (i := 2) rfl), (List.forall_mem_cons.mpr ⟨ilX8_go_wsX8_go_r3 _ (List.mem_of_getElem? (i := 3) rfl), (List.forall_mem_cons.mpr ⟨ilX8_go_wsX8_go_r3 _ (List.mem_of_getElem? (i := 4) rfl), (List.forall_mem_cons.mpr ⟨ilX8_go_wsX8_go_r3 _ (List.mem_of_getElem? (i := 5) rfl), (List.forall_mem_cons.mpr ⟨ilX8_go_wsX8_go_r3 _ (List.mem_of_getElem? (i := 6) rfl), (fun _ h => absurd h List.not_mem_nil)⟩)⟩)⟩)⟩)⟩)⟩)⟩)⟩)⟩)⟩)⟩)⟩)⟩)⟩)⟩)⟩)⟩)⟩)⟩)⟩)⟩)⟩)⟩)⟩), ilX8_go_wsX80⟩)⟩) (by decide +kernel)
set_option maxRecDepth 20000 in
theorem gX8_go_X8_goesOn : GoodIn wsX8_go (wsV RX8 327 RX8 yX8_goesOn wsX8_goesOn) := goodIn_app (goodIn_sub (List.forall_mem_cons.mpr ⟨ilX8_go_wsX8_go_r1 _ (List.mem_of_getElem? (i := 6) rfl), (List.forall_mem_cons.mpr ⟨ilX8_go_wsX8_go_r1 _ (List.mem_of_getElem? (i := 7) rfl), (List.forall_mem_cons.mpr ⟨ilX8_go_wsX8_go_r1 _ (List.mem_of_getElem? (i := 8) rfl), (List.forall_mem_cons.mpr ⟨ilX8_go_wsX8_go_r1 _ (List.mem_of_getElem? (i := 4) rfl), (fun _ h => absurd h List.not_mem_nil)⟩)⟩)⟩)⟩) (by decide +kernel)) ggX8_go_X8_goesOn
theorem dX8_go_0 : decode cX8_go 0 = .ok (.aload_n 0, 1) := by decide +kernel
theorem dX8_go_1 : decode cX8_go 1 = .ok (.getfield 214, 3) := by decide +kernel
theorem dX8_go_4 : decode cX8_go 4 = .ok (.ifCond .eq 14, 3) := by decide +kernel
theorem dX8_go_7 : decode cX8_go 7 = .ok (.iload_n 1, 1) := by decide +kernel
theorem dX8_go_8 : decode cX8_go 8 = .ok (.iconst 1, 1) := by decide +kernel
theorem dX8_go_9 : decode cX8_go 9 = .ok (.sipush 200, 3) := by decide +kernel
theorem dX8_go_12 : decode cX8_go 12 = .ok (.invokestatic 92, 3) := by decide +kernel
theorem dX8_go_15 : decode cX8_go 15 = .ok (.ifCond .ne 5, 3) := by decide +kernel
theorem dX8_go_18 : decode cX8_go 18 = .ok (.iconst (-1), 1) := by decide +kernel
theorem dX8_go_19 : decode cX8_go 19 = .ok (.ireturn, 1) := by decide +kernel
theorem dX8_go_20 : decode cX8_go 20 = .ok (.iconst 0, 1) := by decide +kernel
theorem dX8_go_21 : decode cX8_go 21 = .ok (.istore_n 2, 1) := by decide +kernel
theorem dX8_go_22 : decode cX8_go 22 = .ok (.iload_n 2, 1) := by decide +kernel
theorem dX8_go_23 : decode cX8_go 23 = .ok (.iload_n 1, 1) := by decide +kernel
theorem dX8_go_24 : decode cX8_go 24 = .ok (.if_icmp .ge 14, 3) := by decide +kernel
theorem dX8_go_27 : decode cX8_go 27 = .ok (.aload_n 0, 1) := by decide +kernel
theorem dX8_go_28 : decode cX8_go 28 = .ok (.iconst 0, 1) := by decide +kernel
theorem dX8_go_29 : decode cX8_go 29 = .ok (.invokevirtual 327, 3) := by decide +kernel
theorem dX8_go_32 : decode cX8_go 32 = .ok (.iinc 2 1, 3) := by decide +kernel
theorem dX8_go_35 : decode cX8_go 35 = .ok (.goto (-13), 3) := by decide +kernel
theorem dX8_go_38 : decode cX8_go 38 = .ok (.aload_n 0, 1) := by decide +kernel
theorem dX8_go_39 : decode cX8_go 39 = .ok (.getfield 211, 3) := by decide +kernel
theorem dX8_go_42 : decode cX8_go 42 = .ok (.ireturn, 1) := by decide +kernel
theorem ilX8_market_wsX80 : ∀ w ∈ wsX80, w ∈ wsX8_market := fun _ h => List.mem_cons_of_mem _ (List.mem_append_right _ (h))
set_option maxRecDepth 20000 in
theorem ggX8_market_X8_in : GoodIn wsX8_market wsX8_in := goodIn_sub (List.forall_mem_cons.mpr ⟨List.mem_cons_of_mem _ (List.mem_append_left _ (List.mem_of_getElem? (i := 7) rfl)), (fun _ h => absurd h List.not_mem_nil)⟩) (by decide +kernel)
set_option maxRecDepth 20000 in
theorem gX8_market_X8_in : GoodIn wsX8_market (va_wsS RX8 92 yX8_in wsX8_in) := goodIn_app (goodIn_of _ (by decide +kernel)) ggX8_market_X8_in
set_option maxRecDepth 20000 in
theorem ggX8_market_X8_loanAt : GoodIn wsX8_market wsX8_loanAt := goodIn_sub (List.forall_mem_cons.mpr ⟨List.mem_cons_of_mem _ (List.mem_append_left _ (List.mem_of_getElem? (i := 11) rfl)), (List.forall_mem_append.mpr ⟨(List.forall_mem_cons.mpr ⟨List.mem_cons_of_mem _ (List.mem_append_left _ (List.mem_of_getElem? (i := 12) rfl)), (fun _ h => absurd h List.not_mem_nil)⟩), ilX8_market_wsX80⟩)⟩) (by decide +kernel)
set_option maxRecDepth 20000 in
theorem gX8_market_X8_loanAt : GoodIn wsX8_market (wsV RX8 305 RX8 yX8_loanAt wsX8_loanAt) := goodIn_app (goodIn_sub (List.forall_mem_cons.mpr ⟨List.mem_cons_of_mem _ (List.mem_append_left _ (List.mem_of_getElem? (i := 8) rfl)), (List.forall_mem_cons.mpr ⟨List.mem_cons_of_mem _ (List.mem_append_left _ (List.mem_of_getElem? (i := 9) rfl)), (List.forall_mem_cons.mpr ⟨List.mem_cons_of_mem _ (List.mem_append_left _ (List.mem_of_getElem? (i := 10) rfl)), (List.forall_mem_cons.mpr ⟨List.mem_cons_of_mem _ (List.mem_append_left _ (List.mem_of_getElem? (i := 6) rfl)), (fun _ h => absurd h List.not_mem_nil)⟩)⟩)⟩)⟩) (by decide +kernel)) ggX8_market_X8_loanAt
theorem dX8_market_0 : decode cX8_market 0 = .ok (.aload_n 0, 1) := by decide +kernel
theorem dX8_market_1 : decode cX8_market 1 = .ok (.getfield 214, 3) := by decide +kernel
theorem dX8_market_4 : decode cX8_market 4 = .ok (.ifCond .ne 5, 3) := by decide +kernel
theorem dX8_market_7 : decode cX8_market 7 = .ok (.iconst (-1), 1) := by decide +kernel
theorem dX8_market_8 : decode cX8_market 8 = .ok (.ireturn, 1) := by decide +kernel
theorem dX8_market_9 : decode cX8_market 9 = .ok (.iload_n 1, 1) := by decide +kernel
theorem dX8_market_10 : decode cX8_market 10 = .ok (.bipush 10, 2) := by decide +kernel
theorem dX8_market_12 : decode cX8_market 12 = .ok (.bipush 9, 2) := by decide +kernel
theorem dX8_market_14 : decode cX8_market 14 = .ok (.aload_n 0, 1) := by decide +kernel
theorem dX8_market_15 : decode cX8_market 15 = .ok (.getfield 214, 3) := by decide +kernel
theorem dX8_market_18 : decode cX8_market 18 = .ok (.iadd, 1) := by decide +kernel
theorem dX8_market_19 : decode cX8_market 19 = .ok (.invokestatic 92, 3) := by decide +kernel
theorem dX8_market_22 : decode cX8_market 22 = .ok (.ifCond .eq 13, 3) := by decide +kernel
theorem dX8_market_25 : decode cX8_market 25 = .ok (.aload_n 0, 1) := by decide +kernel
theorem dX8_market_26 : decode cX8_market 26 = .ok (.getfield 33, 3) := by decide +kernel
theorem dX8_market_29 : decode cX8_market 29 = .ok (.iload_n 1, 1) := by decide +kernel
theorem dX8_market_30 : decode cX8_market 30 = .ok (.bipush 10, 2) := by decide +kernel
theorem dX8_market_32 : decode cX8_market 32 = .ok (.isub, 1) := by decide +kernel
theorem dX8_market_33 : decode cX8_market 33 = .ok (.iaload, 1) := by decide +kernel
theorem dX8_market_34 : decode cX8_market 34 = .ok (.ireturn, 1) := by decide +kernel
theorem dX8_market_35 : decode cX8_market 35 = .ok (.iload_n 1, 1) := by decide +kernel
theorem dX8_market_36 : decode cX8_market 36 = .ok (.bipush 20, 2) := by decide +kernel
theorem dX8_market_38 : decode cX8_market 38 = .ok (.bipush 19, 2) := by decide +kernel
theorem dX8_market_40 : decode cX8_market 40 = .ok (.aload_n 0, 1) := by decide +kernel
theorem dX8_market_41 : decode cX8_market 41 = .ok (.getfield 214, 3) := by decide +kernel
theorem dX8_market_44 : decode cX8_market 44 = .ok (.iadd, 1) := by decide +kernel
theorem dX8_market_45 : decode cX8_market 45 = .ok (.invokestatic 92, 3) := by decide +kernel
theorem dX8_market_48 : decode cX8_market 48 = .ok (.ifCond .eq 13, 3) := by decide +kernel
theorem dX8_market_51 : decode cX8_market 51 = .ok (.aload_n 0, 1) := by decide +kernel
theorem dX8_market_52 : decode cX8_market 52 = .ok (.getfield 36, 3) := by decide +kernel
theorem dX8_market_55 : decode cX8_market 55 = .ok (.iload_n 1, 1) := by decide +kernel
theorem dX8_market_56 : decode cX8_market 56 = .ok (.bipush 20, 2) := by decide +kernel
theorem dX8_market_58 : decode cX8_market 58 = .ok (.isub, 1) := by decide +kernel
theorem dX8_market_59 : decode cX8_market 59 = .ok (.iaload, 1) := by decide +kernel
theorem dX8_market_60 : decode cX8_market 60 = .ok (.ireturn, 1) := by decide +kernel
theorem dX8_market_61 : decode cX8_market 61 = .ok (.iload_n 1, 1) := by decide +kernel
theorem dX8_market_62 : decode cX8_market 62 = .ok (.iconst 0, 1) := by decide +kernel
theorem dX8_market_63 : decode cX8_market 63 = .ok (.iconst 3, 1) := by decide +kernel
theorem dX8_market_64 : decode cX8_market 64 = .ok (.invokestatic 92, 3) := by decide +kernel
theorem dX8_market_67 : decode cX8_market 67 = .ok (.ifCond .ne 5, 3) := by decide +kernel
theorem dX8_market_70 : decode cX8_market 70 = .ok (.iconst (-1), 1) := by decide +kernel
theorem dX8_market_71 : decode cX8_market 71 = .ok (.ireturn, 1) := by decide +kernel
theorem dX8_market_72 : decode cX8_market 72 = .ok (.iload_n 1, 1) := by decide +kernel
theorem dX8_market_73 : decode cX8_market 73 = .ok (.ifCond .ne 8, 3) := by decide +kernel
theorem dX8_market_76 : decode cX8_market 76 = .ok (.aload_n 0, 1) := by decide +kernel
theorem dX8_market_77 : decode cX8_market 77 = .ok (.getfield 211, 3) := by decide +kernel
theorem dX8_market_80 : decode cX8_market 80 = .ok (.ireturn, 1) := by decide +kernel
theorem dX8_market_81 : decode cX8_market 81 = .ok (.iconst 0, 1) := by decide +kernel
theorem dX8_market_82 : decode cX8_market 82 = .ok (.istore_n 2, 1) := by decide +kernel
theorem dX8_market_83 : decode cX8_market 83 = .ok (.iconst 0, 1) := by decide +kernel
theorem dX8_market_84 : decode cX8_market 84 = .ok (.istore_n 3, 1) := by decide +kernel
theorem dX8_market_85 : decode cX8_market 85 = .ok (.iload_n 3, 1) := by decide +kernel
theorem dX8_market_86 : decode cX8_market 86 = .ok (.bipush 40, 2) := by decide +kernel
theorem dX8_market_88 : decode cX8_market 88 = .ok (.if_icmp .ge 41, 3) := by decide +kernel
theorem dX8_market_91 : decode cX8_market 91 = .ok (.iload_n 1, 1) := by decide +kernel
theorem dX8_market_92 : decode cX8_market 92 = .ok (.iconst 3, 1) := by decide +kernel
theorem dX8_market_93 : decode cX8_market 93 = .ok (.if_icmp .ge 36, 3) := by decide +kernel
theorem dX8_market_96 : decode cX8_market 96 = .ok (.aload_n 0, 1) := by decide +kernel
theorem dX8_market_97 : decode cX8_market 97 = .ok (.iload_n 3, 1) := by decide +kernel
theorem dX8_market_98 : decode cX8_market 98 = .ok (.iconst 3, 1) := by decide +kernel
theorem dX8_market_99 : decode cX8_market 99 = .ok (.invokevirtual 305, 3) := by decide +kernel
theorem dX8_market_102 : decode cX8_market 102 = .ok (.ifCond .le 21, 3) := by decide +kernel
theorem dX8_market_105 : decode cX8_market 105 = .ok (.iload_n 2, 1) := by decide +kernel
theorem dX8_market_106 : decode cX8_market 106 = .ok (.iload_n 1, 1) := by decide +kernel
theorem dX8_market_107 : decode cX8_market 107 = .ok (.iconst 1, 1) := by decide +kernel
theorem dX8_market_108 : decode cX8_market 108 = .ok (.if_icmp .ne 7, 3) := by decide +kernel
theorem dX8_market_111 : decode cX8_market 111 = .ok (.iconst 1, 1) := by decide +kernel
theorem dX8_market_112 : decode cX8_market 112 = .ok (.goto 9, 3) := by decide +kernel
theorem dX8_market_115 : decode cX8_market 115 = .ok (.aload_n 0, 1) := by decide +kernel
theorem dX8_market_116 : decode cX8_market 116 = .ok (.iload_n 3, 1) := by decide +kernel
theorem dX8_market_117 : decode cX8_market 117 = .ok (.iconst 4, 1) := by decide +kernel
theorem dX8_market_118 : decode cX8_market 118 = .ok (.invokevirtual 305, 3) := by decide +kernel
theorem dX8_market_121 : decode cX8_market 121 = .ok (.iadd, 1) := by decide +kernel
theorem dX8_market_122 : decode cX8_market 122 = .ok (.istore_n 2, 1) := by decide +kernel
theorem dX8_market_123 : decode cX8_market 123 = .ok (.iinc 3 1, 3) := by decide +kernel
theorem dX8_market_126 : decode cX8_market 126 = .ok (.goto (-41), 3) := by decide +kernel
theorem dX8_market_129 : decode cX8_market 129 = .ok (.iconst 0, 1) := by decide +kernel
theorem dX8_market_130 : decode cX8_market 130 = .ok (.istore_n 3, 1) := by decide +kernel
theorem dX8_market_131 : decode cX8_market 131 = .ok (.iload_n 3, 1) := by decide +kernel
theorem dX8_market_132 : decode cX8_market 132 = .ok (.aload_n 0, 1) := by decide +kernel
theorem dX8_market_133 : decode cX8_market 133 = .ok (.getfield 214, 3) := by decide +kernel
theorem dX8_market_136 : decode cX8_market 136 = .ok (.if_icmp .ge 23, 3) := by decide +kernel
theorem dX8_market_139 : decode cX8_market 139 = .ok (.iload_n 1, 1) := by decide +kernel
theorem dX8_market_140 : decode cX8_market 140 = .ok (.iconst 3, 1) := by decide +kernel
theorem dX8_market_141 : decode cX8_market 141 = .ok (.if_icmp .ne 18, 3) := by decide +kernel
theorem dX8_market_144 : decode cX8_market 144 = .ok (.iload_n 2, 1) := by decide +kernel
theorem dX8_market_145 : decode cX8_market 145 = .ok (.aload_n 0, 1) := by decide +kernel
theorem dX8_market_146 : decode cX8_market 146 = .ok (.getfield 36, 3) := by decide +kernel
theorem dX8_market_149 : decode cX8_market 149 = .ok (.iload_n 3, 1) := by decide +kernel
theorem dX8_market_150 : decode cX8_market 150 = .ok (.iaload, 1) := by decide +kernel
theorem dX8_market_151 : decode cX8_market 151 = .ok (.iadd, 1) := by decide +kernel
theorem dX8_market_152 : decode cX8_market 152 = .ok (.istore_n 2, 1) := by decide +kernel
theorem dX8_market_153 : decode cX8_market 153 = .ok (.iinc 3 1, 3) := by decide +kernel
theorem dX8_market_156 : decode cX8_market 156 = .ok (.goto (-25), 3) := by decide +kernel
theorem dX8_market_159 : decode cX8_market 159 = .ok (.iload_n 2, 1) := by decide +kernel
theorem dX8_market_160 : decode cX8_market 160 = .ok (.ireturn, 1) := by decide +kernel
theorem ilX8_loan_wsX80 : ∀ w ∈ wsX80, w ∈ wsX8_loan := fun _ h => List.mem_cons_of_mem _ (List.mem_append_right _ (h))
set_option maxRecDepth 20000 in
theorem ggX8_loan_X8_in : GoodIn wsX8_loan wsX8_in := goodIn_sub (List.forall_mem_cons.mpr ⟨List.mem_cons_of_mem _ (List.mem_append_left _ (List.mem_of_getElem? (i := 4) rfl)), (fun _ h => absurd h List.not_mem_nil)⟩) (by decide +kernel)
set_option maxRecDepth 20000 in
theorem gX8_loan_X8_in : GoodIn wsX8_loan (va_wsS RX8 92 yX8_in wsX8_in) := goodIn_app (goodIn_of _ (by decide +kernel)) ggX8_loan_X8_in
set_option maxRecDepth 20000 in
theorem ggX8_loan_X8_loanAt : GoodIn wsX8_loan wsX8_loanAt := goodIn_sub (List.forall_mem_cons.mpr ⟨List.mem_cons_of_mem _ (List.mem_append_left _ (List.mem_of_getElem? (i := 8) rfl)), (List.forall_mem_append.mpr ⟨(List.forall_mem_cons.mpr ⟨List.mem_cons_of_mem _ (List.mem_append_left _ (List.mem_of_getElem? (i := 9) rfl)), (fun _ h => absurd h List.not_mem_nil)⟩), ilX8_loan_wsX80⟩)⟩) (by decide +kernel)
set_option maxRecDepth 20000 in
theorem gX8_loan_X8_loanAt : GoodIn wsX8_loan (wsV RX8 305 RX8 yX8_loanAt wsX8_loanAt) := goodIn_app (goodIn_sub (List.forall_mem_cons.mpr ⟨List.mem_cons_of_mem _ (List.mem_append_left _ (List.mem_of_getElem? (i := 5) rfl)), (List.forall_mem_cons.mpr ⟨List.mem_cons_of_mem _ (List.mem_append_left _ (List.mem_of_getElem? (i := 6) rfl)), (List.forall_mem_cons.mpr ⟨List.mem_cons_of_mem _ (List.mem_append_left _ (List.mem_of_getElem? (i := 7) rfl)), (List.forall_mem_cons.mpr ⟨List.mem_cons_of_mem _ (List.mem_append_left _ (List.mem_of_getElem? (i := 3) rfl)), (fun _ h => absurd h List.not_mem_nil)⟩)⟩)⟩)⟩) (by decide +kernel)) ggX8_loan_X8_loanAt
theorem dX8_loan_0 : decode cX8_loan 0 = .ok (.aload_n 0, 1) := by decide +kernel
theorem dX8_loan_1 : decode cX8_loan 1 = .ok (.getfield 214, 3) := by decide +kernel
theorem dX8_loan_4 : decode cX8_loan 4 = .ok (.ifCond .le 40, 3) := by decide +kernel
theorem dX8_loan_7 : decode cX8_loan 7 = .ok (.iload_n 1, 1) := by decide +kernel
theorem dX8_loan_8 : decode cX8_loan 8 = .ok (.iconst 0, 1) := by decide +kernel
theorem dX8_loan_9 : decode cX8_loan 9 = .ok (.bipush 39, 2) := by decide +kernel
theorem dX8_loan_11 : decode cX8_loan 11 = .ok (.invokestatic 92, 3) := by decide +kernel
theorem dX8_loan_14 : decode cX8_loan 14 = .ok (.ifCond .eq 30, 3) := by decide +kernel
theorem dX8_loan_17 : decode cX8_loan 17 = .ok (.iload_n 2, 1) := by decide +kernel
theorem dX8_loan_18 : decode cX8_loan 18 = .ok (.iconst 0, 1) := by decide +kernel
theorem dX8_loan_19 : decode cX8_loan 19 = .ok (.iconst 5, 1) := by decide +kernel
theorem dX8_loan_20 : decode cX8_loan 20 = .ok (.invokestatic 92, 3) := by decide +kernel
theorem dX8_loan_23 : decode cX8_loan 23 = .ok (.ifCond .eq 21, 3) := by decide +kernel
theorem dX8_loan_26 : decode cX8_loan 26 = .ok (.aload_n 0, 1) := by decide +kernel
theorem dX8_loan_27 : decode cX8_loan 27 = .ok (.iload_n 1, 1) := by decide +kernel
theorem dX8_loan_28 : decode cX8_loan 28 = .ok (.iconst 3, 1) := by decide +kernel
theorem dX8_loan_29 : decode cX8_loan 29 = .ok (.invokevirtual 305, 3) := by decide +kernel
theorem dX8_loan_32 : decode cX8_loan 32 = .ok (.ifCond .le 12, 3) := by decide +kernel
theorem dX8_loan_35 : decode cX8_loan 35 = .ok (.aload_n 0, 1) := by decide +kernel
theorem dX8_loan_36 : decode cX8_loan 36 = .ok (.iload_n 1, 1) := by decide +kernel
theorem dX8_loan_37 : decode cX8_loan 37 = .ok (.iload_n 2, 1) := by decide +kernel
theorem dX8_loan_38 : decode cX8_loan 38 = .ok (.invokevirtual 305, 3) := by decide +kernel
theorem dX8_loan_41 : decode cX8_loan 41 = .ok (.goto 4, 3) := by decide +kernel
theorem dX8_loan_44 : decode cX8_loan 44 = .ok (.iconst (-1), 1) := by decide +kernel
theorem dX8_loan_45 : decode cX8_loan 45 = .ok (.ireturn, 1) := by decide +kernel
theorem ilX8_entry_wsX80 : ∀ w ∈ wsX80, w ∈ wsX8_entry := fun _ h => List.mem_cons_of_mem _ (List.mem_append_right _ (h))
set_option maxRecDepth 20000 in
theorem ggX8_entry_X8_isNight : GoodIn wsX8_entry wsX8_isNight := goodIn_sub (List.forall_mem_cons.mpr ⟨List.mem_cons_of_mem _ (List.mem_append_left _ (List.mem_of_getElem? (i := 7) rfl)), (List.forall_mem_append.mpr ⟨(List.forall_mem_cons.mpr ⟨List.mem_cons_of_mem _ (List.mem_append_left _ (List.mem_of_getElem? (i := 0) rfl)), (List.forall_mem_cons.mpr ⟨List.mem_cons_of_mem _ (List.mem_append_left _ (List.mem_of_getElem? (i := 8) rfl)), (List.forall_mem_cons.mpr ⟨List.mem_cons_of_mem _ (List.mem_append_left _ (List.mem_of_getElem? (i := 9) rfl)), (List.forall_mem_cons.mpr ⟨List.mem_cons_of_mem _ (List.mem_append_left _ (List.mem_of_getElem? (i := 6) rfl)), (List.forall_mem_cons.mpr ⟨List.mem_cons_of_mem _ (List.mem_append_left _ (List.mem_of_getElem? (i := 10) rfl)), (fun _ h => absurd h List.not_mem_nil)⟩)⟩)⟩)⟩)⟩), ilX8_entry_wsX80⟩)⟩) (by decide +kernel)
set_option maxRecDepth 20000 in
theorem gX8_entry_X8_isNight : GoodIn wsX8_entry (wsV RX8 263 RX8 yX8_isNight wsX8_isNight) := goodIn_app (goodIn_sub (List.forall_mem_cons.mpr ⟨List.mem_cons_of_mem _ (List.mem_append_left _ (List.mem_of_getElem? (i := 3) rfl)), (List.forall_mem_cons.mpr ⟨List.mem_cons_of_mem _ (List.mem_append_left _ (List.mem_of_getElem? (i := 4) rfl)), (List.forall_mem_cons.mpr ⟨List.mem_cons_of_mem _ (List.mem_append_left _ (List.mem_of_getElem? (i := 5) rfl)), (List.forall_mem_cons.mpr ⟨List.mem_cons_of_mem _ (List.mem_append_left _ (List.mem_of_getElem? (i := 6) rfl)), (fun _ h => absurd h List.not_mem_nil)⟩)⟩)⟩)⟩) (by decide +kernel)) ggX8_entry_X8_isNight
set_option maxRecDepth 20000 in
theorem ggX8_entry_X8_isLoan : GoodIn wsX8_entry wsX8_isLoan := goodIn_sub (List.forall_mem_cons.mpr ⟨List.mem_cons_of_mem _ (List.mem_append_left _ (List.mem_of_getElem? (i := 14) rfl)), (List.forall_mem_append.mpr ⟨(List.forall_mem_cons.mpr ⟨List.mem_cons_of_mem _ (List.mem_append_left _ (List.mem_of_getElem? (i := 15) rfl)), (List.forall_mem_cons.mpr ⟨List.mem_cons_of_mem _ (List.mem_append_left _ (List.mem_of_getElem? (i := 16) rfl)), (List.forall_mem_cons.mpr ⟨List.mem_cons_of_mem _ (List.mem_append_left _ (List.mem_of_getElem? (i := 17) rfl)), (List.forall_mem_cons.mpr ⟨List.mem_cons_of_mem _ (List.mem_append_left _ (List.mem_of_getElem? (i := 6) rfl)), (List.forall_mem_cons.mpr ⟨List.mem_cons_of_mem _ (List.mem_append_left _ (List.mem_of_getElem? (i := 18) rfl)), (List.forall_mem_cons.mpr ⟨List.mem_cons_of_mem _ (List.mem_append_left _ (List.mem_of_getElem? (i := 0) rfl)), (List.forall_mem_cons.mpr ⟨List.mem_cons_of_mem _ (List.mem_append_left _ (List.mem_of_getElem? (i := 8) rfl)), (List.forall_mem_cons.mpr ⟨List.mem_cons_of_mem _ (List.mem_append_left _ (List.mem_of_getElem? (i := 9) rfl)), (List.forall_mem_cons.mpr ⟨List.mem_cons_of_mem _ (List.mem_append_left _ (List.mem_of_getElem? (i := 10) rfl)), (fun _ h => absurd h List.not_mem_nil)⟩)⟩)⟩)⟩)⟩)⟩)⟩)⟩)⟩), ilX8_entry_wsX80⟩)⟩) (by decide +kernel)
set_option maxRecDepth 20000 in
theorem gX8_entry_X8_isLoan : GoodIn wsX8_entry (wsV RX8 308 RX8 yX8_isLoan wsX8_isLoan) := goodIn_app (goodIn_sub (List.forall_mem_cons.mpr ⟨List.mem_cons_of_mem _ (List.mem_append_left _ (List.mem_of_getElem? (i := 11) rfl)), (List.forall_mem_cons.mpr ⟨List.mem_cons_of_mem _ (List.mem_append_left _ (List.mem_of_getElem? (i := 12) rfl)), (List.forall_mem_cons.mpr ⟨List.mem_cons_of_mem _ (List.mem_append_left _ (List.mem_of_getElem? (i := 13) rfl)), (List.forall_mem_cons.mpr ⟨List.mem_cons_of_mem _ (List.mem_append_left _ (List.mem_of_getElem? (i := 6) rfl)), (fun _ h => absurd h List.not_mem_nil)⟩)⟩)⟩)⟩) (by decide +kernel)) ggX8_entry_X8_isLoan
theorem dX8_entry_0 : decode cX8_entry 0 = .ok (.aload_n 0, 1) := by decide +kernel
theorem dX8_entry_1 : decode cX8_entry 1 = .ok (.getfield 214, 3) := by decide +kernel
theorem dX8_entry_4 : decode cX8_entry 4 = .ok (.ifCond .eq 54, 3) := by decide +kernel
theorem dX8_entry_7 : decode cX8_entry 7 = .ok (.aload_n 0, 1) := by decide +kernel
theorem dX8_entry_8 : decode cX8_entry 8 = .ok (.iload_n 1, 1) := by decide +kernel
theorem dX8_entry_9 : decode cX8_entry 9 = .ok (.invokevirtual 263, 3) := by decide +kernel
theorem dX8_entry_12 : decode cX8_entry 12 = .ok (.ifCond .eq 46, 3) := by decide +kernel
theorem dX8_entry_15 : decode cX8_entry 15 = .ok (.iload_n 2, 1) := by decide +kernel
theorem dX8_entry_16 : decode cX8_entry 16 = .ok (.ifCond .lt 42, 3) := by decide +kernel
theorem dX8_entry_19 : decode cX8_entry 19 = .ok (.iload_n 3, 1) := by decide +kernel
theorem dX8_entry_20 : decode cX8_entry 20 = .ok (.ifCond .lt 38, 3) := by decide +kernel
theorem dX8_entry_23 : decode cX8_entry 23 = .ok (.aload_n 0, 1) := by decide +kernel
theorem dX8_entry_24 : decode cX8_entry 24 = .ok (.getfield 249, 3) := by decide +kernel
theorem dX8_entry_27 : decode cX8_entry 27 = .ok (.bipush 20, 2) := by decide +kernel
theorem dX8_entry_29 : decode cX8_entry 29 = .ok (.if_icmp .eq 29, 3) := by decide +kernel
theorem dX8_entry_32 : decode cX8_entry 32 = .ok (.aload_n 0, 1) := by decide +kernel
theorem dX8_entry_33 : decode cX8_entry 33 = .ok (.getfield 249, 3) := by decide +kernel
theorem dX8_entry_36 : decode cX8_entry 36 = .ok (.ifCond .le 24, 3) := by decide +kernel
theorem dX8_entry_39 : decode cX8_entry 39 = .ok (.iload_n 1, 1) := by decide +kernel
theorem dX8_entry_40 : decode cX8_entry 40 = .ok (.aload_n 0, 1) := by decide +kernel
theorem dX8_entry_41 : decode cX8_entry 41 = .ok (.getfield 42, 3) := by decide +kernel
theorem dX8_entry_44 : decode cX8_entry 44 = .ok (.bipush 6, 2) := by decide +kernel
theorem dX8_entry_46 : decode cX8_entry 46 = .ok (.aload_n 0, 1) := by decide +kernel
theorem dX8_entry_47 : decode cX8_entry 47 = .ok (.getfield 249, 3) := by decide +kernel
theorem dX8_entry_50 : decode cX8_entry 50 = .ok (.imul, 1) := by decide +kernel
theorem dX8_entry_51 : decode cX8_entry 51 = .ok (.bipush 6, 2) := by decide +kernel
theorem dX8_entry_53 : decode cX8_entry 53 = .ok (.isub, 1) := by decide +kernel
theorem dX8_entry_54 : decode cX8_entry 54 = .ok (.iaload, 1) := by decide +kernel
theorem dX8_entry_55 : decode cX8_entry 55 = .ok (.if_icmp .ge 5, 3) := by decide +kernel
theorem dX8_entry_58 : decode cX8_entry 58 = .ok (.iconst (-1), 1) := by decide +kernel
theorem dX8_entry_59 : decode cX8_entry 59 = .ok (.ireturn, 1) := by decide +kernel
theorem dX8_entry_60 : decode cX8_entry 60 = .ok (.aload_n 0, 1) := by decide +kernel
theorem dX8_entry_61 : decode cX8_entry 61 = .ok (.iload_n 2, 1) := by decide +kernel
theorem dX8_entry_62 : decode cX8_entry 62 = .ok (.bipush 100, 2) := by decide +kernel
theorem dX8_entry_64 : decode cX8_entry 64 = .ok (.irem, 1) := by decide +kernel
theorem dX8_entry_65 : decode cX8_entry 65 = .ok (.iload_n 2, 1) := by decide +kernel
theorem dX8_entry_66 : decode cX8_entry 66 = .ok (.bipush 100, 2) := by decide +kernel
theorem dX8_entry_68 : decode cX8_entry 68 = .ok (.idiv, 1) := by decide +kernel
theorem dX8_entry_69 : decode cX8_entry 69 = .ok (.iload_n 3, 1) := by decide +kernel
theorem dX8_entry_70 : decode cX8_entry 70 = .ok (.sipush 1000, 3) := by decide +kernel
theorem dX8_entry_73 : decode cX8_entry 73 = .ok (.idiv, 1) := by decide +kernel
theorem dX8_entry_74 : decode cX8_entry 74 = .ok (.iload_n 3, 1) := by decide +kernel
theorem dX8_entry_75 : decode cX8_entry 75 = .ok (.sipush 1000, 3) := by decide +kernel
theorem dX8_entry_78 : decode cX8_entry 78 = .ok (.irem, 1) := by decide +kernel
theorem dX8_entry_79 : decode cX8_entry 79 = .ok (.invokevirtual 308, 3) := by decide +kernel
theorem dX8_entry_82 : decode cX8_entry 82 = .ok (.ifCond .ne 5, 3) := by decide +kernel
theorem dX8_entry_85 : decode cX8_entry 85 = .ok (.iconst (-1), 1) := by decide +kernel
theorem dX8_entry_86 : decode cX8_entry 86 = .ok (.ireturn, 1) := by decide +kernel
theorem dX8_entry_87 : decode cX8_entry 87 = .ok (.bipush 6, 2) := by decide +kernel
theorem dX8_entry_89 : decode cX8_entry 89 = .ok (.aload_n 0, 1) := by decide +kernel
theorem dX8_entry_90 : decode cX8_entry 90 = .ok (.getfield 249, 3) := by decide +kernel
theorem dX8_entry_93 : decode cX8_entry 93 = .ok (.imul, 1) := by decide +kernel
theorem dX8_entry_94 : decode cX8_entry 94 = .ok (.istore 4, 2) := by decide +kernel
theorem dX8_entry_96 : decode cX8_entry 96 = .ok (.aload_n 0, 1) := by decide +kernel
theorem dX8_entry_97 : decode cX8_entry 97 = .ok (.getfield 42, 3) := by decide +kernel
theorem dX8_entry_100 : decode cX8_entry 100 = .ok (.iload 4, 2) := by decide +kernel
theorem dX8_entry_102 : decode cX8_entry 102 = .ok (.iload_n 1, 1) := by decide +kernel
theorem dX8_entry_103 : decode cX8_entry 103 = .ok (.iastore, 1) := by decide +kernel
theorem dX8_entry_104 : decode cX8_entry 104 = .ok (.aload_n 0, 1) := by decide +kernel
theorem dX8_entry_105 : decode cX8_entry 105 = .ok (.getfield 42, 3) := by decide +kernel
theorem dX8_entry_108 : decode cX8_entry 108 = .ok (.iload 4, 2) := by decide +kernel
theorem dX8_entry_110 : decode cX8_entry 110 = .ok (.iconst 1, 1) := by decide +kernel
theorem dX8_entry_111 : decode cX8_entry 111 = .ok (.iadd, 1) := by decide +kernel
theorem dX8_entry_112 : decode cX8_entry 112 = .ok (.iload_n 2, 1) := by decide +kernel
theorem dX8_entry_113 : decode cX8_entry 113 = .ok (.bipush 100, 2) := by decide +kernel
theorem dX8_entry_115 : decode cX8_entry 115 = .ok (.irem, 1) := by decide +kernel
theorem dX8_entry_116 : decode cX8_entry 116 = .ok (.bipush 10, 2) := by decide +kernel
theorem dX8_entry_118 : decode cX8_entry 118 = .ok (.idiv, 1) := by decide +kernel
theorem dX8_entry_119 : decode cX8_entry 119 = .ok (.iastore, 1) := by decide +kernel
theorem dX8_entry_120 : decode cX8_entry 120 = .ok (.aload_n 0, 1) := by decide +kernel
theorem dX8_entry_121 : decode cX8_entry 121 = .ok (.getfield 42, 3) := by decide +kernel
theorem dX8_entry_124 : decode cX8_entry 124 = .ok (.iload 4, 2) := by decide +kernel
theorem dX8_entry_126 : decode cX8_entry 126 = .ok (.iconst 2, 1) := by decide +kernel
theorem dX8_entry_127 : decode cX8_entry 127 = .ok (.iadd, 1) := by decide +kernel
theorem dX8_entry_128 : decode cX8_entry 128 = .ok (.iload_n 2, 1) := by decide +kernel
theorem dX8_entry_129 : decode cX8_entry 129 = .ok (.bipush 10, 2) := by decide +kernel
theorem dX8_entry_131 : decode cX8_entry 131 = .ok (.irem, 1) := by decide +kernel
theorem dX8_entry_132 : decode cX8_entry 132 = .ok (.iastore, 1) := by decide +kernel
theorem dX8_entry_133 : decode cX8_entry 133 = .ok (.aload_n 0, 1) := by decide +kernel
theorem dX8_entry_134 : decode cX8_entry 134 = .ok (.getfield 42, 3) := by decide +kernel
theorem dX8_entry_137 : decode cX8_entry 137 = .ok (.iload 4, 2) := by decide +kernel
theorem dX8_entry_139 : decode cX8_entry 139 = .ok (.iconst 3, 1) := by decide +kernel
theorem dX8_entry_140 : decode cX8_entry 140 = .ok (.iadd, 1) := by decide +kernel
theorem dX8_entry_141 : decode cX8_entry 141 = .ok (.iload_n 2, 1) := by decide +kernel
theorem dX8_entry_142 : decode cX8_entry 142 = .ok (.bipush 100, 2) := by decide +kernel
theorem dX8_entry_144 : decode cX8_entry 144 = .ok (.idiv, 1) := by decide +kernel
theorem dX8_entry_145 : decode cX8_entry 145 = .ok (.iastore, 1) := by decide +kernel
theorem dX8_entry_146 : decode cX8_entry 146 = .ok (.aload_n 0, 1) := by decide +kernel
theorem dX8_entry_147 : decode cX8_entry 147 = .ok (.getfield 42, 3) := by decide +kernel
theorem dX8_entry_150 : decode cX8_entry 150 = .ok (.iload 4, 2) := by decide +kernel
theorem dX8_entry_152 : decode cX8_entry 152 = .ok (.iconst 4, 1) := by decide +kernel
theorem dX8_entry_153 : decode cX8_entry 153 = .ok (.iadd, 1) := by decide +kernel
theorem dX8_entry_154 : decode cX8_entry 154 = .ok (.iload_n 3, 1) := by decide +kernel
theorem dX8_entry_155 : decode cX8_entry 155 = .ok (.sipush 1000, 3) := by decide +kernel
theorem dX8_entry_158 : decode cX8_entry 158 = .ok (.idiv, 1) := by decide +kernel
theorem dX8_entry_159 : decode cX8_entry 159 = .ok (.iastore, 1) := by decide +kernel
theorem dX8_entry_160 : decode cX8_entry 160 = .ok (.aload_n 0, 1) := by decide +kernel
theorem dX8_entry_161 : decode cX8_entry 161 = .ok (.getfield 42, 3) := by decide +kernel
theorem dX8_entry_164 : decode cX8_entry 164 = .ok (.iload 4, 2) := by decide +kernel
theorem dX8_entry_166 : decode cX8_entry 166 = .ok (.iconst 5, 1) := by decide +kernel
theorem dX8_entry_167 : decode cX8_entry 167 = .ok (.iadd, 1) := by decide +kernel
theorem dX8_entry_168 : decode cX8_entry 168 = .ok (.iload_n 3, 1) := by decide +kernel
theorem dX8_entry_169 : decode cX8_entry 169 = .ok (.sipush 1000, 3) := by decide +kernel
theorem dX8_entry_172 : decode cX8_entry 172 = .ok (.irem, 1) := by decide +kernel
theorem dX8_entry_173 : decode cX8_entry 173 = .ok (.iastore, 1) := by decide +kernel
theorem dX8_entry_174 : decode cX8_entry 174 = .ok (.aload_n 0, 1) := by decide +kernel
theorem dX8_entry_175 : decode cX8_entry 175 = .ok (.dup, 1) := by decide +kernel
theorem dX8_entry_176 : decode cX8_entry 176 = .ok (.getfield 249, 3) := by decide +kernel
theorem dX8_entry_179 : decode cX8_entry 179 = .ok (.iconst 1, 1) := by decide +kernel
theorem dX8_entry_180 : decode cX8_entry 180 = .ok (.iadd, 1) := by decide +kernel
theorem dX8_entry_181 : decode cX8_entry 181 = .ok (.putfield 249, 3) := by decide +kernel
theorem dX8_entry_184 : decode cX8_entry 184 = .ok (.aload_n 0, 1) := by decide +kernel
theorem dX8_entry_185 : decode cX8_entry 185 = .ok (.getfield 249, 3) := by decide +kernel
theorem dX8_entry_188 : decode cX8_entry 188 = .ok (.ireturn, 1) := by decide +kernel
theorem dX8_clear_0 : decode cX8_clear 0 = .ok (.aload_n 0, 1) := by decide +kernel
theorem dX8_clear_1 : decode cX8_clear 1 = .ok (.getfield 249, 3) := by decide +kernel
theorem dX8_clear_4 : decode cX8_clear 4 = .ok (.istore_n 1, 1) := by decide +kernel
theorem dX8_clear_5 : decode cX8_clear 5 = .ok (.aload_n 0, 1) := by decide +kernel
theorem dX8_clear_6 : decode cX8_clear 6 = .ok (.iconst 0, 1) := by decide +kernel
theorem dX8_clear_7 : decode cX8_clear 7 = .ok (.putfield 249, 3) := by decide +kernel
theorem dX8_clear_10 : decode cX8_clear 10 = .ok (.iload_n 1, 1) := by decide +kernel
theorem dX8_clear_11 : decode cX8_clear 11 = .ok (.ireturn, 1) := by decide +kernel
theorem ilX8_judge_wsX8_judge_r1 : ∀ w ∈ wsX8_judge_r1, w ∈ wsX8_judge := fun _ h => List.mem_cons_of_mem _ (List.mem_append_left _ (List.mem_append_left _ (h)))
theorem ilX8_judge_wsX8_judge_r2 : ∀ w ∈ wsX8_judge_r2, w ∈ wsX8_judge := fun _ h => List.mem_cons_of_mem _ (List.mem_append_left _ (List.mem_append_right _ (List.mem_append_left _ (h))))
theorem ilX8_judge_wsX8_judge_r3 : ∀ w ∈ wsX8_judge_r3, w ∈ wsX8_judge := fun _ h => List.mem_cons_of_mem _ (List.mem_append_left _ (List.mem_append_right _ (List.mem_append_right _ (h))))
theorem ilX8_judge_wsX80 : ∀ w ∈ wsX80, w ∈ wsX8_judge := fun _ h => List.mem_cons_of_mem _ (List.mem_append_right _ (h))
set_option maxRecDepth 20000 in
theorem ggX8_judge_X8_in : GoodIn wsX8_judge wsX8_in := goodIn_sub (List.forall_mem_cons.mpr ⟨ilX8_judge_wsX8_judge_r1 _ (List.mem_of_getElem? (i := 15) rfl), (fun _ h => absurd h List.not_mem_nil)⟩) (by decide +kernel)
set_option maxRecDepth 20000 in
theorem gX8_judge_X8_in : GoodIn wsX8_judge (va_wsS RX8 92 yX8_in wsX8_in) := goodIn_app (goodIn_of _ (by decide +kernel)) ggX8_judge_X8_in
set_option maxRecDepth 20000 in
theorem ggX8_judge_X8_begins : GoodIn wsX8_judge wsX8_begins := goodIn_sub (List.forall_mem_cons.mpr ⟨ilX8_judge_wsX8_judge_r1 _ (List.mem_of_getElem? (i := 19) rfl), (List.forall_mem_append.mpr ⟨(List.forall_mem_cons.mpr ⟨ilX8_judge_wsX8_judge_r1 _ (List.mem_of_getElem? (i := 2) rfl), (List.forall_mem_cons.mpr ⟨ilX8_judge_wsX8_judge_r1 _ (List.mem_of_getElem? (i := 4) rfl), (List.forall_mem_cons.mpr ⟨ilX8_judge_wsX8_judge_r1 _ (List.mem_of_getElem? (i := 1) rfl), (List.forall_mem_cons.mpr ⟨ilX8_judge_wsX8_judge_r1 _ (List.mem_of_getElem? (i := 6) rfl), (List.forall_mem_cons.mpr ⟨ilX8_judge_wsX8_judge_r1 _ (List.mem_of_getElem? (i := 8) rfl), (List.forall_mem_cons.mpr ⟨ilX8_judge_wsX8_judge_r1 _ (List.mem_of_getElem? (i := 20) rfl), (List.forall_mem_cons.mpr ⟨ilX8_judge_wsX8_judge_r1 _ (List.mem_of_getElem? (i := 21) rfl), (List.forall_mem_cons.mpr ⟨ilX8_judge_wsX8_judge_r1 _ (List.mem_of_getElem? (i := 22) rfl), (List.forall_mem_cons.mpr ⟨ilX8_judge_wsX8_judge_r1 _ (List.mem_of_getElem? (i := 14) rfl), (List.forall_mem_cons.mpr ⟨ilX8_judge_wsX8_judge_r1 _ (List.mem_of_getElem? (i := 23) rfl), (List.forall_mem_cons.mpr ⟨ilX8_judge_wsX8_judge_r2 _ (List.mem_of_getElem? (i := 0) rfl), (fun _ h => absurd h List.not_mem_nil)⟩)⟩)⟩)⟩)⟩)⟩)⟩)⟩)⟩)⟩)⟩), ilX8_judge_wsX80⟩)⟩) (by decide +kernel)
set_option maxRecDepth 20000 in
theorem gX8_judge_X8_begins : GoodIn wsX8_judge (wsV RX8 243 RX8 yX8_begins wsX8_begins) := goodIn_app (goodIn_sub (List.forall_mem_cons.mpr ⟨ilX8_judge_wsX8_judge_r1 _ (List.mem_of_getElem? (i := 16) rfl), (List.forall_mem_cons.mpr ⟨ilX8_judge_wsX8_judge_r1 _ (List.mem_of_getElem? (i := 17) rfl), (List.forall_mem_cons.mpr ⟨ilX8_judge_wsX8_judge_r1 _ (List.mem_of_getElem? (i := 18) rfl), (List.forall_mem_cons.mpr ⟨ilX8_judge_wsX8_judge_r1 _ (List.mem_of_getElem? (i := 14) rfl), (fun _ h => absurd h List.not_mem_nil)⟩)⟩)⟩)⟩) (by decide +kernel)) ggX8_judge_X8_begins
set_option maxRecDepth 20000 in
theorem ggX8_judge_X8_goesOn : GoodIn wsX8_judge wsX8_goesOn := goodIn_sub (List.forall_mem_cons.mpr ⟨ilX8_judge_wsX8_judge_r2 _ (List.mem_of_getElem? (i := 4) rfl), (List.forall_mem_append.mpr ⟨(List.forall_mem_append.mpr ⟨(List.forall_mem_cons.mpr ⟨ilX8_judge_wsX8_judge_r1 _ (List.mem_of_getElem? (i := 2) rfl), (List.forall_mem_cons.mpr ⟨ilX8_judge_wsX8_judge_r2 _ (List.mem_of_getElem? (i := 5) rfl), (List.forall_mem_cons.mpr ⟨ilX8_judge_wsX8_judge_r2 _ (List.mem_of_getElem? (i := 6) rfl), (List.forall_mem_cons.mpr ⟨ilX8_judge_wsX8_judge_r2 _ (List.mem_of_getElem? (i := 7) rfl), (List.forall_mem_cons.mpr ⟨ilX8_judge_wsX8_judge_r2 _ (List.mem_of_getElem? (i := 8) rfl), (List.forall_mem_cons.mpr ⟨ilX8_judge_wsX8_judge_r2 _ (List.mem_of_getElem? (i := 9) rfl), (List.forall_mem_cons.mpr ⟨ilX8_judge_wsX8_judge_r2 _ (List.mem_of_getElem? (i := 10) rfl), (List.forall_mem_cons.mpr ⟨ilX8_judge_wsX8_judge_r1 _ (List.mem_of_getElem? (i := 14) rfl), (List.forall_mem_cons.mpr ⟨ilX8_judge_wsX8_judge_r2 _ (List.mem_of_getElem? (i := 11) rfl), (List.forall_mem_cons.mpr ⟨ilX8_judge_wsX8_judge_r1 _ (List.mem_of_getElem? (i := 8) rfl), (List.forall_mem_cons.mpr ⟨ilX8_judge_wsX8_judge_r2 _ (List.mem_of_getElem? (i := 12) rfl), (List.forall_mem_cons.mpr ⟨ilX8_judge_wsX8_judge_r2 _ (List.mem_of_getElem? (i := 13) rfl), (List.forall_mem_cons.mpr ⟨ilX8_judge_wsX8_judge_r2 _ (List.mem_of_getElem? (i := 14) rfl), (List.forall_mem_cons.mpr ⟨ilX8_judge_wsX8_judge_r2 _ (List.mem_of_getElem? (i := 15) rfl), (List.forall_mem_cons.mpr ⟨ilX8_judge_wsX8_judge_r1 _ (List.mem_of_getElem? (i := 4) rfl), (List.forall_mem_cons.mpr ⟨ilX8_judge_wsX8_judge_r2 _ (List.mem_of_getElem? (i := 16) rfl), (List.forall_mem_cons.mpr ⟨ilX8_judge_wsX8_judge_r2 _ (List.mem_of_getElem? (i := 17) rfl), (List.forall_mem_cons.mpr ⟨ilX8_judge_wsX8_judge_r2 _ (List.mem_of_getElem? (i := 18) rfl), (List.forall_mem_cons.mpr ⟨ilX8_judge_wsX8_judge_r2 _ (List.mem_of_getElem? (i := 19) rfl), (List.forall_mem_cons.mpr ⟨ilX8_judge_wsX8_judge_r1 _ (List.mem_of_getElem? (i := 20) rfl), (List.forall_mem_cons.mpr ⟨ilX8_judge_wsX8_judge_r1 _ (List.mem_of_getElem? (i := 21) rfl), (List.forall_mem_cons.mpr ⟨ilX8_judge_wsX8_judge_r1 _ (List.mem_of_getElem? (i := 22) rfl), (List.forall_mem_cons.mpr ⟨ilX8_judge_wsX8_judge_r1 _ (List.mem_of_getElem? (i := 23) rfl), (List.forall_mem_cons.mpr ⟨ilX8_judge_wsX8_judge_r2 _ (List.mem_of_getElem? (i := 0) rfl), (fun _ h => absurd h List.not_mem_nil)⟩)⟩)⟩)⟩)⟩)⟩)⟩)⟩)⟩)⟩)⟩)⟩)⟩)⟩)⟩)⟩)⟩)⟩)⟩)⟩)⟩)⟩)⟩)⟩), (List.forall_mem_cons.mpr ⟨ilX8_judge_wsX8_judge_r2 _ (List.mem_of_getElem? (i := 20) rfl), (List.forall_mem_cons.mpr ⟨ilX8_judge_wsX8_judge_r2 _ (List.mem_of_getElem? (i := 21) rfl), (List.forall_mem_cons.mpr ⟨ilX8_judge_wsX8_judge_r2 _ (List.mem_of_getElem? (i := 22) rfl), (List.forall_mem_cons.mpr ⟨ilX8_judge_wsX8_judge_r2 _ (List.mem_of_getElem? (i := 23) rfl), (List.forall_mem_cons.mpr ⟨ilX8_judge_wsX8_judge_r3 _ (List.mem_of_getElem? (i := 0) rfl), (List.forall_mem_cons.mpr ⟨ilX8_judge_wsX8_judge_r3 _ (List.mem_of_getElem? (i := 1) rfl), (List.forall_mem_cons.mpr ⟨ilX8_judge_wsX8_judge_r3 _ (List.mem_of_getElem? (i := 2) rfl), (List.forall_mem_cons.mpr ⟨ilX8_judge_wsX8_judge_r3 _ (List.mem_of_getElem? (i := 3) rfl), (List.forall_mem_cons.mpr ⟨ilX8_judge_wsX8_judge_r3 _ (List.mem_of_getElem? (i := 4) rfl), (List.forall_mem_cons.mpr ⟨ilX8_judge_wsX8_judge_r3 _ (List.mem_of_getElem? (i := 5) rfl), (List.forall_mem_cons.mpr ⟨ilX8_judge_wsX8_judge_r3 _ (List.mem_of_getElem? (i := 6) rfl), (List.forall_mem_cons.mpr ⟨ilX8_judge_wsX8_judge_r3 _ (List.mem_of_getElem? (i := 7) rfl), (List.forall_mem_cons.mpr ⟨ilX8_judge_wsX8_judge_r3 _ (List.mem_of_getElem? (i := 8) rfl), (List.forall_mem_cons.mpr ⟨ilX8_judge_wsX8_judge_r3 _ (List.mem_of_getElem? (i := 9) rfl), (List.forall_mem_cons.mpr ⟨ilX8_judge_wsX8_judge_r3 _ (List.mem_of_getElem? (i := 10) rfl), (List.forall_mem_cons.mpr ⟨ilX8_judge_wsX8_judge_r3 _ (List.mem_of_getElem? (i := 11) rfl), (List.forall_mem_cons.mpr ⟨ilX8_judge_wsX8_judge_r3 _ (List.mem_of_getElem? (i := 12) rfl), (List.forall_mem_cons.mpr ⟨ilX8_judge_wsX8_judge_r3 _ (List.mem_of_getElem? (i := 13) rfl), (List.forall_mem_cons.mpr ⟨ilX8_judge_wsX8_judge_r3 _ (List.mem_of_getElem? (i := 14) rfl), (List.forall_mem_cons.mpr ⟨ilX8_judge_wsX8_judge_r3 _ (List.mem_of_getElem? (i := 15) rfl), (List.forall_mem_cons.mpr ⟨ilX8_judge_wsX8_judge_r1 _ (List.mem_of_getElem? (i := 6) rfl), (List.forall_mem_cons.mpr ⟨ilX8_judge_wsX8_judge_r1 _ (List.mem_of_getElem? (i := 9) rfl), (List.forall_mem_cons.mpr ⟨ilX8_judge_wsX8_judge_r1 _ (List.mem_of_getElem? (i := 11) rfl), (fun _ h => absurd h List.not_mem_nil)⟩)⟩)⟩)⟩)⟩)⟩)⟩)⟩)⟩)⟩)⟩)⟩)⟩)⟩)⟩)⟩)⟩)⟩)⟩)⟩)⟩)⟩)⟩)⟩), ilX8_judge_wsX80⟩)⟩) (by decide +kernel)
set_option maxRecDepth 20000 in
theorem gX8_judge_X8_goesOn : GoodIn wsX8_judge (wsV RX8 327 RX8 yX8_goesOn wsX8_goesOn) := goodIn_app (goodIn_sub (List.forall_mem_cons.mpr ⟨ilX8_judge_wsX8_judge_r2 _ (List.mem_of_getElem? (i := 1) rfl), (List.forall_mem_cons.mpr ⟨ilX8_judge_wsX8_judge_r2 _ (List.mem_of_getElem? (i := 2) rfl), (List.forall_mem_cons.mpr ⟨ilX8_judge_wsX8_judge_r2 _ (List.mem_of_getElem? (i := 3) rfl), (List.forall_mem_cons.mpr ⟨ilX8_judge_wsX8_judge_r1 _ (List.mem_of_getElem? (i := 14) rfl), (fun _ h => absurd h List.not_mem_nil)⟩)⟩)⟩)⟩) (by decide +kernel)) ggX8_judge_X8_goesOn
set_option maxRecDepth 20000 in
theorem ggX8_judge_X8_makes : GoodIn wsX8_judge wsX8_makes := goodIn_sub (List.forall_mem_cons.mpr ⟨ilX8_judge_wsX8_judge_r3 _ (List.mem_of_getElem? (i := 19) rfl), (List.forall_mem_append.mpr ⟨(List.forall_mem_cons.mpr ⟨ilX8_judge_wsX8_judge_r1 _ (List.mem_of_getElem? (i := 4) rfl), (List.forall_mem_cons.mpr ⟨ilX8_judge_wsX8_judge_r1 _ (List.mem_of_getElem? (i := 8) rfl), (List.forall_mem_cons.mpr ⟨ilX8_judge_wsX8_judge_r1 _ (List.mem_of_getElem? (i := 2) rfl), (List.forall_mem_cons.mpr ⟨ilX8_judge_wsX8_judge_r2 _ (List.mem_of_getElem? (i := 8) rfl), (List.forall_mem_cons.mpr ⟨ilX8_judge_wsX8_judge_r2 _ (List.mem_of_getElem? (i := 9) rfl), (List.forall_mem_cons.mpr ⟨ilX8_judge_wsX8_judge_r2 _ (List.mem_of_getElem? (i := 10) rfl), (List.forall_mem_cons.mpr ⟨ilX8_judge_wsX8_judge_r1 _ (List.mem_of_getElem? (i := 14) rfl), (List.forall_mem_cons.mpr ⟨ilX8_judge_wsX8_judge_r2 _ (List.mem_of_getElem? (i := 11) rfl), (List.forall_mem_cons.mpr ⟨ilX8_judge_wsX8_judge_r1 _ (List.mem_of_getElem? (i := 20) rfl), (List.forall_mem_cons.mpr ⟨ilX8_judge_wsX8_judge_r1 _ (List.mem_of_getElem? (i := 21) rfl), (List.forall_mem_cons.mpr ⟨ilX8_judge_wsX8_judge_r1 _ (List.mem_of_getElem? (i := 22) rfl), (List.forall_mem_cons.mpr ⟨ilX8_judge_wsX8_judge_r1 _ (List.mem_of_getElem? (i := 23) rfl), (List.forall_mem_cons.mpr ⟨ilX8_judge_wsX8_judge_r2 _ (List.mem_of_getElem? (i := 0) rfl), (fun _ h => absurd h List.not_mem_nil)⟩)⟩)⟩)⟩)⟩)⟩)⟩)⟩)⟩)⟩)⟩)⟩)⟩), ilX8_judge_wsX80⟩)⟩) (by decide +kernel)
set_option maxRecDepth 20000 in
theorem gX8_judge_X8_makes : GoodIn wsX8_judge (wsV RX8 312 RX8 yX8_makes wsX8_makes) := goodIn_app (goodIn_sub (List.forall_mem_cons.mpr ⟨ilX8_judge_wsX8_judge_r3 _ (List.mem_of_getElem? (i := 16) rfl), (List.forall_mem_cons.mpr ⟨ilX8_judge_wsX8_judge_r3 _ (List.mem_of_getElem? (i := 17) rfl), (List.forall_mem_cons.mpr ⟨ilX8_judge_wsX8_judge_r3 _ (List.mem_of_getElem? (i := 18) rfl), (List.forall_mem_cons.mpr ⟨ilX8_judge_wsX8_judge_r1 _ (List.mem_of_getElem? (i := 14) rfl), (fun _ h => absurd h List.not_mem_nil)⟩)⟩)⟩)⟩) (by decide +kernel)) ggX8_judge_X8_makes
theorem dX8_judge_0 : decode cX8_judge 0 = .ok (.iload_n 1, 1) := by decide +kernel
theorem dX8_judge_1 : decode cX8_judge 1 = .ok (.iconst (-1), 1) := by decide +kernel
theorem dX8_judge_2 : decode cX8_judge 2 = .ok (.if_icmp .eq 17, 3) := by decide +kernel
theorem dX8_judge_5 : decode cX8_judge 5 = .ok (.iload_n 1, 1) := by decide +kernel
theorem dX8_judge_6 : decode cX8_judge 6 = .ok (.iconst 0, 1) := by decide +kernel
theorem dX8_judge_7 : decode cX8_judge 7 = .ok (.aload_n 0, 1) := by decide +kernel
theorem dX8_judge_8 : decode cX8_judge 8 = .ok (.getfield 249, 3) := by decide +kernel
theorem dX8_judge_11 : decode cX8_judge 11 = .ok (.iconst 1, 1) := by decide +kernel
theorem dX8_judge_12 : decode cX8_judge 12 = .ok (.isub, 1) := by decide +kernel
theorem dX8_judge_13 : decode cX8_judge 13 = .ok (.invokestatic 92, 3) := by decide +kernel
theorem dX8_judge_16 : decode cX8_judge 16 = .ok (.ifCond .eq 10, 3) := by decide +kernel
theorem dX8_judge_19 : decode cX8_judge 19 = .ok (.aload_n 0, 1) := by decide +kernel
theorem dX8_judge_20 : decode cX8_judge 20 = .ok (.getfield 214, 3) := by decide +kernel
theorem dX8_judge_23 : decode cX8_judge 23 = .ok (.ifCond .ne 5, 3) := by decide +kernel
theorem dX8_judge_26 : decode cX8_judge 26 = .ok (.iconst (-1), 1) := by decide +kernel
theorem dX8_judge_27 : decode cX8_judge 27 = .ok (.ireturn, 1) := by decide +kernel
theorem dX8_judge_28 : decode cX8_judge 28 = .ok (.aload_n 0, 1) := by decide +kernel
theorem dX8_judge_29 : decode cX8_judge 29 = .ok (.getfield 211, 3) := by decide +kernel
theorem dX8_judge_32 : decode cX8_judge 32 = .ok (.istore_n 2, 1) := by decide +kernel
theorem dX8_judge_33 : decode cX8_judge 33 = .ok (.iconst 0, 1) := by decide +kernel
theorem dX8_judge_34 : decode cX8_judge 34 = .ok (.istore_n 3, 1) := by decide +kernel
theorem dX8_judge_35 : decode cX8_judge 35 = .ok (.iload_n 3, 1) := by decide +kernel
theorem dX8_judge_36 : decode cX8_judge 36 = .ok (.bipush 6, 2) := by decide +kernel
theorem dX8_judge_38 : decode cX8_judge 38 = .ok (.if_icmp .ge 33, 3) := by decide +kernel
theorem dX8_judge_41 : decode cX8_judge 41 = .ok (.aload_n 0, 1) := by decide +kernel
theorem dX8_judge_42 : decode cX8_judge 42 = .ok (.getfield 76, 3) := by decide +kernel
theorem dX8_judge_45 : decode cX8_judge 45 = .ok (.iload_n 3, 1) := by decide +kernel
theorem dX8_judge_46 : decode cX8_judge 46 = .ok (.aload_n 0, 1) := by decide +kernel
theorem dX8_judge_47 : decode cX8_judge 47 = .ok (.getfield 33, 3) := by decide +kernel
theorem dX8_judge_50 : decode cX8_judge 50 = .ok (.iload_n 3, 1) := by decide +kernel
theorem dX8_judge_51 : decode cX8_judge 51 = .ok (.iaload, 1) := by decide +kernel
theorem dX8_judge_52 : decode cX8_judge 52 = .ok (.iastore, 1) := by decide +kernel
theorem dX8_judge_53 : decode cX8_judge 53 = .ok (.aload_n 0, 1) := by decide +kernel
theorem dX8_judge_54 : decode cX8_judge 54 = .ok (.getfield 79, 3) := by decide +kernel
theorem dX8_judge_57 : decode cX8_judge 57 = .ok (.iload_n 3, 1) := by decide +kernel
theorem dX8_judge_58 : decode cX8_judge 58 = .ok (.aload_n 0, 1) := by decide +kernel
theorem dX8_judge_59 : decode cX8_judge 59 = .ok (.getfield 36, 3) := by decide +kernel
theorem dX8_judge_62 : decode cX8_judge 62 = .ok (.iload_n 3, 1) := by decide +kernel
theorem dX8_judge_63 : decode cX8_judge 63 = .ok (.iaload, 1) := by decide +kernel
theorem dX8_judge_64 : decode cX8_judge 64 = .ok (.iastore, 1) := by decide +kernel
theorem dX8_judge_65 : decode cX8_judge 65 = .ok (.iinc 3 1, 3) := by decide +kernel
theorem dX8_judge_68 : decode cX8_judge 68 = .ok (.goto (-33), 3) := by decide +kernel
theorem dX8_judge_71 : decode cX8_judge 71 = .ok (.iconst 0, 1) := by decide +kernel
theorem dX8_judge_72 : decode cX8_judge 72 = .ok (.istore_n 3, 1) := by decide +kernel
theorem dX8_judge_73 : decode cX8_judge 73 = .ok (.iload_n 3, 1) := by decide +kernel
theorem dX8_judge_74 : decode cX8_judge 74 = .ok (.sipush 240, 3) := by decide +kernel
theorem dX8_judge_77 : decode cX8_judge 77 = .ok (.if_icmp .ge 21, 3) := by decide +kernel
theorem dX8_judge_80 : decode cX8_judge 80 = .ok (.aload_n 0, 1) := by decide +kernel
theorem dX8_judge_81 : decode cX8_judge 81 = .ok (.getfield 82, 3) := by decide +kernel
theorem dX8_judge_84 : decode cX8_judge 84 = .ok (.iload_n 3, 1) := by decide +kernel
theorem dX8_judge_85 : decode cX8_judge 85 = .ok (.aload_n 0, 1) := by decide +kernel
theorem dX8_judge_86 : decode cX8_judge 86 = .ok (.getfield 39, 3) := by decide +kernel
theorem dX8_judge_89 : decode cX8_judge 89 = .ok (.iload_n 3, 1) := by decide +kernel
theorem dX8_judge_90 : decode cX8_judge 90 = .ok (.iaload, 1) := by decide +kernel
theorem dX8_judge_91 : decode cX8_judge 91 = .ok (.iastore, 1) := by decide +kernel
theorem dX8_judge_92 : decode cX8_judge 92 = .ok (.iinc 3 1, 3) := by decide +kernel
theorem dX8_judge_95 : decode cX8_judge 95 = .ok (.goto (-22), 3) := by decide +kernel
theorem dX8_judge_98 : decode cX8_judge 98 = .ok (.aload_n 0, 1) := by decide +kernel
theorem dX8_judge_99 : decode cX8_judge 99 = .ok (.invokevirtual 243, 3) := by decide +kernel
theorem dX8_judge_102 : decode cX8_judge 102 = .ok (.iconst (-1), 1) := by decide +kernel
theorem dX8_judge_103 : decode cX8_judge 103 = .ok (.istore_n 3, 1) := by decide +kernel
theorem dX8_judge_104 : decode cX8_judge 104 = .ok (.iconst 0, 1) := by decide +kernel
theorem dX8_judge_105 : decode cX8_judge 105 = .ok (.istore 4, 2) := by decide +kernel
theorem dX8_judge_107 : decode cX8_judge 107 = .ok (.iload 4, 2) := by decide +kernel
theorem dX8_judge_109 : decode cX8_judge 109 = .ok (.aload_n 0, 1) := by decide +kernel
theorem dX8_judge_110 : decode cX8_judge 110 = .ok (.getfield 249, 3) := by decide +kernel
theorem dX8_judge_113 : decode cX8_judge 113 = .ok (.if_icmp .ge 17, 3) := by decide +kernel
theorem dX8_judge_116 : decode cX8_judge 116 = .ok (.aload_n 0, 1) := by decide +kernel
theorem dX8_judge_117 : decode cX8_judge 117 = .ok (.getfield 73, 3) := by decide +kernel
theorem dX8_judge_120 : decode cX8_judge 120 = .ok (.iload 4, 2) := by decide +kernel
theorem dX8_judge_122 : decode cX8_judge 122 = .ok (.iconst 0, 1) := by decide +kernel
theorem dX8_judge_123 : decode cX8_judge 123 = .ok (.iastore, 1) := by decide +kernel
theorem dX8_judge_124 : decode cX8_judge 124 = .ok (.iinc 4 1, 3) := by decide +kernel
theorem dX8_judge_127 : decode cX8_judge 127 = .ok (.goto (-20), 3) := by decide +kernel
theorem dX8_judge_130 : decode cX8_judge 130 = .ok (.iconst 0, 1) := by decide +kernel
theorem dX8_judge_131 : decode cX8_judge 131 = .ok (.istore 4, 2) := by decide +kernel
theorem dX8_judge_133 : decode cX8_judge 133 = .ok (.iload 4, 2) := by decide +kernel
theorem dX8_judge_135 : decode cX8_judge 135 = .ok (.aload_n 0, 1) := by decide +kernel
theorem dX8_judge_136 : decode cX8_judge 136 = .ok (.getfield 249, 3) := by decide +kernel
theorem dX8_judge_139 : decode cX8_judge 139 = .ok (.if_icmp .ge 115, 3) := by decide +kernel
theorem dX8_judge_142 : decode cX8_judge 142 = .ok (.iload_n 3, 1) := by decide +kernel
theorem dX8_judge_143 : decode cX8_judge 143 = .ok (.iconst (-1), 1) := by decide +kernel
theorem dX8_judge_144 : decode cX8_judge 144 = .ok (.if_icmp .ne 110, 3) := by decide +kernel
theorem dX8_judge_147 : decode cX8_judge 147 = .ok (.bipush 6, 2) := by decide +kernel
theorem dX8_judge_149 : decode cX8_judge 149 = .ok (.iload 4, 2) := by decide +kernel
theorem dX8_judge_151 : decode cX8_judge 151 = .ok (.imul, 1) := by decide +kernel
theorem dX8_judge_152 : decode cX8_judge 152 = .ok (.istore 5, 2) := by decide +kernel
theorem dX8_judge_154 : decode cX8_judge 154 = .ok (.aload_n 0, 1) := by decide +kernel
theorem dX8_judge_155 : decode cX8_judge 155 = .ok (.getfield 211, 3) := by decide +kernel
theorem dX8_judge_158 : decode cX8_judge 158 = .ok (.aload_n 0, 1) := by decide +kernel
theorem dX8_judge_159 : decode cX8_judge 159 = .ok (.getfield 42, 3) := by decide +kernel
theorem dX8_judge_162 : decode cX8_judge 162 = .ok (.iload 5, 2) := by decide +kernel
theorem dX8_judge_164 : decode cX8_judge 164 = .ok (.iaload, 1) := by decide +kernel
theorem dX8_judge_165 : decode cX8_judge 165 = .ok (.if_icmp .ge 11, 3) := by decide +kernel
theorem dX8_judge_168 : decode cX8_judge 168 = .ok (.aload_n 0, 1) := by decide +kernel
theorem dX8_judge_169 : decode cX8_judge 169 = .ok (.iconst 1, 1) := by decide +kernel
theorem dX8_judge_170 : decode cX8_judge 170 = .ok (.invokevirtual 327, 3) := by decide +kernel
theorem dX8_judge_173 : decode cX8_judge 173 = .ok (.goto (-19), 3) := by decide +kernel
theorem dX8_judge_176 : decode cX8_judge 176 = .ok (.aload_n 0, 1) := by decide +kernel
theorem dX8_judge_177 : decode cX8_judge 177 = .ok (.aload_n 0, 1) := by decide +kernel
theorem dX8_judge_178 : decode cX8_judge 178 = .ok (.getfield 42, 3) := by decide +kernel
theorem dX8_judge_181 : decode cX8_judge 181 = .ok (.iload 5, 2) := by decide +kernel
theorem dX8_judge_183 : decode cX8_judge 183 = .ok (.iconst 1, 1) := by decide +kernel
theorem dX8_judge_184 : decode cX8_judge 184 = .ok (.iadd, 1) := by decide +kernel
theorem dX8_judge_185 : decode cX8_judge 185 = .ok (.iaload, 1) := by decide +kernel
theorem dX8_judge_186 : decode cX8_judge 186 = .ok (.aload_n 0, 1) := by decide +kernel
theorem dX8_judge_187 : decode cX8_judge 187 = .ok (.getfield 42, 3) := by decide +kernel
theorem dX8_judge_190 : decode cX8_judge 190 = .ok (.iload 5, 2) := by decide +kernel
theorem dX8_judge_192 : decode cX8_judge 192 = .ok (.iconst 2, 1) := by decide +kernel
theorem dX8_judge_193 : decode cX8_judge 193 = .ok (.iadd, 1) := by decide +kernel
theorem dX8_judge_194 : decode cX8_judge 194 = .ok (.iaload, 1) := by decide +kernel
theorem dX8_judge_195 : decode cX8_judge 195 = .ok (.aload_n 0, 1) := by decide +kernel
theorem dX8_judge_196 : decode cX8_judge 196 = .ok (.getfield 42, 3) := by decide +kernel
theorem dX8_judge_199 : decode cX8_judge 199 = .ok (.iload 5, 2) := by decide +kernel
theorem dX8_judge_201 : decode cX8_judge 201 = .ok (.iconst 3, 1) := by decide +kernel
theorem dX8_judge_202 : decode cX8_judge 202 = .ok (.iadd, 1) := by decide +kernel
theorem dX8_judge_203 : decode cX8_judge 203 = .ok (.iaload, 1) := by decide +kernel
theorem dX8_judge_204 : decode cX8_judge 204 = .ok (.aload_n 0, 1) := by decide +kernel
theorem dX8_judge_205 : decode cX8_judge 205 = .ok (.getfield 42, 3) := by decide +kernel
theorem dX8_judge_208 : decode cX8_judge 208 = .ok (.iload 5, 2) := by decide +kernel
theorem dX8_judge_210 : decode cX8_judge 210 = .ok (.iconst 4, 1) := by decide +kernel
theorem dX8_judge_211 : decode cX8_judge 211 = .ok (.iadd, 1) := by decide +kernel
theorem dX8_judge_212 : decode cX8_judge 212 = .ok (.iaload, 1) := by decide +kernel
theorem dX8_judge_213 : decode cX8_judge 213 = .ok (.aload_n 0, 1) := by decide +kernel
theorem dX8_judge_214 : decode cX8_judge 214 = .ok (.getfield 42, 3) := by decide +kernel
theorem dX8_judge_217 : decode cX8_judge 217 = .ok (.iload 5, 2) := by decide +kernel
theorem dX8_judge_219 : decode cX8_judge 219 = .ok (.iconst 5, 1) := by decide +kernel
theorem dX8_judge_220 : decode cX8_judge 220 = .ok (.iadd, 1) := by decide +kernel
theorem dX8_judge_221 : decode cX8_judge 221 = .ok (.iaload, 1) := by decide +kernel
theorem dX8_judge_222 : decode cX8_judge 222 = .ok (.invokevirtual 312, 3) := by decide +kernel
theorem dX8_judge_225 : decode cX8_judge 225 = .ok (.istore 6, 2) := by decide +kernel
theorem dX8_judge_227 : decode cX8_judge 227 = .ok (.iload 6, 2) := by decide +kernel
theorem dX8_judge_229 : decode cX8_judge 229 = .ok (.iconst (-1), 1) := by decide +kernel
theorem dX8_judge_230 : decode cX8_judge 230 = .ok (.if_icmp .ne 9, 3) := by decide +kernel
theorem dX8_judge_233 : decode cX8_judge 233 = .ok (.iload 4, 2) := by decide +kernel
theorem dX8_judge_235 : decode cX8_judge 235 = .ok (.istore_n 3, 1) := by decide +kernel
theorem dX8_judge_236 : decode cX8_judge 236 = .ok (.goto 12, 3) := by decide +kernel
theorem dX8_judge_239 : decode cX8_judge 239 = .ok (.aload_n 0, 1) := by decide +kernel
theorem dX8_judge_240 : decode cX8_judge 240 = .ok (.getfield 70, 3) := by decide +kernel
theorem dX8_judge_243 : decode cX8_judge 243 = .ok (.iload 6, 2) := by decide +kernel
theorem dX8_judge_245 : decode cX8_judge 245 = .ok (.iload 4, 2) := by decide +kernel
theorem dX8_judge_247 : decode cX8_judge 247 = .ok (.iastore, 1) := by decide +kernel
theorem dX8_judge_248 : decode cX8_judge 248 = .ok (.iinc 4 1, 3) := by decide +kernel
theorem dX8_judge_251 : decode cX8_judge 251 = .ok (.goto (-118), 3) := by decide +kernel
theorem dX8_judge_254 : decode cX8_judge 254 = .ok (.aload_n 0, 1) := by decide +kernel
theorem dX8_judge_255 : decode cX8_judge 255 = .ok (.iload_n 2, 1) := by decide +kernel
theorem dX8_judge_256 : decode cX8_judge 256 = .ok (.putfield 211, 3) := by decide +kernel
theorem dX8_judge_259 : decode cX8_judge 259 = .ok (.iconst 0, 1) := by decide +kernel
theorem dX8_judge_260 : decode cX8_judge 260 = .ok (.istore 4, 2) := by decide +kernel
theorem dX8_judge_262 : decode cX8_judge 262 = .ok (.iload 4, 2) := by decide +kernel
theorem dX8_judge_264 : decode cX8_judge 264 = .ok (.bipush 6, 2) := by decide +kernel
theorem dX8_judge_266 : decode cX8_judge 266 = .ok (.if_icmp .ge 37, 3) := by decide +kernel
theorem dX8_judge_269 : decode cX8_judge 269 = .ok (.aload_n 0, 1) := by decide +kernel
theorem dX8_judge_270 : decode cX8_judge 270 = .ok (.getfield 33, 3) := by decide +kernel
theorem dX8_judge_273 : decode cX8_judge 273 = .ok (.iload 4, 2) := by decide +kernel
theorem dX8_judge_275 : decode cX8_judge 275 = .ok (.aload_n 0, 1) := by decide +kernel
theorem dX8_judge_276 : decode cX8_judge 276 = .ok (.getfield 76, 3) := by decide +kernel
theorem dX8_judge_279 : decode cX8_judge 279 = .ok (.iload 4, 2) := by decide +kernel
theorem dX8_judge_281 : decode cX8_judge 281 = .ok (.iaload, 1) := by decide +kernel
theorem dX8_judge_282 : decode cX8_judge 282 = .ok (.iastore, 1) := by decide +kernel
theorem dX8_judge_283 : decode cX8_judge 283 = .ok (.aload_n 0, 1) := by decide +kernel
theorem dX8_judge_284 : decode cX8_judge 284 = .ok (.getfield 36, 3) := by decide +kernel
theorem dX8_judge_287 : decode cX8_judge 287 = .ok (.iload 4, 2) := by decide +kernel
theorem dX8_judge_289 : decode cX8_judge 289 = .ok (.aload_n 0, 1) := by decide +kernel
theorem dX8_judge_290 : decode cX8_judge 290 = .ok (.getfield 79, 3) := by decide +kernel
theorem dX8_judge_293 : decode cX8_judge 293 = .ok (.iload 4, 2) := by decide +kernel
theorem dX8_judge_295 : decode cX8_judge 295 = .ok (.iaload, 1) := by decide +kernel
theorem dX8_judge_296 : decode cX8_judge 296 = .ok (.iastore, 1) := by decide +kernel
theorem dX8_judge_297 : decode cX8_judge 297 = .ok (.iinc 4 1, 3) := by decide +kernel
theorem dX8_judge_300 : decode cX8_judge 300 = .ok (.goto (-38), 3) := by decide +kernel
theorem dX8_judge_303 : decode cX8_judge 303 = .ok (.iconst 0, 1) := by decide +kernel
theorem dX8_judge_304 : decode cX8_judge 304 = .ok (.istore 4, 2) := by decide +kernel
theorem dX8_judge_306 : decode cX8_judge 306 = .ok (.iload 4, 2) := by decide +kernel
theorem dX8_judge_308 : decode cX8_judge 308 = .ok (.sipush 240, 3) := by decide +kernel
theorem dX8_judge_311 : decode cX8_judge 311 = .ok (.if_icmp .ge 23, 3) := by decide +kernel
theorem dX8_judge_314 : decode cX8_judge 314 = .ok (.aload_n 0, 1) := by decide +kernel
theorem dX8_judge_315 : decode cX8_judge 315 = .ok (.getfield 39, 3) := by decide +kernel
theorem dX8_judge_318 : decode cX8_judge 318 = .ok (.iload 4, 2) := by decide +kernel
theorem dX8_judge_320 : decode cX8_judge 320 = .ok (.aload_n 0, 1) := by decide +kernel
theorem dX8_judge_321 : decode cX8_judge 321 = .ok (.getfield 82, 3) := by decide +kernel
theorem dX8_judge_324 : decode cX8_judge 324 = .ok (.iload 4, 2) := by decide +kernel
theorem dX8_judge_326 : decode cX8_judge 326 = .ok (.iaload, 1) := by decide +kernel
theorem dX8_judge_327 : decode cX8_judge 327 = .ok (.iastore, 1) := by decide +kernel
theorem dX8_judge_328 : decode cX8_judge 328 = .ok (.iinc 4 1, 3) := by decide +kernel
theorem dX8_judge_331 : decode cX8_judge 331 = .ok (.goto (-25), 3) := by decide +kernel
theorem dX8_judge_334 : decode cX8_judge 334 = .ok (.iload_n 1, 1) := by decide +kernel
theorem dX8_judge_335 : decode cX8_judge 335 = .ok (.iconst (-1), 1) := by decide +kernel
theorem dX8_judge_336 : decode cX8_judge 336 = .ok (.if_icmp .ne 7, 3) := by decide +kernel
theorem dX8_judge_339 : decode cX8_judge 339 = .ok (.iload_n 3, 1) := by decide +kernel
theorem dX8_judge_340 : decode cX8_judge 340 = .ok (.goto 9, 3) := by decide +kernel
theorem dX8_judge_343 : decode cX8_judge 343 = .ok (.aload_n 0, 1) := by decide +kernel
theorem dX8_judge_344 : decode cX8_judge 344 = .ok (.getfield 73, 3) := by decide +kernel
theorem dX8_judge_347 : decode cX8_judge 347 = .ok (.iload_n 1, 1) := by decide +kernel
theorem dX8_judge_348 : decode cX8_judge 348 = .ok (.iaload, 1) := by decide +kernel
theorem dX8_judge_349 : decode cX8_judge 349 = .ok (.ireturn, 1) := by decide +kernel
set_option maxRecDepth 20000 in
theorem ggX8_isGain_X8_in : GoodIn wsX8_isGain wsX8_in := goodIn_sub (List.forall_mem_cons.mpr ⟨List.mem_cons_of_mem _ (List.mem_of_getElem? (i := 3) rfl), (fun _ h => absurd h List.not_mem_nil)⟩) (by decide +kernel)
set_option maxRecDepth 20000 in
theorem gX8_isGain_X8_in : GoodIn wsX8_isGain (va_wsS RX8 92 yX8_in wsX8_in) := goodIn_app (goodIn_of _ (by decide +kernel)) ggX8_isGain_X8_in
theorem dX8_isGain_0 : decode cX8_isGain 0 = .ok (.iload_n 0, 1) := by decide +kernel
theorem dX8_isGain_1 : decode cX8_isGain 1 = .ok (.iconst 0, 1) := by decide +kernel
theorem dX8_isGain_2 : decode cX8_isGain 2 = .ok (.sipush 999, 3) := by decide +kernel
theorem dX8_isGain_5 : decode cX8_isGain 5 = .ok (.invokestatic 92, 3) := by decide +kernel
theorem dX8_isGain_8 : decode cX8_isGain 8 = .ok (.ifCond .eq 17, 3) := by decide +kernel
theorem dX8_isGain_11 : decode cX8_isGain 11 = .ok (.iload_n 1, 1) := by decide +kernel
theorem dX8_isGain_12 : decode cX8_isGain 12 = .ok (.iconst 0, 1) := by decide +kernel
theorem dX8_isGain_13 : decode cX8_isGain 13 = .ok (.bipush 15, 2) := by decide +kernel
theorem dX8_isGain_15 : decode cX8_isGain 15 = .ok (.invokestatic 92, 3) := by decide +kernel
theorem dX8_isGain_18 : decode cX8_isGain 18 = .ok (.ifCond .eq 7, 3) := by decide +kernel
theorem dX8_isGain_21 : decode cX8_isGain 21 = .ok (.iconst 1, 1) := by decide +kernel
theorem dX8_isGain_22 : decode cX8_isGain 22 = .ok (.goto 4, 3) := by decide +kernel
theorem dX8_isGain_25 : decode cX8_isGain 25 = .ok (.iconst 0, 1) := by decide +kernel
theorem dX8_isGain_26 : decode cX8_isGain 26 = .ok (.ireturn, 1) := by decide +kernel
set_option maxRecDepth 20000 in
theorem ggX8_holds_X8_in : GoodIn wsX8_holds wsX8_in := goodIn_sub (List.forall_mem_cons.mpr ⟨List.mem_cons_of_mem _ (List.mem_of_getElem? (i := 3) rfl), (fun _ h => absurd h List.not_mem_nil)⟩) (by decide +kernel)
set_option maxRecDepth 20000 in
theorem gX8_holds_X8_in : GoodIn wsX8_holds (va_wsS RX8 92 yX8_in wsX8_in) := goodIn_app (goodIn_of _ (by decide +kernel)) ggX8_holds_X8_in
set_option maxRecDepth 20000 in
theorem ggX8_holds_X8_isGain : GoodIn wsX8_holds wsX8_isGain := goodIn_sub (List.forall_mem_cons.mpr ⟨List.mem_cons_of_mem _ (List.mem_of_getElem? (i := 6) rfl), (List.forall_mem_cons.mpr ⟨List.mem_cons_of_mem _ (List.mem_of_getElem? (i := 0) rfl), (List.forall_mem_cons.mpr ⟨List.mem_cons_of_mem _ (List.mem_of_getElem? (i := 1) rfl), (List.forall_mem_cons.mpr ⟨List.mem_cons_of_mem _ (List.mem_of_getElem? (i := 2) rfl), (List.forall_mem_cons.mpr ⟨List.mem_cons_of_mem _ (List.mem_of_getElem? (i := 3) rfl), (fun _ h => absurd h List.not_mem_nil)⟩)⟩)⟩)⟩)⟩) (by decide +kernel)
set_option maxRecDepth 20000 in
theorem gX8_holds_X8_isGain : GoodIn wsX8_holds (va_wsS RX8 331 yX8_isGain wsX8_isGain) := goodIn_app (goodIn_of _ (by decide +kernel)) ggX8_holds_X8_isGain
theorem dX8_holds_0 : decode cX8_holds 0 = .ok (.iload_n 1, 1) := by decide +kernel
theorem dX8_holds_1 : decode cX8_holds 1 = .ok (.iconst 1, 1) := by decide +kernel
theorem dX8_holds_2 : decode cX8_holds 2 = .ok (.sipush 9999, 3) := by decide +kernel
theorem dX8_holds_5 : decode cX8_holds 5 = .ok (.invokestatic 92, 3) := by decide +kernel
theorem dX8_holds_8 : decode cX8_holds 8 = .ok (.ifCond .eq 11, 3) := by decide +kernel
theorem dX8_holds_11 : decode cX8_holds 11 = .ok (.iload_n 2, 1) := by decide +kernel
theorem dX8_holds_12 : decode cX8_holds 12 = .ok (.iload_n 3, 1) := by decide +kernel
theorem dX8_holds_13 : decode cX8_holds 13 = .ok (.invokestatic 331, 3) := by decide +kernel
theorem dX8_holds_16 : decode cX8_holds 16 = .ok (.ifCond .ne 7, 3) := by decide +kernel
theorem dX8_holds_19 : decode cX8_holds 19 = .ok (.iconst (-1), 1) := by decide +kernel
theorem dX8_holds_20 : decode cX8_holds 20 = .ok (.goto 20, 3) := by decide +kernel
theorem dX8_holds_23 : decode cX8_holds 23 = .ok (.iload_n 2, 1) := by decide +kernel
theorem dX8_holds_24 : decode cX8_holds 24 = .ok (.iload_n 3, 1) := by decide +kernel
theorem dX8_holds_25 : decode cX8_holds 25 = .ok (.imul, 1) := by decide +kernel
theorem dX8_holds_26 : decode cX8_holds 26 = .ok (.iload_n 1, 1) := by decide +kernel
theorem dX8_holds_27 : decode cX8_holds 27 = .ok (.bipush 16, 2) := by decide +kernel
theorem dX8_holds_29 : decode cX8_holds 29 = .ok (.iload_n 3, 1) := by decide +kernel
theorem dX8_holds_30 : decode cX8_holds 30 = .ok (.isub, 1) := by decide +kernel
theorem dX8_holds_31 : decode cX8_holds 31 = .ok (.imul, 1) := by decide +kernel
theorem dX8_holds_32 : decode cX8_holds 32 = .ok (.if_icmp .lt 7, 3) := by decide +kernel
theorem dX8_holds_35 : decode cX8_holds 35 = .ok (.iconst 1, 1) := by decide +kernel
theorem dX8_holds_36 : decode cX8_holds 36 = .ok (.goto 4, 3) := by decide +kernel
theorem dX8_holds_39 : decode cX8_holds 39 = .ok (.iconst 0, 1) := by decide +kernel
theorem dX8_holds_40 : decode cX8_holds 40 = .ok (.ireturn, 1) := by decide +kernel
set_option maxRecDepth 20000 in
theorem ggX8_greatest_X8_isGain : GoodIn wsX8_greatest wsX8_isGain := goodIn_sub (List.forall_mem_cons.mpr ⟨List.mem_cons_of_mem _ (List.mem_of_getElem? (i := 8) rfl), (List.forall_mem_cons.mpr ⟨List.mem_cons_of_mem _ (List.mem_of_getElem? (i := 9) rfl), (List.forall_mem_cons.mpr ⟨List.mem_cons_of_mem _ (List.mem_of_getElem? (i := 10) rfl), (List.forall_mem_cons.mpr ⟨List.mem_cons_of_mem _ (List.mem_of_getElem? (i := 7) rfl), (List.forall_mem_cons.mpr ⟨List.mem_cons_of_mem _ (List.mem_of_getElem? (i := 11) rfl), (fun _ h => absurd h List.not_mem_nil)⟩)⟩)⟩)⟩)⟩) (by decide +kernel)
set_option maxRecDepth 20000 in
theorem gX8_greatest_X8_isGain : GoodIn wsX8_greatest (va_wsS RX8 331 yX8_isGain wsX8_isGain) := goodIn_app (goodIn_of _ (by decide +kernel)) ggX8_greatest_X8_isGain
theorem dX8_greatest_0 : decode cX8_greatest 0 = .ok (.iload_n 1, 1) := by decide +kernel
theorem dX8_greatest_1 : decode cX8_greatest 1 = .ok (.iload_n 2, 1) := by decide +kernel
theorem dX8_greatest_2 : decode cX8_greatest 2 = .ok (.invokestatic 331, 3) := by decide +kernel
theorem dX8_greatest_5 : decode cX8_greatest 5 = .ok (.ifCond .eq 20, 3) := by decide +kernel
theorem dX8_greatest_8 : decode cX8_greatest 8 = .ok (.ldc_w 334, 3) := by decide +kernel
theorem dX8_greatest_11 : decode cX8_greatest 11 = .ok (.iload_n 1, 1) := by decide +kernel
theorem dX8_greatest_12 : decode cX8_greatest 12 = .ok (.iload_n 2, 1) := by decide +kernel
theorem dX8_greatest_13 : decode cX8_greatest 13 = .ok (.imul, 1) := by decide +kernel
theorem dX8_greatest_14 : decode cX8_greatest 14 = .ok (.bipush 16, 2) := by decide +kernel
theorem dX8_greatest_16 : decode cX8_greatest 16 = .ok (.iload_n 2, 1) := by decide +kernel
theorem dX8_greatest_17 : decode cX8_greatest 17 = .ok (.isub, 1) := by decide +kernel
theorem dX8_greatest_18 : decode cX8_greatest 18 = .ok (.idiv, 1) := by decide +kernel
theorem dX8_greatest_19 : decode cX8_greatest 19 = .ok (.invokestatic 258, 3) := by decide +kernel
theorem dX8_greatest_22 : decode cX8_greatest 22 = .ok (.goto 4, 3) := by decide +kernel
theorem dX8_greatest_25 : decode cX8_greatest 25 = .ok (.iconst (-1), 1) := by decide +kernel
theorem dX8_greatest_26 : decode cX8_greatest 26 = .ok (.ireturn, 1) := by decide +kernel
set_option maxRecDepth 20000 in
theorem ggX8_names_X8_in : GoodIn wsX8_names wsX8_in := goodIn_sub (List.forall_mem_cons.mpr ⟨List.mem_cons_of_mem _ (List.mem_of_getElem? (i := 5) rfl), (fun _ h => absurd h List.not_mem_nil)⟩) (by decide +kernel)
set_option maxRecDepth 20000 in
theorem gX8_names_X8_in : GoodIn wsX8_names (va_wsS RX8 92 yX8_in wsX8_in) := goodIn_app (goodIn_of _ (by decide +kernel)) ggX8_names_X8_in
theorem dX8_names_0 : decode cX8_names 0 = .ok (.iload_n 1, 1) := by decide +kernel
theorem dX8_names_1 : decode cX8_names 1 = .ok (.iconst 1, 1) := by decide +kernel
theorem dX8_names_2 : decode cX8_names 2 = .ok (.bipush 60, 2) := by decide +kernel
theorem dX8_names_4 : decode cX8_names 4 = .ok (.invokestatic 92, 3) := by decide +kernel
theorem dX8_names_7 : decode cX8_names 7 = .ok (.ifCond .eq 13, 3) := by decide +kernel
theorem dX8_names_10 : decode cX8_names 10 = .ok (.iload_n 2, 1) := by decide +kernel
theorem dX8_names_11 : decode cX8_names 11 = .ok (.iconst 0, 1) := by decide +kernel
theorem dX8_names_12 : decode cX8_names 12 = .ok (.bipush 16, 2) := by decide +kernel
theorem dX8_names_14 : decode cX8_names 14 = .ok (.invokestatic 92, 3) := by decide +kernel
theorem dX8_names_17 : decode cX8_names 17 = .ok (.ifCond .ne 5, 3) := by decide +kernel
theorem dX8_names_20 : decode cX8_names 20 = .ok (.iconst (-1), 1) := by decide +kernel
theorem dX8_names_21 : decode cX8_names 21 = .ok (.ireturn, 1) := by decide +kernel
theorem dX8_names_22 : decode cX8_names 22 = .ok (.lconst 1, 1) := by decide +kernel
theorem dX8_names_23 : decode cX8_names 23 = .ok (.lstore_n 3, 1) := by decide +kernel
theorem dX8_names_24 : decode cX8_names 24 = .ok (.lconst 1, 1) := by decide +kernel
theorem dX8_names_25 : decode cX8_names 25 = .ok (.lstore 5, 2) := by decide +kernel
theorem dX8_names_27 : decode cX8_names 27 = .ok (.iconst 1, 1) := by decide +kernel
theorem dX8_names_28 : decode cX8_names 28 = .ok (.istore 7, 2) := by decide +kernel
theorem dX8_names_30 : decode cX8_names 30 = .ok (.iload 7, 2) := by decide +kernel
theorem dX8_names_32 : decode cX8_names 32 = .ok (.iload_n 1, 1) := by decide +kernel
theorem dX8_names_33 : decode cX8_names 33 = .ok (.if_icmp .gt 52, 3) := by decide +kernel
theorem dX8_names_36 : decode cX8_names 36 = .ok (.iload 7, 2) := by decide +kernel
theorem dX8_names_38 : decode cX8_names 38 = .ok (.bipush 12, 2) := by decide +kernel
theorem dX8_names_40 : decode cX8_names 40 = .ok (.if_icmp .gt 45, 3) := by decide +kernel
theorem dX8_names_43 : decode cX8_names 43 = .ok (.lload_n 3, 1) := by decide +kernel
theorem dX8_names_44 : decode cX8_names 44 = .ok (.ldc2_w 303, 3) := by decide +kernel
theorem dX8_names_47 : decode cX8_names 47 = .ok (.lmul, 1) := by decide +kernel
theorem dX8_names_48 : decode cX8_names 48 = .ok (.lstore_n 3, 1) := by decide +kernel
theorem dX8_names_49 : decode cX8_names 49 = .ok (.lload 5, 2) := by decide +kernel
theorem dX8_names_51 : decode cX8_names 51 = .ok (.bipush 16, 2) := by decide +kernel
theorem dX8_names_53 : decode cX8_names 53 = .ok (.iload_n 2, 1) := by decide +kernel
theorem dX8_names_54 : decode cX8_names 54 = .ok (.isub, 1) := by decide +kernel
theorem dX8_names_55 : decode cX8_names 55 = .ok (.i2l, 1) := by decide +kernel
theorem dX8_names_56 : decode cX8_names 56 = .ok (.lmul, 1) := by decide +kernel
theorem dX8_names_57 : decode cX8_names 57 = .ok (.lstore 5, 2) := by decide +kernel
theorem dX8_names_59 : decode cX8_names 59 = .ok (.ldc2_w 303, 3) := by decide +kernel
theorem dX8_names_62 : decode cX8_names 62 = .ok (.lload_n 3, 1) := by decide +kernel
theorem dX8_names_63 : decode cX8_names 63 = .ok (.lload 5, 2) := by decide +kernel
theorem dX8_names_65 : decode cX8_names 65 = .ok (.lsub, 1) := by decide +kernel
theorem dX8_names_66 : decode cX8_names 66 = .ok (.lmul, 1) := by decide +kernel
theorem dX8_names_67 : decode cX8_names 67 = .ok (.ldc2_w 335, 3) := by decide +kernel
theorem dX8_names_70 : decode cX8_names 70 = .ok (.lload_n 3, 1) := by decide +kernel
theorem dX8_names_71 : decode cX8_names 71 = .ok (.lmul, 1) := by decide +kernel
theorem dX8_names_72 : decode cX8_names 72 = .ok (.lcmp, 1) := by decide +kernel
theorem dX8_names_73 : decode cX8_names 73 = .ok (.ifCond .lt 6, 3) := by decide +kernel
theorem dX8_names_76 : decode cX8_names 76 = .ok (.iload 7, 2) := by decide +kernel
theorem dX8_names_78 : decode cX8_names 78 = .ok (.ireturn, 1) := by decide +kernel
theorem dX8_names_79 : decode cX8_names 79 = .ok (.iinc 7 1, 3) := by decide +kernel
theorem dX8_names_82 : decode cX8_names 82 = .ok (.goto (-52), 3) := by decide +kernel
theorem dX8_names_85 : decode cX8_names 85 = .ok (.iconst (-1), 1) := by decide +kernel
theorem dX8_names_86 : decode cX8_names 86 = .ok (.ireturn, 1) := by decide +kernel
theorem dX8_finds_0 : decode cX8_finds 0 = .ok (.iconst 0, 1) := by decide +kernel
theorem dX8_finds_1 : decode cX8_finds 1 = .ok (.istore_n 2, 1) := by decide +kernel
theorem dX8_finds_2 : decode cX8_finds 2 = .ok (.iload_n 2, 1) := by decide +kernel
theorem dX8_finds_3 : decode cX8_finds 3 = .ok (.iconst 5, 1) := by decide +kernel
theorem dX8_finds_4 : decode cX8_finds 4 = .ok (.if_icmp .ge 31, 3) := by decide +kernel
theorem dX8_finds_7 : decode cX8_finds 7 = .ok (.aload_n 0, 1) := by decide +kernel
theorem dX8_finds_8 : decode cX8_finds 8 = .ok (.getfield 85, 3) := by decide +kernel
theorem dX8_finds_11 : decode cX8_finds 11 = .ok (.iload_n 2, 1) := by decide +kernel
theorem dX8_finds_12 : decode cX8_finds 12 = .ok (.iload_n 1, 1) := by decide +kernel
theorem dX8_finds_13 : decode cX8_finds 13 = .ok (.iload_n 2, 1) := by decide +kernel
theorem dX8_finds_14 : decode cX8_finds 14 = .ok (.ishr, 1) := by decide +kernel
theorem dX8_finds_15 : decode cX8_finds 15 = .ok (.iconst 1, 1) := by decide +kernel
theorem dX8_finds_16 : decode cX8_finds 16 = .ok (.iand, 1) := by decide +kernel
theorem dX8_finds_17 : decode cX8_finds 17 = .ok (.iconst 1, 1) := by decide +kernel
theorem dX8_finds_18 : decode cX8_finds 18 = .ok (.if_icmp .ne 7, 3) := by decide +kernel
theorem dX8_finds_21 : decode cX8_finds 21 = .ok (.iconst 0, 1) := by decide +kernel
theorem dX8_finds_22 : decode cX8_finds 22 = .ok (.goto 6, 3) := by decide +kernel
theorem dX8_finds_25 : decode cX8_finds 25 = .ok (.ldc_w 294, 3) := by decide +kernel
theorem dX8_finds_28 : decode cX8_finds 28 = .ok (.iastore, 1) := by decide +kernel
theorem dX8_finds_29 : decode cX8_finds 29 = .ok (.iinc 2 1, 3) := by decide +kernel
theorem dX8_finds_32 : decode cX8_finds 32 = .ok (.goto (-30), 3) := by decide +kernel
theorem dX8_finds_35 : decode cX8_finds 35 = .ok (.iconst 0, 1) := by decide +kernel
theorem dX8_finds_36 : decode cX8_finds 36 = .ok (.istore_n 2, 1) := by decide +kernel
theorem dX8_finds_37 : decode cX8_finds 37 = .ok (.iload_n 2, 1) := by decide +kernel
theorem dX8_finds_38 : decode cX8_finds 38 = .ok (.iconst 5, 1) := by decide +kernel
theorem dX8_finds_39 : decode cX8_finds 39 = .ok (.if_icmp .ge 98, 3) := by decide +kernel
theorem dX8_finds_42 : decode cX8_finds 42 = .ok (.iconst 0, 1) := by decide +kernel
theorem dX8_finds_43 : decode cX8_finds 43 = .ok (.istore_n 3, 1) := by decide +kernel
theorem dX8_finds_44 : decode cX8_finds 44 = .ok (.iload_n 3, 1) := by decide +kernel
theorem dX8_finds_45 : decode cX8_finds 45 = .ok (.aload_n 0, 1) := by decide +kernel
theorem dX8_finds_46 : decode cX8_finds 46 = .ok (.getfield 240, 3) := by decide +kernel
theorem dX8_finds_49 : decode cX8_finds 49 = .ok (.if_icmp .ge 82, 3) := by decide +kernel
theorem dX8_finds_52 : decode cX8_finds 52 = .ok (.aload_n 0, 1) := by decide +kernel
theorem dX8_finds_53 : decode cX8_finds 53 = .ok (.getfield 30, 3) := by decide +kernel
theorem dX8_finds_56 : decode cX8_finds 56 = .ok (.iconst 3, 1) := by decide +kernel
theorem dX8_finds_57 : decode cX8_finds 57 = .ok (.iload_n 3, 1) := by decide +kernel
theorem dX8_finds_58 : decode cX8_finds 58 = .ok (.imul, 1) := by decide +kernel
theorem dX8_finds_59 : decode cX8_finds 59 = .ok (.iaload, 1) := by decide +kernel
theorem dX8_finds_60 : decode cX8_finds 60 = .ok (.istore 4, 2) := by decide +kernel
theorem dX8_finds_62 : decode cX8_finds 62 = .ok (.aload_n 0, 1) := by decide +kernel
theorem dX8_finds_63 : decode cX8_finds 63 = .ok (.getfield 85, 3) := by decide +kernel
theorem dX8_finds_66 : decode cX8_finds 66 = .ok (.aload_n 0, 1) := by decide +kernel
theorem dX8_finds_67 : decode cX8_finds 67 = .ok (.getfield 30, 3) := by decide +kernel
theorem dX8_finds_70 : decode cX8_finds 70 = .ok (.iconst 3, 1) := by decide +kernel
theorem dX8_finds_71 : decode cX8_finds 71 = .ok (.iload_n 3, 1) := by decide +kernel
theorem dX8_finds_72 : decode cX8_finds 72 = .ok (.imul, 1) := by decide +kernel
theorem dX8_finds_73 : decode cX8_finds 73 = .ok (.iconst 1, 1) := by decide +kernel
theorem dX8_finds_74 : decode cX8_finds 74 = .ok (.iadd, 1) := by decide +kernel
theorem dX8_finds_75 : decode cX8_finds 75 = .ok (.iaload, 1) := by decide +kernel
theorem dX8_finds_76 : decode cX8_finds 76 = .ok (.iaload, 1) := by decide +kernel
theorem dX8_finds_77 : decode cX8_finds 77 = .ok (.bipush 100, 2) := by decide +kernel
theorem dX8_finds_79 : decode cX8_finds 79 = .ok (.aload_n 0, 1) := by decide +kernel
theorem dX8_finds_80 : decode cX8_finds 80 = .ok (.getfield 30, 3) := by decide +kernel
theorem dX8_finds_83 : decode cX8_finds 83 = .ok (.iconst 3, 1) := by decide +kernel
theorem dX8_finds_84 : decode cX8_finds 84 = .ok (.iload_n 3, 1) := by decide +kernel
theorem dX8_finds_85 : decode cX8_finds 85 = .ok (.imul, 1) := by decide +kernel
theorem dX8_finds_86 : decode cX8_finds 86 = .ok (.iconst 2, 1) := by decide +kernel
theorem dX8_finds_87 : decode cX8_finds 87 = .ok (.iadd, 1) := by decide +kernel
theorem dX8_finds_88 : decode cX8_finds 88 = .ok (.iaload, 1) := by decide +kernel
theorem dX8_finds_89 : decode cX8_finds 89 = .ok (.imul, 1) := by decide +kernel
theorem dX8_finds_90 : decode cX8_finds 90 = .ok (.iadd, 1) := by decide +kernel
theorem dX8_finds_91 : decode cX8_finds 91 = .ok (.iconst 1, 1) := by decide +kernel
theorem dX8_finds_92 : decode cX8_finds 92 = .ok (.iadd, 1) := by decide +kernel
theorem dX8_finds_93 : decode cX8_finds 93 = .ok (.istore 5, 2) := by decide +kernel
theorem dX8_finds_95 : decode cX8_finds 95 = .ok (.iload_n 1, 1) := by decide +kernel
theorem dX8_finds_96 : decode cX8_finds 96 = .ok (.iload 4, 2) := by decide +kernel
theorem dX8_finds_98 : decode cX8_finds 98 = .ok (.ishr, 1) := by decide +kernel
theorem dX8_finds_99 : decode cX8_finds 99 = .ok (.iconst 1, 1) := by decide +kernel
theorem dX8_finds_100 : decode cX8_finds 100 = .ok (.iand, 1) := by decide +kernel
theorem dX8_finds_101 : decode cX8_finds 101 = .ok (.ifCond .ne 24, 3) := by decide +kernel
theorem dX8_finds_104 : decode cX8_finds 104 = .ok (.iload 5, 2) := by decide +kernel
theorem dX8_finds_106 : decode cX8_finds 106 = .ok (.aload_n 0, 1) := by decide +kernel
theorem dX8_finds_107 : decode cX8_finds 107 = .ok (.getfield 85, 3) := by decide +kernel
theorem dX8_finds_110 : decode cX8_finds 110 = .ok (.iload 4, 2) := by decide +kernel
theorem dX8_finds_112 : decode cX8_finds 112 = .ok (.iaload, 1) := by decide +kernel
theorem dX8_finds_113 : decode cX8_finds 113 = .ok (.if_icmp .ge 12, 3) := by decide +kernel
theorem dX8_finds_116 : decode cX8_finds 116 = .ok (.aload_n 0, 1) := by decide +kernel
theorem dX8_finds_117 : decode cX8_finds 117 = .ok (.getfield 85, 3) := by decide +kernel
theorem dX8_finds_120 : decode cX8_finds 120 = .ok (.iload 4, 2) := by decide +kernel
theorem dX8_finds_122 : decode cX8_finds 122 = .ok (.iload 5, 2) := by decide +kernel
theorem dX8_finds_124 : decode cX8_finds 124 = .ok (.iastore, 1) := by decide +kernel
theorem dX8_finds_125 : decode cX8_finds 125 = .ok (.iinc 3 1, 3) := by decide +kernel
theorem dX8_finds_128 : decode cX8_finds 128 = .ok (.goto (-84), 3) := by decide +kernel
theorem dX8_finds_131 : decode cX8_finds 131 = .ok (.iinc 2 1, 3) := by decide +kernel
theorem dX8_finds_134 : decode cX8_finds 134 = .ok (.goto (-97), 3) := by decide +kernel
theorem dX8_finds_137 : decode cX8_finds 137 = .ok (.return_, 1) := by decide +kernel
theorem ilX8_round_wsX80 : ∀ w ∈ wsX80, w ∈ wsX8_round := fun _ h => List.mem_cons_of_mem _ (List.mem_append_right _ (h))
set_option maxRecDepth 20000 in
theorem ggX8_round_X8_in : GoodIn wsX8_round wsX8_in := goodIn_sub (List.forall_mem_cons.mpr ⟨List.mem_cons_of_mem _ (List.mem_append_left _ (List.mem_of_getElem? (i := 8) rfl)), (fun _ h => absurd h List.not_mem_nil)⟩) (by decide +kernel)
set_option maxRecDepth 20000 in
theorem gX8_round_X8_in : GoodIn wsX8_round (va_wsS RX8 92 yX8_in wsX8_in) := goodIn_app (goodIn_of _ (by decide +kernel)) ggX8_round_X8_in
set_option maxRecDepth 20000 in
theorem ggX8_round_X8_finds : GoodIn wsX8_round wsX8_finds := goodIn_sub (List.forall_mem_cons.mpr ⟨List.mem_cons_of_mem _ (List.mem_append_left _ (List.mem_of_getElem? (i := 12) rfl)), (List.forall_mem_append.mpr ⟨(List.forall_mem_cons.mpr ⟨List.mem_cons_of_mem _ (List.mem_append_left _ (List.mem_of_getElem? (i := 2) rfl)), (List.forall_mem_cons.mpr ⟨List.mem_cons_of_mem _ (List.mem_append_left _ (List.mem_of_getElem? (i := 3) rfl)), (List.forall_mem_cons.mpr ⟨List.mem_cons_of_mem _ (List.mem_append_left _ (List.mem_of_getElem? (i := 13) rfl)), (List.forall_mem_cons.mpr ⟨List.mem_cons_of_mem _ (List.mem_append_left _ (List.mem_of_getElem? (i := 4) rfl)), (fun _ h => absurd h List.not_mem_nil)⟩)⟩)⟩)⟩), ilX8_round_wsX80⟩)⟩) (by decide +kernel)
set_option maxRecDepth 20000 in
theorem gX8_round_X8_finds : GoodIn wsX8_round (wsV RX8 337 RX8 yX8_finds wsX8_finds) := goodIn_app (goodIn_sub (List.forall_mem_cons.mpr ⟨List.mem_cons_of_mem _ (List.mem_append_left _ (List.mem_of_getElem? (i := 9) rfl)), (List.forall_mem_cons.mpr ⟨List.mem_cons_of_mem _ (List.mem_append_left _ (List.mem_of_getElem? (i := 10) rfl)), (List.forall_mem_cons.mpr ⟨List.mem_cons_of_mem _ (List.mem_append_left _ (List.mem_of_getElem? (i := 11) rfl)), (List.forall_mem_cons.mpr ⟨List.mem_cons_of_mem _ (List.mem_append_left _ (List.mem_of_getElem? (i := 7) rfl)), (fun _ h => absurd h List.not_mem_nil)⟩)⟩)⟩)⟩) (by decide +kernel)) ggX8_round_X8_finds
theorem dX8_round_0 : decode cX8_round 0 = .ok (.aload_n 0, 1) := by decide +kernel
theorem dX8_round_1 : decode cX8_round 1 = .ok (.getfield 214, 3) := by decide +kernel
theorem dX8_round_4 : decode cX8_round 4 = .ok (.ifCond .eq 17, 3) := by decide +kernel
theorem dX8_round_7 : decode cX8_round 7 = .ok (.iload_n 1, 1) := by decide +kernel
theorem dX8_round_8 : decode cX8_round 8 = .ok (.iconst 0, 1) := by decide +kernel
theorem dX8_round_9 : decode cX8_round 9 = .ok (.iconst 4, 1) := by decide +kernel
theorem dX8_round_10 : decode cX8_round 10 = .ok (.invokestatic 92, 3) := by decide +kernel
theorem dX8_round_13 : decode cX8_round 13 = .ok (.ifCond .eq 8, 3) := by decide +kernel
theorem dX8_round_16 : decode cX8_round 16 = .ok (.iload_n 2, 1) := by decide +kernel
theorem dX8_round_17 : decode cX8_round 17 = .ok (.iconst (-1), 1) := by decide +kernel
theorem dX8_round_18 : decode cX8_round 18 = .ok (.if_icmp .ge 5, 3) := by decide +kernel
theorem dX8_round_21 : decode cX8_round 21 = .ok (.iconst (-1), 1) := by decide +kernel
theorem dX8_round_22 : decode cX8_round 22 = .ok (.ireturn, 1) := by decide +kernel
theorem dX8_round_23 : decode cX8_round 23 = .ok (.aload_n 0, 1) := by decide +kernel
theorem dX8_round_24 : decode cX8_round 24 = .ok (.aload_n 0, 1) := by decide +kernel
theorem dX8_round_25 : decode cX8_round 25 = .ok (.getfield 237, 3) := by decide +kernel
theorem dX8_round_28 : decode cX8_round 28 = .ok (.invokevirtual 337, 3) := by decide +kernel
theorem dX8_round_31 : decode cX8_round 31 = .ok (.aload_n 0, 1) := by decide +kernel
theorem dX8_round_32 : decode cX8_round 32 = .ok (.getfield 85, 3) := by decide +kernel
theorem dX8_round_35 : decode cX8_round 35 = .ok (.iload_n 1, 1) := by decide +kernel
theorem dX8_round_36 : decode cX8_round 36 = .ok (.iaload, 1) := by decide +kernel
theorem dX8_round_37 : decode cX8_round 37 = .ok (.ldc_w 294, 3) := by decide +kernel
theorem dX8_round_40 : decode cX8_round 40 = .ok (.if_icmp .lt 5, 3) := by decide +kernel
theorem dX8_round_43 : decode cX8_round 43 = .ok (.iconst (-1), 1) := by decide +kernel
theorem dX8_round_44 : decode cX8_round 44 = .ok (.ireturn, 1) := by decide +kernel
theorem dX8_round_45 : decode cX8_round 45 = .ok (.iload_n 2, 1) := by decide +kernel
theorem dX8_round_46 : decode cX8_round 46 = .ok (.iconst (-1), 1) := by decide +kernel
theorem dX8_round_47 : decode cX8_round 47 = .ok (.if_icmp .ne 13, 3) := by decide +kernel
theorem dX8_round_50 : decode cX8_round 50 = .ok (.aload_n 0, 1) := by decide +kernel
theorem dX8_round_51 : decode cX8_round 51 = .ok (.getfield 85, 3) := by decide +kernel
theorem dX8_round_54 : decode cX8_round 54 = .ok (.iload_n 1, 1) := by decide +kernel
theorem dX8_round_55 : decode cX8_round 55 = .ok (.iaload, 1) := by decide +kernel
theorem dX8_round_56 : decode cX8_round 56 = .ok (.bipush 100, 2) := by decide +kernel
theorem dX8_round_58 : decode cX8_round 58 = .ok (.idiv, 1) := by decide +kernel
theorem dX8_round_59 : decode cX8_round 59 = .ok (.ireturn, 1) := by decide +kernel
theorem dX8_round_60 : decode cX8_round 60 = .ok (.iload_n 1, 1) := by decide +kernel
theorem dX8_round_61 : decode cX8_round 61 = .ok (.istore_n 3, 1) := by decide +kernel
theorem dX8_round_62 : decode cX8_round 62 = .ok (.iconst 0, 1) := by decide +kernel
theorem dX8_round_63 : decode cX8_round 63 = .ok (.istore 4, 2) := by decide +kernel
theorem dX8_round_65 : decode cX8_round 65 = .ok (.aload_n 0, 1) := by decide +kernel
theorem dX8_round_66 : decode cX8_round 66 = .ok (.getfield 85, 3) := by decide +kernel
theorem dX8_round_69 : decode cX8_round 69 = .ok (.iload_n 3, 1) := by decide +kernel
theorem dX8_round_70 : decode cX8_round 70 = .ok (.iaload, 1) := by decide +kernel
theorem dX8_round_71 : decode cX8_round 71 = .ok (.ifCond .le 94, 3) := by decide +kernel
theorem dX8_round_74 : decode cX8_round 74 = .ok (.iconst 0, 1) := by decide +kernel
theorem dX8_round_75 : decode cX8_round 75 = .ok (.istore 5, 2) := by decide +kernel
theorem dX8_round_77 : decode cX8_round 77 = .ok (.aload_n 0, 1) := by decide +kernel
theorem dX8_round_78 : decode cX8_round 78 = .ok (.getfield 30, 3) := by decide +kernel
theorem dX8_round_81 : decode cX8_round 81 = .ok (.iconst 3, 1) := by decide +kernel
theorem dX8_round_82 : decode cX8_round 82 = .ok (.iload 5, 2) := by decide +kernel
theorem dX8_round_84 : decode cX8_round 84 = .ok (.imul, 1) := by decide +kernel
theorem dX8_round_85 : decode cX8_round 85 = .ok (.iaload, 1) := by decide +kernel
theorem dX8_round_86 : decode cX8_round 86 = .ok (.iload_n 3, 1) := by decide +kernel
theorem dX8_round_87 : decode cX8_round 87 = .ok (.if_icmp .ne 45, 3) := by decide +kernel
theorem dX8_round_90 : decode cX8_round 90 = .ok (.aload_n 0, 1) := by decide +kernel
theorem dX8_round_91 : decode cX8_round 91 = .ok (.getfield 85, 3) := by decide +kernel
theorem dX8_round_94 : decode cX8_round 94 = .ok (.aload_n 0, 1) := by decide +kernel
theorem dX8_round_95 : decode cX8_round 95 = .ok (.getfield 30, 3) := by decide +kernel
theorem dX8_round_98 : decode cX8_round 98 = .ok (.iconst 3, 1) := by decide +kernel
theorem dX8_round_99 : decode cX8_round 99 = .ok (.iload 5, 2) := by decide +kernel
theorem dX8_round_101 : decode cX8_round 101 = .ok (.imul, 1) := by decide +kernel
theorem dX8_round_102 : decode cX8_round 102 = .ok (.iconst 1, 1) := by decide +kernel
theorem dX8_round_103 : decode cX8_round 103 = .ok (.iadd, 1) := by decide +kernel
theorem dX8_round_104 : decode cX8_round 104 = .ok (.iaload, 1) := by decide +kernel
theorem dX8_round_105 : decode cX8_round 105 = .ok (.iaload, 1) := by decide +kernel
theorem dX8_round_106 : decode cX8_round 106 = .ok (.bipush 100, 2) := by decide +kernel
theorem dX8_round_108 : decode cX8_round 108 = .ok (.aload_n 0, 1) := by decide +kernel
theorem dX8_round_109 : decode cX8_round 109 = .ok (.getfield 30, 3) := by decide +kernel
theorem dX8_round_112 : decode cX8_round 112 = .ok (.iconst 3, 1) := by decide +kernel
theorem dX8_round_113 : decode cX8_round 113 = .ok (.iload 5, 2) := by decide +kernel
theorem dX8_round_115 : decode cX8_round 115 = .ok (.imul, 1) := by decide +kernel
theorem dX8_round_116 : decode cX8_round 116 = .ok (.iconst 2, 1) := by decide +kernel
theorem dX8_round_117 : decode cX8_round 117 = .ok (.iadd, 1) := by decide +kernel
theorem dX8_round_118 : decode cX8_round 118 = .ok (.iaload, 1) := by decide +kernel
theorem dX8_round_119 : decode cX8_round 119 = .ok (.imul, 1) := by decide +kernel
theorem dX8_round_120 : decode cX8_round 120 = .ok (.iadd, 1) := by decide +kernel
theorem dX8_round_121 : decode cX8_round 121 = .ok (.iconst 1, 1) := by decide +kernel
theorem dX8_round_122 : decode cX8_round 122 = .ok (.iadd, 1) := by decide +kernel
theorem dX8_round_123 : decode cX8_round 123 = .ok (.aload_n 0, 1) := by decide +kernel
theorem dX8_round_124 : decode cX8_round 124 = .ok (.getfield 85, 3) := by decide +kernel
theorem dX8_round_127 : decode cX8_round 127 = .ok (.iload_n 3, 1) := by decide +kernel
theorem dX8_round_128 : decode cX8_round 128 = .ok (.iaload, 1) := by decide +kernel
theorem dX8_round_129 : decode cX8_round 129 = .ok (.if_icmp .eq 9, 3) := by decide +kernel
theorem dX8_round_132 : decode cX8_round 132 = .ok (.iinc 5 1, 3) := by decide +kernel
theorem dX8_round_135 : decode cX8_round 135 = .ok (.goto (-58), 3) := by decide +kernel
theorem dX8_round_138 : decode cX8_round 138 = .ok (.iload 4, 2) := by decide +kernel
theorem dX8_round_140 : decode cX8_round 140 = .ok (.iload_n 2, 1) := by decide +kernel
theorem dX8_round_141 : decode cX8_round 141 = .ok (.if_icmp .ne 6, 3) := by decide +kernel
theorem dX8_round_144 : decode cX8_round 144 = .ok (.iload 5, 2) := by decide +kernel
theorem dX8_round_146 : decode cX8_round 146 = .ok (.ireturn, 1) := by decide +kernel
theorem dX8_round_147 : decode cX8_round 147 = .ok (.iinc 4 1, 3) := by decide +kernel
theorem dX8_round_150 : decode cX8_round 150 = .ok (.aload_n 0, 1) := by decide +kernel
theorem dX8_round_151 : decode cX8_round 151 = .ok (.getfield 30, 3) := by decide +kernel
theorem dX8_round_154 : decode cX8_round 154 = .ok (.iconst 3, 1) := by decide +kernel
theorem dX8_round_155 : decode cX8_round 155 = .ok (.iload 5, 2) := by decide +kernel
theorem dX8_round_157 : decode cX8_round 157 = .ok (.imul, 1) := by decide +kernel
theorem dX8_round_158 : decode cX8_round 158 = .ok (.iconst 1, 1) := by decide +kernel
theorem dX8_round_159 : decode cX8_round 159 = .ok (.iadd, 1) := by decide +kernel
theorem dX8_round_160 : decode cX8_round 160 = .ok (.iaload, 1) := by decide +kernel
theorem dX8_round_161 : decode cX8_round 161 = .ok (.istore_n 3, 1) := by decide +kernel
theorem dX8_round_162 : decode cX8_round 162 = .ok (.goto (-97), 3) := by decide +kernel
theorem dX8_round_165 : decode cX8_round 165 = .ok (.iconst (-1), 1) := by decide +kernel
theorem dX8_round_166 : decode cX8_round 166 = .ok (.ireturn, 1) := by decide +kernel
theorem dX8_ones_0 : decode cX8_ones 0 = .ok (.iconst 0, 1) := by decide +kernel
theorem dX8_ones_1 : decode cX8_ones 1 = .ok (.istore_n 1, 1) := by decide +kernel
theorem dX8_ones_2 : decode cX8_ones 2 = .ok (.iconst 0, 1) := by decide +kernel
theorem dX8_ones_3 : decode cX8_ones 3 = .ok (.istore_n 2, 1) := by decide +kernel
theorem dX8_ones_4 : decode cX8_ones 4 = .ok (.iload_n 2, 1) := by decide +kernel
theorem dX8_ones_5 : decode cX8_ones 5 = .ok (.iconst 5, 1) := by decide +kernel
theorem dX8_ones_6 : decode cX8_ones 6 = .ok (.if_icmp .ge 17, 3) := by decide +kernel
theorem dX8_ones_9 : decode cX8_ones 9 = .ok (.iload_n 1, 1) := by decide +kernel
theorem dX8_ones_10 : decode cX8_ones 10 = .ok (.iload_n 0, 1) := by decide +kernel
theorem dX8_ones_11 : decode cX8_ones 11 = .ok (.iload_n 2, 1) := by decide +kernel
theorem dX8_ones_12 : decode cX8_ones 12 = .ok (.ishr, 1) := by decide +kernel
theorem dX8_ones_13 : decode cX8_ones 13 = .ok (.iconst 1, 1) := by decide +kernel
theorem dX8_ones_14 : decode cX8_ones 14 = .ok (.iand, 1) := by decide +kernel
theorem dX8_ones_15 : decode cX8_ones 15 = .ok (.iadd, 1) := by decide +kernel
theorem dX8_ones_16 : decode cX8_ones 16 = .ok (.istore_n 1, 1) := by decide +kernel
theorem dX8_ones_17 : decode cX8_ones 17 = .ok (.iinc 2 1, 3) := by decide +kernel
theorem dX8_ones_20 : decode cX8_ones 20 = .ok (.goto (-16), 3) := by decide +kernel
theorem dX8_ones_23 : decode cX8_ones 23 = .ok (.iload_n 1, 1) := by decide +kernel
theorem dX8_ones_24 : decode cX8_ones 24 = .ok (.ireturn, 1) := by decide +kernel
theorem ilX8_words_wsX80 : ∀ w ∈ wsX80, w ∈ wsX8_words := fun _ h => List.mem_cons_of_mem _ (List.mem_append_right _ (h))
set_option maxRecDepth 20000 in
theorem ggX8_words_X8_in : GoodIn wsX8_words wsX8_in := goodIn_sub (List.forall_mem_cons.mpr ⟨List.mem_cons_of_mem _ (List.mem_append_left _ (List.mem_of_getElem? (i := 7) rfl)), (fun _ h => absurd h List.not_mem_nil)⟩) (by decide +kernel)
set_option maxRecDepth 20000 in
theorem gX8_words_X8_in : GoodIn wsX8_words (va_wsS RX8 92 yX8_in wsX8_in) := goodIn_app (goodIn_of _ (by decide +kernel)) ggX8_words_X8_in
set_option maxRecDepth 20000 in
theorem ggX8_words_X8_ones : GoodIn wsX8_words wsX8_ones := goodIn_sub (List.forall_mem_cons.mpr ⟨List.mem_cons_of_mem _ (List.mem_append_left _ (List.mem_of_getElem? (i := 10) rfl)), (fun _ h => absurd h List.not_mem_nil)⟩) (by decide +kernel)
set_option maxRecDepth 20000 in
theorem gX8_words_X8_ones : GoodIn wsX8_words (va_wsS RX8 340 yX8_ones wsX8_ones) := goodIn_app (goodIn_of _ (by decide +kernel)) ggX8_words_X8_ones
set_option maxRecDepth 20000 in
theorem ggX8_words_X8_finds : GoodIn wsX8_words wsX8_finds := goodIn_sub (List.forall_mem_cons.mpr ⟨List.mem_cons_of_mem _ (List.mem_append_left _ (List.mem_of_getElem? (i := 14) rfl)), (List.forall_mem_append.mpr ⟨(List.forall_mem_cons.mpr ⟨List.mem_cons_of_mem _ (List.mem_append_left _ (List.mem_of_getElem? (i := 2) rfl)), (List.forall_mem_cons.mpr ⟨List.mem_cons_of_mem _ (List.mem_append_left _ (List.mem_of_getElem? (i := 3) rfl)), (List.forall_mem_cons.mpr ⟨List.mem_cons_of_mem _ (List.mem_append_left _ (List.mem_of_getElem? (i := 15) rfl)), (List.forall_mem_cons.mpr ⟨List.mem_cons_of_mem _ (List.mem_append_left _ (List.mem_of_getElem? (i := 16) rfl)), (fun _ h => absurd h List.not_mem_nil)⟩)⟩)⟩)⟩), ilX8_words_wsX80⟩)⟩) (by decide +kernel)
set_option maxRecDepth 20000 in
theorem gX8_words_X8_finds : GoodIn wsX8_words (wsV RX8 337 RX8 yX8_finds wsX8_finds) := goodIn_app (goodIn_sub (List.forall_mem_cons.mpr ⟨List.mem_cons_of_mem _ (List.mem_append_left _ (List.mem_of_getElem? (i := 11) rfl)), (List.forall_mem_cons.mpr ⟨List.mem_cons_of_mem _ (List.mem_append_left _ (List.mem_of_getElem? (i := 12) rfl)), (List.forall_mem_cons.mpr ⟨List.mem_cons_of_mem _ (List.mem_append_left _ (List.mem_of_getElem? (i := 13) rfl)), (List.forall_mem_cons.mpr ⟨List.mem_cons_of_mem _ (List.mem_append_left _ (List.mem_of_getElem? (i := 6) rfl)), (fun _ h => absurd h List.not_mem_nil)⟩)⟩)⟩)⟩) (by decide +kernel)) ggX8_words_X8_finds
theorem dX8_words_0 : decode cX8_words 0 = .ok (.aload_n 0, 1) := by decide +kernel
theorem dX8_words_1 : decode cX8_words 1 = .ok (.getfield 214, 3) := by decide +kernel
theorem dX8_words_4 : decode cX8_words 4 = .ok (.ifCond .eq 24, 3) := by decide +kernel
theorem dX8_words_7 : decode cX8_words 7 = .ok (.iload_n 1, 1) := by decide +kernel
theorem dX8_words_8 : decode cX8_words 8 = .ok (.iconst 0, 1) := by decide +kernel
theorem dX8_words_9 : decode cX8_words 9 = .ok (.bipush 31, 2) := by decide +kernel
theorem dX8_words_11 : decode cX8_words 11 = .ok (.invokestatic 92, 3) := by decide +kernel
theorem dX8_words_14 : decode cX8_words 14 = .ok (.ifCond .eq 14, 3) := by decide +kernel
theorem dX8_words_17 : decode cX8_words 17 = .ok (.iload_n 2, 1) := by decide +kernel
theorem dX8_words_18 : decode cX8_words 18 = .ok (.iconst 0, 1) := by decide +kernel
theorem dX8_words_19 : decode cX8_words 19 = .ok (.sipush 2000, 3) := by decide +kernel
theorem dX8_words_22 : decode cX8_words 22 = .ok (.invokestatic 92, 3) := by decide +kernel
theorem dX8_words_25 : decode cX8_words 25 = .ok (.ifCond .ne 5, 3) := by decide +kernel
theorem dX8_words_28 : decode cX8_words 28 = .ok (.iconst (-1), 1) := by decide +kernel
theorem dX8_words_29 : decode cX8_words 29 = .ok (.ireturn, 1) := by decide +kernel
theorem dX8_words_30 : decode cX8_words 30 = .ok (.iconst (-1), 1) := by decide +kernel
theorem dX8_words_31 : decode cX8_words 31 = .ok (.istore_n 3, 1) := by decide +kernel
theorem dX8_words_32 : decode cX8_words 32 = .ok (.iconst 0, 1) := by decide +kernel
theorem dX8_words_33 : decode cX8_words 33 = .ok (.istore 4, 2) := by decide +kernel
theorem dX8_words_35 : decode cX8_words 35 = .ok (.iload 4, 2) := by decide +kernel
theorem dX8_words_37 : decode cX8_words 37 = .ok (.bipush 32, 2) := by decide +kernel
theorem dX8_words_39 : decode cX8_words 39 = .ok (.if_icmp .ge 150, 3) := by decide +kernel
theorem dX8_words_42 : decode cX8_words 42 = .ok (.iload 4, 2) := by decide +kernel
theorem dX8_words_44 : decode cX8_words 44 = .ok (.aload_n 0, 1) := by decide +kernel
theorem dX8_words_45 : decode cX8_words 45 = .ok (.getfield 237, 3) := by decide +kernel
theorem dX8_words_48 : decode cX8_words 48 = .ok (.iconst (-1), 1) := by decide +kernel
theorem dX8_words_49 : decode cX8_words 49 = .ok (.ixor, 1) := by decide +kernel
theorem dX8_words_50 : decode cX8_words 50 = .ok (.iand, 1) := by decide +kernel
theorem dX8_words_51 : decode cX8_words 51 = .ok (.ifCond .ne 132, 3) := by decide +kernel
theorem dX8_words_54 : decode cX8_words 54 = .ok (.iload 4, 2) := by decide +kernel
theorem dX8_words_56 : decode cX8_words 56 = .ok (.iload_n 1, 1) := by decide +kernel
theorem dX8_words_57 : decode cX8_words 57 = .ok (.iand, 1) := by decide +kernel
theorem dX8_words_58 : decode cX8_words 58 = .ok (.ifCond .ne 125, 3) := by decide +kernel
theorem dX8_words_61 : decode cX8_words 61 = .ok (.iload_n 3, 1) := by decide +kernel
theorem dX8_words_62 : decode cX8_words 62 = .ok (.iconst (-1), 1) := by decide +kernel
theorem dX8_words_63 : decode cX8_words 63 = .ok (.if_icmp .eq 18, 3) := by decide +kernel
theorem dX8_words_66 : decode cX8_words 66 = .ok (.iload 4, 2) := by decide +kernel
theorem dX8_words_68 : decode cX8_words 68 = .ok (.invokestatic 340, 3) := by decide +kernel
theorem dX8_words_71 : decode cX8_words 71 = .ok (.iload_n 3, 1) := by decide +kernel
theorem dX8_words_72 : decode cX8_words 72 = .ok (.invokestatic 340, 3) := by decide +kernel
theorem dX8_words_75 : decode cX8_words 75 = .ok (.if_icmp .lt 6, 3) := by decide +kernel
theorem dX8_words_78 : decode cX8_words 78 = .ok (.goto 105, 3) := by decide +kernel
theorem dX8_words_81 : decode cX8_words 81 = .ok (.aload_n 0, 1) := by decide +kernel
theorem dX8_words_82 : decode cX8_words 82 = .ok (.aload_n 0, 1) := by decide +kernel
theorem dX8_words_83 : decode cX8_words 83 = .ok (.getfield 237, 3) := by decide +kernel
theorem dX8_words_86 : decode cX8_words 86 = .ok (.iload 4, 2) := by decide +kernel
theorem dX8_words_88 : decode cX8_words 88 = .ok (.iconst (-1), 1) := by decide +kernel
theorem dX8_words_89 : decode cX8_words 89 = .ok (.ixor, 1) := by decide +kernel
theorem dX8_words_90 : decode cX8_words 90 = .ok (.iand, 1) := by decide +kernel
theorem dX8_words_91 : decode cX8_words 91 = .ok (.invokevirtual 337, 3) := by decide +kernel
theorem dX8_words_94 : decode cX8_words 94 = .ok (.iconst 1, 1) := by decide +kernel
theorem dX8_words_95 : decode cX8_words 95 = .ok (.istore 5, 2) := by decide +kernel
theorem dX8_words_97 : decode cX8_words 97 = .ok (.iconst 0, 1) := by decide +kernel
theorem dX8_words_98 : decode cX8_words 98 = .ok (.istore 6, 2) := by decide +kernel
theorem dX8_words_100 : decode cX8_words 100 = .ok (.iload 6, 2) := by decide +kernel
theorem dX8_words_102 : decode cX8_words 102 = .ok (.iconst 5, 1) := by decide +kernel
theorem dX8_words_103 : decode cX8_words 103 = .ok (.if_icmp .ge 72, 3) := by decide +kernel
theorem dX8_words_106 : decode cX8_words 106 = .ok (.iload 5, 2) := by decide +kernel
theorem dX8_words_108 : decode cX8_words 108 = .ok (.ifCond .eq 58, 3) := by decide +kernel
theorem dX8_words_111 : decode cX8_words 111 = .ok (.aload_n 0, 1) := by decide +kernel
theorem dX8_words_112 : decode cX8_words 112 = .ok (.getfield 237, 3) := by decide +kernel
theorem dX8_words_115 : decode cX8_words 115 = .ok (.iload 4, 2) := by decide +kernel
theorem dX8_words_117 : decode cX8_words 117 = .ok (.iconst (-1), 1) := by decide +kernel
theorem dX8_words_118 : decode cX8_words 118 = .ok (.ixor, 1) := by decide +kernel
theorem dX8_words_119 : decode cX8_words 119 = .ok (.iand, 1) := by decide +kernel
theorem dX8_words_120 : decode cX8_words 120 = .ok (.iload 6, 2) := by decide +kernel
theorem dX8_words_122 : decode cX8_words 122 = .ok (.ishr, 1) := by decide +kernel
theorem dX8_words_123 : decode cX8_words 123 = .ok (.iconst 1, 1) := by decide +kernel
theorem dX8_words_124 : decode cX8_words 124 = .ok (.iand, 1) := by decide +kernel
theorem dX8_words_125 : decode cX8_words 125 = .ok (.aload_n 0, 1) := by decide +kernel
theorem dX8_words_126 : decode cX8_words 126 = .ok (.getfield 85, 3) := by decide +kernel
theorem dX8_words_129 : decode cX8_words 129 = .ok (.iload 6, 2) := by decide +kernel
theorem dX8_words_131 : decode cX8_words 131 = .ok (.iaload, 1) := by decide +kernel
theorem dX8_words_132 : decode cX8_words 132 = .ok (.ldc_w 294, 3) := by decide +kernel
theorem dX8_words_135 : decode cX8_words 135 = .ok (.if_icmp .ge 17, 3) := by decide +kernel
theorem dX8_words_138 : decode cX8_words 138 = .ok (.aload_n 0, 1) := by decide +kernel
theorem dX8_words_139 : decode cX8_words 139 = .ok (.getfield 85, 3) := by decide +kernel
theorem dX8_words_142 : decode cX8_words 142 = .ok (.iload 6, 2) := by decide +kernel
theorem dX8_words_144 : decode cX8_words 144 = .ok (.iaload, 1) := by decide +kernel
theorem dX8_words_145 : decode cX8_words 145 = .ok (.bipush 100, 2) := by decide +kernel
theorem dX8_words_147 : decode cX8_words 147 = .ok (.idiv, 1) := by decide +kernel
theorem dX8_words_148 : decode cX8_words 148 = .ok (.iload_n 2, 1) := by decide +kernel
theorem dX8_words_149 : decode cX8_words 149 = .ok (.if_icmp .le 7, 3) := by decide +kernel
theorem dX8_words_152 : decode cX8_words 152 = .ok (.iconst 1, 1) := by decide +kernel
theorem dX8_words_153 : decode cX8_words 153 = .ok (.goto 4, 3) := by decide +kernel
theorem dX8_words_156 : decode cX8_words 156 = .ok (.iconst 0, 1) := by decide +kernel
theorem dX8_words_157 : decode cX8_words 157 = .ok (.ior, 1) := by decide +kernel
theorem dX8_words_158 : decode cX8_words 158 = .ok (.iconst 1, 1) := by decide +kernel
theorem dX8_words_159 : decode cX8_words 159 = .ok (.if_icmp .ne 7, 3) := by decide +kernel
theorem dX8_words_162 : decode cX8_words 162 = .ok (.iconst 1, 1) := by decide +kernel
theorem dX8_words_163 : decode cX8_words 163 = .ok (.goto 4, 3) := by decide +kernel
theorem dX8_words_166 : decode cX8_words 166 = .ok (.iconst 0, 1) := by decide +kernel
theorem dX8_words_167 : decode cX8_words 167 = .ok (.istore 5, 2) := by decide +kernel
theorem dX8_words_169 : decode cX8_words 169 = .ok (.iinc 6 1, 3) := by decide +kernel
theorem dX8_words_172 : decode cX8_words 172 = .ok (.goto (-72), 3) := by decide +kernel
theorem dX8_words_175 : decode cX8_words 175 = .ok (.iload 5, 2) := by decide +kernel
theorem dX8_words_177 : decode cX8_words 177 = .ok (.ifCond .eq 6, 3) := by decide +kernel
theorem dX8_words_180 : decode cX8_words 180 = .ok (.iload 4, 2) := by decide +kernel
theorem dX8_words_182 : decode cX8_words 182 = .ok (.istore_n 3, 1) := by decide +kernel
theorem dX8_words_183 : decode cX8_words 183 = .ok (.iinc 4 1, 3) := by decide +kernel
theorem dX8_words_186 : decode cX8_words 186 = .ok (.goto (-151), 3) := by decide +kernel
theorem dX8_words_189 : decode cX8_words 189 = .ok (.iload_n 3, 1) := by decide +kernel
theorem dX8_words_190 : decode cX8_words 190 = .ok (.ireturn, 1) := by decide +kernel
theorem ilX8_purse_wsX80 : ∀ w ∈ wsX80, w ∈ wsX8_purse := fun _ h => List.mem_cons_of_mem _ (List.mem_append_right _ (h))
set_option maxRecDepth 20000 in
theorem ggX8_purse_X8_in : GoodIn wsX8_purse wsX8_in := goodIn_sub (List.forall_mem_cons.mpr ⟨List.mem_cons_of_mem _ (List.mem_append_left _ (List.mem_of_getElem? (i := 7) rfl)), (fun _ h => absurd h List.not_mem_nil)⟩) (by decide +kernel)
set_option maxRecDepth 20000 in
theorem gX8_purse_X8_in : GoodIn wsX8_purse (va_wsS RX8 92 yX8_in wsX8_in) := goodIn_app (goodIn_of _ (by decide +kernel)) ggX8_purse_X8_in
set_option maxRecDepth 20000 in
theorem ggX8_purse_X8_of : GoodIn wsX8_purse wsX8_of := goodIn_sub (List.forall_mem_cons.mpr ⟨List.mem_cons_of_mem _ (List.mem_append_left _ (List.mem_of_getElem? (i := 11) rfl)), (List.forall_mem_append.mpr ⟨(List.forall_mem_cons.mpr ⟨List.mem_cons_of_mem _ (List.mem_append_left _ (List.mem_of_getElem? (i := 12) rfl)), (fun _ h => absurd h List.not_mem_nil)⟩), ilX8_purse_wsX80⟩)⟩) (by decide +kernel)
set_option maxRecDepth 20000 in
theorem gX8_purse_X8_of : GoodIn wsX8_purse (wsV RX8 217 RX8 yX8_of wsX8_of) := goodIn_app (goodIn_sub (List.forall_mem_cons.mpr ⟨List.mem_cons_of_mem _ (List.mem_append_left _ (List.mem_of_getElem? (i := 8) rfl)), (List.forall_mem_cons.mpr ⟨List.mem_cons_of_mem _ (List.mem_append_left _ (List.mem_of_getElem? (i := 9) rfl)), (List.forall_mem_cons.mpr ⟨List.mem_cons_of_mem _ (List.mem_append_left _ (List.mem_of_getElem? (i := 10) rfl)), (List.forall_mem_cons.mpr ⟨List.mem_cons_of_mem _ (List.mem_append_left _ (List.mem_of_getElem? (i := 6) rfl)), (fun _ h => absurd h List.not_mem_nil)⟩)⟩)⟩)⟩) (by decide +kernel)) ggX8_purse_X8_of
set_option maxRecDepth 20000 in
theorem ggX8_purse_X8_backOf : GoodIn wsX8_purse wsX8_backOf := goodIn_sub (List.forall_mem_cons.mpr ⟨List.mem_cons_of_mem _ (List.mem_append_left _ (List.mem_of_getElem? (i := 16) rfl)), (List.forall_mem_append.mpr ⟨(List.forall_mem_cons.mpr ⟨List.mem_cons_of_mem _ (List.mem_append_left _ (List.mem_of_getElem? (i := 17) rfl)), (List.forall_mem_cons.mpr ⟨List.mem_cons_of_mem _ (List.mem_append_left _ (List.mem_of_getElem? (i := 8) rfl)), (List.forall_mem_cons.mpr ⟨List.mem_cons_of_mem _ (List.mem_append_left _ (List.mem_of_getElem? (i := 9) rfl)), (List.forall_mem_cons.mpr ⟨List.mem_cons_of_mem _ (List.mem_append_left _ (List.mem_of_getElem? (i := 10) rfl)), (List.forall_mem_cons.mpr ⟨List.mem_cons_of_mem _ (List.mem_append_left _ (List.mem_of_getElem? (i := 6) rfl)), (List.forall_mem_cons.mpr ⟨List.mem_cons_of_mem _ (List.mem_append_left _ (List.mem_of_getElem? (i := 11) rfl)), (List.forall_mem_cons.mpr ⟨List.mem_cons_of_mem _ (List.mem_append_left _ (List.mem_of_getElem? (i := 12) rfl)), (List.forall_mem_cons.mpr ⟨List.mem_cons_of_mem _ (List.mem_append_left _ (List.mem_of_getElem? (i := 18) rfl)), (List.forall_mem_cons.mpr ⟨List.mem_cons_of_mem _ (List.mem_append_left _ (List.mem_of_getElem? (i := 19) rfl)), (List.forall_mem_cons.mpr ⟨List.mem_cons_of_mem _ (List.mem_append_left _ (List.mem_of_getElem? (i := 20) rfl)), (List.forall_mem_cons.mpr ⟨List.mem_cons_of_mem _ (List.mem_append_left _ (List.mem_of_getElem? (i := 21) rfl)), (List.forall_mem_cons.mpr ⟨List.mem_cons_of_mem _ (List.mem_append_left _ (List.mem_of_getElem? (i := 1) rfl)), (fun _ h => absurd h List.not_mem_nil)⟩)⟩)⟩)⟩)⟩)⟩)⟩)⟩)⟩)⟩)⟩)⟩), ilX8_purse_wsX80⟩)⟩) (by decide +kernel)
set_option maxRecDepth 20000 in
theorem gX8_purse_X8_backOf : GoodIn wsX8_purse (wsV RX8 266 RX8 yX8_backOf wsX8_backOf) := goodIn_app (goodIn_sub (List.forall_mem_cons.mpr ⟨List.mem_cons_of_mem _ (List.mem_append_left _ (List.mem_of_getElem? (i := 13) rfl)), (List.forall_mem_cons.mpr ⟨List.mem_cons_of_mem _ (List.mem_append_left _ (List.mem_of_getElem? (i := 14) rfl)), (List.forall_mem_cons.mpr ⟨List.mem_cons_of_mem _ (List.mem_append_left _ (List.mem_of_getElem? (i := 15) rfl)), (List.forall_mem_cons.mpr ⟨List.mem_cons_of_mem _ (List.mem_append_left _ (List.mem_of_getElem? (i := 6) rfl)), (fun _ h => absurd h List.not_mem_nil)⟩)⟩)⟩)⟩) (by decide +kernel)) ggX8_purse_X8_backOf
theorem dX8_purse_0 : decode cX8_purse 0 = .ok (.aload_n 0, 1) := by decide +kernel
theorem dX8_purse_1 : decode cX8_purse 1 = .ok (.getfield 214, 3) := by decide +kernel
theorem dX8_purse_4 : decode cX8_purse 4 = .ok (.ifCond .eq 22, 3) := by decide +kernel
theorem dX8_purse_7 : decode cX8_purse 7 = .ok (.iload_n 1, 1) := by decide +kernel
theorem dX8_purse_8 : decode cX8_purse 8 = .ok (.iconst 0, 1) := by decide +kernel
theorem dX8_purse_9 : decode cX8_purse 9 = .ok (.bipush 100, 2) := by decide +kernel
theorem dX8_purse_11 : decode cX8_purse 11 = .ok (.invokestatic 92, 3) := by decide +kernel
theorem dX8_purse_14 : decode cX8_purse 14 = .ok (.ifCond .eq 12, 3) := by decide +kernel
theorem dX8_purse_17 : decode cX8_purse 17 = .ok (.iload_n 2, 1) := by decide +kernel
theorem dX8_purse_18 : decode cX8_purse 18 = .ok (.iconst 0, 1) := by decide +kernel
theorem dX8_purse_19 : decode cX8_purse 19 = .ok (.iconst 1, 1) := by decide +kernel
theorem dX8_purse_20 : decode cX8_purse 20 = .ok (.invokestatic 92, 3) := by decide +kernel
theorem dX8_purse_23 : decode cX8_purse 23 = .ok (.ifCond .ne 5, 3) := by decide +kernel
theorem dX8_purse_26 : decode cX8_purse 26 = .ok (.iconst (-1), 1) := by decide +kernel
theorem dX8_purse_27 : decode cX8_purse 27 = .ok (.ireturn, 1) := by decide +kernel
theorem dX8_purse_28 : decode cX8_purse 28 = .ok (.iconst 0, 1) := by decide +kernel
theorem dX8_purse_29 : decode cX8_purse 29 = .ok (.istore_n 3, 1) := by decide +kernel
theorem dX8_purse_30 : decode cX8_purse 30 = .ok (.iconst 0, 1) := by decide +kernel
theorem dX8_purse_31 : decode cX8_purse 31 = .ok (.istore 4, 2) := by decide +kernel
theorem dX8_purse_33 : decode cX8_purse 33 = .ok (.iload 4, 2) := by decide +kernel
theorem dX8_purse_35 : decode cX8_purse 35 = .ok (.aload_n 0, 1) := by decide +kernel
theorem dX8_purse_36 : decode cX8_purse 36 = .ok (.getfield 214, 3) := by decide +kernel
theorem dX8_purse_39 : decode cX8_purse 39 = .ok (.if_icmp .ge 104, 3) := by decide +kernel
theorem dX8_purse_42 : decode cX8_purse 42 = .ok (.aload_n 0, 1) := by decide +kernel
theorem dX8_purse_43 : decode cX8_purse 43 = .ok (.iload 4, 2) := by decide +kernel
theorem dX8_purse_45 : decode cX8_purse 45 = .ok (.iconst 1, 1) := by decide +kernel
theorem dX8_purse_46 : decode cX8_purse 46 = .ok (.invokevirtual 217, 3) := by decide +kernel
theorem dX8_purse_49 : decode cX8_purse 49 = .ok (.iload_n 1, 1) := by decide +kernel
theorem dX8_purse_50 : decode cX8_purse 50 = .ok (.if_icmp .ge 87, 3) := by decide +kernel
theorem dX8_purse_53 : decode cX8_purse 53 = .ok (.aload_n 0, 1) := by decide +kernel
theorem dX8_purse_54 : decode cX8_purse 54 = .ok (.iload 4, 2) := by decide +kernel
theorem dX8_purse_56 : decode cX8_purse 56 = .ok (.iconst 2, 1) := by decide +kernel
theorem dX8_purse_57 : decode cX8_purse 57 = .ok (.invokevirtual 217, 3) := by decide +kernel
theorem dX8_purse_60 : decode cX8_purse 60 = .ok (.aload_n 0, 1) := by decide +kernel
theorem dX8_purse_61 : decode cX8_purse 61 = .ok (.iload 4, 2) := by decide +kernel
theorem dX8_purse_63 : decode cX8_purse 63 = .ok (.iconst 1, 1) := by decide +kernel
theorem dX8_purse_64 : decode cX8_purse 64 = .ok (.invokevirtual 217, 3) := by decide +kernel
theorem dX8_purse_67 : decode cX8_purse 67 = .ok (.if_icmp .gt 6, 3) := by decide +kernel
theorem dX8_purse_70 : decode cX8_purse 70 = .ok (.goto 67, 3) := by decide +kernel
theorem dX8_purse_73 : decode cX8_purse 73 = .ok (.aload_n 0, 1) := by decide +kernel
theorem dX8_purse_74 : decode cX8_purse 74 = .ok (.iload 4, 2) := by decide +kernel
theorem dX8_purse_76 : decode cX8_purse 76 = .ok (.iconst 0, 1) := by decide +kernel
theorem dX8_purse_77 : decode cX8_purse 77 = .ok (.invokevirtual 217, 3) := by decide +kernel
theorem dX8_purse_80 : decode cX8_purse 80 = .ok (.aload_n 0, 1) := by decide +kernel
theorem dX8_purse_81 : decode cX8_purse 81 = .ok (.iload 4, 2) := by decide +kernel
theorem dX8_purse_83 : decode cX8_purse 83 = .ok (.iconst 2, 1) := by decide +kernel
theorem dX8_purse_84 : decode cX8_purse 84 = .ok (.invokevirtual 217, 3) := by decide +kernel
theorem dX8_purse_87 : decode cX8_purse 87 = .ok (.aload_n 0, 1) := by decide +kernel
theorem dX8_purse_88 : decode cX8_purse 88 = .ok (.iload 4, 2) := by decide +kernel
theorem dX8_purse_90 : decode cX8_purse 90 = .ok (.iconst 1, 1) := by decide +kernel
theorem dX8_purse_91 : decode cX8_purse 91 = .ok (.invokevirtual 217, 3) := by decide +kernel
theorem dX8_purse_94 : decode cX8_purse 94 = .ok (.isub, 1) := by decide +kernel
theorem dX8_purse_95 : decode cX8_purse 95 = .ok (.imul, 1) := by decide +kernel
theorem dX8_purse_96 : decode cX8_purse 96 = .ok (.istore 5, 2) := by decide +kernel
theorem dX8_purse_98 : decode cX8_purse 98 = .ok (.iload_n 3, 1) := by decide +kernel
theorem dX8_purse_99 : decode cX8_purse 99 = .ok (.iload_n 2, 1) := by decide +kernel
theorem dX8_purse_100 : decode cX8_purse 100 = .ok (.ifCond .ne 8, 3) := by decide +kernel
theorem dX8_purse_103 : decode cX8_purse 103 = .ok (.iload 5, 2) := by decide +kernel
theorem dX8_purse_105 : decode cX8_purse 105 = .ok (.goto 30, 3) := by decide +kernel
theorem dX8_purse_108 : decode cX8_purse 108 = .ok (.iload 5, 2) := by decide +kernel
theorem dX8_purse_110 : decode cX8_purse 110 = .ok (.aload_n 0, 1) := by decide +kernel
theorem dX8_purse_111 : decode cX8_purse 111 = .ok (.iload 4, 2) := by decide +kernel
theorem dX8_purse_113 : decode cX8_purse 113 = .ok (.aload_n 0, 1) := by decide +kernel
theorem dX8_purse_114 : decode cX8_purse 114 = .ok (.getfield 224, 3) := by decide +kernel
theorem dX8_purse_117 : decode cX8_purse 117 = .ok (.iconst 1, 1) := by decide +kernel
theorem dX8_purse_118 : decode cX8_purse 118 = .ok (.isub, 1) := by decide +kernel
theorem dX8_purse_119 : decode cX8_purse 119 = .ok (.aload_n 0, 1) := by decide +kernel
theorem dX8_purse_120 : decode cX8_purse 120 = .ok (.getfield 230, 3) := by decide +kernel
theorem dX8_purse_123 : decode cX8_purse 123 = .ok (.aload_n 0, 1) := by decide +kernel
theorem dX8_purse_124 : decode cX8_purse 124 = .ok (.getfield 232, 3) := by decide +kernel
theorem dX8_purse_127 : decode cX8_purse 127 = .ok (.invokevirtual 266, 3) := by decide +kernel
theorem dX8_purse_130 : decode cX8_purse 130 = .ok (.imul, 1) := by decide +kernel
theorem dX8_purse_131 : decode cX8_purse 131 = .ok (.sipush 1000, 3) := by decide +kernel
theorem dX8_purse_134 : decode cX8_purse 134 = .ok (.idiv, 1) := by decide +kernel
theorem dX8_purse_135 : decode cX8_purse 135 = .ok (.iadd, 1) := by decide +kernel
theorem dX8_purse_136 : decode cX8_purse 136 = .ok (.istore_n 3, 1) := by decide +kernel
theorem dX8_purse_137 : decode cX8_purse 137 = .ok (.iinc 4 1, 3) := by decide +kernel
theorem dX8_purse_140 : decode cX8_purse 140 = .ok (.goto (-107), 3) := by decide +kernel
theorem dX8_purse_143 : decode cX8_purse 143 = .ok (.iload_n 3, 1) := by decide +kernel
theorem dX8_purse_144 : decode cX8_purse 144 = .ok (.ireturn, 1) := by decide +kernel
theorem dX8_partOf_0 : decode cX8_partOf 0 = .ok (.iload_n 0, 1) := by decide +kernel
theorem dX8_partOf_1 : decode cX8_partOf 1 = .ok (.iload_n 1, 1) := by decide +kernel
theorem dX8_partOf_2 : decode cX8_partOf 2 = .ok (.iload_n 2, 1) := by decide +kernel
theorem dX8_partOf_3 : decode cX8_partOf 3 = .ok (.isub, 1) := by decide +kernel
theorem dX8_partOf_4 : decode cX8_partOf 4 = .ok (.imul, 1) := by decide +kernel
theorem dX8_partOf_5 : decode cX8_partOf 5 = .ok (.iload_n 1, 1) := by decide +kernel
theorem dX8_partOf_6 : decode cX8_partOf 6 = .ok (.idiv, 1) := by decide +kernel
theorem dX8_partOf_7 : decode cX8_partOf 7 = .ok (.ireturn, 1) := by decide +kernel
set_option maxRecDepth 20000 in
theorem ggX8_part_X8_in : GoodIn wsX8_part wsX8_in := goodIn_sub (List.forall_mem_cons.mpr ⟨List.mem_cons_of_mem _ (List.mem_of_getElem? (i := 4) rfl), (fun _ h => absurd h List.not_mem_nil)⟩) (by decide +kernel)
set_option maxRecDepth 20000 in
theorem gX8_part_X8_in : GoodIn wsX8_part (va_wsS RX8 92 yX8_in wsX8_in) := goodIn_app (goodIn_of _ (by decide +kernel)) ggX8_part_X8_in
set_option maxRecDepth 20000 in
theorem ggX8_part_X8_partOf : GoodIn wsX8_part wsX8_partOf := goodIn_sub (List.forall_mem_cons.mpr ⟨List.mem_cons_of_mem _ (List.mem_of_getElem? (i := 7) rfl), (fun _ h => absurd h List.not_mem_nil)⟩) (by decide +kernel)
set_option maxRecDepth 20000 in
theorem gX8_part_X8_partOf : GoodIn wsX8_part (va_wsS RX8 343 yX8_partOf wsX8_partOf) := goodIn_app (goodIn_of _ (by decide +kernel)) ggX8_part_X8_partOf
theorem dX8_part_0 : decode cX8_part 0 = .ok (.iload_n 1, 1) := by decide +kernel
theorem dX8_part_1 : decode cX8_part 1 = .ok (.iconst 0, 1) := by decide +kernel
theorem dX8_part_2 : decode cX8_part 2 = .ok (.ldc_w 334, 3) := by decide +kernel
theorem dX8_part_5 : decode cX8_part 5 = .ok (.invokestatic 92, 3) := by decide +kernel
theorem dX8_part_8 : decode cX8_part 8 = .ok (.ifCond .eq 33, 3) := by decide +kernel
theorem dX8_part_11 : decode cX8_part 11 = .ok (.iload_n 2, 1) := by decide +kernel
theorem dX8_part_12 : decode cX8_part 12 = .ok (.iconst 1, 1) := by decide +kernel
theorem dX8_part_13 : decode cX8_part 13 = .ok (.bipush 20, 2) := by decide +kernel
theorem dX8_part_15 : decode cX8_part 15 = .ok (.invokestatic 92, 3) := by decide +kernel
theorem dX8_part_18 : decode cX8_part 18 = .ok (.ifCond .eq 23, 3) := by decide +kernel
theorem dX8_part_21 : decode cX8_part 21 = .ok (.iload_n 3, 1) := by decide +kernel
theorem dX8_part_22 : decode cX8_part 22 = .ok (.iconst 0, 1) := by decide +kernel
theorem dX8_part_23 : decode cX8_part 23 = .ok (.iload_n 2, 1) := by decide +kernel
theorem dX8_part_24 : decode cX8_part 24 = .ok (.iconst 1, 1) := by decide +kernel
theorem dX8_part_25 : decode cX8_part 25 = .ok (.isub, 1) := by decide +kernel
theorem dX8_part_26 : decode cX8_part 26 = .ok (.invokestatic 92, 3) := by decide +kernel
theorem dX8_part_29 : decode cX8_part 29 = .ok (.ifCond .eq 12, 3) := by decide +kernel
theorem dX8_part_32 : decode cX8_part 32 = .ok (.iload_n 1, 1) := by decide +kernel
theorem dX8_part_33 : decode cX8_part 33 = .ok (.iload_n 2, 1) := by decide +kernel
theorem dX8_part_34 : decode cX8_part 34 = .ok (.iload_n 3, 1) := by decide +kernel
theorem dX8_part_35 : decode cX8_part 35 = .ok (.invokestatic 343, 3) := by decide +kernel
theorem dX8_part_38 : decode cX8_part 38 = .ok (.goto 4, 3) := by decide +kernel
theorem dX8_part_41 : decode cX8_part 41 = .ok (.iconst (-1), 1) := by decide +kernel
theorem dX8_part_42 : decode cX8_part 42 = .ok (.ireturn, 1) := by decide +kernel
set_option maxRecDepth 20000 in
theorem ggX8_shrunk_X8_in : GoodIn wsX8_shrunk wsX8_in := goodIn_sub (List.forall_mem_cons.mpr ⟨List.mem_cons_of_mem _ (List.mem_of_getElem? (i := 4) rfl), (fun _ h => absurd h List.not_mem_nil)⟩) (by decide +kernel)
set_option maxRecDepth 20000 in
theorem gX8_shrunk_X8_in : GoodIn wsX8_shrunk (va_wsS RX8 92 yX8_in wsX8_in) := goodIn_app (goodIn_of _ (by decide +kernel)) ggX8_shrunk_X8_in
set_option maxRecDepth 20000 in
theorem ggX8_shrunk_X8_partOf : GoodIn wsX8_shrunk wsX8_partOf := goodIn_sub (List.forall_mem_cons.mpr ⟨List.mem_cons_of_mem _ (List.mem_of_getElem? (i := 7) rfl), (fun _ h => absurd h List.not_mem_nil)⟩) (by decide +kernel)
set_option maxRecDepth 20000 in
theorem gX8_shrunk_X8_partOf : GoodIn wsX8_shrunk (va_wsS RX8 343 yX8_partOf wsX8_partOf) := goodIn_app (goodIn_of _ (by decide +kernel)) ggX8_shrunk_X8_partOf
theorem dX8_shrunk_0 : decode cX8_shrunk 0 = .ok (.iload_n 1, 1) := by decide +kernel
theorem dX8_shrunk_1 : decode cX8_shrunk 1 = .ok (.iconst 0, 1) := by decide +kernel
theorem dX8_shrunk_2 : decode cX8_shrunk 2 = .ok (.ldc_w 334, 3) := by decide +kernel
theorem dX8_shrunk_5 : decode cX8_shrunk 5 = .ok (.invokestatic 92, 3) := by decide +kernel
theorem dX8_shrunk_8 : decode cX8_shrunk 8 = .ok (.ifCond .eq 52, 3) := by decide +kernel
theorem dX8_shrunk_11 : decode cX8_shrunk 11 = .ok (.iload_n 2, 1) := by decide +kernel
theorem dX8_shrunk_12 : decode cX8_shrunk 12 = .ok (.ifCond .lt 48, 3) := by decide +kernel
theorem dX8_shrunk_15 : decode cX8_shrunk 15 = .ok (.iload_n 2, 1) := by decide +kernel
theorem dX8_shrunk_16 : decode cX8_shrunk 16 = .ok (.bipush 100, 2) := by decide +kernel
theorem dX8_shrunk_18 : decode cX8_shrunk 18 = .ok (.idiv, 1) := by decide +kernel
theorem dX8_shrunk_19 : decode cX8_shrunk 19 = .ok (.iconst 1, 1) := by decide +kernel
theorem dX8_shrunk_20 : decode cX8_shrunk 20 = .ok (.bipush 20, 2) := by decide +kernel
theorem dX8_shrunk_22 : decode cX8_shrunk 22 = .ok (.invokestatic 92, 3) := by decide +kernel
theorem dX8_shrunk_25 : decode cX8_shrunk 25 = .ok (.ifCond .eq 35, 3) := by decide +kernel
theorem dX8_shrunk_28 : decode cX8_shrunk 28 = .ok (.iload_n 2, 1) := by decide +kernel
theorem dX8_shrunk_29 : decode cX8_shrunk 29 = .ok (.bipush 100, 2) := by decide +kernel
theorem dX8_shrunk_31 : decode cX8_shrunk 31 = .ok (.irem, 1) := by decide +kernel
theorem dX8_shrunk_32 : decode cX8_shrunk 32 = .ok (.iload_n 2, 1) := by decide +kernel
theorem dX8_shrunk_33 : decode cX8_shrunk 33 = .ok (.bipush 100, 2) := by decide +kernel
theorem dX8_shrunk_35 : decode cX8_shrunk 35 = .ok (.idiv, 1) := by decide +kernel
theorem dX8_shrunk_36 : decode cX8_shrunk 36 = .ok (.if_icmp .ge 24, 3) := by decide +kernel
theorem dX8_shrunk_39 : decode cX8_shrunk 39 = .ok (.iload_n 3, 1) := by decide +kernel
theorem dX8_shrunk_40 : decode cX8_shrunk 40 = .ok (.iconst 0, 1) := by decide +kernel
theorem dX8_shrunk_41 : decode cX8_shrunk 41 = .ok (.bipush 16, 2) := by decide +kernel
theorem dX8_shrunk_43 : decode cX8_shrunk 43 = .ok (.invokestatic 92, 3) := by decide +kernel
theorem dX8_shrunk_46 : decode cX8_shrunk 46 = .ok (.ifCond .eq 14, 3) := by decide +kernel
theorem dX8_shrunk_49 : decode cX8_shrunk 49 = .ok (.iload 4, 2) := by decide +kernel
theorem dX8_shrunk_51 : decode cX8_shrunk 51 = .ok (.iconst 1, 1) := by decide +kernel
theorem dX8_shrunk_52 : decode cX8_shrunk 52 = .ok (.bipush 40, 2) := by decide +kernel
theorem dX8_shrunk_54 : decode cX8_shrunk 54 = .ok (.invokestatic 92, 3) := by decide +kernel
theorem dX8_shrunk_57 : decode cX8_shrunk 57 = .ok (.ifCond .ne 5, 3) := by decide +kernel
theorem dX8_shrunk_60 : decode cX8_shrunk 60 = .ok (.iconst (-1), 1) := by decide +kernel
theorem dX8_shrunk_61 : decode cX8_shrunk 61 = .ok (.ireturn, 1) := by decide +kernel
theorem dX8_shrunk_62 : decode cX8_shrunk 62 = .ok (.iload_n 2, 1) := by decide +kernel
theorem dX8_shrunk_63 : decode cX8_shrunk 63 = .ok (.bipush 100, 2) := by decide +kernel
theorem dX8_shrunk_65 : decode cX8_shrunk 65 = .ok (.idiv, 1) := by decide +kernel
theorem dX8_shrunk_66 : decode cX8_shrunk 66 = .ok (.istore 5, 2) := by decide +kernel
theorem dX8_shrunk_68 : decode cX8_shrunk 68 = .ok (.iload_n 2, 1) := by decide +kernel
theorem dX8_shrunk_69 : decode cX8_shrunk 69 = .ok (.bipush 100, 2) := by decide +kernel
theorem dX8_shrunk_71 : decode cX8_shrunk 71 = .ok (.irem, 1) := by decide +kernel
theorem dX8_shrunk_72 : decode cX8_shrunk 72 = .ok (.istore 6, 2) := by decide +kernel
theorem dX8_shrunk_74 : decode cX8_shrunk 74 = .ok (.iload_n 1, 1) := by decide +kernel
theorem dX8_shrunk_75 : decode cX8_shrunk 75 = .ok (.istore 7, 2) := by decide +kernel
theorem dX8_shrunk_77 : decode cX8_shrunk 77 = .ok (.iconst 0, 1) := by decide +kernel
theorem dX8_shrunk_78 : decode cX8_shrunk 78 = .ok (.istore 8, 2) := by decide +kernel
theorem dX8_shrunk_80 : decode cX8_shrunk 80 = .ok (.iload 8, 2) := by decide +kernel
theorem dX8_shrunk_82 : decode cX8_shrunk 82 = .ok (.iload 4, 2) := by decide +kernel
theorem dX8_shrunk_84 : decode cX8_shrunk 84 = .ok (.if_icmp .ge 47, 3) := by decide +kernel
theorem dX8_shrunk_87 : decode cX8_shrunk 87 = .ok (.iload 7, 2) := by decide +kernel
theorem dX8_shrunk_89 : decode cX8_shrunk 89 = .ok (.iload 7, 2) := by decide +kernel
theorem dX8_shrunk_91 : decode cX8_shrunk 91 = .ok (.iload 5, 2) := by decide +kernel
theorem dX8_shrunk_93 : decode cX8_shrunk 93 = .ok (.iload 6, 2) := by decide +kernel
theorem dX8_shrunk_95 : decode cX8_shrunk 95 = .ok (.invokestatic 343, 3) := by decide +kernel
theorem dX8_shrunk_98 : decode cX8_shrunk 98 = .ok (.iload_n 3, 1) := by decide +kernel
theorem dX8_shrunk_99 : decode cX8_shrunk 99 = .ok (.imul, 1) := by decide +kernel
theorem dX8_shrunk_100 : decode cX8_shrunk 100 = .ok (.bipush 16, 2) := by decide +kernel
theorem dX8_shrunk_102 : decode cX8_shrunk 102 = .ok (.idiv, 1) := by decide +kernel
theorem dX8_shrunk_103 : decode cX8_shrunk 103 = .ok (.isub, 1) := by decide +kernel
theorem dX8_shrunk_104 : decode cX8_shrunk 104 = .ok (.istore 7, 2) := by decide +kernel
theorem dX8_shrunk_106 : decode cX8_shrunk 106 = .ok (.iinc 6 1, 3) := by decide +kernel
theorem dX8_shrunk_109 : decode cX8_shrunk 109 = .ok (.iload 6, 2) := by decide +kernel
theorem dX8_shrunk_111 : decode cX8_shrunk 111 = .ok (.iload 5, 2) := by decide +kernel
theorem dX8_shrunk_113 : decode cX8_shrunk 113 = .ok (.if_icmp .ge 6, 3) := by decide +kernel
theorem dX8_shrunk_116 : decode cX8_shrunk 116 = .ok (.goto 9, 3) := by decide +kernel
theorem dX8_shrunk_119 : decode cX8_shrunk 119 = .ok (.iconst 0, 1) := by decide +kernel
theorem dX8_shrunk_120 : decode cX8_shrunk 120 = .ok (.istore 7, 2) := by decide +kernel
theorem dX8_shrunk_122 : decode cX8_shrunk 122 = .ok (.iconst 0, 1) := by decide +kernel
theorem dX8_shrunk_123 : decode cX8_shrunk 123 = .ok (.istore 6, 2) := by decide +kernel
theorem dX8_shrunk_125 : decode cX8_shrunk 125 = .ok (.iinc 8 1, 3) := by decide +kernel
theorem dX8_shrunk_128 : decode cX8_shrunk 128 = .ok (.goto (-48), 3) := by decide +kernel
theorem dX8_shrunk_131 : decode cX8_shrunk 131 = .ok (.iload 7, 2) := by decide +kernel
theorem dX8_shrunk_133 : decode cX8_shrunk 133 = .ok (.ireturn, 1) := by decide +kernel
theorem ilX8_cloudy_wsX80 : ∀ w ∈ wsX80, w ∈ wsX8_cloudy := fun _ h => List.mem_cons_of_mem _ (List.mem_append_right _ (h))
set_option maxRecDepth 20000 in
theorem ggX8_cloudy_X8_in : GoodIn wsX8_cloudy wsX8_in := goodIn_sub (List.forall_mem_cons.mpr ⟨List.mem_cons_of_mem _ (List.mem_append_left _ (List.mem_of_getElem? (i := 7) rfl)), (fun _ h => absurd h List.not_mem_nil)⟩) (by decide +kernel)
set_option maxRecDepth 20000 in
theorem gX8_cloudy_X8_in : GoodIn wsX8_cloudy (va_wsS RX8 92 yX8_in wsX8_in) := goodIn_app (goodIn_of _ (by decide +kernel)) ggX8_cloudy_X8_in
theorem dX8_cloudy_0 : decode cX8_cloudy 0 = .ok (.aload_n 0, 1) := by decide +kernel
theorem dX8_cloudy_1 : decode cX8_cloudy 1 = .ok (.getfield 214, 3) := by decide +kernel
theorem dX8_cloudy_4 : decode cX8_cloudy 4 = .ok (.ifCond .eq 22, 3) := by decide +kernel
theorem dX8_cloudy_7 : decode cX8_cloudy 7 = .ok (.iload_n 1, 1) := by decide +kernel
theorem dX8_cloudy_8 : decode cX8_cloudy 8 = .ok (.iconst 1, 1) := by decide +kernel
theorem dX8_cloudy_9 : decode cX8_cloudy 9 = .ok (.bipush 12, 2) := by decide +kernel
theorem dX8_cloudy_11 : decode cX8_cloudy 11 = .ok (.invokestatic 92, 3) := by decide +kernel
theorem dX8_cloudy_14 : decode cX8_cloudy 14 = .ok (.ifCond .eq 12, 3) := by decide +kernel
theorem dX8_cloudy_17 : decode cX8_cloudy 17 = .ok (.iload_n 2, 1) := by decide +kernel
theorem dX8_cloudy_18 : decode cX8_cloudy 18 = .ok (.iconst 0, 1) := by decide +kernel
theorem dX8_cloudy_19 : decode cX8_cloudy 19 = .ok (.iload_n 1, 1) := by decide +kernel
theorem dX8_cloudy_20 : decode cX8_cloudy 20 = .ok (.invokestatic 92, 3) := by decide +kernel
theorem dX8_cloudy_23 : decode cX8_cloudy 23 = .ok (.ifCond .ne 5, 3) := by decide +kernel
theorem dX8_cloudy_26 : decode cX8_cloudy 26 = .ok (.iconst (-1), 1) := by decide +kernel
theorem dX8_cloudy_27 : decode cX8_cloudy 27 = .ok (.ireturn, 1) := by decide +kernel
theorem dX8_cloudy_28 : decode cX8_cloudy 28 = .ok (.lconst 1, 1) := by decide +kernel
theorem dX8_cloudy_29 : decode cX8_cloudy 29 = .ok (.lstore_n 3, 1) := by decide +kernel
theorem dX8_cloudy_30 : decode cX8_cloudy 30 = .ok (.lconst 0, 1) := by decide +kernel
theorem dX8_cloudy_31 : decode cX8_cloudy 31 = .ok (.lstore 5, 2) := by decide +kernel
theorem dX8_cloudy_33 : decode cX8_cloudy 33 = .ok (.iconst 0, 1) := by decide +kernel
theorem dX8_cloudy_34 : decode cX8_cloudy 34 = .ok (.istore 7, 2) := by decide +kernel
theorem dX8_cloudy_36 : decode cX8_cloudy 36 = .ok (.iload 7, 2) := by decide +kernel
theorem dX8_cloudy_38 : decode cX8_cloudy 38 = .ok (.iload_n 1, 1) := by decide +kernel
theorem dX8_cloudy_39 : decode cX8_cloudy 39 = .ok (.if_icmp .ge 15, 3) := by decide +kernel
theorem dX8_cloudy_42 : decode cX8_cloudy 42 = .ok (.lload_n 3, 1) := by decide +kernel
theorem dX8_cloudy_43 : decode cX8_cloudy 43 = .ok (.ldc2_w 303, 3) := by decide +kernel
theorem dX8_cloudy_46 : decode cX8_cloudy 46 = .ok (.lmul, 1) := by decide +kernel
theorem dX8_cloudy_47 : decode cX8_cloudy 47 = .ok (.lstore_n 3, 1) := by decide +kernel
theorem dX8_cloudy_48 : decode cX8_cloudy 48 = .ok (.iinc 7 1, 3) := by decide +kernel
theorem dX8_cloudy_51 : decode cX8_cloudy 51 = .ok (.goto (-15), 3) := by decide +kernel
theorem dX8_cloudy_54 : decode cX8_cloudy 54 = .ok (.iload_n 2, 1) := by decide +kernel
theorem dX8_cloudy_55 : decode cX8_cloudy 55 = .ok (.istore 7, 2) := by decide +kernel
theorem dX8_cloudy_57 : decode cX8_cloudy 57 = .ok (.iload 7, 2) := by decide +kernel
theorem dX8_cloudy_59 : decode cX8_cloudy 59 = .ok (.iload_n 1, 1) := by decide +kernel
theorem dX8_cloudy_60 : decode cX8_cloudy 60 = .ok (.if_icmp .gt 95, 3) := by decide +kernel
theorem dX8_cloudy_63 : decode cX8_cloudy 63 = .ok (.lconst 1, 1) := by decide +kernel
theorem dX8_cloudy_64 : decode cX8_cloudy 64 = .ok (.lstore 8, 2) := by decide +kernel
theorem dX8_cloudy_66 : decode cX8_cloudy 66 = .ok (.iconst 1, 1) := by decide +kernel
theorem dX8_cloudy_67 : decode cX8_cloudy 67 = .ok (.istore 10, 2) := by decide +kernel
theorem dX8_cloudy_69 : decode cX8_cloudy 69 = .ok (.iload 10, 2) := by decide +kernel
theorem dX8_cloudy_71 : decode cX8_cloudy 71 = .ok (.iload 7, 2) := by decide +kernel
theorem dX8_cloudy_73 : decode cX8_cloudy 73 = .ok (.if_icmp .gt 26, 3) := by decide +kernel
theorem dX8_cloudy_76 : decode cX8_cloudy 76 = .ok (.lload 8, 2) := by decide +kernel
theorem dX8_cloudy_78 : decode cX8_cloudy 78 = .ok (.iload_n 1, 1) := by decide +kernel
theorem dX8_cloudy_79 : decode cX8_cloudy 79 = .ok (.iload 7, 2) := by decide +kernel
theorem dX8_cloudy_81 : decode cX8_cloudy 81 = .ok (.isub, 1) := by decide +kernel
theorem dX8_cloudy_82 : decode cX8_cloudy 82 = .ok (.iload 10, 2) := by decide +kernel
theorem dX8_cloudy_84 : decode cX8_cloudy 84 = .ok (.iadd, 1) := by decide +kernel
theorem dX8_cloudy_85 : decode cX8_cloudy 85 = .ok (.i2l, 1) := by decide +kernel
theorem dX8_cloudy_86 : decode cX8_cloudy 86 = .ok (.lmul, 1) := by decide +kernel
theorem dX8_cloudy_87 : decode cX8_cloudy 87 = .ok (.iload 10, 2) := by decide +kernel
theorem dX8_cloudy_89 : decode cX8_cloudy 89 = .ok (.i2l, 1) := by decide +kernel
theorem dX8_cloudy_90 : decode cX8_cloudy 90 = .ok (.ldiv, 1) := by decide +kernel
theorem dX8_cloudy_91 : decode cX8_cloudy 91 = .ok (.lstore 8, 2) := by decide +kernel
theorem dX8_cloudy_93 : decode cX8_cloudy 93 = .ok (.iinc 10 1, 3) := by decide +kernel
theorem dX8_cloudy_96 : decode cX8_cloudy 96 = .ok (.goto (-27), 3) := by decide +kernel
theorem dX8_cloudy_99 : decode cX8_cloudy 99 = .ok (.iconst 0, 1) := by decide +kernel
theorem dX8_cloudy_100 : decode cX8_cloudy 100 = .ok (.istore 10, 2) := by decide +kernel
theorem dX8_cloudy_102 : decode cX8_cloudy 102 = .ok (.iload 10, 2) := by decide +kernel
theorem dX8_cloudy_104 : decode cX8_cloudy 104 = .ok (.iload_n 1, 1) := by decide +kernel
theorem dX8_cloudy_105 : decode cX8_cloudy 105 = .ok (.if_icmp .ge 37, 3) := by decide +kernel
theorem dX8_cloudy_108 : decode cX8_cloudy 108 = .ok (.lload 8, 2) := by decide +kernel
theorem dX8_cloudy_110 : decode cX8_cloudy 110 = .ok (.iload 10, 2) := by decide +kernel
theorem dX8_cloudy_112 : decode cX8_cloudy 112 = .ok (.iload 7, 2) := by decide +kernel
theorem dX8_cloudy_114 : decode cX8_cloudy 114 = .ok (.if_icmp .ge 11, 3) := by decide +kernel
theorem dX8_cloudy_117 : decode cX8_cloudy 117 = .ok (.aload_n 0, 1) := by decide +kernel
theorem dX8_cloudy_118 : decode cX8_cloudy 118 = .ok (.getfield 227, 3) := by decide +kernel
theorem dX8_cloudy_121 : decode cX8_cloudy 121 = .ok (.i2l, 1) := by decide +kernel
theorem dX8_cloudy_122 : decode cX8_cloudy 122 = .ok (.goto 11, 3) := by decide +kernel
theorem dX8_cloudy_125 : decode cX8_cloudy 125 = .ok (.bipush 16, 2) := by decide +kernel
theorem dX8_cloudy_127 : decode cX8_cloudy 127 = .ok (.aload_n 0, 1) := by decide +kernel
theorem dX8_cloudy_128 : decode cX8_cloudy 128 = .ok (.getfield 227, 3) := by decide +kernel
theorem dX8_cloudy_131 : decode cX8_cloudy 131 = .ok (.isub, 1) := by decide +kernel
theorem dX8_cloudy_132 : decode cX8_cloudy 132 = .ok (.i2l, 1) := by decide +kernel
theorem dX8_cloudy_133 : decode cX8_cloudy 133 = .ok (.lmul, 1) := by decide +kernel
theorem dX8_cloudy_134 : decode cX8_cloudy 134 = .ok (.lstore 8, 2) := by decide +kernel
theorem dX8_cloudy_136 : decode cX8_cloudy 136 = .ok (.iinc 10 1, 3) := by decide +kernel
theorem dX8_cloudy_139 : decode cX8_cloudy 139 = .ok (.goto (-37), 3) := by decide +kernel
theorem dX8_cloudy_142 : decode cX8_cloudy 142 = .ok (.lload 5, 2) := by decide +kernel
theorem dX8_cloudy_144 : decode cX8_cloudy 144 = .ok (.lload 8, 2) := by decide +kernel
theorem dX8_cloudy_146 : decode cX8_cloudy 146 = .ok (.ladd, 1) := by decide +kernel
theorem dX8_cloudy_147 : decode cX8_cloudy 147 = .ok (.lstore 5, 2) := by decide +kernel
theorem dX8_cloudy_149 : decode cX8_cloudy 149 = .ok (.iinc 7 1, 3) := by decide +kernel
theorem dX8_cloudy_152 : decode cX8_cloudy 152 = .ok (.goto (-95), 3) := by decide +kernel
theorem dX8_cloudy_155 : decode cX8_cloudy 155 = .ok (.ldc2_w 347, 3) := by decide +kernel
theorem dX8_cloudy_158 : decode cX8_cloudy 158 = .ok (.lload 5, 2) := by decide +kernel
theorem dX8_cloudy_160 : decode cX8_cloudy 160 = .ok (.lmul, 1) := by decide +kernel
theorem dX8_cloudy_161 : decode cX8_cloudy 161 = .ok (.lload_n 3, 1) := by decide +kernel
theorem dX8_cloudy_162 : decode cX8_cloudy 162 = .ok (.ldiv, 1) := by decide +kernel
theorem dX8_cloudy_163 : decode cX8_cloudy 163 = .ok (.l2i, 1) := by decide +kernel
theorem dX8_cloudy_164 : decode cX8_cloudy 164 = .ok (.ireturn, 1) := by decide +kernel
theorem ilX8_image_wsX80 : ∀ w ∈ wsX80, w ∈ wsX8_image := fun _ h => List.mem_cons_of_mem _ (List.mem_append_right _ (h))
set_option maxRecDepth 20000 in
theorem ggX8_image_X8_in : GoodIn wsX8_image wsX8_in := goodIn_sub (List.forall_mem_cons.mpr ⟨List.mem_cons_of_mem _ (List.mem_append_left _ (List.mem_of_getElem? (i := 15) rfl)), (fun _ h => absurd h List.not_mem_nil)⟩) (by decide +kernel)
set_option maxRecDepth 20000 in
theorem gX8_image_X8_in : GoodIn wsX8_image (va_wsS RX8 92 yX8_in wsX8_in) := goodIn_app (goodIn_of _ (by decide +kernel)) ggX8_image_X8_in
theorem dX8_image_0 : decode cX8_image 0 = .ok (.aload_n 0, 1) := by decide +kernel
theorem dX8_image_1 : decode cX8_image 1 = .ok (.getfield 214, 3) := by decide +kernel
theorem dX8_image_4 : decode cX8_image 4 = .ok (.ifCond .eq 12, 3) := by decide +kernel
theorem dX8_image_7 : decode cX8_image 7 = .ok (.iload_n 1, 1) := by decide +kernel
theorem dX8_image_8 : decode cX8_image 8 = .ok (.iconst 0, 1) := by decide +kernel
theorem dX8_image_9 : decode cX8_image 9 = .ok (.iconst 2, 1) := by decide +kernel
theorem dX8_image_10 : decode cX8_image 10 = .ok (.invokestatic 92, 3) := by decide +kernel
theorem dX8_image_13 : decode cX8_image 13 = .ok (.ifCond .ne 5, 3) := by decide +kernel
theorem dX8_image_16 : decode cX8_image 16 = .ok (.iconst 0, 1) := by decide +kernel
theorem dX8_image_17 : decode cX8_image 17 = .ok (.ireturn, 1) := by decide +kernel
theorem dX8_image_18 : decode cX8_image 18 = .ok (.aload_n 0, 1) := by decide +kernel
theorem dX8_image_19 : decode cX8_image 19 = .ok (.getfield 45, 3) := by decide +kernel
theorem dX8_image_22 : decode cX8_image 22 = .ok (.iload_n 1, 1) := by decide +kernel
theorem dX8_image_23 : decode cX8_image 23 = .ok (.iconst 1, 1) := by decide +kernel
theorem dX8_image_24 : decode cX8_image 24 = .ok (.bastore, 1) := by decide +kernel
theorem dX8_image_25 : decode cX8_image 25 = .ok (.aload_n 0, 1) := by decide +kernel
theorem dX8_image_26 : decode cX8_image 26 = .ok (.getfield 49, 3) := by decide +kernel
theorem dX8_image_29 : decode cX8_image 29 = .ok (.iload_n 1, 1) := by decide +kernel
theorem dX8_image_30 : decode cX8_image 30 = .ok (.aload_n 0, 1) := by decide +kernel
theorem dX8_image_31 : decode cX8_image 31 = .ok (.getfield 211, 3) := by decide +kernel
theorem dX8_image_34 : decode cX8_image 34 = .ok (.iastore, 1) := by decide +kernel
theorem dX8_image_35 : decode cX8_image 35 = .ok (.aload_n 0, 1) := by decide +kernel
theorem dX8_image_36 : decode cX8_image 36 = .ok (.getfield 61, 3) := by decide +kernel
theorem dX8_image_39 : decode cX8_image 39 = .ok (.iload_n 1, 1) := by decide +kernel
theorem dX8_image_40 : decode cX8_image 40 = .ok (.aload_n 0, 1) := by decide +kernel
theorem dX8_image_41 : decode cX8_image 41 = .ok (.getfield 246, 3) := by decide +kernel
theorem dX8_image_44 : decode cX8_image 44 = .ok (.lastore, 1) := by decide +kernel
theorem dX8_image_45 : decode cX8_image 45 = .ok (.iconst 0, 1) := by decide +kernel
theorem dX8_image_46 : decode cX8_image 46 = .ok (.istore_n 2, 1) := by decide +kernel
theorem dX8_image_47 : decode cX8_image 47 = .ok (.iload_n 2, 1) := by decide +kernel
theorem dX8_image_48 : decode cX8_image 48 = .ok (.bipush 6, 2) := by decide +kernel
theorem dX8_image_50 : decode cX8_image 50 = .ok (.if_icmp .ge 43, 3) := by decide +kernel
theorem dX8_image_53 : decode cX8_image 53 = .ok (.aload_n 0, 1) := by decide +kernel
theorem dX8_image_54 : decode cX8_image 54 = .ok (.getfield 52, 3) := by decide +kernel
theorem dX8_image_57 : decode cX8_image 57 = .ok (.bipush 6, 2) := by decide +kernel
theorem dX8_image_59 : decode cX8_image 59 = .ok (.iload_n 1, 1) := by decide +kernel
theorem dX8_image_60 : decode cX8_image 60 = .ok (.imul, 1) := by decide +kernel
theorem dX8_image_61 : decode cX8_image 61 = .ok (.iload_n 2, 1) := by decide +kernel
theorem dX8_image_62 : decode cX8_image 62 = .ok (.iadd, 1) := by decide +kernel
theorem dX8_image_63 : decode cX8_image 63 = .ok (.aload_n 0, 1) := by decide +kernel
theorem dX8_image_64 : decode cX8_image 64 = .ok (.getfield 33, 3) := by decide +kernel
theorem dX8_image_67 : decode cX8_image 67 = .ok (.iload_n 2, 1) := by decide +kernel
theorem dX8_image_68 : decode cX8_image 68 = .ok (.iaload, 1) := by decide +kernel
theorem dX8_image_69 : decode cX8_image 69 = .ok (.iastore, 1) := by decide +kernel
theorem dX8_image_70 : decode cX8_image 70 = .ok (.aload_n 0, 1) := by decide +kernel
theorem dX8_image_71 : decode cX8_image 71 = .ok (.getfield 55, 3) := by decide +kernel
theorem dX8_image_74 : decode cX8_image 74 = .ok (.bipush 6, 2) := by decide +kernel
theorem dX8_image_76 : decode cX8_image 76 = .ok (.iload_n 1, 1) := by decide +kernel
theorem dX8_image_77 : decode cX8_image 77 = .ok (.imul, 1) := by decide +kernel
theorem dX8_image_78 : decode cX8_image 78 = .ok (.iload_n 2, 1) := by decide +kernel
theorem dX8_image_79 : decode cX8_image 79 = .ok (.iadd, 1) := by decide +kernel
theorem dX8_image_80 : decode cX8_image 80 = .ok (.aload_n 0, 1) := by decide +kernel
theorem dX8_image_81 : decode cX8_image 81 = .ok (.getfield 36, 3) := by decide +kernel
theorem dX8_image_84 : decode cX8_image 84 = .ok (.iload_n 2, 1) := by decide +kernel
theorem dX8_image_85 : decode cX8_image 85 = .ok (.iaload, 1) := by decide +kernel
theorem dX8_image_86 : decode cX8_image 86 = .ok (.iastore, 1) := by decide +kernel
theorem dX8_image_87 : decode cX8_image 87 = .ok (.iinc 2 1, 3) := by decide +kernel
theorem dX8_image_90 : decode cX8_image 90 = .ok (.goto (-43), 3) := by decide +kernel
theorem dX8_image_93 : decode cX8_image 93 = .ok (.iconst 0, 1) := by decide +kernel
theorem dX8_image_94 : decode cX8_image 94 = .ok (.istore_n 2, 1) := by decide +kernel
theorem dX8_image_95 : decode cX8_image 95 = .ok (.iload_n 2, 1) := by decide +kernel
theorem dX8_image_96 : decode cX8_image 96 = .ok (.sipush 240, 3) := by decide +kernel
theorem dX8_image_99 : decode cX8_image 99 = .ok (.if_icmp .ge 27, 3) := by decide +kernel
theorem dX8_image_102 : decode cX8_image 102 = .ok (.aload_n 0, 1) := by decide +kernel
theorem dX8_image_103 : decode cX8_image 103 = .ok (.getfield 58, 3) := by decide +kernel
theorem dX8_image_106 : decode cX8_image 106 = .ok (.sipush 240, 3) := by decide +kernel
theorem dX8_image_109 : decode cX8_image 109 = .ok (.iload_n 1, 1) := by decide +kernel
theorem dX8_image_110 : decode cX8_image 110 = .ok (.imul, 1) := by decide +kernel
theorem dX8_image_111 : decode cX8_image 111 = .ok (.iload_n 2, 1) := by decide +kernel
theorem dX8_image_112 : decode cX8_image 112 = .ok (.iadd, 1) := by decide +kernel
theorem dX8_image_113 : decode cX8_image 113 = .ok (.aload_n 0, 1) := by decide +kernel
theorem dX8_image_114 : decode cX8_image 114 = .ok (.getfield 39, 3) := by decide +kernel
theorem dX8_image_117 : decode cX8_image 117 = .ok (.iload_n 2, 1) := by decide +kernel
theorem dX8_image_118 : decode cX8_image 118 = .ok (.iaload, 1) := by decide +kernel
theorem dX8_image_119 : decode cX8_image 119 = .ok (.iastore, 1) := by decide +kernel
theorem dX8_image_120 : decode cX8_image 120 = .ok (.iinc 2 1, 3) := by decide +kernel
theorem dX8_image_123 : decode cX8_image 123 = .ok (.goto (-28), 3) := by decide +kernel
theorem dX8_image_126 : decode cX8_image 126 = .ok (.iconst 1, 1) := by decide +kernel
theorem dX8_image_127 : decode cX8_image 127 = .ok (.ireturn, 1) := by decide +kernel
theorem ilX8_on_wsX80 : ∀ w ∈ wsX80, w ∈ wsX8_on := fun _ h => List.mem_cons_of_mem _ (List.mem_append_right _ (h))
set_option maxRecDepth 20000 in
theorem ggX8_on_X8_in : GoodIn wsX8_on wsX8_in := goodIn_sub (List.forall_mem_cons.mpr ⟨List.mem_cons_of_mem _ (List.mem_append_left _ (List.mem_of_getElem? (i := 14) rfl)), (fun _ h => absurd h List.not_mem_nil)⟩) (by decide +kernel)
set_option maxRecDepth 20000 in
theorem gX8_on_X8_in : GoodIn wsX8_on (va_wsS RX8 92 yX8_in wsX8_in) := goodIn_app (goodIn_of _ (by decide +kernel)) ggX8_on_X8_in
theorem dX8_on_0 : decode cX8_on 0 = .ok (.iload_n 1, 1) := by decide +kernel
theorem dX8_on_1 : decode cX8_on 1 = .ok (.iconst 0, 1) := by decide +kernel
theorem dX8_on_2 : decode cX8_on 2 = .ok (.iconst 2, 1) := by decide +kernel
theorem dX8_on_3 : decode cX8_on 3 = .ok (.invokestatic 92, 3) := by decide +kernel
theorem dX8_on_6 : decode cX8_on 6 = .ok (.ifCond .eq 12, 3) := by decide +kernel
theorem dX8_on_9 : decode cX8_on 9 = .ok (.aload_n 0, 1) := by decide +kernel
theorem dX8_on_10 : decode cX8_on 10 = .ok (.getfield 45, 3) := by decide +kernel
theorem dX8_on_13 : decode cX8_on 13 = .ok (.iload_n 1, 1) := by decide +kernel
theorem dX8_on_14 : decode cX8_on 14 = .ok (.baload, 1) := by decide +kernel
theorem dX8_on_15 : decode cX8_on 15 = .ok (.ifCond .ne 5, 3) := by decide +kernel
theorem dX8_on_18 : decode cX8_on 18 = .ok (.iconst 0, 1) := by decide +kernel
theorem dX8_on_19 : decode cX8_on 19 = .ok (.ireturn, 1) := by decide +kernel
theorem dX8_on_20 : decode cX8_on 20 = .ok (.aload_n 0, 1) := by decide +kernel
theorem dX8_on_21 : decode cX8_on 21 = .ok (.aload_n 0, 1) := by decide +kernel
theorem dX8_on_22 : decode cX8_on 22 = .ok (.getfield 49, 3) := by decide +kernel
theorem dX8_on_25 : decode cX8_on 25 = .ok (.iload_n 1, 1) := by decide +kernel
theorem dX8_on_26 : decode cX8_on 26 = .ok (.iaload, 1) := by decide +kernel
theorem dX8_on_27 : decode cX8_on 27 = .ok (.putfield 211, 3) := by decide +kernel
theorem dX8_on_30 : decode cX8_on 30 = .ok (.aload_n 0, 1) := by decide +kernel
theorem dX8_on_31 : decode cX8_on 31 = .ok (.aload_n 0, 1) := by decide +kernel
theorem dX8_on_32 : decode cX8_on 32 = .ok (.getfield 61, 3) := by decide +kernel
theorem dX8_on_35 : decode cX8_on 35 = .ok (.iload_n 1, 1) := by decide +kernel
theorem dX8_on_36 : decode cX8_on 36 = .ok (.laload, 1) := by decide +kernel
theorem dX8_on_37 : decode cX8_on 37 = .ok (.putfield 246, 3) := by decide +kernel
theorem dX8_on_40 : decode cX8_on 40 = .ok (.iconst 0, 1) := by decide +kernel
theorem dX8_on_41 : decode cX8_on 41 = .ok (.istore_n 2, 1) := by decide +kernel
theorem dX8_on_42 : decode cX8_on 42 = .ok (.iload_n 2, 1) := by decide +kernel
theorem dX8_on_43 : decode cX8_on 43 = .ok (.bipush 6, 2) := by decide +kernel
theorem dX8_on_45 : decode cX8_on 45 = .ok (.if_icmp .ge 43, 3) := by decide +kernel
theorem dX8_on_48 : decode cX8_on 48 = .ok (.aload_n 0, 1) := by decide +kernel
theorem dX8_on_49 : decode cX8_on 49 = .ok (.getfield 33, 3) := by decide +kernel
theorem dX8_on_52 : decode cX8_on 52 = .ok (.iload_n 2, 1) := by decide +kernel
theorem dX8_on_53 : decode cX8_on 53 = .ok (.aload_n 0, 1) := by decide +kernel
theorem dX8_on_54 : decode cX8_on 54 = .ok (.getfield 52, 3) := by decide +kernel
theorem dX8_on_57 : decode cX8_on 57 = .ok (.bipush 6, 2) := by decide +kernel
theorem dX8_on_59 : decode cX8_on 59 = .ok (.iload_n 1, 1) := by decide +kernel
theorem dX8_on_60 : decode cX8_on 60 = .ok (.imul, 1) := by decide +kernel
theorem dX8_on_61 : decode cX8_on 61 = .ok (.iload_n 2, 1) := by decide +kernel
theorem dX8_on_62 : decode cX8_on 62 = .ok (.iadd, 1) := by decide +kernel
theorem dX8_on_63 : decode cX8_on 63 = .ok (.iaload, 1) := by decide +kernel
theorem dX8_on_64 : decode cX8_on 64 = .ok (.iastore, 1) := by decide +kernel
theorem dX8_on_65 : decode cX8_on 65 = .ok (.aload_n 0, 1) := by decide +kernel
theorem dX8_on_66 : decode cX8_on 66 = .ok (.getfield 36, 3) := by decide +kernel
theorem dX8_on_69 : decode cX8_on 69 = .ok (.iload_n 2, 1) := by decide +kernel
theorem dX8_on_70 : decode cX8_on 70 = .ok (.aload_n 0, 1) := by decide +kernel
theorem dX8_on_71 : decode cX8_on 71 = .ok (.getfield 55, 3) := by decide +kernel
theorem dX8_on_74 : decode cX8_on 74 = .ok (.bipush 6, 2) := by decide +kernel
theorem dX8_on_76 : decode cX8_on 76 = .ok (.iload_n 1, 1) := by decide +kernel
theorem dX8_on_77 : decode cX8_on 77 = .ok (.imul, 1) := by decide +kernel
theorem dX8_on_78 : decode cX8_on 78 = .ok (.iload_n 2, 1) := by decide +kernel
theorem dX8_on_79 : decode cX8_on 79 = .ok (.iadd, 1) := by decide +kernel
theorem dX8_on_80 : decode cX8_on 80 = .ok (.iaload, 1) := by decide +kernel
theorem dX8_on_81 : decode cX8_on 81 = .ok (.iastore, 1) := by decide +kernel
theorem dX8_on_82 : decode cX8_on 82 = .ok (.iinc 2 1, 3) := by decide +kernel
theorem dX8_on_85 : decode cX8_on 85 = .ok (.goto (-43), 3) := by decide +kernel
theorem dX8_on_88 : decode cX8_on 88 = .ok (.iconst 0, 1) := by decide +kernel
theorem dX8_on_89 : decode cX8_on 89 = .ok (.istore_n 2, 1) := by decide +kernel
theorem dX8_on_90 : decode cX8_on 90 = .ok (.iload_n 2, 1) := by decide +kernel
theorem dX8_on_91 : decode cX8_on 91 = .ok (.sipush 240, 3) := by decide +kernel
theorem dX8_on_94 : decode cX8_on 94 = .ok (.if_icmp .ge 27, 3) := by decide +kernel
theorem dX8_on_97 : decode cX8_on 97 = .ok (.aload_n 0, 1) := by decide +kernel
theorem dX8_on_98 : decode cX8_on 98 = .ok (.getfield 39, 3) := by decide +kernel
theorem dX8_on_101 : decode cX8_on 101 = .ok (.iload_n 2, 1) := by decide +kernel
theorem dX8_on_102 : decode cX8_on 102 = .ok (.aload_n 0, 1) := by decide +kernel
theorem dX8_on_103 : decode cX8_on 103 = .ok (.getfield 58, 3) := by decide +kernel
theorem dX8_on_106 : decode cX8_on 106 = .ok (.sipush 240, 3) := by decide +kernel
theorem dX8_on_109 : decode cX8_on 109 = .ok (.iload_n 1, 1) := by decide +kernel
theorem dX8_on_110 : decode cX8_on 110 = .ok (.imul, 1) := by decide +kernel
theorem dX8_on_111 : decode cX8_on 111 = .ok (.iload_n 2, 1) := by decide +kernel
theorem dX8_on_112 : decode cX8_on 112 = .ok (.iadd, 1) := by decide +kernel
theorem dX8_on_113 : decode cX8_on 113 = .ok (.iaload, 1) := by decide +kernel
theorem dX8_on_114 : decode cX8_on 114 = .ok (.iastore, 1) := by decide +kernel
theorem dX8_on_115 : decode cX8_on 115 = .ok (.iinc 2 1, 3) := by decide +kernel
theorem dX8_on_118 : decode cX8_on 118 = .ok (.goto (-28), 3) := by decide +kernel
theorem dX8_on_121 : decode cX8_on 121 = .ok (.iconst 1, 1) := by decide +kernel
theorem dX8_on_122 : decode cX8_on 122 = .ok (.ireturn, 1) := by decide +kernel
theorem dX8_count_0 : decode cX8_count 0 = .ok (.iload_n 1, 1) := by decide +kernel
theorem dX8_count_1 : decode cX8_count 1 = .ok (.tableswitch 96 0 8 #[51, 56, 61, 66, 71, 76, 81, 86, 91], 51) := by decide +kernel
theorem dX8_count_52 : decode cX8_count 52 = .ok (.aload_n 0, 1) := by decide +kernel
theorem dX8_count_53 : decode cX8_count 53 = .ok (.getfield 214, 3) := by decide +kernel
theorem dX8_count_56 : decode cX8_count 56 = .ok (.ireturn, 1) := by decide +kernel
theorem dX8_count_57 : decode cX8_count 57 = .ok (.aload_n 0, 1) := by decide +kernel
theorem dX8_count_58 : decode cX8_count 58 = .ok (.getfield 240, 3) := by decide +kernel
theorem dX8_count_61 : decode cX8_count 61 = .ok (.ireturn, 1) := by decide +kernel
theorem dX8_count_62 : decode cX8_count 62 = .ok (.aload_n 0, 1) := by decide +kernel
theorem dX8_count_63 : decode cX8_count 63 = .ok (.getfield 224, 3) := by decide +kernel
theorem dX8_count_66 : decode cX8_count 66 = .ok (.ireturn, 1) := by decide +kernel
theorem dX8_count_67 : decode cX8_count 67 = .ok (.aload_n 0, 1) := by decide +kernel
theorem dX8_count_68 : decode cX8_count 68 = .ok (.getfield 227, 3) := by decide +kernel
theorem dX8_count_71 : decode cX8_count 71 = .ok (.ireturn, 1) := by decide +kernel
theorem dX8_count_72 : decode cX8_count 72 = .ok (.aload_n 0, 1) := by decide +kernel
theorem dX8_count_73 : decode cX8_count 73 = .ok (.getfield 230, 3) := by decide +kernel
theorem dX8_count_76 : decode cX8_count 76 = .ok (.ireturn, 1) := by decide +kernel
theorem dX8_count_77 : decode cX8_count 77 = .ok (.aload_n 0, 1) := by decide +kernel
theorem dX8_count_78 : decode cX8_count 78 = .ok (.getfield 232, 3) := by decide +kernel
theorem dX8_count_81 : decode cX8_count 81 = .ok (.ireturn, 1) := by decide +kernel
theorem dX8_count_82 : decode cX8_count 82 = .ok (.aload_n 0, 1) := by decide +kernel
theorem dX8_count_83 : decode cX8_count 83 = .ok (.getfield 237, 3) := by decide +kernel
theorem dX8_count_86 : decode cX8_count 86 = .ok (.ireturn, 1) := by decide +kernel
theorem dX8_count_87 : decode cX8_count 87 = .ok (.aload_n 0, 1) := by decide +kernel
theorem dX8_count_88 : decode cX8_count 88 = .ok (.getfield 249, 3) := by decide +kernel
theorem dX8_count_91 : decode cX8_count 91 = .ok (.ireturn, 1) := by decide +kernel
theorem dX8_count_92 : decode cX8_count 92 = .ok (.aload_n 0, 1) := by decide +kernel
theorem dX8_count_93 : decode cX8_count 93 = .ok (.getfield 88, 3) := by decide +kernel
theorem dX8_count_96 : decode cX8_count 96 = .ok (.ireturn, 1) := by decide +kernel
theorem dX8_count_97 : decode cX8_count 97 = .ok (.iconst (-1), 1) := by decide +kernel
theorem dX8_count_98 : decode cX8_count 98 = .ok (.ireturn, 1) := by decide +kernel
theorem dJ6_bitCount_0f7a4_0 : decode cJ6_bitCount_0f7a4 0 = .ok (.iload_n 0, 1) := by decide +kernel
theorem dJ6_bitCount_0f7a4_1 : decode cJ6_bitCount_0f7a4 1 = .ok (.iload_n 0, 1) := by decide +kernel
theorem dJ6_bitCount_0f7a4_2 : decode cJ6_bitCount_0f7a4 2 = .ok (.iconst 1, 1) := by decide +kernel
theorem dJ6_bitCount_0f7a4_3 : decode cJ6_bitCount_0f7a4 3 = .ok (.iushr, 1) := by decide +kernel
theorem dJ6_bitCount_0f7a4_4 : decode cJ6_bitCount_0f7a4 4 = .ok (.ldc_w 265, 3) := by decide +kernel
theorem dJ6_bitCount_0f7a4_7 : decode cJ6_bitCount_0f7a4 7 = .ok (.iand, 1) := by decide +kernel
theorem dJ6_bitCount_0f7a4_8 : decode cJ6_bitCount_0f7a4 8 = .ok (.isub, 1) := by decide +kernel
theorem dJ6_bitCount_0f7a4_9 : decode cJ6_bitCount_0f7a4 9 = .ok (.istore_n 0, 1) := by decide +kernel
theorem dJ6_bitCount_0f7a4_10 : decode cJ6_bitCount_0f7a4 10 = .ok (.iload_n 0, 1) := by decide +kernel
theorem dJ6_bitCount_0f7a4_11 : decode cJ6_bitCount_0f7a4 11 = .ok (.ldc_w 266, 3) := by decide +kernel
theorem dJ6_bitCount_0f7a4_14 : decode cJ6_bitCount_0f7a4 14 = .ok (.iand, 1) := by decide +kernel
theorem dJ6_bitCount_0f7a4_15 : decode cJ6_bitCount_0f7a4 15 = .ok (.iload_n 0, 1) := by decide +kernel
theorem dJ6_bitCount_0f7a4_16 : decode cJ6_bitCount_0f7a4 16 = .ok (.iconst 2, 1) := by decide +kernel
theorem dJ6_bitCount_0f7a4_17 : decode cJ6_bitCount_0f7a4 17 = .ok (.iushr, 1) := by decide +kernel
theorem dJ6_bitCount_0f7a4_18 : decode cJ6_bitCount_0f7a4 18 = .ok (.ldc_w 266, 3) := by decide +kernel
theorem dJ6_bitCount_0f7a4_21 : decode cJ6_bitCount_0f7a4 21 = .ok (.iand, 1) := by decide +kernel
theorem dJ6_bitCount_0f7a4_22 : decode cJ6_bitCount_0f7a4 22 = .ok (.iadd, 1) := by decide +kernel
theorem dJ6_bitCount_0f7a4_23 : decode cJ6_bitCount_0f7a4 23 = .ok (.istore_n 0, 1) := by decide +kernel
theorem dJ6_bitCount_0f7a4_24 : decode cJ6_bitCount_0f7a4 24 = .ok (.iload_n 0, 1) := by decide +kernel
theorem dJ6_bitCount_0f7a4_25 : decode cJ6_bitCount_0f7a4 25 = .ok (.iload_n 0, 1) := by decide +kernel
theorem dJ6_bitCount_0f7a4_26 : decode cJ6_bitCount_0f7a4 26 = .ok (.iconst 4, 1) := by decide +kernel
theorem dJ6_bitCount_0f7a4_27 : decode cJ6_bitCount_0f7a4 27 = .ok (.iushr, 1) := by decide +kernel
theorem dJ6_bitCount_0f7a4_28 : decode cJ6_bitCount_0f7a4 28 = .ok (.iadd, 1) := by decide +kernel
theorem dJ6_bitCount_0f7a4_29 : decode cJ6_bitCount_0f7a4 29 = .ok (.ldc_w 267, 3) := by decide +kernel
theorem dJ6_bitCount_0f7a4_32 : decode cJ6_bitCount_0f7a4 32 = .ok (.iand, 1) := by decide +kernel
theorem dJ6_bitCount_0f7a4_33 : decode cJ6_bitCount_0f7a4 33 = .ok (.istore_n 0, 1) := by decide +kernel
theorem dJ6_bitCount_0f7a4_34 : decode cJ6_bitCount_0f7a4 34 = .ok (.iload_n 0, 1) := by decide +kernel
theorem dJ6_bitCount_0f7a4_35 : decode cJ6_bitCount_0f7a4 35 = .ok (.iload_n 0, 1) := by decide +kernel
theorem dJ6_bitCount_0f7a4_36 : decode cJ6_bitCount_0f7a4 36 = .ok (.bipush 8, 2) := by decide +kernel
theorem dJ6_bitCount_0f7a4_38 : decode cJ6_bitCount_0f7a4 38 = .ok (.iushr, 1) := by decide +kernel
theorem dJ6_bitCount_0f7a4_39 : decode cJ6_bitCount_0f7a4 39 = .ok (.iadd, 1) := by decide +kernel
theorem dJ6_bitCount_0f7a4_40 : decode cJ6_bitCount_0f7a4 40 = .ok (.istore_n 0, 1) := by decide +kernel
theorem dJ6_bitCount_0f7a4_41 : decode cJ6_bitCount_0f7a4 41 = .ok (.iload_n 0, 1) := by decide +kernel
theorem dJ6_bitCount_0f7a4_42 : decode cJ6_bitCount_0f7a4 42 = .ok (.iload_n 0, 1) := by decide +kernel
theorem dJ6_bitCount_0f7a4_43 : decode cJ6_bitCount_0f7a4 43 = .ok (.bipush 16, 2) := by decide +kernel
theorem dJ6_bitCount_0f7a4_45 : decode cJ6_bitCount_0f7a4 45 = .ok (.iushr, 1) := by decide +kernel
theorem dJ6_bitCount_0f7a4_46 : decode cJ6_bitCount_0f7a4 46 = .ok (.iadd, 1) := by decide +kernel
theorem dJ6_bitCount_0f7a4_47 : decode cJ6_bitCount_0f7a4 47 = .ok (.istore_n 0, 1) := by decide +kernel
theorem dJ6_bitCount_0f7a4_48 : decode cJ6_bitCount_0f7a4 48 = .ok (.iload_n 0, 1) := by decide +kernel
theorem dJ6_bitCount_0f7a4_49 : decode cJ6_bitCount_0f7a4 49 = .ok (.bipush 63, 2) := by decide +kernel
theorem dJ6_bitCount_0f7a4_51 : decode cJ6_bitCount_0f7a4 51 = .ok (.iand, 1) := by decide +kernel
theorem dJ6_bitCount_0f7a4_52 : decode cJ6_bitCount_0f7a4 52 = .ok (.ireturn, 1) := by decide +kernel
theorem dJ9_max_7cf53_0 : decode cJ9_max_7cf53 0 = .ok (.iload_n 0, 1) := by decide +kernel
theorem dJ9_max_7cf53_1 : decode cJ9_max_7cf53 1 = .ok (.iload_n 1, 1) := by decide +kernel
theorem dJ9_max_7cf53_2 : decode cJ9_max_7cf53 2 = .ok (.if_icmp .lt 7, 3) := by decide +kernel
theorem dJ9_max_7cf53_5 : decode cJ9_max_7cf53 5 = .ok (.iload_n 0, 1) := by decide +kernel
theorem dJ9_max_7cf53_6 : decode cJ9_max_7cf53 6 = .ok (.goto 4, 3) := by decide +kernel
theorem dJ9_max_7cf53_9 : decode cJ9_max_7cf53 9 = .ok (.iload_n 1, 1) := by decide +kernel
theorem dJ9_max_7cf53_10 : decode cJ9_max_7cf53 10 = .ok (.ireturn, 1) := by decide +kernel
theorem dJ9_min_7cf53_0 : decode cJ9_min_7cf53 0 = .ok (.iload_n 0, 1) := by decide +kernel
theorem dJ9_min_7cf53_1 : decode cJ9_min_7cf53 1 = .ok (.iload_n 1, 1) := by decide +kernel
theorem dJ9_min_7cf53_2 : decode cJ9_min_7cf53 2 = .ok (.if_icmp .gt 7, 3) := by decide +kernel
theorem dJ9_min_7cf53_5 : decode cJ9_min_7cf53 5 = .ok (.iload_n 0, 1) := by decide +kernel
theorem dJ9_min_7cf53_6 : decode cJ9_min_7cf53 6 = .ok (.goto 4, 3) := by decide +kernel
theorem dJ9_min_7cf53_9 : decode cJ9_min_7cf53 9 = .ok (.iload_n 1, 1) := by decide +kernel
theorem dJ9_min_7cf53_10 : decode cJ9_min_7cf53 10 = .ok (.ireturn, 1) := by decide +kernel
set_option maxRecDepth 20000 in
theorem ggJ0_length_8abf5_J0_coder_7d493 : GoodIn wsJ0_length_8abf5 wsJ0_coder_7d493 := goodIn_sub (List.forall_mem_cons.mpr ⟨List.mem_cons_of_mem _ (List.mem_of_getElem? (i := 5) rfl), (List.forall_mem_cons.mpr ⟨List.mem_cons_of_mem _ (List.mem_of_getElem? (i := 6) rfl), (List.forall_mem_cons.mpr ⟨List.mem_cons_of_mem _ (List.mem_of_getElem? (i := 7) rfl), (fun _ h => absurd h List.not_mem_nil)⟩)⟩)⟩) (by decide +kernel)
set_option maxRecDepth 20000 in
theorem gJ0_length_8abf5_J0_coder_7d493 : GoodIn wsJ0_length_8abf5 (wsV RJ0 335 RJ0 yJ0_coder_7d493 wsJ0_coder_7d493) := goodIn_app (goodIn_sub (List.forall_mem_cons.mpr ⟨List.mem_cons_of_mem _ (List.mem_of_getElem? (i := 1) rfl), (List.forall_mem_cons.mpr ⟨List.mem_cons_of_mem _ (List.mem_of_getElem? (i := 2) rfl), (List.forall_mem_cons.mpr ⟨List.mem_cons_of_mem _ (List.mem_of_getElem? (i := 3) rfl), (List.forall_mem_cons.mpr ⟨List.mem_cons_of_mem _ (List.mem_of_getElem? (i := 4) rfl), (fun _ h => absurd h List.not_mem_nil)⟩)⟩)⟩)⟩) (by decide +kernel)) ggJ0_length_8abf5_J0_coder_7d493
theorem dJ0_length_8abf5_0 : decode cJ0_length_8abf5 0 = .ok (.aload_n 0, 1) := by decide +kernel
theorem dJ0_length_8abf5_1 : decode cJ0_length_8abf5 1 = .ok (.getfield 9, 3) := by decide +kernel
theorem dJ0_length_8abf5_4 : decode cJ0_length_8abf5 4 = .ok (.arraylength, 1) := by decide +kernel
theorem dJ0_length_8abf5_5 : decode cJ0_length_8abf5 5 = .ok (.aload_n 0, 1) := by decide +kernel
theorem dJ0_length_8abf5_6 : decode cJ0_length_8abf5 6 = .ok (.invokevirtual 335, 3) := by decide +kernel
theorem dJ0_length_8abf5_9 : decode cJ0_length_8abf5 9 = .ok (.ishr, 1) := by decide +kernel
theorem dJ0_length_8abf5_10 : decode cJ0_length_8abf5 10 = .ok (.ireturn, 1) := by decide +kernel
theorem ilJ0_charAt_5068e_wsJ0_charAt_5068e_r1 : ∀ w ∈ wsJ0_charAt_5068e_r1, w ∈ wsJ0_charAt_5068e := fun _ h => List.mem_cons_of_mem _ (List.mem_append_left _ (h))
theorem ilJ0_charAt_5068e_wsJ0_charAt_5068e_r2 : ∀ w ∈ wsJ0_charAt_5068e_r2, w ∈ wsJ0_charAt_5068e := fun _ h => List.mem_cons_of_mem _ (List.mem_append_right _ (h))
set_option maxRecDepth 20000 in
theorem ggJ0_charAt_5068e_J0_isLatin1_aae02 : GoodIn wsJ0_charAt_5068e wsJ0_isLatin1_aae02 := goodIn_sub (List.forall_mem_cons.mpr ⟨ilJ0_charAt_5068e_wsJ0_charAt_5068e_r1 _ (List.mem_of_getElem? (i := 5) rfl), (List.forall_mem_cons.mpr ⟨ilJ0_charAt_5068e_wsJ0_charAt_5068e_r1 _ (List.mem_of_getElem? (i := 6) rfl), (List.forall_mem_cons.mpr ⟨ilJ0_charAt_5068e_wsJ0_charAt_5068e_r1 _ (List.mem_of_getElem? (i := 7) rfl), (fun _ h => absurd h List.not_mem_nil)⟩)⟩)⟩) (by decide +kernel)
set_option maxRecDepth 20000 in
theorem gJ0_charAt_5068e_J0_isLatin1_aae02 : GoodIn wsJ0_charAt_5068e (wsV RJ0 492 RJ0 yJ0_isLatin1_aae02 wsJ0_isLatin1_aae02) := goodIn_app (goodIn_sub (List.forall_mem_cons.mpr ⟨ilJ0_charAt_5068e_wsJ0_charAt_5068e_r1 _ (List.mem_of_getElem? (i := 1) rfl), (List.forall_mem_cons.mpr ⟨ilJ0_charAt_5068e_wsJ0_charAt_5068e_r1 _ (List.mem_of_getElem? (i := 2) rfl), (List.forall_mem_cons.mpr ⟨ilJ0_charAt_5068e_wsJ0_charAt_5068e_r1 _ (List.mem_of_getElem? (i := 3) rfl), (List.forall_mem_cons.mpr ⟨ilJ0_charAt_5068e_wsJ0_charAt_5068e_r1 _ (List.mem_of_getElem? (i := 4) rfl), (fun _ h => absurd h List.not_mem_nil)⟩)⟩)⟩)⟩) (by decide +kernel)) ggJ0_charAt_5068e_J0_isLatin1_aae02
set_option maxRecDepth 20000 in
theorem ggJ0_charAt_5068e_J1_charAt_3b067 : GoodIn wsJ0_charAt_5068e wsJ1_charAt_3b067 := goodIn_sub (List.forall_mem_cons.mpr ⟨ilJ0_charAt_5068e_wsJ0_charAt_5068e_r1 _ (List.mem_of_getElem? (i := 11) rfl), (List.forall_mem_cons.mpr ⟨ilJ0_charAt_5068e_wsJ0_charAt_5068e_r1 _ (List.mem_of_getElem? (i := 12) rfl), (List.forall_mem_cons.mpr ⟨ilJ0_charAt_5068e_wsJ0_charAt_5068e_r1 _ (List.mem_of_getElem? (i := 13) rfl), (List.forall_mem_cons.mpr ⟨ilJ0_charAt_5068e_wsJ0_charAt_5068e_r1 _ (List.mem_of_getElem? (i := 4) rfl), (List.forall_mem_cons.mpr ⟨ilJ0_charAt_5068e_wsJ0_charAt_5068e_r1 _ (List.mem_of_getElem? (i := 14) rfl), (List.forall_mem_cons.mpr ⟨ilJ0_charAt_5068e_wsJ0_charAt_5068e_r1 _ (List.mem_of_getElem? (i := 15) rfl), (List.forall_mem_cons.mpr ⟨ilJ0_charAt_5068e_wsJ0_charAt_5068e_r1 _ (List.mem_of_getElem? (i := 16) rfl), (List.forall_mem_cons.mpr ⟨ilJ0_charAt_5068e_wsJ0_charAt_5068e_r1 _ (List.mem_of_getElem? (i := 17) rfl), (List.forall_mem_cons.mpr ⟨ilJ0_charAt_5068e_wsJ0_charAt_5068e_r1 _ (List.mem_of_getElem? (i := 18) rfl), (List.forall_mem_cons.mpr ⟨ilJ0_charAt_5068e_wsJ0_charAt_5068e_r1 _ (List.mem_of_getElem? (i := 19) rfl), (fun _ h => absurd h List.not_mem_nil)⟩)⟩)⟩)⟩)⟩)⟩)⟩)⟩)⟩)⟩) (by decide +kernel)
set_option maxRecDepth 20000 in
theorem gJ0_charAt_5068e_J1_charAt_3b067 : GoodIn wsJ0_charAt_5068e (va_wsS RJ0 495 yJ1_charAt_3b067 wsJ1_charAt_3b067) := goodIn_app (goodIn_of _ (by decide +kernel)) ggJ0_charAt_5068e_J1_charAt_3b067
set_option maxRecDepth 20000 in
theorem ggJ0_charAt_5068e_J2_charAt_3b067 : GoodIn wsJ0_charAt_5068e wsJ2_charAt_3b067 := goodIn_sub (List.forall_mem_cons.mpr ⟨ilJ0_charAt_5068e_wsJ0_charAt_5068e_r1 _ (List.mem_of_getElem? (i := 23) rfl), (List.forall_mem_cons.mpr ⟨ilJ0_charAt_5068e_wsJ0_charAt_5068e_r2 _ (List.mem_of_getElem? (i := 0) rfl), (List.forall_mem_cons.mpr ⟨ilJ0_charAt_5068e_wsJ0_charAt_5068e_r2 _ (List.mem_of_getElem? (i := 1) rfl), (List.forall_mem_cons.mpr ⟨ilJ0_charAt_5068e_wsJ0_charAt_5068e_r1 _ (List.mem_of_getElem? (i := 22) rfl), (List.forall_mem_cons.mpr ⟨ilJ0_charAt_5068e_wsJ0_charAt_5068e_r2 _ (List.mem_of_getElem? (i := 2) rfl), (List.forall_mem_cons.mpr ⟨ilJ0_charAt_5068e_wsJ0_charAt_5068e_r2 _ (List.mem_of_getElem? (i := 3) rfl), (List.forall_mem_cons.mpr ⟨ilJ0_charAt_5068e_wsJ0_charAt_5068e_r2 _ (List.mem_of_getElem? (i := 4) rfl), (List.forall_mem_cons.mpr ⟨ilJ0_charAt_5068e_wsJ0_charAt_5068e_r2 _ (List.mem_of_getElem? (i := 5) rfl), (List.forall_mem_cons.mpr ⟨ilJ0_charAt_5068e_wsJ0_charAt_5068e_r2 _ (List.mem_of_getElem? (i := 6) rfl), (List.forall_mem_cons.mpr ⟨ilJ0_charAt_5068e_wsJ0_charAt_5068e_r1 _ (List.mem_of_getElem? (i := 13) rfl), (List.forall_mem_cons.mpr ⟨ilJ0_charAt_5068e_wsJ0_charAt_5068e_r1 _ (List.mem_of_getElem? (i := 4) rfl), (List.forall_mem_cons.mpr ⟨ilJ0_charAt_5068e_wsJ0_charAt_5068e_r1 _ (List.mem_of_getElem? (i := 14) rfl), (List.forall_mem_cons.mpr ⟨ilJ0_charAt_5068e_wsJ0_charAt_5068e_r1 _ (List.mem_of_getElem? (i := 15) rfl), (List.forall_mem_cons.mpr ⟨ilJ0_charAt_5068e_wsJ0_charAt_5068e_r1 _ (List.mem_of_getElem? (i := 16) rfl), (List.forall_mem_cons.mpr ⟨ilJ0_charAt_5068e_wsJ0_charAt_5068e_r1 _ (List.mem_of_getElem? (i := 17) rfl), (List.forall_mem_cons.mpr ⟨ilJ0_charAt_5068e_wsJ0_charAt_5068e_r1 _ (List.mem_of_getElem? (i := 18) rfl), (List.forall_mem_cons.mpr ⟨ilJ0_charAt_5068e_wsJ0_charAt_5068e_r1 _ (List.mem_of_getElem? (i := 19) rfl), (List.forall_mem_cons.mpr ⟨ilJ0_charAt_5068e_wsJ0_charAt_5068e_r2 _ (List.mem_of_getElem? (i := 7) rfl), (List.forall_mem_cons.mpr ⟨ilJ0_charAt_5068e_wsJ0_charAt_5068e_r2 _ (List.mem_of_getElem? (i := 8) rfl), (List.forall_mem_cons.mpr ⟨ilJ0_charAt_5068e_wsJ0_charAt_5068e_r2 _ (List.mem_of_getElem? (i := 9) rfl), (List.forall_mem_cons.mpr ⟨ilJ0_charAt_5068e_wsJ0_charAt_5068e_r2 _ (List.mem_of_getElem? (i := 10) rfl), (List.forall_mem_cons.mpr ⟨ilJ0_charAt_5068e_wsJ0_charAt_5068e_r2 _ (List.mem_of_getElem? (i := 11) rfl), (List.forall_mem_cons.mpr ⟨ilJ0_charAt_5068e_wsJ0_charAt_5068e_r2 _ (List.mem_of_getElem? (i := 12) rfl), (fun _ h => absurd h List.not_mem_nil)⟩)⟩)⟩)⟩)⟩)⟩)⟩)⟩)⟩)⟩)⟩)⟩)⟩)⟩)⟩)⟩)⟩)⟩)⟩)⟩)⟩)⟩)⟩) (by decide +kernel)
set_option maxRecDepth 20000 in
theorem gJ0_charAt_5068e_J2_charAt_3b067 : GoodIn wsJ0_charAt_5068e (va_wsS RJ0 498 yJ2_charAt_3b067 wsJ2_charAt_3b067) := goodIn_app (goodIn_of _ (by decide +kernel)) ggJ0_charAt_5068e_J2_charAt_3b067
theorem dJ0_charAt_5068e_0 : decode cJ0_charAt_5068e 0 = .ok (.aload_n 0, 1) := by decide +kernel
theorem dJ0_charAt_5068e_1 : decode cJ0_charAt_5068e 1 = .ok (.invokevirtual 492, 3) := by decide +kernel
theorem dJ0_charAt_5068e_4 : decode cJ0_charAt_5068e 4 = .ok (.ifCond .eq 12, 3) := by decide +kernel
theorem dJ0_charAt_5068e_7 : decode cJ0_charAt_5068e 7 = .ok (.aload_n 0, 1) := by decide +kernel
theorem dJ0_charAt_5068e_8 : decode cJ0_charAt_5068e 8 = .ok (.getfield 9, 3) := by decide +kernel
theorem dJ0_charAt_5068e_11 : decode cJ0_charAt_5068e 11 = .ok (.iload_n 1, 1) := by decide +kernel
theorem dJ0_charAt_5068e_12 : decode cJ0_charAt_5068e 12 = .ok (.invokestatic 495, 3) := by decide +kernel
theorem dJ0_charAt_5068e_15 : decode cJ0_charAt_5068e 15 = .ok (.ireturn, 1) := by decide +kernel
theorem dJ0_charAt_5068e_16 : decode cJ0_charAt_5068e 16 = .ok (.aload_n 0, 1) := by decide +kernel
theorem dJ0_charAt_5068e_17 : decode cJ0_charAt_5068e 17 = .ok (.getfield 9, 3) := by decide +kernel
theorem dJ0_charAt_5068e_20 : decode cJ0_charAt_5068e 20 = .ok (.iload_n 1, 1) := by decide +kernel
theorem dJ0_charAt_5068e_21 : decode cJ0_charAt_5068e 21 = .ok (.invokestatic 498, 3) := by decide +kernel
theorem dJ0_charAt_5068e_24 : decode cJ0_charAt_5068e 24 = .ok (.ireturn, 1) := by decide +kernel
theorem dJ0_coder_7d493_0 : decode cJ0_coder_7d493 0 = .ok (.getstatic 38, 3) := by decide +kernel
theorem dJ0_coder_7d493_3 : decode cJ0_coder_7d493 3 = .ok (.ifCond .eq 10, 3) := by decide +kernel
theorem dJ0_coder_7d493_6 : decode cJ0_coder_7d493 6 = .ok (.aload_n 0, 1) := by decide +kernel
theorem dJ0_coder_7d493_7 : decode cJ0_coder_7d493 7 = .ok (.getfield 15, 3) := by decide +kernel
theorem dJ0_coder_7d493_10 : decode cJ0_coder_7d493 10 = .ok (.goto 4, 3) := by decide +kernel
theorem dJ0_coder_7d493_13 : decode cJ0_coder_7d493 13 = .ok (.iconst 1, 1) := by decide +kernel
theorem dJ0_coder_7d493_14 : decode cJ0_coder_7d493 14 = .ok (.ireturn, 1) := by decide +kernel
theorem dJ0_isLatin1_aae02_0 : decode cJ0_isLatin1_aae02 0 = .ok (.getstatic 38, 3) := by decide +kernel
theorem dJ0_isLatin1_aae02_3 : decode cJ0_isLatin1_aae02 3 = .ok (.ifCond .eq 14, 3) := by decide +kernel
theorem dJ0_isLatin1_aae02_6 : decode cJ0_isLatin1_aae02 6 = .ok (.aload_n 0, 1) := by decide +kernel
theorem dJ0_isLatin1_aae02_7 : decode cJ0_isLatin1_aae02 7 = .ok (.getfield 15, 3) := by decide +kernel
theorem dJ0_isLatin1_aae02_10 : decode cJ0_isLatin1_aae02 10 = .ok (.ifCond .ne 7, 3) := by decide +kernel
theorem dJ0_isLatin1_aae02_13 : decode cJ0_isLatin1_aae02 13 = .ok (.iconst 1, 1) := by decide +kernel
theorem dJ0_isLatin1_aae02_14 : decode cJ0_isLatin1_aae02 14 = .ok (.goto 4, 3) := by decide +kernel
theorem dJ0_isLatin1_aae02_17 : decode cJ0_isLatin1_aae02 17 = .ok (.iconst 0, 1) := by decide +kernel
theorem dJ0_isLatin1_aae02_18 : decode cJ0_isLatin1_aae02 18 = .ok (.ireturn, 1) := by decide +kernel
set_option maxRecDepth 20000 in
theorem ggJ0_checkIndex_df160_J3_checkIndex_8e157 : GoodIn wsJ0_checkIndex_df160 wsJ3_checkIndex_8e157 := goodIn_sub (List.forall_mem_cons.mpr ⟨List.mem_cons_of_mem _ (List.mem_of_getElem? (i := 4) rfl), (fun _ h => absurd h List.not_mem_nil)⟩) (by decide +kernel)
set_option maxRecDepth 20000 in
theorem gJ0_checkIndex_df160_J3_checkIndex_8e157 : GoodIn wsJ0_checkIndex_df160 (va_wsS RJ0 1059 yJ3_checkIndex_8e157 wsJ3_checkIndex_8e157) := goodIn_app (goodIn_of _ (by decide +kernel)) ggJ0_checkIndex_df160_J3_checkIndex_8e157
theorem dJ0_checkIndex_df160_0 : decode cJ0_checkIndex_df160 0 = .ok (.iload_n 0, 1) := by decide +kernel
theorem dJ0_checkIndex_df160_1 : decode cJ0_checkIndex_df160 1 = .ok (.iload_n 1, 1) := by decide +kernel
theorem dJ0_checkIndex_df160_2 : decode cJ0_checkIndex_df160 2 = .ok (.getstatic 1053, 3) := by decide +kernel
theorem dJ0_checkIndex_df160_5 : decode cJ0_checkIndex_df160 5 = .ok (.invokestatic 1059, 3) := by decide +kernel
theorem dJ0_checkIndex_df160_8 : decode cJ0_checkIndex_df160 8 = .ok (.pop, 1) := by decide +kernel
theorem dJ0_checkIndex_df160_9 : decode cJ0_checkIndex_df160 9 = .ok (.return_, 1) := by decide +kernel
set_option maxRecDepth 20000 in
theorem ggJ1_charAt_3b067_J0_checkIndex_df160 : GoodIn wsJ1_charAt_3b067 wsJ0_checkIndex_df160 := goodIn_sub (List.forall_mem_cons.mpr ⟨List.mem_cons_of_mem _ (List.mem_of_getElem? (i := 3) rfl), (List.forall_mem_cons.mpr ⟨List.mem_cons_of_mem _ (List.mem_of_getElem? (i := 4) rfl), (List.forall_mem_cons.mpr ⟨List.mem_cons_of_mem _ (List.mem_of_getElem? (i := 5) rfl), (List.forall_mem_cons.mpr ⟨List.mem_cons_of_mem _ (List.mem_of_getElem? (i := 6) rfl), (List.forall_mem_cons.mpr ⟨List.mem_cons_of_mem _ (List.mem_of_getElem? (i := 7) rfl), (List.forall_mem_cons.mpr ⟨List.mem_cons_of_mem _ (List.mem_of_getElem? (i := 8) rfl), (fun _ h => absurd h List.not_mem_nil)⟩)⟩)⟩)⟩)⟩)⟩) (by decide +kernel)
set_option maxRecDepth 20000 in
theorem gJ1_charAt_3b067_J0_checkIndex_df160 : GoodIn wsJ1_charAt_3b067 (va_wsS RJ1 9 yJ0_checkIndex_df160 wsJ0_checkIndex_df160) := goodIn_app (goodIn_of _ (by decide +kernel)) ggJ1_charAt_3b067_J0_checkIndex_df160
theorem dJ1_charAt_3b067_0 : decode cJ1_charAt_3b067 0 = .ok (.iload_n 1, 1) := by decide +kernel
theorem dJ1_charAt_3b067_1 : decode cJ1_charAt_3b067 1 = .ok (.aload_n 0, 1) := by decide +kernel
theorem dJ1_charAt_3b067_2 : decode cJ1_charAt_3b067 2 = .ok (.arraylength, 1) := by decide +kernel
theorem dJ1_charAt_3b067_3 : decode cJ1_charAt_3b067 3 = .ok (.invokestatic 9, 3) := by decide +kernel
theorem dJ1_charAt_3b067_6 : decode cJ1_charAt_3b067 6 = .ok (.aload_n 0, 1) := by decide +kernel
theorem dJ1_charAt_3b067_7 : decode cJ1_charAt_3b067 7 = .ok (.iload_n 1, 1) := by decide +kernel
theorem dJ1_charAt_3b067_8 : decode cJ1_charAt_3b067 8 = .ok (.baload, 1) := by decide +kernel
theorem dJ1_charAt_3b067_9 : decode cJ1_charAt_3b067 9 = .ok (.sipush 255, 3) := by decide +kernel
theorem dJ1_charAt_3b067_12 : decode cJ1_charAt_3b067 12 = .ok (.iand, 1) := by decide +kernel
theorem dJ1_charAt_3b067_13 : decode cJ1_charAt_3b067 13 = .ok (.i2c, 1) := by decide +kernel
theorem dJ1_charAt_3b067_14 : decode cJ1_charAt_3b067 14 = .ok (.ireturn, 1) := by decide +kernel
set_option maxRecDepth 20000 in
theorem ggJ2_getChar_3b067_J2_length_9d52b : GoodIn wsJ2_getChar_3b067 wsJ2_length_9d52b := goodIn_sub (List.forall_mem_cons.mpr ⟨List.mem_cons_of_mem _ (List.mem_of_getElem? (i := 6) rfl), (fun _ h => absurd h List.not_mem_nil)⟩) (by decide +kernel)
set_option maxRecDepth 20000 in
theorem gJ2_getChar_3b067_J2_length_9d52b : GoodIn wsJ2_getChar_3b067 (va_wsS RJ2 48 yJ2_length_9d52b wsJ2_length_9d52b) := goodIn_app (goodIn_of _ (by decide +kernel)) ggJ2_getChar_3b067_J2_length_9d52b
theorem dJ2_getChar_3b067_0 : decode cJ2_getChar_3b067 0 = .ok (.getstatic 44, 3) := by decide +kernel
theorem dJ2_getChar_3b067_3 : decode cJ2_getChar_3b067 3 = .ok (.ifCond .ne 25, 3) := by decide +kernel
theorem dJ2_getChar_3b067_6 : decode cJ2_getChar_3b067 6 = .ok (.iload_n 1, 1) := by decide +kernel
theorem dJ2_getChar_3b067_7 : decode cJ2_getChar_3b067 7 = .ok (.ifCond .lt 11, 3) := by decide +kernel
theorem dJ2_getChar_3b067_10 : decode cJ2_getChar_3b067 10 = .ok (.iload_n 1, 1) := by decide +kernel
theorem dJ2_getChar_3b067_11 : decode cJ2_getChar_3b067 11 = .ok (.aload_n 0, 1) := by decide +kernel
theorem dJ2_getChar_3b067_12 : decode cJ2_getChar_3b067 12 = .ok (.invokestatic 48, 3) := by decide +kernel
theorem dJ2_getChar_3b067_15 : decode cJ2_getChar_3b067 15 = .ok (.if_icmp .lt 13, 3) := by decide +kernel
theorem dJ2_getChar_3b067_18 : decode cJ2_getChar_3b067 18 = .ok (.new 52, 3) := by decide +kernel
theorem dJ2_getChar_3b067_21 : decode cJ2_getChar_3b067 21 = .ok (.dup, 1) := by decide +kernel
theorem dJ2_getChar_3b067_22 : decode cJ2_getChar_3b067 22 = .ok (.ldc 54, 2) := by decide +kernel
theorem dJ2_getChar_3b067_24 : decode cJ2_getChar_3b067 24 = .ok (.invokespecial 56, 3) := by decide +kernel
theorem dJ2_getChar_3b067_27 : decode cJ2_getChar_3b067 27 = .ok (.athrow, 1) := by decide +kernel
theorem dJ2_getChar_3b067_28 : decode cJ2_getChar_3b067 28 = .ok (.iload_n 1, 1) := by decide +kernel
theorem dJ2_getChar_3b067_29 : decode cJ2_getChar_3b067 29 = .ok (.iconst 1, 1) := by decide +kernel
theorem dJ2_getChar_3b067_30 : decode cJ2_getChar_3b067 30 = .ok (.ishl, 1) := by decide +kernel
theorem dJ2_getChar_3b067_31 : decode cJ2_getChar_3b067 31 = .ok (.istore_n 1, 1) := by decide +kernel
theorem dJ2_getChar_3b067_32 : decode cJ2_getChar_3b067 32 = .ok (.aload_n 0, 1) := by decide +kernel
theorem dJ2_getChar_3b067_33 : decode cJ2_getChar_3b067 33 = .ok (.iload_n 1, 1) := by decide +kernel
theorem dJ2_getChar_3b067_34 : decode cJ2_getChar_3b067 34 = .ok (.iinc 1 1, 3) := by decide +kernel
theorem dJ2_getChar_3b067_37 : decode cJ2_getChar_3b067 37 = .ok (.baload, 1) := by decide +kernel
theorem dJ2_getChar_3b067_38 : decode cJ2_getChar_3b067 38 = .ok (.sipush 255, 3) := by decide +kernel
theorem dJ2_getChar_3b067_41 : decode cJ2_getChar_3b067 41 = .ok (.iand, 1) := by decide +kernel
theorem dJ2_getChar_3b067_42 : decode cJ2_getChar_3b067 42 = .ok (.getstatic 59, 3) := by decide +kernel
theorem dJ2_getChar_3b067_45 : decode cJ2_getChar_3b067 45 = .ok (.ishl, 1) := by decide +kernel
theorem dJ2_getChar_3b067_46 : decode cJ2_getChar_3b067 46 = .ok (.aload_n 0, 1) := by decide +kernel
theorem dJ2_getChar_3b067_47 : decode cJ2_getChar_3b067 47 = .ok (.iload_n 1, 1) := by decide +kernel
theorem dJ2_getChar_3b067_48 : decode cJ2_getChar_3b067 48 = .ok (.baload, 1) := by decide +kernel
theorem dJ2_getChar_3b067_49 : decode cJ2_getChar_3b067 49 = .ok (.sipush 255, 3) := by decide +kernel
theorem dJ2_getChar_3b067_52 : decode cJ2_getChar_3b067 52 = .ok (.iand, 1) := by decide +kernel
theorem dJ2_getChar_3b067_53 : decode cJ2_getChar_3b067 53 = .ok (.getstatic 63, 3) := by decide +kernel
theorem dJ2_getChar_3b067_56 : decode cJ2_getChar_3b067 56 = .ok (.ishl, 1) := by decide +kernel
theorem dJ2_getChar_3b067_57 : decode cJ2_getChar_3b067 57 = .ok (.ior, 1) := by decide +kernel
theorem dJ2_getChar_3b067_58 : decode cJ2_getChar_3b067 58 = .ok (.i2c, 1) := by decide +kernel
theorem dJ2_getChar_3b067_59 : decode cJ2_getChar_3b067 59 = .ok (.ireturn, 1) := by decide +kernel
theorem dJ2_length_9d52b_0 : decode cJ2_length_9d52b 0 = .ok (.aload_n 0, 1) := by decide +kernel
theorem dJ2_length_9d52b_1 : decode cJ2_length_9d52b 1 = .ok (.arraylength, 1) := by decide +kernel
theorem dJ2_length_9d52b_2 : decode cJ2_length_9d52b 2 = .ok (.iconst 1, 1) := by decide +kernel
theorem dJ2_length_9d52b_3 : decode cJ2_length_9d52b 3 = .ok (.ishr, 1) := by decide +kernel
theorem dJ2_length_9d52b_4 : decode cJ2_length_9d52b 4 = .ok (.ireturn, 1) := by decide +kernel
set_option maxRecDepth 20000 in
theorem ggJ2_charAt_3b067_J2_checkIndex_2214a : GoodIn wsJ2_charAt_3b067 wsJ2_checkIndex_2214a := goodIn_sub (List.forall_mem_cons.mpr ⟨List.mem_cons_of_mem _ (List.mem_of_getElem? (i := 3) rfl), (List.forall_mem_cons.mpr ⟨List.mem_cons_of_mem _ (List.mem_of_getElem? (i := 4) rfl), (List.forall_mem_cons.mpr ⟨List.mem_cons_of_mem _ (List.mem_of_getElem? (i := 5) rfl), (List.forall_mem_cons.mpr ⟨List.mem_cons_of_mem _ (List.mem_of_getElem? (i := 2) rfl), (List.forall_mem_cons.mpr ⟨List.mem_cons_of_mem _ (List.mem_of_getElem? (i := 6) rfl), (List.forall_mem_cons.mpr ⟨List.mem_cons_of_mem _ (List.mem_of_getElem? (i := 7) rfl), (List.forall_mem_cons.mpr ⟨List.mem_cons_of_mem _ (List.mem_of_getElem? (i := 8) rfl), (List.forall_mem_cons.mpr ⟨List.mem_cons_of_mem _ (List.mem_of_getElem? (i := 9) rfl), (List.forall_mem_cons.mpr ⟨List.mem_cons_of_mem _ (List.mem_of_getElem? (i := 10) rfl), (List.forall_mem_cons.mpr ⟨List.mem_cons_of_mem _ (List.mem_of_getElem? (i := 11) rfl), (List.forall_mem_cons.mpr ⟨List.mem_cons_of_mem _ (List.mem_of_getElem? (i := 12) rfl), (List.forall_mem_cons.mpr ⟨List.mem_cons_of_mem _ (List.mem_of_getElem? (i := 13) rfl), (List.forall_mem_cons.mpr ⟨List.mem_cons_of_mem _ (List.mem_of_getElem? (i := 14) rfl), (List.forall_mem_cons.mpr ⟨List.mem_cons_of_mem _ (List.mem_of_getElem? (i := 15) rfl), (fun _ h => absurd h List.not_mem_nil)⟩)⟩)⟩)⟩)⟩)⟩)⟩)⟩)⟩)⟩)⟩)⟩)⟩)⟩) (by decide +kernel)
set_option maxRecDepth 20000 in
theorem gJ2_charAt_3b067_J2_checkIndex_2214a : GoodIn wsJ2_charAt_3b067 (va_wsS RJ2 67 yJ2_checkIndex_2214a wsJ2_checkIndex_2214a) := goodIn_app (goodIn_of _ (by decide +kernel)) ggJ2_charAt_3b067_J2_checkIndex_2214a
set_option maxRecDepth 20000 in
theorem ggJ2_charAt_3b067_J2_getChar_3b067 : GoodIn wsJ2_charAt_3b067 wsJ2_getChar_3b067 := goodIn_sub (List.forall_mem_cons.mpr ⟨List.mem_cons_of_mem _ (List.mem_of_getElem? (i := 18) rfl), (List.forall_mem_cons.mpr ⟨List.mem_cons_of_mem _ (List.mem_of_getElem? (i := 19) rfl), (List.forall_mem_cons.mpr ⟨List.mem_cons_of_mem _ (List.mem_of_getElem? (i := 20) rfl), (List.forall_mem_cons.mpr ⟨List.mem_cons_of_mem _ (List.mem_of_getElem? (i := 21) rfl), (List.forall_mem_cons.mpr ⟨List.mem_cons_of_mem _ (List.mem_of_getElem? (i := 4) rfl), (List.forall_mem_cons.mpr ⟨List.mem_cons_of_mem _ (List.mem_of_getElem? (i := 5) rfl), (List.forall_mem_cons.mpr ⟨List.mem_cons_of_mem _ (List.mem_of_getElem? (i := 2) rfl), (List.forall_mem_cons.mpr ⟨List.mem_cons_of_mem _ (List.mem_of_getElem? (i := 6) rfl), (fun _ h => absurd h List.not_mem_nil)⟩)⟩)⟩)⟩)⟩)⟩)⟩)⟩) (by decide +kernel)
set_option maxRecDepth 20000 in
theorem gJ2_charAt_3b067_J2_getChar_3b067 : GoodIn wsJ2_charAt_3b067 (va_wsS RJ2 71 yJ2_getChar_3b067 wsJ2_getChar_3b067) := goodIn_app (goodIn_of _ (by decide +kernel)) ggJ2_charAt_3b067_J2_getChar_3b067
theorem dJ2_charAt_3b067_0 : decode cJ2_charAt_3b067 0 = .ok (.iload_n 1, 1) := by decide +kernel
theorem dJ2_charAt_3b067_1 : decode cJ2_charAt_3b067 1 = .ok (.aload_n 0, 1) := by decide +kernel
theorem dJ2_charAt_3b067_2 : decode cJ2_charAt_3b067 2 = .ok (.invokestatic 67, 3) := by decide +kernel
theorem dJ2_charAt_3b067_5 : decode cJ2_charAt_3b067 5 = .ok (.aload_n 0, 1) := by decide +kernel
theorem dJ2_charAt_3b067_6 : decode cJ2_charAt_3b067 6 = .ok (.iload_n 1, 1) := by decide +kernel
theorem dJ2_charAt_3b067_7 : decode cJ2_charAt_3b067 7 = .ok (.invokestatic 71, 3) := by decide +kernel
theorem dJ2_charAt_3b067_10 : decode cJ2_charAt_3b067 10 = .ok (.ireturn, 1) := by decide +kernel
set_option maxRecDepth 20000 in
theorem ggJ2_checkIndex_2214a_J2_length_9d52b : GoodIn wsJ2_checkIndex_2214a wsJ2_length_9d52b := goodIn_sub (List.forall_mem_cons.mpr ⟨List.mem_cons_of_mem _ (List.mem_of_getElem? (i := 3) rfl), (fun _ h => absurd h List.not_mem_nil)⟩) (by decide +kernel)
set_option maxRecDepth 20000 in
theorem gJ2_checkIndex_2214a_J2_length_9d52b : GoodIn wsJ2_checkIndex_2214a (va_wsS RJ2 48 yJ2_length_9d52b wsJ2_length_9d52b) := goodIn_app (goodIn_of _ (by decide +kernel)) ggJ2_checkIndex_2214a_J2_length_9d52b
set_option maxRecDepth 20000 in
theorem ggJ2_checkIndex_2214a_J0_checkIndex_df160 : GoodIn wsJ2_checkIndex_2214a wsJ0_checkIndex_df160 := goodIn_sub (List.forall_mem_cons.mpr ⟨List.mem_cons_of_mem _ (List.mem_of_getElem? (i := 7) rfl), (List.forall_mem_cons.mpr ⟨List.mem_cons_of_mem _ (List.mem_of_getElem? (i := 8) rfl), (List.forall_mem_cons.mpr ⟨List.mem_cons_of_mem _ (List.mem_of_getElem? (i := 9) rfl), (List.forall_mem_cons.mpr ⟨List.mem_cons_of_mem _ (List.mem_of_getElem? (i := 10) rfl), (List.forall_mem_cons.mpr ⟨List.mem_cons_of_mem _ (List.mem_of_getElem? (i := 11) rfl), (List.forall_mem_cons.mpr ⟨List.mem_cons_of_mem _ (List.mem_of_getElem? (i := 12) rfl), (fun _ h => absurd h List.not_mem_nil)⟩)⟩)⟩)⟩)⟩)⟩) (by decide +kernel)
set_option maxRecDepth 20000 in
theorem gJ2_checkIndex_2214a_J0_checkIndex_df160 : GoodIn wsJ2_checkIndex_2214a (va_wsS RJ2 414 yJ0_checkIndex_df160 wsJ0_checkIndex_df160) := goodIn_app (goodIn_of _ (by decide +kernel)) ggJ2_checkIndex_2214a_J0_checkIndex_df160
theorem dJ2_checkIndex_2214a_0 : decode cJ2_checkIndex_2214a 0 = .ok (.iload_n 0, 1) := by decide +kernel
theorem dJ2_checkIndex_2214a_1 : decode cJ2_checkIndex_2214a 1 = .ok (.aload_n 1, 1) := by decide +kernel
theorem dJ2_checkIndex_2214a_2 : decode cJ2_checkIndex_2214a 2 = .ok (.invokestatic 48, 3) := by decide +kernel
theorem dJ2_checkIndex_2214a_5 : decode cJ2_checkIndex_2214a 5 = .ok (.invokestatic 414, 3) := by decide +kernel
theorem dJ2_checkIndex_2214a_8 : decode cJ2_checkIndex_2214a 8 = .ok (.return_, 1) := by decide +kernel
theorem dJ7_fill_53178_0 : decode cJ7_fill_53178 0 = .ok (.iconst 0, 1) := by decide +kernel
theorem dJ7_fill_53178_1 : decode cJ7_fill_53178 1 = .ok (.istore_n 2, 1) := by decide +kernel
theorem dJ7_fill_53178_2 : decode cJ7_fill_53178 2 = .ok (.aload_n 0, 1) := by decide +kernel
theorem dJ7_fill_53178_3 : decode cJ7_fill_53178 3 = .ok (.arraylength, 1) := by decide +kernel
theorem dJ7_fill_53178_4 : decode cJ7_fill_53178 4 = .ok (.istore_n 3, 1) := by decide +kernel
theorem dJ7_fill_53178_5 : decode cJ7_fill_53178 5 = .ok (.iload_n 2, 1) := by decide +kernel
theorem dJ7_fill_53178_6 : decode cJ7_fill_53178 6 = .ok (.iload_n 3, 1) := by decide +kernel
theorem dJ7_fill_53178_7 : decode cJ7_fill_53178 7 = .ok (.if_icmp .ge 13, 3) := by decide +kernel
theorem dJ7_fill_53178_10 : decode cJ7_fill_53178 10 = .ok (.aload_n 0, 1) := by decide +kernel
theorem dJ7_fill_53178_11 : decode cJ7_fill_53178 11 = .ok (.iload_n 2, 1) := by decide +kernel
theorem dJ7_fill_53178_12 : decode cJ7_fill_53178 12 = .ok (.iload_n 1, 1) := by decide +kernel
theorem dJ7_fill_53178_13 : decode cJ7_fill_53178 13 = .ok (.iastore, 1) := by decide +kernel
theorem dJ7_fill_53178_14 : decode cJ7_fill_53178 14 = .ok (.iinc 2 1, 3) := by decide +kernel
theorem dJ7_fill_53178_17 : decode cJ7_fill_53178 17 = .ok (.goto (-12), 3) := by decide +kernel
theorem dJ7_fill_53178_20 : decode cJ7_fill_53178 20 = .ok (.return_, 1) := by decide +kernel
theorem dJ3_checkIndex_8e157_0 : decode cJ3_checkIndex_8e157 0 = .ok (.iload_n 0, 1) := by decide +kernel
theorem dJ3_checkIndex_8e157_1 : decode cJ3_checkIndex_8e157 1 = .ok (.ifCond .lt 8, 3) := by decide +kernel
theorem dJ3_checkIndex_8e157_4 : decode cJ3_checkIndex_8e157 4 = .ok (.iload_n 0, 1) := by decide +kernel
theorem dJ3_checkIndex_8e157_5 : decode cJ3_checkIndex_8e157 5 = .ok (.iload_n 1, 1) := by decide +kernel
theorem dJ3_checkIndex_8e157_6 : decode cJ3_checkIndex_8e157 6 = .ok (.if_icmp .lt 10, 3) := by decide +kernel
theorem dJ3_checkIndex_8e157_9 : decode cJ3_checkIndex_8e157 9 = .ok (.aload_n 2, 1) := by decide +kernel
theorem dJ3_checkIndex_8e157_10 : decode cJ3_checkIndex_8e157 10 = .ok (.iload_n 0, 1) := by decide +kernel
theorem dJ3_checkIndex_8e157_11 : decode cJ3_checkIndex_8e157 11 = .ok (.iload_n 1, 1) := by decide +kernel
theorem dJ3_checkIndex_8e157_12 : decode cJ3_checkIndex_8e157 12 = .ok (.invokestatic 95, 3) := by decide +kernel
theorem dJ3_checkIndex_8e157_15 : decode cJ3_checkIndex_8e157 15 = .ok (.athrow, 1) := by decide +kernel
theorem dJ3_checkIndex_8e157_16 : decode cJ3_checkIndex_8e157 16 = .ok (.iload_n 0, 1) := by decide +kernel
theorem dJ3_checkIndex_8e157_17 : decode cJ3_checkIndex_8e157 17 = .ok (.ireturn, 1) := by decide +kernel
