theorem dX4_marginOf_25 : decode cX4_marginOf 25 = .ok (.iconst (-1), 1) := by decide +kernel
theorem dX4_marginOf_26 : decode cX4_marginOf 26 = .ok (.if_icmp .eq 10, 3) := by decide +kernel
theorem dX4_marginOf_29 : decode cX4_marginOf 29 = .ok (.iload 5, 2) := by decide +kernel
theorem dX4_marginOf_31 : decode cX4_marginOf 31 = .ok (.iload 6, 2) := by decide +kernel
theorem dX4_marginOf_33 : decode cX4_marginOf 33 = .ok (.if_icmp .ge 7, 3) := by decide +kernel
theorem dX4_marginOf_36 : decode cX4_marginOf 36 = .ok (.iconst (-1), 1) := by decide +kernel
theorem dX4_marginOf_37 : decode cX4_marginOf 37 = .ok (.goto 8, 3) := by decide +kernel
theorem dX4_marginOf_40 : decode cX4_marginOf 40 = .ok (.iload 5, 2) := by decide +kernel
theorem dX4_marginOf_42 : decode cX4_marginOf 42 = .ok (.iload 6, 2) := by decide +kernel
theorem dX4_marginOf_44 : decode cX4_marginOf 44 = .ok (.isub, 1) := by decide +kernel
theorem dX4_marginOf_45 : decode cX4_marginOf 45 = .ok (.ireturn, 1) := by decide +kernel
theorem ilX4_shareNight_wsX4_shareNight_r1 : ∀ w ∈ wsX4_shareNight_r1, w ∈ wsX4_shareNight := fun _ h => List.mem_cons_of_mem _ (List.mem_append_left _ (List.mem_append_left _ (List.mem_append_left _ (h))))
theorem ilX4_shareNight_wsX4_shareNight_r2 : ∀ w ∈ wsX4_shareNight_r2, w ∈ wsX4_shareNight := fun _ h => List.mem_cons_of_mem _ (List.mem_append_left _ (List.mem_append_left _ (List.mem_append_right _ (h))))
theorem ilX4_shareNight_wsX10 : ∀ w ∈ wsX10, w ∈ wsX4_shareNight := fun _ h => List.mem_cons_of_mem _ (List.mem_append_left _ (List.mem_append_right _ (h)))
theorem ilX4_shareNight_wsX40 : ∀ w ∈ wsX40, w ∈ wsX4_shareNight := fun _ h => List.mem_cons_of_mem _ (List.mem_append_right _ (h))
set_option maxRecDepth 20000 in
theorem ggX4_shareNight_X4_marginOf : GoodIn wsX4_shareNight wsX4_marginOf := goodIn_sub (List.forall_mem_cons.mpr ⟨ilX4_shareNight_wsX4_shareNight_r1 _ (List.mem_of_getElem? (i := 12) rfl), (List.forall_mem_append.mpr ⟨(List.forall_mem_cons.mpr ⟨ilX4_shareNight_wsX4_shareNight_r1 _ (List.mem_of_getElem? (i := 13) rfl), (List.forall_mem_cons.mpr ⟨ilX4_shareNight_wsX4_shareNight_r1 _ (List.mem_of_getElem? (i := 14) rfl), (List.forall_mem_cons.mpr ⟨ilX4_shareNight_wsX4_shareNight_r1 _ (List.mem_of_getElem? (i := 11) rfl), (List.forall_mem_cons.mpr ⟨ilX4_shareNight_wsX4_shareNight_r1 _ (List.mem_of_getElem? (i := 15) rfl), (List.forall_mem_cons.mpr ⟨ilX4_shareNight_wsX4_shareNight_r1 _ (List.mem_of_getElem? (i := 4) rfl), (List.forall_mem_cons.mpr ⟨ilX4_shareNight_wsX4_shareNight_r1 _ (List.mem_of_getElem? (i := 16) rfl), (List.forall_mem_cons.mpr ⟨ilX4_shareNight_wsX4_shareNight_r1 _ (List.mem_of_getElem? (i := 5) rfl), (List.forall_mem_cons.mpr ⟨ilX4_shareNight_wsX4_shareNight_r1 _ (List.mem_of_getElem? (i := 6) rfl), (List.forall_mem_cons.mpr ⟨ilX4_shareNight_wsX4_shareNight_r1 _ (List.mem_of_getElem? (i := 7) rfl), (List.forall_mem_cons.mpr ⟨ilX4_shareNight_wsX4_shareNight_r1 _ (List.mem_of_getElem? (i := 8) rfl), (List.forall_mem_cons.mpr ⟨ilX4_shareNight_wsX4_shareNight_r1 _ (List.mem_of_getElem? (i := 17) rfl), (List.forall_mem_cons.mpr ⟨ilX4_shareNight_wsX4_shareNight_r1 _ (List.mem_of_getElem? (i := 18) rfl), (List.forall_mem_cons.mpr ⟨ilX4_shareNight_wsX4_shareNight_r1 _ (List.mem_of_getElem? (i := 19) rfl), (List.forall_mem_cons.mpr ⟨ilX4_shareNight_wsX4_shareNight_r1 _ (List.mem_of_getElem? (i := 20) rfl), (List.forall_mem_cons.mpr ⟨ilX4_shareNight_wsX4_shareNight_r1 _ (List.mem_of_getElem? (i := 21) rfl), (List.forall_mem_cons.mpr ⟨ilX4_shareNight_wsX4_shareNight_r1 _ (List.mem_of_getElem? (i := 22) rfl), (List.forall_mem_cons.mpr ⟨ilX4_shareNight_wsX4_shareNight_r1 _ (List.mem_of_getElem? (i := 23) rfl), (List.forall_mem_cons.mpr ⟨ilX4_shareNight_wsX4_shareNight_r2 _ (List.mem_of_getElem? (i := 0) rfl), (List.forall_mem_cons.mpr ⟨ilX4_shareNight_wsX4_shareNight_r2 _ (List.mem_of_getElem? (i := 1) rfl), (List.forall_mem_cons.mpr ⟨ilX4_shareNight_wsX4_shareNight_r2 _ (List.mem_of_getElem? (i := 2) rfl), (List.forall_mem_cons.mpr ⟨ilX4_shareNight_wsX4_shareNight_r2 _ (List.mem_of_getElem? (i := 3) rfl), (fun _ h => absurd h List.not_mem_nil)⟩)⟩)⟩)⟩)⟩)⟩)⟩)⟩)⟩)⟩)⟩)⟩)⟩)⟩)⟩)⟩)⟩)⟩)⟩)⟩)⟩), ilX4_shareNight_wsX10⟩)⟩) (by decide +kernel)
set_option maxRecDepth 20000 in
theorem gX4_shareNight_X4_marginOf : GoodIn wsX4_shareNight (va_wsS RX4 81 yX4_marginOf wsX4_marginOf) := goodIn_app (goodIn_of _ (by decide +kernel)) ggX4_shareNight_X4_marginOf
set_option maxRecDepth 20000 in
theorem ggX4_shareNight_X1_allCoin : GoodIn wsX4_shareNight wsX1_allCoin := goodIn_sub (List.forall_mem_cons.mpr ⟨ilX4_shareNight_wsX4_shareNight_r2 _ (List.mem_of_getElem? (i := 8) rfl), (List.forall_mem_append.mpr ⟨(List.forall_mem_cons.mpr ⟨ilX4_shareNight_wsX4_shareNight_r2 _ (List.mem_of_getElem? (i := 9) rfl), (List.forall_mem_cons.mpr ⟨ilX4_shareNight_wsX4_shareNight_r2 _ (List.mem_of_getElem? (i := 10) rfl), (List.forall_mem_cons.mpr ⟨ilX4_shareNight_wsX4_shareNight_r2 _ (List.mem_of_getElem? (i := 11) rfl), (fun _ h => absurd h List.not_mem_nil)⟩)⟩)⟩), ilX4_shareNight_wsX10⟩)⟩) (by decide +kernel)
set_option maxRecDepth 20000 in
theorem gX4_shareNight_X1_allCoin : GoodIn wsX4_shareNight (wsV RX4 84 RX1 yX1_allCoin wsX1_allCoin) := goodIn_app (goodIn_sub (List.forall_mem_cons.mpr ⟨ilX4_shareNight_wsX4_shareNight_r2 _ (List.mem_of_getElem? (i := 4) rfl), (List.forall_mem_cons.mpr ⟨ilX4_shareNight_wsX4_shareNight_r2 _ (List.mem_of_getElem? (i := 5) rfl), (List.forall_mem_cons.mpr ⟨ilX4_shareNight_wsX4_shareNight_r2 _ (List.mem_of_getElem? (i := 6) rfl), (List.forall_mem_cons.mpr ⟨ilX4_shareNight_wsX4_shareNight_r2 _ (List.mem_of_getElem? (i := 7) rfl), (fun _ h => absurd h List.not_mem_nil)⟩)⟩)⟩)⟩) (by decide +kernel)) ggX4_shareNight_X1_allCoin
set_option maxRecDepth 20000 in
theorem ggX4_shareNight_X4_greatestMargin : GoodIn wsX4_shareNight wsX4_greatestMargin := goodIn_sub (List.forall_mem_cons.mpr ⟨ilX4_shareNight_wsX4_shareNight_r2 _ (List.mem_of_getElem? (i := 15) rfl), (List.forall_mem_append.mpr ⟨(List.forall_mem_cons.mpr ⟨ilX4_shareNight_wsX4_shareNight_r1 _ (List.mem_of_getElem? (i := 2) rfl), (fun _ h => absurd h List.not_mem_nil)⟩), ilX4_shareNight_wsX40⟩)⟩) (by decide +kernel)
set_option maxRecDepth 20000 in
theorem gX4_shareNight_X4_greatestMargin : GoodIn wsX4_shareNight (wsV RX4 88 RX4 yX4_greatestMargin wsX4_greatestMargin) := goodIn_app (goodIn_sub (List.forall_mem_cons.mpr ⟨ilX4_shareNight_wsX4_shareNight_r2 _ (List.mem_of_getElem? (i := 12) rfl), (List.forall_mem_cons.mpr ⟨ilX4_shareNight_wsX4_shareNight_r2 _ (List.mem_of_getElem? (i := 13) rfl), (List.forall_mem_cons.mpr ⟨ilX4_shareNight_wsX4_shareNight_r2 _ (List.mem_of_getElem? (i := 14) rfl), (List.forall_mem_cons.mpr ⟨ilX4_shareNight_wsX4_shareNight_r1 _ (List.mem_of_getElem? (i := 11) rfl), (fun _ h => absurd h List.not_mem_nil)⟩)⟩)⟩)⟩) (by decide +kernel)) ggX4_shareNight_X4_greatestMargin
theorem dX4_shareNight_0 : decode cX4_shareNight 0 = .ok (.iconst 0, 1) := by decide +kernel
theorem dX4_shareNight_1 : decode cX4_shareNight 1 = .ok (.istore 5, 2) := by decide +kernel
theorem dX4_shareNight_3 : decode cX4_shareNight 3 = .ok (.iload 5, 2) := by decide +kernel
theorem dX4_shareNight_5 : decode cX4_shareNight 5 = .ok (.aload_n 1, 1) := by decide +kernel
theorem dX4_shareNight_6 : decode cX4_shareNight 6 = .ok (.getfield 78, 3) := by decide +kernel
theorem dX4_shareNight_9 : decode cX4_shareNight 9 = .ok (.if_icmp .ge 34, 3) := by decide +kernel
theorem dX4_shareNight_12 : decode cX4_shareNight 12 = .ok (.aload_n 0, 1) := by decide +kernel
theorem dX4_shareNight_13 : decode cX4_shareNight 13 = .ok (.getfield 9, 3) := by decide +kernel
theorem dX4_shareNight_16 : decode cX4_shareNight 16 = .ok (.iload 5, 2) := by decide +kernel
theorem dX4_shareNight_18 : decode cX4_shareNight 18 = .ok (.iconst 0, 1) := by decide +kernel
theorem dX4_shareNight_19 : decode cX4_shareNight 19 = .ok (.iastore, 1) := by decide +kernel
theorem dX4_shareNight_20 : decode cX4_shareNight 20 = .ok (.aload_n 0, 1) := by decide +kernel
theorem dX4_shareNight_21 : decode cX4_shareNight 21 = .ok (.getfield 34, 3) := by decide +kernel
theorem dX4_shareNight_24 : decode cX4_shareNight 24 = .ok (.iload 5, 2) := by decide +kernel
theorem dX4_shareNight_26 : decode cX4_shareNight 26 = .ok (.aload_n 1, 1) := by decide +kernel
theorem dX4_shareNight_27 : decode cX4_shareNight 27 = .ok (.iload 5, 2) := by decide +kernel
theorem dX4_shareNight_29 : decode cX4_shareNight 29 = .ok (.iload_n 2, 1) := by decide +kernel
theorem dX4_shareNight_30 : decode cX4_shareNight 30 = .ok (.iload_n 3, 1) := by decide +kernel
theorem dX4_shareNight_31 : decode cX4_shareNight 31 = .ok (.iload 4, 2) := by decide +kernel
theorem dX4_shareNight_33 : decode cX4_shareNight 33 = .ok (.invokestatic 81, 3) := by decide +kernel
theorem dX4_shareNight_36 : decode cX4_shareNight 36 = .ok (.iastore, 1) := by decide +kernel
theorem dX4_shareNight_37 : decode cX4_shareNight 37 = .ok (.iinc 5 1, 3) := by decide +kernel
theorem dX4_shareNight_40 : decode cX4_shareNight 40 = .ok (.goto (-37), 3) := by decide +kernel
theorem dX4_shareNight_43 : decode cX4_shareNight 43 = .ok (.aload_n 1, 1) := by decide +kernel
theorem dX4_shareNight_44 : decode cX4_shareNight 44 = .ok (.invokevirtual 84, 3) := by decide +kernel
theorem dX4_shareNight_47 : decode cX4_shareNight 47 = .ok (.istore 5, 2) := by decide +kernel
theorem dX4_shareNight_49 : decode cX4_shareNight 49 = .ok (.iconst 0, 1) := by decide +kernel
theorem dX4_shareNight_50 : decode cX4_shareNight 50 = .ok (.istore 6, 2) := by decide +kernel
theorem dX4_shareNight_52 : decode cX4_shareNight 52 = .ok (.iload 6, 2) := by decide +kernel
theorem dX4_shareNight_54 : decode cX4_shareNight 54 = .ok (.aload_n 1, 1) := by decide +kernel
theorem dX4_shareNight_55 : decode cX4_shareNight 55 = .ok (.getfield 78, 3) := by decide +kernel
theorem dX4_shareNight_58 : decode cX4_shareNight 58 = .ok (.if_icmp .ge 73, 3) := by decide +kernel
theorem dX4_shareNight_61 : decode cX4_shareNight 61 = .ok (.aload_n 0, 1) := by decide +kernel
theorem dX4_shareNight_62 : decode cX4_shareNight 62 = .ok (.aload_n 1, 1) := by decide +kernel
theorem dX4_shareNight_63 : decode cX4_shareNight 63 = .ok (.getfield 78, 3) := by decide +kernel
theorem dX4_shareNight_66 : decode cX4_shareNight 66 = .ok (.invokevirtual 88, 3) := by decide +kernel
theorem dX4_shareNight_69 : decode cX4_shareNight 69 = .ok (.istore 7, 2) := by decide +kernel
theorem dX4_shareNight_71 : decode cX4_shareNight 71 = .ok (.iload 7, 2) := by decide +kernel
theorem dX4_shareNight_73 : decode cX4_shareNight 73 = .ok (.iconst (-1), 1) := by decide +kernel
theorem dX4_shareNight_74 : decode cX4_shareNight 74 = .ok (.if_icmp .ne 4, 3) := by decide +kernel
theorem dX4_shareNight_77 : decode cX4_shareNight 77 = .ok (.return_, 1) := by decide +kernel
theorem dX4_shareNight_78 : decode cX4_shareNight 78 = .ok (.aload_n 0, 1) := by decide +kernel
theorem dX4_shareNight_79 : decode cX4_shareNight 79 = .ok (.getfield 9, 3) := by decide +kernel
theorem dX4_shareNight_82 : decode cX4_shareNight 82 = .ok (.iload 7, 2) := by decide +kernel
theorem dX4_shareNight_84 : decode cX4_shareNight 84 = .ok (.iload 5, 2) := by decide +kernel
theorem dX4_shareNight_86 : decode cX4_shareNight 86 = .ok (.aload_n 1, 1) := by decide +kernel
theorem dX4_shareNight_87 : decode cX4_shareNight 87 = .ok (.getfield 92, 3) := by decide +kernel
theorem dX4_shareNight_90 : decode cX4_shareNight 90 = .ok (.iload 7, 2) := by decide +kernel
theorem dX4_shareNight_92 : decode cX4_shareNight 92 = .ok (.iaload, 1) := by decide +kernel
theorem dX4_shareNight_93 : decode cX4_shareNight 93 = .ok (.aload_n 1, 1) := by decide +kernel
theorem dX4_shareNight_94 : decode cX4_shareNight 94 = .ok (.getfield 54, 3) := by decide +kernel
theorem dX4_shareNight_97 : decode cX4_shareNight 97 = .ok (.iload 7, 2) := by decide +kernel
theorem dX4_shareNight_99 : decode cX4_shareNight 99 = .ok (.iaload, 1) := by decide +kernel
theorem dX4_shareNight_100 : decode cX4_shareNight 100 = .ok (.imul, 1) := by decide +kernel
theorem dX4_shareNight_101 : decode cX4_shareNight 101 = .ok (.invokestatic 60, 3) := by decide +kernel
theorem dX4_shareNight_104 : decode cX4_shareNight 104 = .ok (.iastore, 1) := by decide +kernel
theorem dX4_shareNight_105 : decode cX4_shareNight 105 = .ok (.iload 5, 2) := by decide +kernel
theorem dX4_shareNight_107 : decode cX4_shareNight 107 = .ok (.aload_n 0, 1) := by decide +kernel
theorem dX4_shareNight_108 : decode cX4_shareNight 108 = .ok (.getfield 9, 3) := by decide +kernel
theorem dX4_shareNight_111 : decode cX4_shareNight 111 = .ok (.iload 7, 2) := by decide +kernel
theorem dX4_shareNight_113 : decode cX4_shareNight 113 = .ok (.iaload, 1) := by decide +kernel
theorem dX4_shareNight_114 : decode cX4_shareNight 114 = .ok (.isub, 1) := by decide +kernel
theorem dX4_shareNight_115 : decode cX4_shareNight 115 = .ok (.istore 5, 2) := by decide +kernel
theorem dX4_shareNight_117 : decode cX4_shareNight 117 = .ok (.aload_n 0, 1) := by decide +kernel
theorem dX4_shareNight_118 : decode cX4_shareNight 118 = .ok (.getfield 34, 3) := by decide +kernel
theorem dX4_shareNight_121 : decode cX4_shareNight 121 = .ok (.iload 7, 2) := by decide +kernel
theorem dX4_shareNight_123 : decode cX4_shareNight 123 = .ok (.iconst (-1), 1) := by decide +kernel
theorem dX4_shareNight_124 : decode cX4_shareNight 124 = .ok (.iastore, 1) := by decide +kernel
theorem dX4_shareNight_125 : decode cX4_shareNight 125 = .ok (.iinc 6 1, 3) := by decide +kernel
theorem dX4_shareNight_128 : decode cX4_shareNight 128 = .ok (.goto (-76), 3) := by decide +kernel
theorem dX4_shareNight_131 : decode cX4_shareNight 131 = .ok (.return_, 1) := by decide +kernel
theorem dX4_greatestMargin_0 : decode cX4_greatestMargin 0 = .ok (.iconst (-1), 1) := by decide +kernel
theorem dX4_greatestMargin_1 : decode cX4_greatestMargin 1 = .ok (.istore_n 2, 1) := by decide +kernel
theorem dX4_greatestMargin_2 : decode cX4_greatestMargin 2 = .ok (.iconst (-1), 1) := by decide +kernel
theorem dX4_greatestMargin_3 : decode cX4_greatestMargin 3 = .ok (.istore_n 3, 1) := by decide +kernel
theorem dX4_greatestMargin_4 : decode cX4_greatestMargin 4 = .ok (.iconst 0, 1) := by decide +kernel
theorem dX4_greatestMargin_5 : decode cX4_greatestMargin 5 = .ok (.istore 4, 2) := by decide +kernel
theorem dX4_greatestMargin_7 : decode cX4_greatestMargin 7 = .ok (.iload 4, 2) := by decide +kernel
theorem dX4_greatestMargin_9 : decode cX4_greatestMargin 9 = .ok (.iload_n 1, 1) := by decide +kernel
theorem dX4_greatestMargin_10 : decode cX4_greatestMargin 10 = .ok (.if_icmp .ge 31, 3) := by decide +kernel
theorem dX4_greatestMargin_13 : decode cX4_greatestMargin 13 = .ok (.aload_n 0, 1) := by decide +kernel
theorem dX4_greatestMargin_14 : decode cX4_greatestMargin 14 = .ok (.getfield 34, 3) := by decide +kernel
theorem dX4_greatestMargin_17 : decode cX4_greatestMargin 17 = .ok (.iload 4, 2) := by decide +kernel
theorem dX4_greatestMargin_19 : decode cX4_greatestMargin 19 = .ok (.iaload, 1) := by decide +kernel
theorem dX4_greatestMargin_20 : decode cX4_greatestMargin 20 = .ok (.iload_n 3, 1) := by decide +kernel
theorem dX4_greatestMargin_21 : decode cX4_greatestMargin 21 = .ok (.if_icmp .le 14, 3) := by decide +kernel
theorem dX4_greatestMargin_24 : decode cX4_greatestMargin 24 = .ok (.aload_n 0, 1) := by decide +kernel
theorem dX4_greatestMargin_25 : decode cX4_greatestMargin 25 = .ok (.getfield 34, 3) := by decide +kernel
theorem dX4_greatestMargin_28 : decode cX4_greatestMargin 28 = .ok (.iload 4, 2) := by decide +kernel
theorem dX4_greatestMargin_30 : decode cX4_greatestMargin 30 = .ok (.iaload, 1) := by decide +kernel
theorem dX4_greatestMargin_31 : decode cX4_greatestMargin 31 = .ok (.istore_n 3, 1) := by decide +kernel
theorem dX4_greatestMargin_32 : decode cX4_greatestMargin 32 = .ok (.iload 4, 2) := by decide +kernel
theorem dX4_greatestMargin_34 : decode cX4_greatestMargin 34 = .ok (.istore_n 2, 1) := by decide +kernel
theorem dX4_greatestMargin_35 : decode cX4_greatestMargin 35 = .ok (.iinc 4 1, 3) := by decide +kernel
theorem dX4_greatestMargin_38 : decode cX4_greatestMargin 38 = .ok (.goto (-31), 3) := by decide +kernel
theorem dX4_greatestMargin_41 : decode cX4_greatestMargin 41 = .ok (.iload_n 2, 1) := by decide +kernel
theorem dX4_greatestMargin_42 : decode cX4_greatestMargin 42 = .ok (.ireturn, 1) := by decide +kernel
theorem dX4_sownTonight_0 : decode cX4_sownTonight 0 = .ok (.iconst 0, 1) := by decide +kernel
theorem dX4_sownTonight_1 : decode cX4_sownTonight 1 = .ok (.istore_n 2, 1) := by decide +kernel
theorem dX4_sownTonight_2 : decode cX4_sownTonight 2 = .ok (.iconst 0, 1) := by decide +kernel
theorem dX4_sownTonight_3 : decode cX4_sownTonight 3 = .ok (.istore_n 3, 1) := by decide +kernel
theorem dX4_sownTonight_4 : decode cX4_sownTonight 4 = .ok (.iload_n 3, 1) := by decide +kernel
theorem dX4_sownTonight_5 : decode cX4_sownTonight 5 = .ok (.aload_n 1, 1) := by decide +kernel
theorem dX4_sownTonight_6 : decode cX4_sownTonight 6 = .ok (.getfield 78, 3) := by decide +kernel
theorem dX4_sownTonight_9 : decode cX4_sownTonight 9 = .ok (.if_icmp .ge 18, 3) := by decide +kernel
theorem dX4_sownTonight_12 : decode cX4_sownTonight 12 = .ok (.iload_n 2, 1) := by decide +kernel
theorem dX4_sownTonight_13 : decode cX4_sownTonight 13 = .ok (.aload_n 0, 1) := by decide +kernel
theorem dX4_sownTonight_14 : decode cX4_sownTonight 14 = .ok (.getfield 9, 3) := by decide +kernel
theorem dX4_sownTonight_17 : decode cX4_sownTonight 17 = .ok (.iload_n 3, 1) := by decide +kernel
theorem dX4_sownTonight_18 : decode cX4_sownTonight 18 = .ok (.iaload, 1) := by decide +kernel
theorem dX4_sownTonight_19 : decode cX4_sownTonight 19 = .ok (.iadd, 1) := by decide +kernel
theorem dX4_sownTonight_20 : decode cX4_sownTonight 20 = .ok (.istore_n 2, 1) := by decide +kernel
theorem dX4_sownTonight_21 : decode cX4_sownTonight 21 = .ok (.iinc 3 1, 3) := by decide +kernel
theorem dX4_sownTonight_24 : decode cX4_sownTonight 24 = .ok (.goto (-20), 3) := by decide +kernel
theorem dX4_sownTonight_27 : decode cX4_sownTonight 27 = .ok (.iload_n 2, 1) := by decide +kernel
theorem dX4_sownTonight_28 : decode cX4_sownTonight 28 = .ok (.ireturn, 1) := by decide +kernel
theorem ilX4_yieldTonight_wsX10 : ∀ w ∈ wsX10, w ∈ wsX4_yieldTonight := fun _ h => List.mem_cons_of_mem _ (List.mem_append_left _ (List.mem_append_right _ (h)))
theorem ilX4_yieldTonight_wsX40 : ∀ w ∈ wsX40, w ∈ wsX4_yieldTonight := fun _ h => List.mem_cons_of_mem _ (List.mem_append_right _ (h))
set_option maxRecDepth 20000 in
theorem ggX4_yieldTonight_X1_yieldOf : GoodIn wsX4_yieldTonight wsX1_yieldOf := goodIn_sub (List.forall_mem_cons.mpr ⟨List.mem_cons_of_mem _ (List.mem_append_left _ (List.mem_append_left _ (List.mem_of_getElem? (i := 6) rfl))), (List.forall_mem_append.mpr ⟨(List.forall_mem_cons.mpr ⟨List.mem_cons_of_mem _ (List.mem_append_left _ (List.mem_append_left _ (List.mem_of_getElem? (i := 7) rfl))), (List.forall_mem_cons.mpr ⟨List.mem_cons_of_mem _ (List.mem_append_left _ (List.mem_append_left _ (List.mem_of_getElem? (i := 8) rfl))), (fun _ h => absurd h List.not_mem_nil)⟩)⟩), ilX4_yieldTonight_wsX10⟩)⟩) (by decide +kernel)
set_option maxRecDepth 20000 in
theorem gX4_yieldTonight_X1_yieldOf : GoodIn wsX4_yieldTonight (wsV RX4 95 RX1 yX1_yieldOf wsX1_yieldOf) := goodIn_app (goodIn_sub (List.forall_mem_cons.mpr ⟨List.mem_cons_of_mem _ (List.mem_append_left _ (List.mem_append_left _ (List.mem_of_getElem? (i := 2) rfl))), (List.forall_mem_cons.mpr ⟨List.mem_cons_of_mem _ (List.mem_append_left _ (List.mem_append_left _ (List.mem_of_getElem? (i := 3) rfl))), (List.forall_mem_cons.mpr ⟨List.mem_cons_of_mem _ (List.mem_append_left _ (List.mem_append_left _ (List.mem_of_getElem? (i := 4) rfl))), (List.forall_mem_cons.mpr ⟨List.mem_cons_of_mem _ (List.mem_append_left _ (List.mem_append_left _ (List.mem_of_getElem? (i := 5) rfl))), (fun _ h => absurd h List.not_mem_nil)⟩)⟩)⟩)⟩) (by decide +kernel)) ggX4_yieldTonight_X1_yieldOf
theorem dX4_yieldTonight_0 : decode cX4_yieldTonight 0 = .ok (.iconst 0, 1) := by decide +kernel
theorem dX4_yieldTonight_1 : decode cX4_yieldTonight 1 = .ok (.istore_n 2, 1) := by decide +kernel
theorem dX4_yieldTonight_2 : decode cX4_yieldTonight 2 = .ok (.iconst 0, 1) := by decide +kernel
theorem dX4_yieldTonight_3 : decode cX4_yieldTonight 3 = .ok (.istore_n 3, 1) := by decide +kernel
theorem dX4_yieldTonight_4 : decode cX4_yieldTonight 4 = .ok (.iload_n 3, 1) := by decide +kernel
theorem dX4_yieldTonight_5 : decode cX4_yieldTonight 5 = .ok (.aload_n 1, 1) := by decide +kernel
theorem dX4_yieldTonight_6 : decode cX4_yieldTonight 6 = .ok (.getfield 78, 3) := by decide +kernel
theorem dX4_yieldTonight_9 : decode cX4_yieldTonight 9 = .ok (.if_icmp .ge 23, 3) := by decide +kernel
theorem dX4_yieldTonight_12 : decode cX4_yieldTonight 12 = .ok (.iload_n 2, 1) := by decide +kernel
theorem dX4_yieldTonight_13 : decode cX4_yieldTonight 13 = .ok (.aload_n 1, 1) := by decide +kernel
theorem dX4_yieldTonight_14 : decode cX4_yieldTonight 14 = .ok (.iload_n 3, 1) := by decide +kernel
theorem dX4_yieldTonight_15 : decode cX4_yieldTonight 15 = .ok (.aload_n 0, 1) := by decide +kernel
theorem dX4_yieldTonight_16 : decode cX4_yieldTonight 16 = .ok (.getfield 9, 3) := by decide +kernel
theorem dX4_yieldTonight_19 : decode cX4_yieldTonight 19 = .ok (.iload_n 3, 1) := by decide +kernel
theorem dX4_yieldTonight_20 : decode cX4_yieldTonight 20 = .ok (.iaload, 1) := by decide +kernel
theorem dX4_yieldTonight_21 : decode cX4_yieldTonight 21 = .ok (.invokevirtual 95, 3) := by decide +kernel
theorem dX4_yieldTonight_24 : decode cX4_yieldTonight 24 = .ok (.iadd, 1) := by decide +kernel
theorem dX4_yieldTonight_25 : decode cX4_yieldTonight 25 = .ok (.istore_n 2, 1) := by decide +kernel
theorem dX4_yieldTonight_26 : decode cX4_yieldTonight 26 = .ok (.iinc 3 1, 3) := by decide +kernel
theorem dX4_yieldTonight_29 : decode cX4_yieldTonight 29 = .ok (.goto (-25), 3) := by decide +kernel
theorem dX4_yieldTonight_32 : decode cX4_yieldTonight 32 = .ok (.iload_n 2, 1) := by decide +kernel
theorem dX4_yieldTonight_33 : decode cX4_yieldTonight 33 = .ok (.ireturn, 1) := by decide +kernel
theorem ilX4_shareMoon_wsX4_shareMoon_r1 : ∀ w ∈ wsX4_shareMoon_r1, w ∈ wsX4_shareMoon := fun _ h => List.mem_cons_of_mem _ (List.mem_append_left _ (List.mem_append_left _ (List.mem_append_left _ (h))))
theorem ilX4_shareMoon_wsX4_shareMoon_r2 : ∀ w ∈ wsX4_shareMoon_r2, w ∈ wsX4_shareMoon := fun _ h => List.mem_cons_of_mem _ (List.mem_append_left _ (List.mem_append_left _ (List.mem_append_right _ (List.mem_append_left _ (h)))))
theorem ilX4_shareMoon_wsX4_shareMoon_r3 : ∀ w ∈ wsX4_shareMoon_r3, w ∈ wsX4_shareMoon := fun _ h => List.mem_cons_of_mem _ (List.mem_append_left _ (List.mem_append_left _ (List.mem_append_right _ (List.mem_append_right _ (h)))))
theorem ilX4_shareMoon_wsX40 : ∀ w ∈ wsX40, w ∈ wsX4_shareMoon := fun _ h => List.mem_cons_of_mem _ (List.mem_append_left _ (List.mem_append_right _ (h)))
theorem ilX4_shareMoon_wsX10 : ∀ w ∈ wsX10, w ∈ wsX4_shareMoon := fun _ h => List.mem_cons_of_mem _ (List.mem_append_right _ (h))
set_option maxRecDepth 20000 in
theorem ggX4_shareMoon_X4_shareNight : GoodIn wsX4_shareMoon wsX4_shareNight := goodIn_sub (List.forall_mem_cons.mpr ⟨ilX4_shareMoon_wsX4_shareMoon_r1 _ (List.mem_of_getElem? (i := 10) rfl), (List.forall_mem_append.mpr ⟨(List.forall_mem_append.mpr ⟨(List.forall_mem_append.mpr ⟨(List.forall_mem_cons.mpr ⟨ilX4_shareMoon_wsX4_shareMoon_r1 _ (List.mem_of_getElem? (i := 4) rfl), (List.forall_mem_cons.mpr ⟨ilX4_shareMoon_wsX4_shareMoon_r1 _ (List.mem_of_getElem? (i := 5) rfl), (List.forall_mem_cons.mpr ⟨ilX4_shareMoon_wsX4_shareMoon_r1 _ (List.mem_of_getElem? (i := 11) rfl), (List.forall_mem_cons.mpr ⟨ilX4_shareMoon_wsX4_shareMoon_r1 _ (List.mem_of_getElem? (i := 12) rfl), (List.forall_mem_cons.mpr ⟨ilX4_shareMoon_wsX4_shareMoon_r1 _ (List.mem_of_getElem? (i := 13) rfl), (List.forall_mem_cons.mpr ⟨ilX4_shareMoon_wsX4_shareMoon_r1 _ (List.mem_of_getElem? (i := 14) rfl), (List.forall_mem_cons.mpr ⟨ilX4_shareMoon_wsX4_shareMoon_r1 _ (List.mem_of_getElem? (i := 15) rfl), (List.forall_mem_cons.mpr ⟨ilX4_shareMoon_wsX4_shareMoon_r1 _ (List.mem_of_getElem? (i := 16) rfl), (List.forall_mem_cons.mpr ⟨ilX4_shareMoon_wsX4_shareMoon_r1 _ (List.mem_of_getElem? (i := 17) rfl), (List.forall_mem_cons.mpr ⟨ilX4_shareMoon_wsX4_shareMoon_r1 _ (List.mem_of_getElem? (i := 18) rfl), (List.forall_mem_cons.mpr ⟨ilX4_shareMoon_wsX4_shareMoon_r1 _ (List.mem_of_getElem? (i := 19) rfl), (List.forall_mem_cons.mpr ⟨ilX4_shareMoon_wsX4_shareMoon_r1 _ (List.mem_of_getElem? (i := 9) rfl), (List.forall_mem_cons.mpr ⟨ilX4_shareMoon_wsX4_shareMoon_r1 _ (List.mem_of_getElem? (i := 20) rfl), (List.forall_mem_cons.mpr ⟨ilX4_shareMoon_wsX4_shareMoon_r1 _ (List.mem_of_getElem? (i := 21) rfl), (List.forall_mem_cons.mpr ⟨ilX4_shareMoon_wsX4_shareMoon_r1 _ (List.mem_of_getElem? (i := 22) rfl), (List.forall_mem_cons.mpr ⟨ilX4_shareMoon_wsX4_shareMoon_r1 _ (List.mem_of_getElem? (i := 23) rfl), (List.forall_mem_cons.mpr ⟨ilX4_shareMoon_wsX4_shareMoon_r2 _ (List.mem_of_getElem? (i := 0) rfl), (List.forall_mem_cons.mpr ⟨ilX4_shareMoon_wsX4_shareMoon_r2 _ (List.mem_of_getElem? (i := 1) rfl), (List.forall_mem_cons.mpr ⟨ilX4_shareMoon_wsX4_shareMoon_r2 _ (List.mem_of_getElem? (i := 2) rfl), (List.forall_mem_cons.mpr ⟨ilX4_shareMoon_wsX4_shareMoon_r2 _ (List.mem_of_getElem? (i := 3) rfl), (List.forall_mem_cons.mpr ⟨ilX4_shareMoon_wsX4_shareMoon_r1 _ (List.mem_of_getElem? (i := 3) rfl), (List.forall_mem_cons.mpr ⟨ilX4_shareMoon_wsX4_shareMoon_r2 _ (List.mem_of_getElem? (i := 4) rfl), (List.forall_mem_cons.mpr ⟨ilX4_shareMoon_wsX4_shareMoon_r2 _ (List.mem_of_getElem? (i := 5) rfl), (List.forall_mem_cons.mpr ⟨ilX4_shareMoon_wsX4_shareMoon_r2 _ (List.mem_of_getElem? (i := 6) rfl), (fun _ h => absurd h List.not_mem_nil)⟩)⟩)⟩)⟩)⟩)⟩)⟩)⟩)⟩)⟩)⟩)⟩)⟩)⟩)⟩)⟩)⟩)⟩)⟩)⟩)⟩)⟩)⟩)⟩), (List.forall_mem_cons.mpr ⟨ilX4_shareMoon_wsX4_shareMoon_r2 _ (List.mem_of_getElem? (i := 7) rfl), (List.forall_mem_cons.mpr ⟨ilX4_shareMoon_wsX4_shareMoon_r2 _ (List.mem_of_getElem? (i := 8) rfl), (List.forall_mem_cons.mpr ⟨ilX4_shareMoon_wsX4_shareMoon_r2 _ (List.mem_of_getElem? (i := 9) rfl), (List.forall_mem_cons.mpr ⟨ilX4_shareMoon_wsX4_shareMoon_r2 _ (List.mem_of_getElem? (i := 10) rfl), (List.forall_mem_cons.mpr ⟨ilX4_shareMoon_wsX4_shareMoon_r2 _ (List.mem_of_getElem? (i := 11) rfl), (List.forall_mem_cons.mpr ⟨ilX4_shareMoon_wsX4_shareMoon_r2 _ (List.mem_of_getElem? (i := 12) rfl), (List.forall_mem_cons.mpr ⟨ilX4_shareMoon_wsX4_shareMoon_r2 _ (List.mem_of_getElem? (i := 13) rfl), (List.forall_mem_cons.mpr ⟨ilX4_shareMoon_wsX4_shareMoon_r2 _ (List.mem_of_getElem? (i := 14) rfl), (List.forall_mem_cons.mpr ⟨ilX4_shareMoon_wsX4_shareMoon_r2 _ (List.mem_of_getElem? (i := 15) rfl), (List.forall_mem_cons.mpr ⟨ilX4_shareMoon_wsX4_shareMoon_r2 _ (List.mem_of_getElem? (i := 16) rfl), (List.forall_mem_cons.mpr ⟨ilX4_shareMoon_wsX4_shareMoon_r2 _ (List.mem_of_getElem? (i := 17) rfl), (List.forall_mem_cons.mpr ⟨ilX4_shareMoon_wsX4_shareMoon_r2 _ (List.mem_of_getElem? (i := 18) rfl), (List.forall_mem_cons.mpr ⟨ilX4_shareMoon_wsX4_shareMoon_r2 _ (List.mem_of_getElem? (i := 19) rfl), (List.forall_mem_cons.mpr ⟨ilX4_shareMoon_wsX4_shareMoon_r2 _ (List.mem_of_getElem? (i := 20) rfl), (List.forall_mem_cons.mpr ⟨ilX4_shareMoon_wsX4_shareMoon_r2 _ (List.mem_of_getElem? (i := 21) rfl), (List.forall_mem_cons.mpr ⟨ilX4_shareMoon_wsX4_shareMoon_r2 _ (List.mem_of_getElem? (i := 22) rfl), (fun _ h => absurd h List.not_mem_nil)⟩)⟩)⟩)⟩)⟩)⟩)⟩)⟩)⟩)⟩)⟩)⟩)⟩)⟩)⟩)⟩)⟩), ilX4_shareMoon_wsX10⟩), ilX4_shareMoon_wsX40⟩)⟩) (by decide +kernel)
set_option maxRecDepth 20000 in
theorem gX4_shareMoon_X4_shareNight : GoodIn wsX4_shareMoon (wsV RX4 98 RX4 yX4_shareNight wsX4_shareNight) := goodIn_app (goodIn_sub (List.forall_mem_cons.mpr ⟨ilX4_shareMoon_wsX4_shareMoon_r1 _ (List.mem_of_getElem? (i := 6) rfl), (List.forall_mem_cons.mpr ⟨ilX4_shareMoon_wsX4_shareMoon_r1 _ (List.mem_of_getElem? (i := 7) rfl), (List.forall_mem_cons.mpr ⟨ilX4_shareMoon_wsX4_shareMoon_r1 _ (List.mem_of_getElem? (i := 8) rfl), (List.forall_mem_cons.mpr ⟨ilX4_shareMoon_wsX4_shareMoon_r1 _ (List.mem_of_getElem? (i := 9) rfl), (fun _ h => absurd h List.not_mem_nil)⟩)⟩)⟩)⟩) (by decide +kernel)) ggX4_shareMoon_X4_shareNight
set_option maxRecDepth 20000 in
theorem ggX4_shareMoon_X4_sownTonight : GoodIn wsX4_shareMoon wsX4_sownTonight := goodIn_sub (List.forall_mem_cons.mpr ⟨ilX4_shareMoon_wsX4_shareMoon_r3 _ (List.mem_of_getElem? (i := 2) rfl), (List.forall_mem_append.mpr ⟨(List.forall_mem_append.mpr ⟨(List.forall_mem_cons.mpr ⟨ilX4_shareMoon_wsX4_shareMoon_r1 _ (List.mem_of_getElem? (i := 4) rfl), (List.forall_mem_cons.mpr ⟨ilX4_shareMoon_wsX4_shareMoon_r1 _ (List.mem_of_getElem? (i := 5) rfl), (fun _ h => absurd h List.not_mem_nil)⟩)⟩), ilX4_shareMoon_wsX10⟩), ilX4_shareMoon_wsX40⟩)⟩) (by decide +kernel)
set_option maxRecDepth 20000 in
theorem gX4_shareMoon_X4_sownTonight : GoodIn wsX4_shareMoon (wsV RX4 102 RX4 yX4_sownTonight wsX4_sownTonight) := goodIn_app (goodIn_sub (List.forall_mem_cons.mpr ⟨ilX4_shareMoon_wsX4_shareMoon_r2 _ (List.mem_of_getElem? (i := 23) rfl), (List.forall_mem_cons.mpr ⟨ilX4_shareMoon_wsX4_shareMoon_r3 _ (List.mem_of_getElem? (i := 0) rfl), (List.forall_mem_cons.mpr ⟨ilX4_shareMoon_wsX4_shareMoon_r3 _ (List.mem_of_getElem? (i := 1) rfl), (List.forall_mem_cons.mpr ⟨ilX4_shareMoon_wsX4_shareMoon_r1 _ (List.mem_of_getElem? (i := 9) rfl), (fun _ h => absurd h List.not_mem_nil)⟩)⟩)⟩)⟩) (by decide +kernel)) ggX4_shareMoon_X4_sownTonight
set_option maxRecDepth 20000 in
theorem ggX4_shareMoon_X4_yieldTonight : GoodIn wsX4_shareMoon wsX4_yieldTonight := goodIn_sub (List.forall_mem_cons.mpr ⟨ilX4_shareMoon_wsX4_shareMoon_r3 _ (List.mem_of_getElem? (i := 6) rfl), (List.forall_mem_append.mpr ⟨(List.forall_mem_append.mpr ⟨(List.forall_mem_cons.mpr ⟨ilX4_shareMoon_wsX4_shareMoon_r1 _ (List.mem_of_getElem? (i := 4) rfl), (List.forall_mem_cons.mpr ⟨ilX4_shareMoon_wsX4_shareMoon_r1 _ (List.mem_of_getElem? (i := 5) rfl), (List.forall_mem_cons.mpr ⟨ilX4_shareMoon_wsX4_shareMoon_r3 _ (List.mem_of_getElem? (i := 7) rfl), (List.forall_mem_cons.mpr ⟨ilX4_shareMoon_wsX4_shareMoon_r3 _ (List.mem_of_getElem? (i := 8) rfl), (List.forall_mem_cons.mpr ⟨ilX4_shareMoon_wsX4_shareMoon_r3 _ (List.mem_of_getElem? (i := 9) rfl), (List.forall_mem_cons.mpr ⟨ilX4_shareMoon_wsX4_shareMoon_r2 _ (List.mem_of_getElem? (i := 14) rfl), (List.forall_mem_cons.mpr ⟨ilX4_shareMoon_wsX4_shareMoon_r3 _ (List.mem_of_getElem? (i := 10) rfl), (List.forall_mem_cons.mpr ⟨ilX4_shareMoon_wsX4_shareMoon_r3 _ (List.mem_of_getElem? (i := 11) rfl), (List.forall_mem_cons.mpr ⟨ilX4_shareMoon_wsX4_shareMoon_r3 _ (List.mem_of_getElem? (i := 12) rfl), (fun _ h => absurd h List.not_mem_nil)⟩)⟩)⟩)⟩)⟩)⟩)⟩)⟩)⟩), ilX4_shareMoon_wsX10⟩), ilX4_shareMoon_wsX40⟩)⟩) (by decide +kernel)
set_option maxRecDepth 20000 in
theorem gX4_shareMoon_X4_yieldTonight : GoodIn wsX4_shareMoon (wsV RX4 106 RX4 yX4_yieldTonight wsX4_yieldTonight) := goodIn_app (goodIn_sub (List.forall_mem_cons.mpr ⟨ilX4_shareMoon_wsX4_shareMoon_r3 _ (List.mem_of_getElem? (i := 3) rfl), (List.forall_mem_cons.mpr ⟨ilX4_shareMoon_wsX4_shareMoon_r3 _ (List.mem_of_getElem? (i := 4) rfl), (List.forall_mem_cons.mpr ⟨ilX4_shareMoon_wsX4_shareMoon_r3 _ (List.mem_of_getElem? (i := 5) rfl), (List.forall_mem_cons.mpr ⟨ilX4_shareMoon_wsX4_shareMoon_r1 _ (List.mem_of_getElem? (i := 9) rfl), (fun _ h => absurd h List.not_mem_nil)⟩)⟩)⟩)⟩) (by decide +kernel)) ggX4_shareMoon_X4_yieldTonight
theorem dX4_shareMoon_0 : decode cX4_shareMoon 0 = .ok (.aload_n 0, 1) := by decide +kernel
theorem dX4_shareMoon_1 : decode cX4_shareMoon 1 = .ok (.iconst 0, 1) := by decide +kernel
theorem dX4_shareMoon_2 : decode cX4_shareMoon 2 = .ok (.putfield 18, 3) := by decide +kernel
theorem dX4_shareMoon_5 : decode cX4_shareMoon 5 = .ok (.aload_n 0, 1) := by decide +kernel
theorem dX4_shareMoon_6 : decode cX4_shareMoon 6 = .ok (.iconst 0, 1) := by decide +kernel
theorem dX4_shareMoon_7 : decode cX4_shareMoon 7 = .ok (.putfield 22, 3) := by decide +kernel
theorem dX4_shareMoon_10 : decode cX4_shareMoon 10 = .ok (.iconst 0, 1) := by decide +kernel
theorem dX4_shareMoon_11 : decode cX4_shareMoon 11 = .ok (.istore 4, 2) := by decide +kernel
theorem dX4_shareMoon_13 : decode cX4_shareMoon 13 = .ok (.iload 4, 2) := by decide +kernel
theorem dX4_shareMoon_15 : decode cX4_shareMoon 15 = .ok (.bipush 6, 2) := by decide +kernel
theorem dX4_shareMoon_17 : decode cX4_shareMoon 17 = .ok (.if_icmp .ge 17, 3) := by decide +kernel
theorem dX4_shareMoon_20 : decode cX4_shareMoon 20 = .ok (.aload_n 0, 1) := by decide +kernel
theorem dX4_shareMoon_21 : decode cX4_shareMoon 21 = .ok (.getfield 15, 3) := by decide +kernel
theorem dX4_shareMoon_24 : decode cX4_shareMoon 24 = .ok (.iload 4, 2) := by decide +kernel
theorem dX4_shareMoon_26 : decode cX4_shareMoon 26 = .ok (.iconst 0, 1) := by decide +kernel
theorem dX4_shareMoon_27 : decode cX4_shareMoon 27 = .ok (.iastore, 1) := by decide +kernel
theorem dX4_shareMoon_28 : decode cX4_shareMoon 28 = .ok (.iinc 4 1, 3) := by decide +kernel
theorem dX4_shareMoon_31 : decode cX4_shareMoon 31 = .ok (.goto (-18), 3) := by decide +kernel
theorem dX4_shareMoon_34 : decode cX4_shareMoon 34 = .ok (.iconst 0, 1) := by decide +kernel
theorem dX4_shareMoon_35 : decode cX4_shareMoon 35 = .ok (.istore 4, 2) := by decide +kernel
theorem dX4_shareMoon_37 : decode cX4_shareMoon 37 = .ok (.iload 4, 2) := by decide +kernel
theorem dX4_shareMoon_39 : decode cX4_shareMoon 39 = .ok (.aload_n 1, 1) := by decide +kernel
theorem dX4_shareMoon_40 : decode cX4_shareMoon 40 = .ok (.getfield 37, 3) := by decide +kernel
theorem dX4_shareMoon_43 : decode cX4_shareMoon 43 = .ok (.if_icmp .ge 81, 3) := by decide +kernel
theorem dX4_shareMoon_46 : decode cX4_shareMoon 46 = .ok (.aload_n 0, 1) := by decide +kernel
theorem dX4_shareMoon_47 : decode cX4_shareMoon 47 = .ok (.aload_n 1, 1) := by decide +kernel
theorem dX4_shareMoon_48 : decode cX4_shareMoon 48 = .ok (.iload 4, 2) := by decide +kernel
theorem dX4_shareMoon_50 : decode cX4_shareMoon 50 = .ok (.iload_n 2, 1) := by decide +kernel
theorem dX4_shareMoon_51 : decode cX4_shareMoon 51 = .ok (.iload_n 3, 1) := by decide +kernel
theorem dX4_shareMoon_52 : decode cX4_shareMoon 52 = .ok (.invokevirtual 98, 3) := by decide +kernel
theorem dX4_shareMoon_55 : decode cX4_shareMoon 55 = .ok (.aload_n 0, 1) := by decide +kernel
theorem dX4_shareMoon_56 : decode cX4_shareMoon 56 = .ok (.dup, 1) := by decide +kernel
theorem dX4_shareMoon_57 : decode cX4_shareMoon 57 = .ok (.getfield 18, 3) := by decide +kernel
theorem dX4_shareMoon_60 : decode cX4_shareMoon 60 = .ok (.aload_n 0, 1) := by decide +kernel
theorem dX4_shareMoon_61 : decode cX4_shareMoon 61 = .ok (.aload_n 1, 1) := by decide +kernel
theorem dX4_shareMoon_62 : decode cX4_shareMoon 62 = .ok (.invokevirtual 102, 3) := by decide +kernel
theorem dX4_shareMoon_65 : decode cX4_shareMoon 65 = .ok (.iadd, 1) := by decide +kernel
theorem dX4_shareMoon_66 : decode cX4_shareMoon 66 = .ok (.putfield 18, 3) := by decide +kernel
theorem dX4_shareMoon_69 : decode cX4_shareMoon 69 = .ok (.aload_n 0, 1) := by decide +kernel
theorem dX4_shareMoon_70 : decode cX4_shareMoon 70 = .ok (.dup, 1) := by decide +kernel
theorem dX4_shareMoon_71 : decode cX4_shareMoon 71 = .ok (.getfield 22, 3) := by decide +kernel
theorem dX4_shareMoon_74 : decode cX4_shareMoon 74 = .ok (.aload_n 0, 1) := by decide +kernel
theorem dX4_shareMoon_75 : decode cX4_shareMoon 75 = .ok (.aload_n 1, 1) := by decide +kernel
theorem dX4_shareMoon_76 : decode cX4_shareMoon 76 = .ok (.invokevirtual 106, 3) := by decide +kernel
theorem dX4_shareMoon_79 : decode cX4_shareMoon 79 = .ok (.iadd, 1) := by decide +kernel
theorem dX4_shareMoon_80 : decode cX4_shareMoon 80 = .ok (.putfield 22, 3) := by decide +kernel
theorem dX4_shareMoon_83 : decode cX4_shareMoon 83 = .ok (.iconst 0, 1) := by decide +kernel
theorem dX4_shareMoon_84 : decode cX4_shareMoon 84 = .ok (.istore 5, 2) := by decide +kernel
theorem dX4_shareMoon_86 : decode cX4_shareMoon 86 = .ok (.iload 5, 2) := by decide +kernel
theorem dX4_shareMoon_88 : decode cX4_shareMoon 88 = .ok (.aload_n 1, 1) := by decide +kernel
theorem dX4_shareMoon_89 : decode cX4_shareMoon 89 = .ok (.getfield 78, 3) := by decide +kernel
theorem dX4_shareMoon_92 : decode cX4_shareMoon 92 = .ok (.if_icmp .ge 26, 3) := by decide +kernel
theorem dX4_shareMoon_95 : decode cX4_shareMoon 95 = .ok (.aload_n 0, 1) := by decide +kernel
theorem dX4_shareMoon_96 : decode cX4_shareMoon 96 = .ok (.getfield 15, 3) := by decide +kernel
theorem dX4_shareMoon_99 : decode cX4_shareMoon 99 = .ok (.iload 5, 2) := by decide +kernel
theorem dX4_shareMoon_101 : decode cX4_shareMoon 101 = .ok (.dup2, 1) := by decide +kernel
theorem dX4_shareMoon_102 : decode cX4_shareMoon 102 = .ok (.iaload, 1) := by decide +kernel
theorem dX4_shareMoon_103 : decode cX4_shareMoon 103 = .ok (.aload_n 0, 1) := by decide +kernel
theorem dX4_shareMoon_104 : decode cX4_shareMoon 104 = .ok (.getfield 9, 3) := by decide +kernel
theorem dX4_shareMoon_107 : decode cX4_shareMoon 107 = .ok (.iload 5, 2) := by decide +kernel
theorem dX4_shareMoon_109 : decode cX4_shareMoon 109 = .ok (.iaload, 1) := by decide +kernel
theorem dX4_shareMoon_110 : decode cX4_shareMoon 110 = .ok (.iadd, 1) := by decide +kernel
theorem dX4_shareMoon_111 : decode cX4_shareMoon 111 = .ok (.iastore, 1) := by decide +kernel
theorem dX4_shareMoon_112 : decode cX4_shareMoon 112 = .ok (.iinc 5 1, 3) := by decide +kernel
theorem dX4_shareMoon_115 : decode cX4_shareMoon 115 = .ok (.goto (-29), 3) := by decide +kernel
theorem dX4_shareMoon_118 : decode cX4_shareMoon 118 = .ok (.iinc 4 1, 3) := by decide +kernel
theorem dX4_shareMoon_121 : decode cX4_shareMoon 121 = .ok (.goto (-84), 3) := by decide +kernel
theorem dX4_shareMoon_124 : decode cX4_shareMoon 124 = .ok (.return_, 1) := by decide +kernel
theorem dX4_forgetBest_0 : decode cX4_forgetBest 0 = .ok (.aload_n 0, 1) := by decide +kernel
theorem dX4_forgetBest_1 : decode cX4_forgetBest 1 = .ok (.iconst (-1), 1) := by decide +kernel
theorem dX4_forgetBest_2 : decode cX4_forgetBest 2 = .ok (.putfield 31, 3) := by decide +kernel
theorem dX4_forgetBest_5 : decode cX4_forgetBest 5 = .ok (.return_, 1) := by decide +kernel
theorem ilX4_seekBest_wsX4_seekBest_r1 : ∀ w ∈ wsX4_seekBest_r1, w ∈ wsX4_seekBest := fun _ h => List.mem_cons_of_mem _ (List.mem_append_left _ (List.mem_append_left _ (List.mem_append_left _ (h))))
theorem ilX4_seekBest_wsX4_seekBest_r2 : ∀ w ∈ wsX4_seekBest_r2, w ∈ wsX4_seekBest := fun _ h => List.mem_cons_of_mem _ (List.mem_append_left _ (List.mem_append_left _ (List.mem_append_right _ (List.mem_append_left _ (h)))))
theorem ilX4_seekBest_wsX4_seekBest_r3 : ∀ w ∈ wsX4_seekBest_r3, w ∈ wsX4_seekBest := fun _ h => List.mem_cons_of_mem _ (List.mem_append_left _ (List.mem_append_left _ (List.mem_append_right _ (List.mem_append_right _ (List.mem_append_left _ (h))))))
theorem ilX4_seekBest_wsX4_seekBest_r4 : ∀ w ∈ wsX4_seekBest_r4, w ∈ wsX4_seekBest := fun _ h => List.mem_cons_of_mem _ (List.mem_append_left _ (List.mem_append_left _ (List.mem_append_right _ (List.mem_append_right _ (List.mem_append_right _ (h))))))
theorem ilX4_seekBest_wsX40 : ∀ w ∈ wsX40, w ∈ wsX4_seekBest := fun _ h => List.mem_cons_of_mem _ (List.mem_append_left _ (List.mem_append_right _ (h)))
theorem ilX4_seekBest_wsX10 : ∀ w ∈ wsX10, w ∈ wsX4_seekBest := fun _ h => List.mem_cons_of_mem _ (List.mem_append_right _ (h))
set_option maxRecDepth 20000 in
theorem ggX4_seekBest_X4_strikesLoansOfMoon : GoodIn wsX4_seekBest wsX4_strikesLoansOfMoon := goodIn_sub (List.forall_mem_cons.mpr ⟨ilX4_seekBest_wsX4_seekBest_r1 _ (List.mem_of_getElem? (i := 4) rfl), (List.forall_mem_append.mpr ⟨(List.forall_mem_cons.mpr ⟨ilX4_seekBest_wsX4_seekBest_r1 _ (List.mem_of_getElem? (i := 5) rfl), (List.forall_mem_cons.mpr ⟨ilX4_seekBest_wsX4_seekBest_r1 _ (List.mem_of_getElem? (i := 6) rfl), (List.forall_mem_cons.mpr ⟨ilX4_seekBest_wsX4_seekBest_r1 _ (List.mem_of_getElem? (i := 7) rfl), (List.forall_mem_cons.mpr ⟨ilX4_seekBest_wsX4_seekBest_r1 _ (List.mem_of_getElem? (i := 8) rfl), (List.forall_mem_cons.mpr ⟨ilX4_seekBest_wsX4_seekBest_r1 _ (List.mem_of_getElem? (i := 9) rfl), (List.forall_mem_cons.mpr ⟨ilX4_seekBest_wsX4_seekBest_r1 _ (List.mem_of_getElem? (i := 10) rfl), (List.forall_mem_cons.mpr ⟨ilX4_seekBest_wsX4_seekBest_r1 _ (List.mem_of_getElem? (i := 11) rfl), (List.forall_mem_cons.mpr ⟨ilX4_seekBest_wsX4_seekBest_r1 _ (List.mem_of_getElem? (i := 12) rfl), (List.forall_mem_cons.mpr ⟨ilX4_seekBest_wsX4_seekBest_r1 _ (List.mem_of_getElem? (i := 13) rfl), (List.forall_mem_cons.mpr ⟨ilX4_seekBest_wsX4_seekBest_r1 _ (List.mem_of_getElem? (i := 14) rfl), (List.forall_mem_cons.mpr ⟨ilX4_seekBest_wsX4_seekBest_r1 _ (List.mem_of_getElem? (i := 15) rfl), (List.forall_mem_cons.mpr ⟨ilX4_seekBest_wsX4_seekBest_r1 _ (List.mem_of_getElem? (i := 16) rfl), (fun _ h => absurd h List.not_mem_nil)⟩)⟩)⟩)⟩)⟩)⟩)⟩)⟩)⟩)⟩)⟩)⟩), ilX4_seekBest_wsX10⟩)⟩) (by decide +kernel)
set_option maxRecDepth 20000 in
theorem gX4_seekBest_X4_strikesLoansOfMoon : GoodIn wsX4_seekBest (va_wsS RX4 109 yX4_strikesLoansOfMoon wsX4_strikesLoansOfMoon) := goodIn_app (goodIn_of _ (by decide +kernel)) ggX4_seekBest_X4_strikesLoansOfMoon
set_option maxRecDepth 20000 in
theorem ggX4_seekBest_X4_tryLaw : GoodIn wsX4_seekBest wsX4_tryLaw := goodIn_sub (List.forall_mem_cons.mpr ⟨ilX4_seekBest_wsX4_seekBest_r1 _ (List.mem_of_getElem? (i := 20) rfl), (List.forall_mem_append.mpr ⟨(List.forall_mem_append.mpr ⟨(List.forall_mem_append.mpr ⟨(List.forall_mem_cons.mpr ⟨ilX4_seekBest_wsX4_seekBest_r1 _ (List.mem_of_getElem? (i := 21) rfl), (List.forall_mem_cons.mpr ⟨ilX4_seekBest_wsX4_seekBest_r1 _ (List.mem_of_getElem? (i := 0) rfl), (List.forall_mem_cons.mpr ⟨ilX4_seekBest_wsX4_seekBest_r1 _ (List.mem_of_getElem? (i := 22) rfl), (List.forall_mem_cons.mpr ⟨ilX4_seekBest_wsX4_seekBest_r1 _ (List.mem_of_getElem? (i := 23) rfl), (List.forall_mem_cons.mpr ⟨ilX4_seekBest_wsX4_seekBest_r2 _ (List.mem_of_getElem? (i := 0) rfl), (List.forall_mem_cons.mpr ⟨ilX4_seekBest_wsX4_seekBest_r2 _ (List.mem_of_getElem? (i := 1) rfl), (List.forall_mem_cons.mpr ⟨ilX4_seekBest_wsX4_seekBest_r2 _ (List.mem_of_getElem? (i := 2) rfl), (List.forall_mem_cons.mpr ⟨ilX4_seekBest_wsX4_seekBest_r1 _ (List.mem_of_getElem? (i := 3) rfl), (List.forall_mem_cons.mpr ⟨ilX4_seekBest_wsX4_seekBest_r2 _ (List.mem_of_getElem? (i := 3) rfl), (List.forall_mem_cons.mpr ⟨ilX4_seekBest_wsX4_seekBest_r2 _ (List.mem_of_getElem? (i := 4) rfl), (List.forall_mem_cons.mpr ⟨ilX4_seekBest_wsX4_seekBest_r2 _ (List.mem_of_getElem? (i := 5) rfl), (List.forall_mem_cons.mpr ⟨ilX4_seekBest_wsX4_seekBest_r1 _ (List.mem_of_getElem? (i := 5) rfl), (List.forall_mem_cons.mpr ⟨ilX4_seekBest_wsX4_seekBest_r2 _ (List.mem_of_getElem? (i := 6) rfl), (List.forall_mem_cons.mpr ⟨ilX4_seekBest_wsX4_seekBest_r2 _ (List.mem_of_getElem? (i := 7) rfl), (List.forall_mem_cons.mpr ⟨ilX4_seekBest_wsX4_seekBest_r2 _ (List.mem_of_getElem? (i := 8) rfl), (List.forall_mem_cons.mpr ⟨ilX4_seekBest_wsX4_seekBest_r2 _ (List.mem_of_getElem? (i := 9) rfl), (List.forall_mem_cons.mpr ⟨ilX4_seekBest_wsX4_seekBest_r2 _ (List.mem_of_getElem? (i := 10) rfl), (List.forall_mem_cons.mpr ⟨ilX4_seekBest_wsX4_seekBest_r2 _ (List.mem_of_getElem? (i := 11) rfl), (List.forall_mem_cons.mpr ⟨ilX4_seekBest_wsX4_seekBest_r2 _ (List.mem_of_getElem? (i := 12) rfl), (List.forall_mem_cons.mpr ⟨ilX4_seekBest_wsX4_seekBest_r2 _ (List.mem_of_getElem? (i := 13) rfl), (List.forall_mem_cons.mpr ⟨ilX4_seekBest_wsX4_seekBest_r2 _ (List.mem_of_getElem? (i := 14) rfl), (List.forall_mem_cons.mpr ⟨ilX4_seekBest_wsX4_seekBest_r2 _ (List.mem_of_getElem? (i := 15) rfl), (List.forall_mem_cons.mpr ⟨ilX4_seekBest_wsX4_seekBest_r2 _ (List.mem_of_getElem? (i := 16) rfl), (List.forall_mem_cons.mpr ⟨ilX4_seekBest_wsX4_seekBest_r1 _ (List.mem_of_getElem? (i := 15) rfl), (fun _ h => absurd h List.not_mem_nil)⟩)⟩)⟩)⟩)⟩)⟩)⟩)⟩)⟩)⟩)⟩)⟩)⟩)⟩)⟩)⟩)⟩)⟩)⟩)⟩)⟩)⟩)⟩)⟩), (List.forall_mem_append.mpr ⟨(List.forall_mem_cons.mpr ⟨ilX4_seekBest_wsX4_seekBest_r2 _ (List.mem_of_getElem? (i := 17) rfl), (List.forall_mem_cons.mpr ⟨ilX4_seekBest_wsX4_seekBest_r2 _ (List.mem_of_getElem? (i := 18) rfl), (List.forall_mem_cons.mpr ⟨ilX4_seekBest_wsX4_seekBest_r2 _ (List.mem_of_getElem? (i := 19) rfl), (List.forall_mem_cons.mpr ⟨ilX4_seekBest_wsX4_seekBest_r2 _ (List.mem_of_getElem? (i := 20) rfl), (List.forall_mem_cons.mpr ⟨ilX4_seekBest_wsX4_seekBest_r2 _ (List.mem_of_getElem? (i := 21) rfl), (List.forall_mem_cons.mpr ⟨ilX4_seekBest_wsX4_seekBest_r2 _ (List.mem_of_getElem? (i := 22) rfl), (List.forall_mem_cons.mpr ⟨ilX4_seekBest_wsX4_seekBest_r2 _ (List.mem_of_getElem? (i := 23) rfl), (List.forall_mem_cons.mpr ⟨ilX4_seekBest_wsX4_seekBest_r3 _ (List.mem_of_getElem? (i := 0) rfl), (List.forall_mem_cons.mpr ⟨ilX4_seekBest_wsX4_seekBest_r3 _ (List.mem_of_getElem? (i := 1) rfl), (List.forall_mem_cons.mpr ⟨ilX4_seekBest_wsX4_seekBest_r3 _ (List.mem_of_getElem? (i := 2) rfl), (List.forall_mem_cons.mpr ⟨ilX4_seekBest_wsX4_seekBest_r3 _ (List.mem_of_getElem? (i := 3) rfl), (List.forall_mem_cons.mpr ⟨ilX4_seekBest_wsX4_seekBest_r3 _ (List.mem_of_getElem? (i := 4) rfl), (List.forall_mem_cons.mpr ⟨ilX4_seekBest_wsX4_seekBest_r3 _ (List.mem_of_getElem? (i := 5) rfl), (List.forall_mem_cons.mpr ⟨ilX4_seekBest_wsX4_seekBest_r3 _ (List.mem_of_getElem? (i := 6) rfl), (List.forall_mem_cons.mpr ⟨ilX4_seekBest_wsX4_seekBest_r3 _ (List.mem_of_getElem? (i := 7) rfl), (List.forall_mem_cons.mpr ⟨ilX4_seekBest_wsX4_seekBest_r3 _ (List.mem_of_getElem? (i := 8) rfl), (List.forall_mem_cons.mpr ⟨ilX4_seekBest_wsX4_seekBest_r3 _ (List.mem_of_getElem? (i := 9) rfl), (List.forall_mem_cons.mpr ⟨ilX4_seekBest_wsX4_seekBest_r3 _ (List.mem_of_getElem? (i := 10) rfl), (List.forall_mem_cons.mpr ⟨ilX4_seekBest_wsX4_seekBest_r3 _ (List.mem_of_getElem? (i := 11) rfl), (List.forall_mem_cons.mpr ⟨ilX4_seekBest_wsX4_seekBest_r3 _ (List.mem_of_getElem? (i := 12) rfl), (List.forall_mem_cons.mpr ⟨ilX4_seekBest_wsX4_seekBest_r3 _ (List.mem_of_getElem? (i := 13) rfl), (List.forall_mem_cons.mpr ⟨ilX4_seekBest_wsX4_seekBest_r1 _ (List.mem_of_getElem? (i := 9) rfl), (List.forall_mem_cons.mpr ⟨ilX4_seekBest_wsX4_seekBest_r3 _ (List.mem_of_getElem? (i := 14) rfl), (List.forall_mem_cons.mpr ⟨ilX4_seekBest_wsX4_seekBest_r1 _ (List.mem_of_getElem? (i := 11) rfl), (fun _ h => absurd h List.not_mem_nil)⟩)⟩)⟩)⟩)⟩)⟩)⟩)⟩)⟩)⟩)⟩)⟩)⟩)⟩)⟩)⟩)⟩)⟩)⟩)⟩)⟩)⟩)⟩)⟩), (List.forall_mem_cons.mpr ⟨ilX4_seekBest_wsX4_seekBest_r3 _ (List.mem_of_getElem? (i := 15) rfl), (List.forall_mem_cons.mpr ⟨ilX4_seekBest_wsX4_seekBest_r3 _ (List.mem_of_getElem? (i := 16) rfl), (List.forall_mem_cons.mpr ⟨ilX4_seekBest_wsX4_seekBest_r3 _ (List.mem_of_getElem? (i := 17) rfl), (List.forall_mem_cons.mpr ⟨ilX4_seekBest_wsX4_seekBest_r3 _ (List.mem_of_getElem? (i := 18) rfl), (List.forall_mem_cons.mpr ⟨ilX4_seekBest_wsX4_seekBest_r3 _ (List.mem_of_getElem? (i := 19) rfl), (List.forall_mem_cons.mpr ⟨ilX4_seekBest_wsX4_seekBest_r3 _ (List.mem_of_getElem? (i := 20) rfl), (List.forall_mem_cons.mpr ⟨ilX4_seekBest_wsX4_seekBest_r3 _ (List.mem_of_getElem? (i := 21) rfl), (List.forall_mem_cons.mpr ⟨ilX4_seekBest_wsX4_seekBest_r3 _ (List.mem_of_getElem? (i := 22) rfl), (List.forall_mem_cons.mpr ⟨ilX4_seekBest_wsX4_seekBest_r3 _ (List.mem_of_getElem? (i := 23) rfl), (List.forall_mem_cons.mpr ⟨ilX4_seekBest_wsX4_seekBest_r4 _ (List.mem_of_getElem? (i := 0) rfl), (List.forall_mem_cons.mpr ⟨ilX4_seekBest_wsX4_seekBest_r4 _ (List.mem_of_getElem? (i := 1) rfl), (List.forall_mem_cons.mpr ⟨ilX4_seekBest_wsX4_seekBest_r4 _ (List.mem_of_getElem? (i := 2) rfl), (List.forall_mem_cons.mpr ⟨ilX4_seekBest_wsX4_seekBest_r4 _ (List.mem_of_getElem? (i := 3) rfl), (List.forall_mem_cons.mpr ⟨ilX4_seekBest_wsX4_seekBest_r4 _ (List.mem_of_getElem? (i := 4) rfl), (List.forall_mem_cons.mpr ⟨ilX4_seekBest_wsX4_seekBest_r4 _ (List.mem_of_getElem? (i := 5) rfl), (List.forall_mem_cons.mpr ⟨ilX4_seekBest_wsX4_seekBest_r4 _ (List.mem_of_getElem? (i := 6) rfl), (List.forall_mem_cons.mpr ⟨ilX4_seekBest_wsX4_seekBest_r4 _ (List.mem_of_getElem? (i := 7) rfl), (List.forall_mem_cons.mpr ⟨ilX4_seekBest_wsX4_seekBest_r4 _ (List.mem_of_getElem? (i := 8) rfl), (List.forall_mem_cons.mpr ⟨ilX4_seekBest_wsX4_seekBest_r4 _ (List.mem_of_getElem? (i := 9) rfl), (List.forall_mem_cons.mpr ⟨ilX4_seekBest_wsX4_seekBest_r4 _ (List.mem_of_getElem? (i := 10) rfl), (fun _ h => absurd h List.not_mem_nil)⟩)⟩)⟩)⟩)⟩)⟩)⟩)⟩)⟩)⟩)⟩)⟩)⟩)⟩)⟩)⟩)⟩)⟩)⟩)⟩)⟩)⟩), ilX4_seekBest_wsX40⟩), ilX4_seekBest_wsX10⟩)⟩) (by decide +kernel)
set_option maxRecDepth 20000 in
theorem gX4_seekBest_X4_tryLaw : GoodIn wsX4_seekBest (wsV RX4 113 RX4 yX4_tryLaw wsX4_tryLaw) := goodIn_app (goodIn_sub (List.forall_mem_cons.mpr ⟨ilX4_seekBest_wsX4_seekBest_r1 _ (List.mem_of_getElem? (i := 17) rfl), (List.forall_mem_cons.mpr ⟨ilX4_seekBest_wsX4_seekBest_r1 _ (List.mem_of_getElem? (i := 18) rfl), (List.forall_mem_cons.mpr ⟨ilX4_seekBest_wsX4_seekBest_r1 _ (List.mem_of_getElem? (i := 19) rfl), (List.forall_mem_cons.mpr ⟨ilX4_seekBest_wsX4_seekBest_r1 _ (List.mem_of_getElem? (i := 3) rfl), (fun _ h => absurd h List.not_mem_nil)⟩)⟩)⟩)⟩) (by decide +kernel)) ggX4_seekBest_X4_tryLaw
theorem dX4_seekBest_0 : decode cX4_seekBest 0 = .ok (.aload_n 0, 1) := by decide +kernel
theorem dX4_seekBest_1 : decode cX4_seekBest 1 = .ok (.getfield 31, 3) := by decide +kernel
theorem dX4_seekBest_4 : decode cX4_seekBest 4 = .ok (.iconst (-1), 1) := by decide +kernel
theorem dX4_seekBest_5 : decode cX4_seekBest 5 = .ok (.if_icmp .eq 4, 3) := by decide +kernel
theorem dX4_seekBest_8 : decode cX4_seekBest 8 = .ok (.return_, 1) := by decide +kernel
theorem dX4_seekBest_9 : decode cX4_seekBest 9 = .ok (.iconst 0, 1) := by decide +kernel
theorem dX4_seekBest_10 : decode cX4_seekBest 10 = .ok (.istore_n 2, 1) := by decide +kernel
theorem dX4_seekBest_11 : decode cX4_seekBest 11 = .ok (.iload_n 2, 1) := by decide +kernel
theorem dX4_seekBest_12 : decode cX4_seekBest 12 = .ok (.bipush 16, 2) := by decide +kernel
theorem dX4_seekBest_14 : decode cX4_seekBest 14 = .ok (.if_icmp .gt 47, 3) := by decide +kernel
theorem dX4_seekBest_17 : decode cX4_seekBest 17 = .ok (.iconst 1, 1) := by decide +kernel
theorem dX4_seekBest_18 : decode cX4_seekBest 18 = .ok (.istore_n 3, 1) := by decide +kernel
theorem dX4_seekBest_19 : decode cX4_seekBest 19 = .ok (.iload_n 3, 1) := by decide +kernel
theorem dX4_seekBest_20 : decode cX4_seekBest 20 = .ok (.bipush 9, 2) := by decide +kernel
theorem dX4_seekBest_22 : decode cX4_seekBest 22 = .ok (.if_icmp .gt 33, 3) := by decide +kernel
theorem dX4_seekBest_25 : decode cX4_seekBest 25 = .ok (.aload_n 0, 1) := by decide +kernel
theorem dX4_seekBest_26 : decode cX4_seekBest 26 = .ok (.getfield 31, 3) := by decide +kernel
theorem dX4_seekBest_29 : decode cX4_seekBest 29 = .ok (.iconst (-1), 1) := by decide +kernel
theorem dX4_seekBest_30 : decode cX4_seekBest 30 = .ok (.if_icmp .eq 12, 3) := by decide +kernel
theorem dX4_seekBest_33 : decode cX4_seekBest 33 = .ok (.aload_n 1, 1) := by decide +kernel
theorem dX4_seekBest_34 : decode cX4_seekBest 34 = .ok (.iload_n 2, 1) := by decide +kernel
theorem dX4_seekBest_35 : decode cX4_seekBest 35 = .ok (.iload_n 3, 1) := by decide +kernel
theorem dX4_seekBest_36 : decode cX4_seekBest 36 = .ok (.invokestatic 109, 3) := by decide +kernel
theorem dX4_seekBest_39 : decode cX4_seekBest 39 = .ok (.ifCond .eq 10, 3) := by decide +kernel
theorem dX4_seekBest_42 : decode cX4_seekBest 42 = .ok (.aload_n 0, 1) := by decide +kernel
theorem dX4_seekBest_43 : decode cX4_seekBest 43 = .ok (.aload_n 1, 1) := by decide +kernel
theorem dX4_seekBest_44 : decode cX4_seekBest 44 = .ok (.iload_n 2, 1) := by decide +kernel
theorem dX4_seekBest_45 : decode cX4_seekBest 45 = .ok (.iload_n 3, 1) := by decide +kernel
theorem dX4_seekBest_46 : decode cX4_seekBest 46 = .ok (.invokevirtual 113, 3) := by decide +kernel
theorem dX4_seekBest_49 : decode cX4_seekBest 49 = .ok (.iinc 3 1, 3) := by decide +kernel
theorem dX4_seekBest_52 : decode cX4_seekBest 52 = .ok (.goto (-33), 3) := by decide +kernel
theorem dX4_seekBest_55 : decode cX4_seekBest 55 = .ok (.iinc 2 1, 3) := by decide +kernel
theorem dX4_seekBest_58 : decode cX4_seekBest 58 = .ok (.goto (-47), 3) := by decide +kernel
theorem dX4_seekBest_61 : decode cX4_seekBest 61 = .ok (.return_, 1) := by decide +kernel
theorem ilX4_strikesLoansOfMoon_wsX10 : ∀ w ∈ wsX10, w ∈ wsX4_strikesLoansOfMoon := fun _ h => List.mem_cons_of_mem _ (List.mem_append_right _ (h))
set_option maxRecDepth 20000 in
theorem ggX4_strikesLoansOfMoon_X1_longestWork : GoodIn wsX4_strikesLoansOfMoon wsX1_longestWork := goodIn_sub (List.forall_mem_cons.mpr ⟨List.mem_cons_of_mem _ (List.mem_append_left _ (List.mem_of_getElem? (i := 5) rfl)), (List.forall_mem_append.mpr ⟨(List.forall_mem_cons.mpr ⟨List.mem_cons_of_mem _ (List.mem_append_left _ (List.mem_of_getElem? (i := 6) rfl)), (List.forall_mem_cons.mpr ⟨List.mem_cons_of_mem _ (List.mem_append_left _ (List.mem_of_getElem? (i := 7) rfl)), (List.forall_mem_cons.mpr ⟨List.mem_cons_of_mem _ (List.mem_append_left _ (List.mem_of_getElem? (i := 8) rfl)), (List.forall_mem_cons.mpr ⟨List.mem_cons_of_mem _ (List.mem_append_left _ (List.mem_of_getElem? (i := 9) rfl)), (List.forall_mem_cons.mpr ⟨List.mem_cons_of_mem _ (List.mem_append_left _ (List.mem_of_getElem? (i := 10) rfl)), (List.forall_mem_cons.mpr ⟨List.mem_cons_of_mem _ (List.mem_append_left _ (List.mem_of_getElem? (i := 11) rfl)), (fun _ h => absurd h List.not_mem_nil)⟩)⟩)⟩)⟩)⟩)⟩), ilX4_strikesLoansOfMoon_wsX10⟩)⟩) (by decide +kernel)
set_option maxRecDepth 20000 in
theorem gX4_strikesLoansOfMoon_X1_longestWork : GoodIn wsX4_strikesLoansOfMoon (wsV RX4 117 RX1 yX1_longestWork wsX1_longestWork) := goodIn_app (goodIn_sub (List.forall_mem_cons.mpr ⟨List.mem_cons_of_mem _ (List.mem_append_left _ (List.mem_of_getElem? (i := 1) rfl)), (List.forall_mem_cons.mpr ⟨List.mem_cons_of_mem _ (List.mem_append_left _ (List.mem_of_getElem? (i := 2) rfl)), (List.forall_mem_cons.mpr ⟨List.mem_cons_of_mem _ (List.mem_append_left _ (List.mem_of_getElem? (i := 3) rfl)), (List.forall_mem_cons.mpr ⟨List.mem_cons_of_mem _ (List.mem_append_left _ (List.mem_of_getElem? (i := 4) rfl)), (fun _ h => absurd h List.not_mem_nil)⟩)⟩)⟩)⟩) (by decide +kernel)) ggX4_strikesLoansOfMoon_X1_longestWork
theorem dX4_strikesLoansOfMoon_0 : decode cX4_strikesLoansOfMoon 0 = .ok (.iload_n 1, 1) := by decide +kernel
theorem dX4_strikesLoansOfMoon_1 : decode cX4_strikesLoansOfMoon 1 = .ok (.ifCond .le 27, 3) := by decide +kernel
theorem dX4_strikesLoansOfMoon_4 : decode cX4_strikesLoansOfMoon 4 = .ok (.aload_n 0, 1) := by decide +kernel
theorem dX4_strikesLoansOfMoon_5 : decode cX4_strikesLoansOfMoon 5 = .ok (.getfield 37, 3) := by decide +kernel
theorem dX4_strikesLoansOfMoon_8 : decode cX4_strikesLoansOfMoon 8 = .ok (.iload_n 2, 1) := by decide +kernel
theorem dX4_strikesLoansOfMoon_9 : decode cX4_strikesLoansOfMoon 9 = .ok (.imul, 1) := by decide +kernel
theorem dX4_strikesLoansOfMoon_10 : decode cX4_strikesLoansOfMoon 10 = .ok (.aload_n 0, 1) := by decide +kernel
theorem dX4_strikesLoansOfMoon_11 : decode cX4_strikesLoansOfMoon 11 = .ok (.getfield 37, 3) := by decide +kernel
theorem dX4_strikesLoansOfMoon_14 : decode cX4_strikesLoansOfMoon 14 = .ok (.iconst 1, 1) := by decide +kernel
theorem dX4_strikesLoansOfMoon_15 : decode cX4_strikesLoansOfMoon 15 = .ok (.isub, 1) := by decide +kernel
theorem dX4_strikesLoansOfMoon_16 : decode cX4_strikesLoansOfMoon 16 = .ok (.aload_n 0, 1) := by decide +kernel
theorem dX4_strikesLoansOfMoon_17 : decode cX4_strikesLoansOfMoon 17 = .ok (.invokevirtual 117, 3) := by decide +kernel
theorem dX4_strikesLoansOfMoon_20 : decode cX4_strikesLoansOfMoon 20 = .ok (.iadd, 1) := by decide +kernel
theorem dX4_strikesLoansOfMoon_21 : decode cX4_strikesLoansOfMoon 21 = .ok (.if_icmp .ge 7, 3) := by decide +kernel
theorem dX4_strikesLoansOfMoon_24 : decode cX4_strikesLoansOfMoon 24 = .ok (.iconst 1, 1) := by decide +kernel
theorem dX4_strikesLoansOfMoon_25 : decode cX4_strikesLoansOfMoon 25 = .ok (.goto 4, 3) := by decide +kernel
theorem dX4_strikesLoansOfMoon_28 : decode cX4_strikesLoansOfMoon 28 = .ok (.iconst 0, 1) := by decide +kernel
theorem dX4_strikesLoansOfMoon_29 : decode cX4_strikesLoansOfMoon 29 = .ok (.ireturn, 1) := by decide +kernel
theorem ilX4_tryLaw_wsX4_tryLaw_r1 : ∀ w ∈ wsX4_tryLaw_r1, w ∈ wsX4_tryLaw := fun _ h => List.mem_cons_of_mem _ (List.mem_append_left _ (List.mem_append_left _ (List.mem_append_left _ (h))))
theorem ilX4_tryLaw_wsX4_tryLaw_r2 : ∀ w ∈ wsX4_tryLaw_r2, w ∈ wsX4_tryLaw := fun _ h => List.mem_cons_of_mem _ (List.mem_append_left _ (List.mem_append_left _ (List.mem_append_right _ (List.mem_append_left _ (h)))))
theorem ilX4_tryLaw_wsX4_tryLaw_r3 : ∀ w ∈ wsX4_tryLaw_r3, w ∈ wsX4_tryLaw := fun _ h => List.mem_cons_of_mem _ (List.mem_append_left _ (List.mem_append_left _ (List.mem_append_right _ (List.mem_append_right _ (h)))))
theorem ilX4_tryLaw_wsX40 : ∀ w ∈ wsX40, w ∈ wsX4_tryLaw := fun _ h => List.mem_cons_of_mem _ (List.mem_append_left _ (List.mem_append_right _ (h)))
theorem ilX4_tryLaw_wsX10 : ∀ w ∈ wsX10, w ∈ wsX4_tryLaw := fun _ h => List.mem_cons_of_mem _ (List.mem_append_right _ (h))
set_option maxRecDepth 20000 in
theorem ggX4_tryLaw_X4_shareMoon : GoodIn wsX4_tryLaw wsX4_shareMoon := goodIn_sub (List.forall_mem_cons.mpr ⟨ilX4_tryLaw_wsX4_tryLaw_r1 _ (List.mem_of_getElem? (i := 8) rfl), (List.forall_mem_append.mpr ⟨(List.forall_mem_append.mpr ⟨(List.forall_mem_append.mpr ⟨(List.forall_mem_cons.mpr ⟨ilX4_tryLaw_wsX4_tryLaw_r1 _ (List.mem_of_getElem? (i := 9) rfl), (List.forall_mem_cons.mpr ⟨ilX4_tryLaw_wsX4_tryLaw_r1 _ (List.mem_of_getElem? (i := 0) rfl), (List.forall_mem_cons.mpr ⟨ilX4_tryLaw_wsX4_tryLaw_r1 _ (List.mem_of_getElem? (i := 10) rfl), (List.forall_mem_cons.mpr ⟨ilX4_tryLaw_wsX4_tryLaw_r1 _ (List.mem_of_getElem? (i := 11) rfl), (List.forall_mem_cons.mpr ⟨ilX4_tryLaw_wsX4_tryLaw_r1 _ (List.mem_of_getElem? (i := 12) rfl), (List.forall_mem_cons.mpr ⟨ilX4_tryLaw_wsX4_tryLaw_r1 _ (List.mem_of_getElem? (i := 13) rfl), (List.forall_mem_cons.mpr ⟨ilX4_tryLaw_wsX4_tryLaw_r1 _ (List.mem_of_getElem? (i := 14) rfl), (List.forall_mem_cons.mpr ⟨ilX4_tryLaw_wsX4_tryLaw_r1 _ (List.mem_of_getElem? (i := 15) rfl), (List.forall_mem_cons.mpr ⟨ilX4_tryLaw_wsX4_tryLaw_r1 _ (List.mem_of_getElem? (i := 16) rfl), (List.forall_mem_cons.mpr ⟨ilX4_tryLaw_wsX4_tryLaw_r1 _ (List.mem_of_getElem? (i := 7) rfl), (List.forall_mem_cons.mpr ⟨ilX4_tryLaw_wsX4_tryLaw_r1 _ (List.mem_of_getElem? (i := 17) rfl), (List.forall_mem_cons.mpr ⟨ilX4_tryLaw_wsX4_tryLaw_r1 _ (List.mem_of_getElem? (i := 18) rfl), (List.forall_mem_cons.mpr ⟨ilX4_tryLaw_wsX4_tryLaw_r1 _ (List.mem_of_getElem? (i := 19) rfl), (List.forall_mem_cons.mpr ⟨ilX4_tryLaw_wsX4_tryLaw_r1 _ (List.mem_of_getElem? (i := 20) rfl), (List.forall_mem_cons.mpr ⟨ilX4_tryLaw_wsX4_tryLaw_r1 _ (List.mem_of_getElem? (i := 21) rfl), (List.forall_mem_cons.mpr ⟨ilX4_tryLaw_wsX4_tryLaw_r1 _ (List.mem_of_getElem? (i := 22) rfl), (List.forall_mem_cons.mpr ⟨ilX4_tryLaw_wsX4_tryLaw_r1 _ (List.mem_of_getElem? (i := 23) rfl), (List.forall_mem_cons.mpr ⟨ilX4_tryLaw_wsX4_tryLaw_r2 _ (List.mem_of_getElem? (i := 0) rfl), (List.forall_mem_cons.mpr ⟨ilX4_tryLaw_wsX4_tryLaw_r2 _ (List.mem_of_getElem? (i := 1) rfl), (List.forall_mem_cons.mpr ⟨ilX4_tryLaw_wsX4_tryLaw_r2 _ (List.mem_of_getElem? (i := 2) rfl), (List.forall_mem_cons.mpr ⟨ilX4_tryLaw_wsX4_tryLaw_r2 _ (List.mem_of_getElem? (i := 3) rfl), (List.forall_mem_cons.mpr ⟨ilX4_tryLaw_wsX4_tryLaw_r2 _ (List.mem_of_getElem? (i := 4) rfl), (List.forall_mem_cons.mpr ⟨ilX4_tryLaw_wsX4_tryLaw_r2 _ (List.mem_of_getElem? (i := 5) rfl), (List.forall_mem_cons.mpr ⟨ilX4_tryLaw_wsX4_tryLaw_r2 _ (List.mem_of_getElem? (i := 6) rfl), (fun _ h => absurd h List.not_mem_nil)⟩)⟩)⟩)⟩)⟩)⟩)⟩)⟩)⟩)⟩)⟩)⟩)⟩)⟩)⟩)⟩)⟩)⟩)⟩)⟩)⟩)⟩)⟩)⟩), (List.forall_mem_append.mpr ⟨(List.forall_mem_cons.mpr ⟨ilX4_tryLaw_wsX4_tryLaw_r2 _ (List.mem_of_getElem? (i := 7) rfl), (List.forall_mem_cons.mpr ⟨ilX4_tryLaw_wsX4_tryLaw_r2 _ (List.mem_of_getElem? (i := 8) rfl), (List.forall_mem_cons.mpr ⟨ilX4_tryLaw_wsX4_tryLaw_r2 _ (List.mem_of_getElem? (i := 9) rfl), (List.forall_mem_cons.mpr ⟨ilX4_tryLaw_wsX4_tryLaw_r2 _ (List.mem_of_getElem? (i := 10) rfl), (List.forall_mem_cons.mpr ⟨ilX4_tryLaw_wsX4_tryLaw_r2 _ (List.mem_of_getElem? (i := 11) rfl), (List.forall_mem_cons.mpr ⟨ilX4_tryLaw_wsX4_tryLaw_r2 _ (List.mem_of_getElem? (i := 12) rfl), (List.forall_mem_cons.mpr ⟨ilX4_tryLaw_wsX4_tryLaw_r2 _ (List.mem_of_getElem? (i := 13) rfl), (List.forall_mem_cons.mpr ⟨ilX4_tryLaw_wsX4_tryLaw_r2 _ (List.mem_of_getElem? (i := 14) rfl), (List.forall_mem_cons.mpr ⟨ilX4_tryLaw_wsX4_tryLaw_r2 _ (List.mem_of_getElem? (i := 15) rfl), (List.forall_mem_cons.mpr ⟨ilX4_tryLaw_wsX4_tryLaw_r2 _ (List.mem_of_getElem? (i := 16) rfl), (List.forall_mem_cons.mpr ⟨ilX4_tryLaw_wsX4_tryLaw_r2 _ (List.mem_of_getElem? (i := 17) rfl), (List.forall_mem_cons.mpr ⟨ilX4_tryLaw_wsX4_tryLaw_r2 _ (List.mem_of_getElem? (i := 18) rfl), (List.forall_mem_cons.mpr ⟨ilX4_tryLaw_wsX4_tryLaw_r2 _ (List.mem_of_getElem? (i := 19) rfl), (List.forall_mem_cons.mpr ⟨ilX4_tryLaw_wsX4_tryLaw_r2 _ (List.mem_of_getElem? (i := 20) rfl), (List.forall_mem_cons.mpr ⟨ilX4_tryLaw_wsX4_tryLaw_r2 _ (List.mem_of_getElem? (i := 21) rfl), (List.forall_mem_cons.mpr ⟨ilX4_tryLaw_wsX4_tryLaw_r2 _ (List.mem_of_getElem? (i := 22) rfl), (List.forall_mem_cons.mpr ⟨ilX4_tryLaw_wsX4_tryLaw_r2 _ (List.mem_of_getElem? (i := 23) rfl), (List.forall_mem_cons.mpr ⟨ilX4_tryLaw_wsX4_tryLaw_r3 _ (List.mem_of_getElem? (i := 0) rfl), (List.forall_mem_cons.mpr ⟨ilX4_tryLaw_wsX4_tryLaw_r3 _ (List.mem_of_getElem? (i := 1) rfl), (List.forall_mem_cons.mpr ⟨ilX4_tryLaw_wsX4_tryLaw_r3 _ (List.mem_of_getElem? (i := 2) rfl), (List.forall_mem_cons.mpr ⟨ilX4_tryLaw_wsX4_tryLaw_r3 _ (List.mem_of_getElem? (i := 3) rfl), (List.forall_mem_cons.mpr ⟨ilX4_tryLaw_wsX4_tryLaw_r3 _ (List.mem_of_getElem? (i := 4) rfl), (List.forall_mem_cons.mpr ⟨ilX4_tryLaw_wsX4_tryLaw_r3 _ (List.mem_of_getElem? (i := 5) rfl), (List.forall_mem_cons.mpr ⟨ilX4_tryLaw_wsX4_tryLaw_r3 _ (List.mem_of_getElem? (i := 6) rfl), (fun _ h => absurd h List.not_mem_nil)⟩)⟩)⟩)⟩)⟩)⟩)⟩)⟩)⟩)⟩)⟩)⟩)⟩)⟩)⟩)⟩)⟩)⟩)⟩)⟩)⟩)⟩)⟩)⟩), (List.forall_mem_cons.mpr ⟨ilX4_tryLaw_wsX4_tryLaw_r3 _ (List.mem_of_getElem? (i := 7) rfl), (List.forall_mem_cons.mpr ⟨ilX4_tryLaw_wsX4_tryLaw_r3 _ (List.mem_of_getElem? (i := 8) rfl), (List.forall_mem_cons.mpr ⟨ilX4_tryLaw_wsX4_tryLaw_r3 _ (List.mem_of_getElem? (i := 9) rfl), (List.forall_mem_cons.mpr ⟨ilX4_tryLaw_wsX4_tryLaw_r3 _ (List.mem_of_getElem? (i := 10) rfl), (List.forall_mem_cons.mpr ⟨ilX4_tryLaw_wsX4_tryLaw_r3 _ (List.mem_of_getElem? (i := 11) rfl), (List.forall_mem_cons.mpr ⟨ilX4_tryLaw_wsX4_tryLaw_r3 _ (List.mem_of_getElem? (i := 12) rfl), (List.forall_mem_cons.mpr ⟨ilX4_tryLaw_wsX4_tryLaw_r3 _ (List.mem_of_getElem? (i := 13) rfl), (List.forall_mem_cons.mpr ⟨ilX4_tryLaw_wsX4_tryLaw_r3 _ (List.mem_of_getElem? (i := 14) rfl), (List.forall_mem_cons.mpr ⟨ilX4_tryLaw_wsX4_tryLaw_r3 _ (List.mem_of_getElem? (i := 15) rfl), (List.forall_mem_cons.mpr ⟨ilX4_tryLaw_wsX4_tryLaw_r3 _ (List.mem_of_getElem? (i := 16) rfl), (List.forall_mem_cons.mpr ⟨ilX4_tryLaw_wsX4_tryLaw_r3 _ (List.mem_of_getElem? (i := 17) rfl), (List.forall_mem_cons.mpr ⟨ilX4_tryLaw_wsX4_tryLaw_r3 _ (List.mem_of_getElem? (i := 18) rfl), (List.forall_mem_cons.mpr ⟨ilX4_tryLaw_wsX4_tryLaw_r3 _ (List.mem_of_getElem? (i := 19) rfl), (fun _ h => absurd h List.not_mem_nil)⟩)⟩)⟩)⟩)⟩)⟩)⟩)⟩)⟩)⟩)⟩)⟩)⟩)⟩)⟩), ilX4_tryLaw_wsX40⟩), ilX4_tryLaw_wsX10⟩)⟩) (by decide +kernel)
set_option maxRecDepth 20000 in
theorem gX4_tryLaw_X4_shareMoon : GoodIn wsX4_tryLaw (wsV RX4 120 RX4 yX4_shareMoon wsX4_shareMoon) := goodIn_app (goodIn_sub (List.forall_mem_cons.mpr ⟨ilX4_tryLaw_wsX4_tryLaw_r1 _ (List.mem_of_getElem? (i := 4) rfl), (List.forall_mem_cons.mpr ⟨ilX4_tryLaw_wsX4_tryLaw_r1 _ (List.mem_of_getElem? (i := 5) rfl), (List.forall_mem_cons.mpr ⟨ilX4_tryLaw_wsX4_tryLaw_r1 _ (List.mem_of_getElem? (i := 6) rfl), (List.forall_mem_cons.mpr ⟨ilX4_tryLaw_wsX4_tryLaw_r1 _ (List.mem_of_getElem? (i := 7) rfl), (fun _ h => absurd h List.not_mem_nil)⟩)⟩)⟩)⟩) (by decide +kernel)) ggX4_tryLaw_X4_shareMoon
theorem dX4_tryLaw_0 : decode cX4_tryLaw 0 = .ok (.aload_n 0, 1) := by decide +kernel
theorem dX4_tryLaw_1 : decode cX4_tryLaw 1 = .ok (.aload_n 1, 1) := by decide +kernel
theorem dX4_tryLaw_2 : decode cX4_tryLaw 2 = .ok (.iload_n 2, 1) := by decide +kernel
theorem dX4_tryLaw_3 : decode cX4_tryLaw 3 = .ok (.iload_n 3, 1) := by decide +kernel
theorem dX4_tryLaw_4 : decode cX4_tryLaw 4 = .ok (.invokevirtual 120, 3) := by decide +kernel
theorem dX4_tryLaw_7 : decode cX4_tryLaw 7 = .ok (.aload_n 0, 1) := by decide +kernel
theorem dX4_tryLaw_8 : decode cX4_tryLaw 8 = .ok (.getfield 22, 3) := by decide +kernel
theorem dX4_tryLaw_11 : decode cX4_tryLaw 11 = .ok (.aload_n 0, 1) := by decide +kernel
theorem dX4_tryLaw_12 : decode cX4_tryLaw 12 = .ok (.getfield 31, 3) := by decide +kernel
theorem dX4_tryLaw_15 : decode cX4_tryLaw 15 = .ok (.if_icmp .le 21, 3) := by decide +kernel
theorem dX4_tryLaw_18 : decode cX4_tryLaw 18 = .ok (.aload_n 0, 1) := by decide +kernel
theorem dX4_tryLaw_19 : decode cX4_tryLaw 19 = .ok (.aload_n 0, 1) := by decide +kernel
theorem dX4_tryLaw_20 : decode cX4_tryLaw 20 = .ok (.getfield 22, 3) := by decide +kernel
theorem dX4_tryLaw_23 : decode cX4_tryLaw 23 = .ok (.putfield 31, 3) := by decide +kernel
theorem dX4_tryLaw_26 : decode cX4_tryLaw 26 = .ok (.aload_n 0, 1) := by decide +kernel
theorem dX4_tryLaw_27 : decode cX4_tryLaw 27 = .ok (.iload_n 2, 1) := by decide +kernel
theorem dX4_tryLaw_28 : decode cX4_tryLaw 28 = .ok (.putfield 25, 3) := by decide +kernel
theorem dX4_tryLaw_31 : decode cX4_tryLaw 31 = .ok (.aload_n 0, 1) := by decide +kernel
theorem dX4_tryLaw_32 : decode cX4_tryLaw 32 = .ok (.iload_n 3, 1) := by decide +kernel
theorem dX4_tryLaw_33 : decode cX4_tryLaw 33 = .ok (.putfield 28, 3) := by decide +kernel
theorem dX4_tryLaw_36 : decode cX4_tryLaw 36 = .ok (.return_, 1) := by decide +kernel
theorem dX5_init_0 : decode cX5_init 0 = .ok (.aload_n 0, 1) := by decide +kernel
theorem dX5_init_1 : decode cX5_init 1 = .ok (.invokespecial 3, 3) := by decide +kernel
theorem dX5_init_4 : decode cX5_init 4 = .ok (.aload_n 0, 1) := by decide +kernel
theorem dX5_init_5 : decode cX5_init 5 = .ok (.sipush 500, 3) := by decide +kernel
theorem dX5_init_8 : decode cX5_init 8 = .ok (.newarray .byte, 2) := by decide +kernel
theorem dX5_init_10 : decode cX5_init 10 = .ok (.putfield 9, 3) := by decide +kernel
theorem dX5_init_13 : decode cX5_init 13 = .ok (.aload_n 0, 1) := by decide +kernel
theorem dX5_init_14 : decode cX5_init 14 = .ok (.iconst 0, 1) := by decide +kernel
theorem dX5_init_15 : decode cX5_init 15 = .ok (.putfield 15, 3) := by decide +kernel
theorem dX5_init_18 : decode cX5_init 18 = .ok (.return_, 1) := by decide +kernel
theorem dX5_append_0 : decode cX5_append 0 = .ok (.bipush 24, 2) := by decide +kernel
theorem dX5_append_2 : decode cX5_append 2 = .ok (.istore_n 2, 1) := by decide +kernel
theorem dX5_append_3 : decode cX5_append 3 = .ok (.iload_n 2, 1) := by decide +kernel
theorem dX5_append_4 : decode cX5_append 4 = .ok (.ifCond .lt 42, 3) := by decide +kernel
theorem dX5_append_7 : decode cX5_append 7 = .ok (.aload_n 0, 1) := by decide +kernel
theorem dX5_append_8 : decode cX5_append 8 = .ok (.getfield 15, 3) := by decide +kernel
theorem dX5_append_11 : decode cX5_append 11 = .ok (.sipush 500, 3) := by decide +kernel
theorem dX5_append_14 : decode cX5_append 14 = .ok (.if_icmp .ge 26, 3) := by decide +kernel
theorem dX5_append_17 : decode cX5_append 17 = .ok (.aload_n 0, 1) := by decide +kernel
theorem dX5_append_18 : decode cX5_append 18 = .ok (.getfield 9, 3) := by decide +kernel
theorem dX5_append_21 : decode cX5_append 21 = .ok (.aload_n 0, 1) := by decide +kernel
theorem dX5_append_22 : decode cX5_append 22 = .ok (.getfield 15, 3) := by decide +kernel
theorem dX5_append_25 : decode cX5_append 25 = .ok (.iload_n 1, 1) := by decide +kernel
theorem dX5_append_26 : decode cX5_append 26 = .ok (.iload_n 2, 1) := by decide +kernel
theorem dX5_append_27 : decode cX5_append 27 = .ok (.ishr, 1) := by decide +kernel
theorem dX5_append_28 : decode cX5_append 28 = .ok (.i2b, 1) := by decide +kernel
theorem dX5_append_29 : decode cX5_append 29 = .ok (.bastore, 1) := by decide +kernel
theorem dX5_append_30 : decode cX5_append 30 = .ok (.aload_n 0, 1) := by decide +kernel
theorem dX5_append_31 : decode cX5_append 31 = .ok (.dup, 1) := by decide +kernel
theorem dX5_append_32 : decode cX5_append 32 = .ok (.getfield 15, 3) := by decide +kernel
theorem dX5_append_35 : decode cX5_append 35 = .ok (.iconst 1, 1) := by decide +kernel
theorem dX5_append_36 : decode cX5_append 36 = .ok (.iadd, 1) := by decide +kernel
theorem dX5_append_37 : decode cX5_append 37 = .ok (.putfield 15, 3) := by decide +kernel
theorem dX5_append_40 : decode cX5_append 40 = .ok (.iinc 2 (-8), 3) := by decide +kernel
theorem dX5_append_43 : decode cX5_append 43 = .ok (.goto (-40), 3) := by decide +kernel
theorem dX5_append_46 : decode cX5_append 46 = .ok (.return_, 1) := by decide +kernel
theorem dX6_init_0 : decode cX6_init 0 = .ok (.aload_n 0, 1) := by decide +kernel
theorem dX6_init_1 : decode cX6_init 1 = .ok (.invokespecial 3, 3) := by decide +kernel
theorem dX6_init_4 : decode cX6_init 4 = .ok (.aload_n 0, 1) := by decide +kernel
theorem dX6_init_5 : decode cX6_init 5 = .ok (.iconst 5, 1) := by decide +kernel
theorem dX6_init_6 : decode cX6_init 6 = .ok (.newarray .int, 2) := by decide +kernel
theorem dX6_init_8 : decode cX6_init 8 = .ok (.putfield 9, 3) := by decide +kernel
theorem dX6_init_11 : decode cX6_init 11 = .ok (.aload_n 0, 1) := by decide +kernel
theorem dX6_init_12 : decode cX6_init 12 = .ok (.iconst 5, 1) := by decide +kernel
theorem dX6_init_13 : decode cX6_init 13 = .ok (.newarray .int, 2) := by decide +kernel
theorem dX6_init_15 : decode cX6_init 15 = .ok (.putfield 15, 3) := by decide +kernel
theorem dX6_init_18 : decode cX6_init 18 = .ok (.return_, 1) := by decide +kernel
theorem ilX6_measure_wsX60 : ∀ w ∈ wsX60, w ∈ wsX6_measure := fun _ h => List.mem_cons_of_mem _ (List.mem_append_left _ (List.mem_append_right _ (h)))
theorem ilX6_measure_wsX10 : ∀ w ∈ wsX10, w ∈ wsX6_measure := fun _ h => List.mem_cons_of_mem _ (List.mem_append_right _ (h))
set_option maxRecDepth 20000 in
theorem ggX6_measure_X6_tryTurn : GoodIn wsX6_measure wsX6_tryTurn := goodIn_sub (List.forall_mem_cons.mpr ⟨List.mem_cons_of_mem _ (List.mem_append_left _ (List.mem_append_left _ (List.mem_of_getElem? (i := 7) rfl))), (List.forall_mem_append.mpr ⟨(List.forall_mem_append.mpr ⟨(List.forall_mem_cons.mpr ⟨List.mem_cons_of_mem _ (List.mem_append_left _ (List.mem_append_left _ (List.mem_of_getElem? (i := 8) rfl))), (List.forall_mem_cons.mpr ⟨List.mem_cons_of_mem _ (List.mem_append_left _ (List.mem_append_left _ (List.mem_of_getElem? (i := 9) rfl))), (List.forall_mem_cons.mpr ⟨List.mem_cons_of_mem _ (List.mem_append_left _ (List.mem_append_left _ (List.mem_of_getElem? (i := 0) rfl))), (List.forall_mem_cons.mpr ⟨List.mem_cons_of_mem _ (List.mem_append_left _ (List.mem_append_left _ (List.mem_of_getElem? (i := 10) rfl))), (List.forall_mem_cons.mpr ⟨List.mem_cons_of_mem _ (List.mem_append_left _ (List.mem_append_left _ (List.mem_of_getElem? (i := 1) rfl))), (fun _ h => absurd h List.not_mem_nil)⟩)⟩)⟩)⟩)⟩), ilX6_measure_wsX10⟩), ilX6_measure_wsX60⟩)⟩) (by decide +kernel)
set_option maxRecDepth 20000 in
theorem gX6_measure_X6_tryTurn : GoodIn wsX6_measure (wsV RX6 24 RX6 yX6_tryTurn wsX6_tryTurn) := goodIn_app (goodIn_sub (List.forall_mem_cons.mpr ⟨List.mem_cons_of_mem _ (List.mem_append_left _ (List.mem_append_left _ (List.mem_of_getElem? (i := 3) rfl))), (List.forall_mem_cons.mpr ⟨List.mem_cons_of_mem _ (List.mem_append_left _ (List.mem_append_left _ (List.mem_of_getElem? (i := 4) rfl))), (List.forall_mem_cons.mpr ⟨List.mem_cons_of_mem _ (List.mem_append_left _ (List.mem_append_left _ (List.mem_of_getElem? (i := 5) rfl))), (List.forall_mem_cons.mpr ⟨List.mem_cons_of_mem _ (List.mem_append_left _ (List.mem_append_left _ (List.mem_of_getElem? (i := 6) rfl))), (fun _ h => absurd h List.not_mem_nil)⟩)⟩)⟩)⟩) (by decide +kernel)) ggX6_measure_X6_tryTurn
theorem dX6_measure_0 : decode cX6_measure 0 = .ok (.iconst 0, 1) := by decide +kernel
theorem dX6_measure_1 : decode cX6_measure 1 = .ok (.istore_n 3, 1) := by decide +kernel
theorem dX6_measure_2 : decode cX6_measure 2 = .ok (.iload_n 3, 1) := by decide +kernel
theorem dX6_measure_3 : decode cX6_measure 3 = .ok (.iconst 5, 1) := by decide +kernel
theorem dX6_measure_4 : decode cX6_measure 4 = .ok (.if_icmp .ge 36, 3) := by decide +kernel
theorem dX6_measure_7 : decode cX6_measure 7 = .ok (.aload_n 0, 1) := by decide +kernel
theorem dX6_measure_8 : decode cX6_measure 8 = .ok (.getfield 9, 3) := by decide +kernel
theorem dX6_measure_11 : decode cX6_measure 11 = .ok (.iload_n 3, 1) := by decide +kernel
theorem dX6_measure_12 : decode cX6_measure 12 = .ok (.iload_n 2, 1) := by decide +kernel
theorem dX6_measure_13 : decode cX6_measure 13 = .ok (.iload_n 3, 1) := by decide +kernel
theorem dX6_measure_14 : decode cX6_measure 14 = .ok (.ishr, 1) := by decide +kernel
theorem dX6_measure_15 : decode cX6_measure 15 = .ok (.iconst 1, 1) := by decide +kernel
theorem dX6_measure_16 : decode cX6_measure 16 = .ok (.iand, 1) := by decide +kernel
theorem dX6_measure_17 : decode cX6_measure 17 = .ok (.iconst 1, 1) := by decide +kernel
theorem dX6_measure_18 : decode cX6_measure 18 = .ok (.if_icmp .ne 7, 3) := by decide +kernel
theorem dX6_measure_21 : decode cX6_measure 21 = .ok (.iconst 0, 1) := by decide +kernel
theorem dX6_measure_22 : decode cX6_measure 22 = .ok (.goto 4, 3) := by decide +kernel
theorem dX6_measure_25 : decode cX6_measure 25 = .ok (.iconst (-1), 1) := by decide +kernel
theorem dX6_measure_26 : decode cX6_measure 26 = .ok (.iastore, 1) := by decide +kernel
theorem dX6_measure_27 : decode cX6_measure 27 = .ok (.aload_n 0, 1) := by decide +kernel
theorem dX6_measure_28 : decode cX6_measure 28 = .ok (.getfield 15, 3) := by decide +kernel
theorem dX6_measure_31 : decode cX6_measure 31 = .ok (.iload_n 3, 1) := by decide +kernel
theorem dX6_measure_32 : decode cX6_measure 32 = .ok (.iconst 0, 1) := by decide +kernel
theorem dX6_measure_33 : decode cX6_measure 33 = .ok (.iastore, 1) := by decide +kernel
theorem dX6_measure_34 : decode cX6_measure 34 = .ok (.iinc 3 1, 3) := by decide +kernel
theorem dX6_measure_37 : decode cX6_measure 37 = .ok (.goto (-35), 3) := by decide +kernel
theorem dX6_measure_40 : decode cX6_measure 40 = .ok (.iconst 0, 1) := by decide +kernel
theorem dX6_measure_41 : decode cX6_measure 41 = .ok (.istore_n 3, 1) := by decide +kernel
theorem dX6_measure_42 : decode cX6_measure 42 = .ok (.iload_n 3, 1) := by decide +kernel
theorem dX6_measure_43 : decode cX6_measure 43 = .ok (.iconst 5, 1) := by decide +kernel
theorem dX6_measure_44 : decode cX6_measure 44 = .ok (.if_icmp .ge 34, 3) := by decide +kernel
theorem dX6_measure_47 : decode cX6_measure 47 = .ok (.iconst 0, 1) := by decide +kernel
theorem dX6_measure_48 : decode cX6_measure 48 = .ok (.istore 4, 2) := by decide +kernel
theorem dX6_measure_50 : decode cX6_measure 50 = .ok (.iload 4, 2) := by decide +kernel
theorem dX6_measure_52 : decode cX6_measure 52 = .ok (.aload_n 1, 1) := by decide +kernel
theorem dX6_measure_53 : decode cX6_measure 53 = .ok (.getfield 18, 3) := by decide +kernel
theorem dX6_measure_56 : decode cX6_measure 56 = .ok (.if_icmp .ge 16, 3) := by decide +kernel
theorem dX6_measure_59 : decode cX6_measure 59 = .ok (.aload_n 0, 1) := by decide +kernel
theorem dX6_measure_60 : decode cX6_measure 60 = .ok (.aload_n 1, 1) := by decide +kernel
theorem dX6_measure_61 : decode cX6_measure 61 = .ok (.iload 4, 2) := by decide +kernel
theorem dX6_measure_63 : decode cX6_measure 63 = .ok (.invokevirtual 24, 3) := by decide +kernel
theorem dX6_measure_66 : decode cX6_measure 66 = .ok (.iinc 4 1, 3) := by decide +kernel
theorem dX6_measure_69 : decode cX6_measure 69 = .ok (.goto (-19), 3) := by decide +kernel
theorem dX6_measure_72 : decode cX6_measure 72 = .ok (.iinc 3 1, 3) := by decide +kernel
theorem dX6_measure_75 : decode cX6_measure 75 = .ok (.goto (-33), 3) := by decide +kernel
theorem dX6_measure_78 : decode cX6_measure 78 = .ok (.return_, 1) := by decide +kernel
theorem dX6_tryTurn_0 : decode cX6_tryTurn 0 = .ok (.aload_n 1, 1) := by decide +kernel
theorem dX6_tryTurn_1 : decode cX6_tryTurn 1 = .ok (.getfield 28, 3) := by decide +kernel
theorem dX6_tryTurn_4 : decode cX6_tryTurn 4 = .ok (.iload_n 2, 1) := by decide +kernel
theorem dX6_tryTurn_5 : decode cX6_tryTurn 5 = .ok (.iaload, 1) := by decide +kernel
theorem dX6_tryTurn_6 : decode cX6_tryTurn 6 = .ok (.istore_n 3, 1) := by decide +kernel
theorem dX6_tryTurn_7 : decode cX6_tryTurn 7 = .ok (.aload_n 1, 1) := by decide +kernel
theorem dX6_tryTurn_8 : decode cX6_tryTurn 8 = .ok (.getfield 31, 3) := by decide +kernel
theorem dX6_tryTurn_11 : decode cX6_tryTurn 11 = .ok (.iload_n 2, 1) := by decide +kernel
theorem dX6_tryTurn_12 : decode cX6_tryTurn 12 = .ok (.iaload, 1) := by decide +kernel
theorem dX6_tryTurn_13 : decode cX6_tryTurn 13 = .ok (.istore 4, 2) := by decide +kernel
theorem dX6_tryTurn_15 : decode cX6_tryTurn 15 = .ok (.aload_n 0, 1) := by decide +kernel
theorem dX6_tryTurn_16 : decode cX6_tryTurn 16 = .ok (.getfield 9, 3) := by decide +kernel
theorem dX6_tryTurn_19 : decode cX6_tryTurn 19 = .ok (.iload 4, 2) := by decide +kernel
theorem dX6_tryTurn_21 : decode cX6_tryTurn 21 = .ok (.iaload, 1) := by decide +kernel
theorem dX6_tryTurn_22 : decode cX6_tryTurn 22 = .ok (.iconst (-1), 1) := by decide +kernel
theorem dX6_tryTurn_23 : decode cX6_tryTurn 23 = .ok (.if_icmp .ne 4, 3) := by decide +kernel
theorem dX6_tryTurn_26 : decode cX6_tryTurn 26 = .ok (.return_, 1) := by decide +kernel
theorem dX6_tryTurn_27 : decode cX6_tryTurn 27 = .ok (.aload_n 0, 1) := by decide +kernel
theorem dX6_tryTurn_28 : decode cX6_tryTurn 28 = .ok (.getfield 9, 3) := by decide +kernel
theorem dX6_tryTurn_31 : decode cX6_tryTurn 31 = .ok (.iload 4, 2) := by decide +kernel
theorem dX6_tryTurn_33 : decode cX6_tryTurn 33 = .ok (.iaload, 1) := by decide +kernel
theorem dX6_tryTurn_34 : decode cX6_tryTurn 34 = .ok (.aload_n 1, 1) := by decide +kernel
theorem dX6_tryTurn_35 : decode cX6_tryTurn 35 = .ok (.getfield 34, 3) := by decide +kernel
theorem dX6_tryTurn_38 : decode cX6_tryTurn 38 = .ok (.iload_n 2, 1) := by decide +kernel
theorem dX6_tryTurn_39 : decode cX6_tryTurn 39 = .ok (.iaload, 1) := by decide +kernel
theorem dX6_tryTurn_40 : decode cX6_tryTurn 40 = .ok (.iadd, 1) := by decide +kernel
theorem dX6_tryTurn_41 : decode cX6_tryTurn 41 = .ok (.istore 5, 2) := by decide +kernel
theorem dX6_tryTurn_43 : decode cX6_tryTurn 43 = .ok (.aload_n 0, 1) := by decide +kernel
theorem dX6_tryTurn_44 : decode cX6_tryTurn 44 = .ok (.getfield 15, 3) := by decide +kernel
theorem dX6_tryTurn_47 : decode cX6_tryTurn 47 = .ok (.iload 4, 2) := by decide +kernel
theorem dX6_tryTurn_49 : decode cX6_tryTurn 49 = .ok (.iaload, 1) := by decide +kernel
theorem dX6_tryTurn_50 : decode cX6_tryTurn 50 = .ok (.iconst 1, 1) := by decide +kernel
theorem dX6_tryTurn_51 : decode cX6_tryTurn 51 = .ok (.iadd, 1) := by decide +kernel
theorem dX6_tryTurn_52 : decode cX6_tryTurn 52 = .ok (.istore 6, 2) := by decide +kernel
theorem dX6_tryTurn_54 : decode cX6_tryTurn 54 = .ok (.aload_n 0, 1) := by decide +kernel
theorem dX6_tryTurn_55 : decode cX6_tryTurn 55 = .ok (.getfield 9, 3) := by decide +kernel
theorem dX6_tryTurn_58 : decode cX6_tryTurn 58 = .ok (.iload_n 3, 1) := by decide +kernel
theorem dX6_tryTurn_59 : decode cX6_tryTurn 59 = .ok (.iaload, 1) := by decide +kernel
theorem dX6_tryTurn_60 : decode cX6_tryTurn 60 = .ok (.iconst (-1), 1) := by decide +kernel
theorem dX6_tryTurn_61 : decode cX6_tryTurn 61 = .ok (.if_icmp .eq 14, 3) := by decide +kernel
theorem dX6_tryTurn_64 : decode cX6_tryTurn 64 = .ok (.iload 5, 2) := by decide +kernel
theorem dX6_tryTurn_66 : decode cX6_tryTurn 66 = .ok (.aload_n 0, 1) := by decide +kernel
theorem dX6_tryTurn_67 : decode cX6_tryTurn 67 = .ok (.getfield 9, 3) := by decide +kernel
theorem dX6_tryTurn_70 : decode cX6_tryTurn 70 = .ok (.iload_n 3, 1) := by decide +kernel
theorem dX6_tryTurn_71 : decode cX6_tryTurn 71 = .ok (.iaload, 1) := by decide +kernel
theorem dX6_tryTurn_72 : decode cX6_tryTurn 72 = .ok (.if_icmp .ge 7, 3) := by decide +kernel
theorem dX6_tryTurn_75 : decode cX6_tryTurn 75 = .ok (.iconst 1, 1) := by decide +kernel
theorem dX6_tryTurn_76 : decode cX6_tryTurn 76 = .ok (.goto 4, 3) := by decide +kernel
theorem dX6_tryTurn_79 : decode cX6_tryTurn 79 = .ok (.iconst 0, 1) := by decide +kernel
theorem dX6_tryTurn_80 : decode cX6_tryTurn 80 = .ok (.istore 7, 2) := by decide +kernel
theorem dX6_tryTurn_82 : decode cX6_tryTurn 82 = .ok (.iload 7, 2) := by decide +kernel
theorem dX6_tryTurn_84 : decode cX6_tryTurn 84 = .ok (.ifCond .ne 25, 3) := by decide +kernel
theorem dX6_tryTurn_87 : decode cX6_tryTurn 87 = .ok (.iload 5, 2) := by decide +kernel
theorem dX6_tryTurn_89 : decode cX6_tryTurn 89 = .ok (.aload_n 0, 1) := by decide +kernel
theorem dX6_tryTurn_90 : decode cX6_tryTurn 90 = .ok (.getfield 9, 3) := by decide +kernel
theorem dX6_tryTurn_93 : decode cX6_tryTurn 93 = .ok (.iload_n 3, 1) := by decide +kernel
theorem dX6_tryTurn_94 : decode cX6_tryTurn 94 = .ok (.iaload, 1) := by decide +kernel
theorem dX6_tryTurn_95 : decode cX6_tryTurn 95 = .ok (.if_icmp .ne 30, 3) := by decide +kernel
theorem dX6_tryTurn_98 : decode cX6_tryTurn 98 = .ok (.iload 6, 2) := by decide +kernel
theorem dX6_tryTurn_100 : decode cX6_tryTurn 100 = .ok (.aload_n 0, 1) := by decide +kernel
theorem dX6_tryTurn_101 : decode cX6_tryTurn 101 = .ok (.getfield 15, 3) := by decide +kernel
theorem dX6_tryTurn_104 : decode cX6_tryTurn 104 = .ok (.iload_n 3, 1) := by decide +kernel
theorem dX6_tryTurn_105 : decode cX6_tryTurn 105 = .ok (.iaload, 1) := by decide +kernel
theorem dX6_tryTurn_106 : decode cX6_tryTurn 106 = .ok (.if_icmp .ge 19, 3) := by decide +kernel
theorem dX6_tryTurn_109 : decode cX6_tryTurn 109 = .ok (.aload_n 0, 1) := by decide +kernel
theorem dX6_tryTurn_110 : decode cX6_tryTurn 110 = .ok (.getfield 9, 3) := by decide +kernel
theorem dX6_tryTurn_113 : decode cX6_tryTurn 113 = .ok (.iload_n 3, 1) := by decide +kernel
theorem dX6_tryTurn_114 : decode cX6_tryTurn 114 = .ok (.iload 5, 2) := by decide +kernel
theorem dX6_tryTurn_116 : decode cX6_tryTurn 116 = .ok (.iastore, 1) := by decide +kernel
theorem dX6_tryTurn_117 : decode cX6_tryTurn 117 = .ok (.aload_n 0, 1) := by decide +kernel
theorem dX6_tryTurn_118 : decode cX6_tryTurn 118 = .ok (.getfield 15, 3) := by decide +kernel
theorem dX6_tryTurn_121 : decode cX6_tryTurn 121 = .ok (.iload_n 3, 1) := by decide +kernel
theorem dX6_tryTurn_122 : decode cX6_tryTurn 122 = .ok (.iload 6, 2) := by decide +kernel
theorem dX6_tryTurn_124 : decode cX6_tryTurn 124 = .ok (.iastore, 1) := by decide +kernel
theorem dX6_tryTurn_125 : decode cX6_tryTurn 125 = .ok (.return_, 1) := by decide +kernel
theorem ilX6_turnAt_wsX60 : ∀ w ∈ wsX60, w ∈ wsX6_turnAt := fun _ h => List.mem_cons_of_mem _ (List.mem_append_left _ (List.mem_append_right _ (h)))
theorem ilX6_turnAt_wsX10 : ∀ w ∈ wsX10, w ∈ wsX6_turnAt := fun _ h => List.mem_cons_of_mem _ (List.mem_append_right _ (h))
set_option maxRecDepth 20000 in
theorem ggX6_turnAt_X6_firstTurn : GoodIn wsX6_turnAt wsX6_firstTurn := goodIn_sub (List.forall_mem_cons.mpr ⟨List.mem_cons_of_mem _ (List.mem_append_left _ (List.mem_append_left _ (List.mem_of_getElem? (i := 7) rfl))), (List.forall_mem_append.mpr ⟨(List.forall_mem_append.mpr ⟨(List.forall_mem_cons.mpr ⟨List.mem_cons_of_mem _ (List.mem_append_left _ (List.mem_append_left _ (List.mem_of_getElem? (i := 8) rfl))), (List.forall_mem_cons.mpr ⟨List.mem_cons_of_mem _ (List.mem_append_left _ (List.mem_append_left _ (List.mem_of_getElem? (i := 2) rfl))), (List.forall_mem_cons.mpr ⟨List.mem_cons_of_mem _ (List.mem_append_left _ (List.mem_append_left _ (List.mem_of_getElem? (i := 9) rfl))), (List.forall_mem_cons.mpr ⟨List.mem_cons_of_mem _ (List.mem_append_left _ (List.mem_append_left _ (List.mem_of_getElem? (i := 0) rfl))), (List.forall_mem_cons.mpr ⟨List.mem_cons_of_mem _ (List.mem_append_left _ (List.mem_append_left _ (List.mem_of_getElem? (i := 10) rfl))), (List.forall_mem_cons.mpr ⟨List.mem_cons_of_mem _ (List.mem_append_left _ (List.mem_append_left _ (List.mem_of_getElem? (i := 1) rfl))), (fun _ h => absurd h List.not_mem_nil)⟩)⟩)⟩)⟩)⟩)⟩), ilX6_turnAt_wsX10⟩), ilX6_turnAt_wsX60⟩)⟩) (by decide +kernel)
set_option maxRecDepth 20000 in
theorem gX6_turnAt_X6_firstTurn : GoodIn wsX6_turnAt (wsV RX6 37 RX6 yX6_firstTurn wsX6_firstTurn) := goodIn_app (goodIn_sub (List.forall_mem_cons.mpr ⟨List.mem_cons_of_mem _ (List.mem_append_left _ (List.mem_append_left _ (List.mem_of_getElem? (i := 3) rfl))), (List.forall_mem_cons.mpr ⟨List.mem_cons_of_mem _ (List.mem_append_left _ (List.mem_append_left _ (List.mem_of_getElem? (i := 4) rfl))), (List.forall_mem_cons.mpr ⟨List.mem_cons_of_mem _ (List.mem_append_left _ (List.mem_append_left _ (List.mem_of_getElem? (i := 5) rfl))), (List.forall_mem_cons.mpr ⟨List.mem_cons_of_mem _ (List.mem_append_left _ (List.mem_append_left _ (List.mem_of_getElem? (i := 6) rfl))), (fun _ h => absurd h List.not_mem_nil)⟩)⟩)⟩)⟩) (by decide +kernel)) ggX6_turnAt_X6_firstTurn
theorem dX6_turnAt_0 : decode cX6_turnAt 0 = .ok (.aload_n 0, 1) := by decide +kernel
theorem dX6_turnAt_1 : decode cX6_turnAt 1 = .ok (.getfield 9, 3) := by decide +kernel
theorem dX6_turnAt_4 : decode cX6_turnAt 4 = .ok (.iload_n 2, 1) := by decide +kernel
theorem dX6_turnAt_5 : decode cX6_turnAt 5 = .ok (.iaload, 1) := by decide +kernel
theorem dX6_turnAt_6 : decode cX6_turnAt 6 = .ok (.iconst (-1), 1) := by decide +kernel
theorem dX6_turnAt_7 : decode cX6_turnAt 7 = .ok (.if_icmp .eq 13, 3) := by decide +kernel
theorem dX6_turnAt_10 : decode cX6_turnAt 10 = .ok (.iload_n 3, 1) := by decide +kernel
theorem dX6_turnAt_11 : decode cX6_turnAt 11 = .ok (.aload_n 0, 1) := by decide +kernel
theorem dX6_turnAt_12 : decode cX6_turnAt 12 = .ok (.getfield 15, 3) := by decide +kernel
theorem dX6_turnAt_15 : decode cX6_turnAt 15 = .ok (.iload_n 2, 1) := by decide +kernel
theorem dX6_turnAt_16 : decode cX6_turnAt 16 = .ok (.iaload, 1) := by decide +kernel
theorem dX6_turnAt_17 : decode cX6_turnAt 17 = .ok (.if_icmp .lt 5, 3) := by decide +kernel
theorem dX6_turnAt_20 : decode cX6_turnAt 20 = .ok (.iconst (-1), 1) := by decide +kernel
theorem dX6_turnAt_21 : decode cX6_turnAt 21 = .ok (.ireturn, 1) := by decide +kernel
theorem dX6_turnAt_22 : decode cX6_turnAt 22 = .ok (.aload_n 0, 1) := by decide +kernel
theorem dX6_turnAt_23 : decode cX6_turnAt 23 = .ok (.aload_n 1, 1) := by decide +kernel
theorem dX6_turnAt_24 : decode cX6_turnAt 24 = .ok (.iload_n 2, 1) := by decide +kernel
theorem dX6_turnAt_25 : decode cX6_turnAt 25 = .ok (.invokevirtual 37, 3) := by decide +kernel
theorem dX6_turnAt_28 : decode cX6_turnAt 28 = .ok (.istore 4, 2) := by decide +kernel
theorem dX6_turnAt_30 : decode cX6_turnAt 30 = .ok (.iconst 0, 1) := by decide +kernel
theorem dX6_turnAt_31 : decode cX6_turnAt 31 = .ok (.istore 5, 2) := by decide +kernel
theorem dX6_turnAt_33 : decode cX6_turnAt 33 = .ok (.iload 5, 2) := by decide +kernel
theorem dX6_turnAt_35 : decode cX6_turnAt 35 = .ok (.iload_n 3, 1) := by decide +kernel
theorem dX6_turnAt_36 : decode cX6_turnAt 36 = .ok (.if_icmp .ge 29, 3) := by decide +kernel
theorem dX6_turnAt_39 : decode cX6_turnAt 39 = .ok (.iload 4, 2) := by decide +kernel
theorem dX6_turnAt_41 : decode cX6_turnAt 41 = .ok (.iconst (-1), 1) := by decide +kernel
theorem dX6_turnAt_42 : decode cX6_turnAt 42 = .ok (.if_icmp .eq 23, 3) := by decide +kernel
theorem dX6_turnAt_45 : decode cX6_turnAt 45 = .ok (.aload_n 0, 1) := by decide +kernel
theorem dX6_turnAt_46 : decode cX6_turnAt 46 = .ok (.aload_n 1, 1) := by decide +kernel
theorem dX6_turnAt_47 : decode cX6_turnAt 47 = .ok (.aload_n 1, 1) := by decide +kernel
theorem dX6_turnAt_48 : decode cX6_turnAt 48 = .ok (.getfield 31, 3) := by decide +kernel
theorem dX6_turnAt_51 : decode cX6_turnAt 51 = .ok (.iload 4, 2) := by decide +kernel
theorem dX6_turnAt_53 : decode cX6_turnAt 53 = .ok (.iaload, 1) := by decide +kernel
theorem dX6_turnAt_54 : decode cX6_turnAt 54 = .ok (.invokevirtual 37, 3) := by decide +kernel
theorem dX6_turnAt_57 : decode cX6_turnAt 57 = .ok (.istore 4, 2) := by decide +kernel
theorem dX6_turnAt_59 : decode cX6_turnAt 59 = .ok (.iinc 5 1, 3) := by decide +kernel
theorem dX6_turnAt_62 : decode cX6_turnAt 62 = .ok (.goto (-29), 3) := by decide +kernel
theorem dX6_turnAt_65 : decode cX6_turnAt 65 = .ok (.iload 4, 2) := by decide +kernel
theorem dX6_turnAt_67 : decode cX6_turnAt 67 = .ok (.ireturn, 1) := by decide +kernel
theorem dX6_firstTurn_0 : decode cX6_firstTurn 0 = .ok (.iconst 0, 1) := by decide +kernel
theorem dX6_firstTurn_1 : decode cX6_firstTurn 1 = .ok (.istore_n 3, 1) := by decide +kernel
theorem dX6_firstTurn_2 : decode cX6_firstTurn 2 = .ok (.iload_n 3, 1) := by decide +kernel
theorem dX6_firstTurn_3 : decode cX6_firstTurn 3 = .ok (.aload_n 1, 1) := by decide +kernel
theorem dX6_firstTurn_4 : decode cX6_firstTurn 4 = .ok (.getfield 18, 3) := by decide +kernel
theorem dX6_firstTurn_7 : decode cX6_firstTurn 7 = .ok (.if_icmp .ge 81, 3) := by decide +kernel
theorem dX6_firstTurn_10 : decode cX6_firstTurn 10 = .ok (.aload_n 1, 1) := by decide +kernel
theorem dX6_firstTurn_11 : decode cX6_firstTurn 11 = .ok (.getfield 31, 3) := by decide +kernel
theorem dX6_firstTurn_14 : decode cX6_firstTurn 14 = .ok (.iload_n 3, 1) := by decide +kernel
theorem dX6_firstTurn_15 : decode cX6_firstTurn 15 = .ok (.iaload, 1) := by decide +kernel
theorem dX6_firstTurn_16 : decode cX6_firstTurn 16 = .ok (.istore 4, 2) := by decide +kernel
theorem dX6_firstTurn_18 : decode cX6_firstTurn 18 = .ok (.aload_n 1, 1) := by decide +kernel
theorem dX6_firstTurn_19 : decode cX6_firstTurn 19 = .ok (.getfield 28, 3) := by decide +kernel
theorem dX6_firstTurn_22 : decode cX6_firstTurn 22 = .ok (.iload_n 3, 1) := by decide +kernel
theorem dX6_firstTurn_23 : decode cX6_firstTurn 23 = .ok (.iaload, 1) := by decide +kernel
theorem dX6_firstTurn_24 : decode cX6_firstTurn 24 = .ok (.iload_n 2, 1) := by decide +kernel
theorem dX6_firstTurn_25 : decode cX6_firstTurn 25 = .ok (.if_icmp .ne 57, 3) := by decide +kernel
theorem dX6_firstTurn_28 : decode cX6_firstTurn 28 = .ok (.aload_n 0, 1) := by decide +kernel
theorem dX6_firstTurn_29 : decode cX6_firstTurn 29 = .ok (.getfield 9, 3) := by decide +kernel
theorem dX6_firstTurn_32 : decode cX6_firstTurn 32 = .ok (.iload 4, 2) := by decide +kernel
theorem dX6_firstTurn_34 : decode cX6_firstTurn 34 = .ok (.iaload, 1) := by decide +kernel
theorem dX6_firstTurn_35 : decode cX6_firstTurn 35 = .ok (.iconst (-1), 1) := by decide +kernel
theorem dX6_firstTurn_36 : decode cX6_firstTurn 36 = .ok (.if_icmp .eq 46, 3) := by decide +kernel
theorem dX6_firstTurn_39 : decode cX6_firstTurn 39 = .ok (.aload_n 0, 1) := by decide +kernel
theorem dX6_firstTurn_40 : decode cX6_firstTurn 40 = .ok (.getfield 9, 3) := by decide +kernel
theorem dX6_firstTurn_43 : decode cX6_firstTurn 43 = .ok (.iload 4, 2) := by decide +kernel
theorem dX6_firstTurn_45 : decode cX6_firstTurn 45 = .ok (.iaload, 1) := by decide +kernel
theorem dX6_firstTurn_46 : decode cX6_firstTurn 46 = .ok (.aload_n 1, 1) := by decide +kernel
theorem dX6_firstTurn_47 : decode cX6_firstTurn 47 = .ok (.getfield 34, 3) := by decide +kernel
theorem dX6_firstTurn_50 : decode cX6_firstTurn 50 = .ok (.iload_n 3, 1) := by decide +kernel
theorem dX6_firstTurn_51 : decode cX6_firstTurn 51 = .ok (.iaload, 1) := by decide +kernel
theorem dX6_firstTurn_52 : decode cX6_firstTurn 52 = .ok (.iadd, 1) := by decide +kernel
theorem dX6_firstTurn_53 : decode cX6_firstTurn 53 = .ok (.aload_n 0, 1) := by decide +kernel
theorem dX6_firstTurn_54 : decode cX6_firstTurn 54 = .ok (.getfield 9, 3) := by decide +kernel
theorem dX6_firstTurn_57 : decode cX6_firstTurn 57 = .ok (.iload_n 2, 1) := by decide +kernel
theorem dX6_firstTurn_58 : decode cX6_firstTurn 58 = .ok (.iaload, 1) := by decide +kernel
theorem dX6_firstTurn_59 : decode cX6_firstTurn 59 = .ok (.if_icmp .ne 23, 3) := by decide +kernel
theorem dX6_firstTurn_62 : decode cX6_firstTurn 62 = .ok (.aload_n 0, 1) := by decide +kernel
theorem dX6_firstTurn_63 : decode cX6_firstTurn 63 = .ok (.getfield 15, 3) := by decide +kernel
theorem dX6_firstTurn_66 : decode cX6_firstTurn 66 = .ok (.iload 4, 2) := by decide +kernel
theorem dX6_firstTurn_68 : decode cX6_firstTurn 68 = .ok (.iaload, 1) := by decide +kernel
theorem dX6_firstTurn_69 : decode cX6_firstTurn 69 = .ok (.iconst 1, 1) := by decide +kernel
theorem dX6_firstTurn_70 : decode cX6_firstTurn 70 = .ok (.iadd, 1) := by decide +kernel
theorem dX6_firstTurn_71 : decode cX6_firstTurn 71 = .ok (.aload_n 0, 1) := by decide +kernel
theorem dX6_firstTurn_72 : decode cX6_firstTurn 72 = .ok (.getfield 15, 3) := by decide +kernel
theorem dX6_firstTurn_75 : decode cX6_firstTurn 75 = .ok (.iload_n 2, 1) := by decide +kernel
theorem dX6_firstTurn_76 : decode cX6_firstTurn 76 = .ok (.iaload, 1) := by decide +kernel
theorem dX6_firstTurn_77 : decode cX6_firstTurn 77 = .ok (.if_icmp .ne 5, 3) := by decide +kernel
theorem dX6_firstTurn_80 : decode cX6_firstTurn 80 = .ok (.iload_n 3, 1) := by decide +kernel
theorem dX6_firstTurn_81 : decode cX6_firstTurn 81 = .ok (.ireturn, 1) := by decide +kernel
theorem dX6_firstTurn_82 : decode cX6_firstTurn 82 = .ok (.iinc 3 1, 3) := by decide +kernel
theorem dX6_firstTurn_85 : decode cX6_firstTurn 85 = .ok (.goto (-83), 3) := by decide +kernel
theorem dX6_firstTurn_88 : decode cX6_firstTurn 88 = .ok (.iconst (-1), 1) := by decide +kernel
theorem dX6_firstTurn_89 : decode cX6_firstTurn 89 = .ok (.ireturn, 1) := by decide +kernel
theorem ilX6_fewestWords_wsX6_fewestWords_r1 : ∀ w ∈ wsX6_fewestWords_r1, w ∈ wsX6_fewestWords := fun _ h => List.mem_cons_of_mem _ (List.mem_append_left _ (List.mem_append_left _ (List.mem_append_left _ (h))))
theorem ilX6_fewestWords_wsX6_fewestWords_r2 : ∀ w ∈ wsX6_fewestWords_r2, w ∈ wsX6_fewestWords := fun _ h => List.mem_cons_of_mem _ (List.mem_append_left _ (List.mem_append_left _ (List.mem_append_right _ (h))))
theorem ilX6_fewestWords_wsX10 : ∀ w ∈ wsX10, w ∈ wsX6_fewestWords := fun _ h => List.mem_cons_of_mem _ (List.mem_append_left _ (List.mem_append_right _ (h)))
theorem ilX6_fewestWords_wsX60 : ∀ w ∈ wsX60, w ∈ wsX6_fewestWords := fun _ h => List.mem_cons_of_mem _ (List.mem_append_right _ (h))
set_option maxRecDepth 20000 in
theorem ggX6_fewestWords_J6_bitCount_0f7a4 : GoodIn wsX6_fewestWords wsJ6_bitCount_0f7a4 := goodIn_sub (List.forall_mem_cons.mpr ⟨ilX6_fewestWords_wsX6_fewestWords_r1 _ (List.mem_of_getElem? (i := 4) rfl), (List.forall_mem_cons.mpr ⟨ilX6_fewestWords_wsX6_fewestWords_r1 _ (List.mem_of_getElem? (i := 5) rfl), (List.forall_mem_cons.mpr ⟨ilX6_fewestWords_wsX6_fewestWords_r1 _ (List.mem_of_getElem? (i := 6) rfl), (List.forall_mem_cons.mpr ⟨ilX6_fewestWords_wsX6_fewestWords_r1 _ (List.mem_of_getElem? (i := 7) rfl), (fun _ h => absurd h List.not_mem_nil)⟩)⟩)⟩)⟩) (by decide +kernel)
set_option maxRecDepth 20000 in
theorem gX6_fewestWords_J6_bitCount_0f7a4 : GoodIn wsX6_fewestWords (va_wsS RX6 44 yJ6_bitCount_0f7a4 wsJ6_bitCount_0f7a4) := goodIn_app (goodIn_of _ (by decide +kernel)) ggX6_fewestWords_J6_bitCount_0f7a4
set_option maxRecDepth 20000 in
theorem ggX6_fewestWords_X6_measure : GoodIn wsX6_fewestWords wsX6_measure := goodIn_sub (List.forall_mem_cons.mpr ⟨ilX6_fewestWords_wsX6_fewestWords_r1 _ (List.mem_of_getElem? (i := 12) rfl), (List.forall_mem_append.mpr ⟨(List.forall_mem_append.mpr ⟨(List.forall_mem_cons.mpr ⟨ilX6_fewestWords_wsX6_fewestWords_r1 _ (List.mem_of_getElem? (i := 13) rfl), (List.forall_mem_cons.mpr ⟨ilX6_fewestWords_wsX6_fewestWords_r1 _ (List.mem_of_getElem? (i := 14) rfl), (List.forall_mem_cons.mpr ⟨ilX6_fewestWords_wsX6_fewestWords_r1 _ (List.mem_of_getElem? (i := 15) rfl), (List.forall_mem_cons.mpr ⟨ilX6_fewestWords_wsX6_fewestWords_r1 _ (List.mem_of_getElem? (i := 16) rfl), (List.forall_mem_cons.mpr ⟨ilX6_fewestWords_wsX6_fewestWords_r1 _ (List.mem_of_getElem? (i := 17) rfl), (List.forall_mem_cons.mpr ⟨ilX6_fewestWords_wsX6_fewestWords_r1 _ (List.mem_of_getElem? (i := 18) rfl), (List.forall_mem_cons.mpr ⟨ilX6_fewestWords_wsX6_fewestWords_r1 _ (List.mem_of_getElem? (i := 11) rfl), (List.forall_mem_cons.mpr ⟨ilX6_fewestWords_wsX6_fewestWords_r1 _ (List.mem_of_getElem? (i := 19) rfl), (List.forall_mem_cons.mpr ⟨ilX6_fewestWords_wsX6_fewestWords_r1 _ (List.mem_of_getElem? (i := 20) rfl), (List.forall_mem_cons.mpr ⟨ilX6_fewestWords_wsX6_fewestWords_r1 _ (List.mem_of_getElem? (i := 21) rfl), (List.forall_mem_cons.mpr ⟨ilX6_fewestWords_wsX6_fewestWords_r1 _ (List.mem_of_getElem? (i := 22) rfl), (fun _ h => absurd h List.not_mem_nil)⟩)⟩)⟩)⟩)⟩)⟩)⟩)⟩)⟩)⟩)⟩), ilX6_fewestWords_wsX60⟩), ilX6_fewestWords_wsX10⟩)⟩) (by decide +kernel)
set_option maxRecDepth 20000 in
theorem gX6_fewestWords_X6_measure : GoodIn wsX6_fewestWords (wsV RX6 50 RX6 yX6_measure wsX6_measure) := goodIn_app (goodIn_sub (List.forall_mem_cons.mpr ⟨ilX6_fewestWords_wsX6_fewestWords_r1 _ (List.mem_of_getElem? (i := 8) rfl), (List.forall_mem_cons.mpr ⟨ilX6_fewestWords_wsX6_fewestWords_r1 _ (List.mem_of_getElem? (i := 9) rfl), (List.forall_mem_cons.mpr ⟨ilX6_fewestWords_wsX6_fewestWords_r1 _ (List.mem_of_getElem? (i := 10) rfl), (List.forall_mem_cons.mpr ⟨ilX6_fewestWords_wsX6_fewestWords_r1 _ (List.mem_of_getElem? (i := 11) rfl), (fun _ h => absurd h List.not_mem_nil)⟩)⟩)⟩)⟩) (by decide +kernel)) ggX6_fewestWords_X6_measure
set_option maxRecDepth 20000 in
theorem ggX6_fewestWords_X6_hasWayWithin : GoodIn wsX6_fewestWords wsX6_hasWayWithin := goodIn_sub (List.forall_mem_cons.mpr ⟨ilX6_fewestWords_wsX6_fewestWords_r2 _ (List.mem_of_getElem? (i := 2) rfl), (List.forall_mem_append.mpr ⟨(List.forall_mem_cons.mpr ⟨ilX6_fewestWords_wsX6_fewestWords_r1 _ (List.mem_of_getElem? (i := 13) rfl), (fun _ h => absurd h List.not_mem_nil)⟩), ilX6_fewestWords_wsX60⟩)⟩) (by decide +kernel)
set_option maxRecDepth 20000 in
theorem gX6_fewestWords_X6_hasWayWithin : GoodIn wsX6_fewestWords (wsV RX6 53 RX6 yX6_hasWayWithin wsX6_hasWayWithin) := goodIn_app (goodIn_sub (List.forall_mem_cons.mpr ⟨ilX6_fewestWords_wsX6_fewestWords_r1 _ (List.mem_of_getElem? (i := 23) rfl), (List.forall_mem_cons.mpr ⟨ilX6_fewestWords_wsX6_fewestWords_r2 _ (List.mem_of_getElem? (i := 0) rfl), (List.forall_mem_cons.mpr ⟨ilX6_fewestWords_wsX6_fewestWords_r2 _ (List.mem_of_getElem? (i := 1) rfl), (List.forall_mem_cons.mpr ⟨ilX6_fewestWords_wsX6_fewestWords_r1 _ (List.mem_of_getElem? (i := 11) rfl), (fun _ h => absurd h List.not_mem_nil)⟩)⟩)⟩)⟩) (by decide +kernel)) ggX6_fewestWords_X6_hasWayWithin
theorem dX6_fewestWords_0 : decode cX6_fewestWords 0 = .ok (.aload_n 1, 1) := by decide +kernel
theorem dX6_fewestWords_1 : decode cX6_fewestWords 1 = .ok (.getfield 41, 3) := by decide +kernel
theorem dX6_fewestWords_4 : decode cX6_fewestWords 4 = .ok (.iload_n 2, 1) := by decide +kernel
theorem dX6_fewestWords_5 : decode cX6_fewestWords 5 = .ok (.iconst (-1), 1) := by decide +kernel
theorem dX6_fewestWords_6 : decode cX6_fewestWords 6 = .ok (.ixor, 1) := by decide +kernel
theorem dX6_fewestWords_7 : decode cX6_fewestWords 7 = .ok (.iand, 1) := by decide +kernel
theorem dX6_fewestWords_8 : decode cX6_fewestWords 8 = .ok (.istore 4, 2) := by decide +kernel
theorem dX6_fewestWords_10 : decode cX6_fewestWords 10 = .ok (.iconst (-1), 1) := by decide +kernel
theorem dX6_fewestWords_11 : decode cX6_fewestWords 11 = .ok (.istore 5, 2) := by decide +kernel
theorem dX6_fewestWords_13 : decode cX6_fewestWords 13 = .ok (.iconst 0, 1) := by decide +kernel
theorem dX6_fewestWords_14 : decode cX6_fewestWords 14 = .ok (.istore 6, 2) := by decide +kernel
theorem dX6_fewestWords_16 : decode cX6_fewestWords 16 = .ok (.iload 6, 2) := by decide +kernel
theorem dX6_fewestWords_18 : decode cX6_fewestWords 18 = .ok (.bipush 32, 2) := by decide +kernel
theorem dX6_fewestWords_20 : decode cX6_fewestWords 20 = .ok (.if_icmp .ge 85, 3) := by decide +kernel
theorem dX6_fewestWords_23 : decode cX6_fewestWords 23 = .ok (.iload 5, 2) := by decide +kernel
theorem dX6_fewestWords_25 : decode cX6_fewestWords 25 = .ok (.iconst (-1), 1) := by decide +kernel
theorem dX6_fewestWords_26 : decode cX6_fewestWords 26 = .ok (.if_icmp .eq 16, 3) := by decide +kernel
theorem dX6_fewestWords_29 : decode cX6_fewestWords 29 = .ok (.iload 6, 2) := by decide +kernel
theorem dX6_fewestWords_31 : decode cX6_fewestWords 31 = .ok (.invokestatic 44, 3) := by decide +kernel
theorem dX6_fewestWords_34 : decode cX6_fewestWords 34 = .ok (.iload 5, 2) := by decide +kernel
theorem dX6_fewestWords_36 : decode cX6_fewestWords 36 = .ok (.invokestatic 44, 3) := by decide +kernel
theorem dX6_fewestWords_39 : decode cX6_fewestWords 39 = .ok (.if_icmp .ge 7, 3) := by decide +kernel
theorem dX6_fewestWords_42 : decode cX6_fewestWords 42 = .ok (.iconst 1, 1) := by decide +kernel
theorem dX6_fewestWords_43 : decode cX6_fewestWords 43 = .ok (.goto 4, 3) := by decide +kernel
theorem dX6_fewestWords_46 : decode cX6_fewestWords 46 = .ok (.iconst 0, 1) := by decide +kernel
theorem dX6_fewestWords_47 : decode cX6_fewestWords 47 = .ok (.istore 7, 2) := by decide +kernel
theorem dX6_fewestWords_49 : decode cX6_fewestWords 49 = .ok (.iload 7, 2) := by decide +kernel
theorem dX6_fewestWords_51 : decode cX6_fewestWords 51 = .ok (.ifCond .eq 48, 3) := by decide +kernel
theorem dX6_fewestWords_54 : decode cX6_fewestWords 54 = .ok (.iload 6, 2) := by decide +kernel
theorem dX6_fewestWords_56 : decode cX6_fewestWords 56 = .ok (.iload 4, 2) := by decide +kernel
theorem dX6_fewestWords_58 : decode cX6_fewestWords 58 = .ok (.iconst (-1), 1) := by decide +kernel
theorem dX6_fewestWords_59 : decode cX6_fewestWords 59 = .ok (.ixor, 1) := by decide +kernel
theorem dX6_fewestWords_60 : decode cX6_fewestWords 60 = .ok (.iand, 1) := by decide +kernel
theorem dX6_fewestWords_61 : decode cX6_fewestWords 61 = .ok (.ifCond .ne 38, 3) := by decide +kernel
theorem dX6_fewestWords_64 : decode cX6_fewestWords 64 = .ok (.aload_n 0, 1) := by decide +kernel
theorem dX6_fewestWords_65 : decode cX6_fewestWords 65 = .ok (.aload_n 1, 1) := by decide +kernel
theorem dX6_fewestWords_66 : decode cX6_fewestWords 66 = .ok (.aload_n 1, 1) := by decide +kernel
theorem dX6_fewestWords_67 : decode cX6_fewestWords 67 = .ok (.getfield 41, 3) := by decide +kernel
theorem dX6_fewestWords_70 : decode cX6_fewestWords 70 = .ok (.iload 6, 2) := by decide +kernel
theorem dX6_fewestWords_72 : decode cX6_fewestWords 72 = .ok (.iconst (-1), 1) := by decide +kernel
theorem dX6_fewestWords_73 : decode cX6_fewestWords 73 = .ok (.ixor, 1) := by decide +kernel
theorem dX6_fewestWords_74 : decode cX6_fewestWords 74 = .ok (.iand, 1) := by decide +kernel
theorem dX6_fewestWords_75 : decode cX6_fewestWords 75 = .ok (.invokevirtual 50, 3) := by decide +kernel
theorem dX6_fewestWords_78 : decode cX6_fewestWords 78 = .ok (.aload_n 0, 1) := by decide +kernel
theorem dX6_fewestWords_79 : decode cX6_fewestWords 79 = .ok (.aload_n 1, 1) := by decide +kernel
theorem dX6_fewestWords_80 : decode cX6_fewestWords 80 = .ok (.getfield 41, 3) := by decide +kernel
theorem dX6_fewestWords_83 : decode cX6_fewestWords 83 = .ok (.iload 6, 2) := by decide +kernel
theorem dX6_fewestWords_85 : decode cX6_fewestWords 85 = .ok (.iconst (-1), 1) := by decide +kernel
theorem dX6_fewestWords_86 : decode cX6_fewestWords 86 = .ok (.ixor, 1) := by decide +kernel
theorem dX6_fewestWords_87 : decode cX6_fewestWords 87 = .ok (.iand, 1) := by decide +kernel
theorem dX6_fewestWords_88 : decode cX6_fewestWords 88 = .ok (.iload_n 3, 1) := by decide +kernel
theorem dX6_fewestWords_89 : decode cX6_fewestWords 89 = .ok (.invokevirtual 53, 3) := by decide +kernel
theorem dX6_fewestWords_92 : decode cX6_fewestWords 92 = .ok (.ifCond .ne 7, 3) := by decide +kernel
theorem dX6_fewestWords_95 : decode cX6_fewestWords 95 = .ok (.iload 6, 2) := by decide +kernel
theorem dX6_fewestWords_97 : decode cX6_fewestWords 97 = .ok (.istore 5, 2) := by decide +kernel
theorem dX6_fewestWords_99 : decode cX6_fewestWords 99 = .ok (.iinc 6 1, 3) := by decide +kernel
theorem dX6_fewestWords_102 : decode cX6_fewestWords 102 = .ok (.goto (-86), 3) := by decide +kernel
theorem dX6_fewestWords_105 : decode cX6_fewestWords 105 = .ok (.iload 5, 2) := by decide +kernel
theorem dX6_fewestWords_107 : decode cX6_fewestWords 107 = .ok (.ireturn, 1) := by decide +kernel
theorem dX6_hasWayWithin_0 : decode cX6_hasWayWithin 0 = .ok (.iconst 0, 1) := by decide +kernel
theorem dX6_hasWayWithin_1 : decode cX6_hasWayWithin 1 = .ok (.istore_n 3, 1) := by decide +kernel
theorem dX6_hasWayWithin_2 : decode cX6_hasWayWithin 2 = .ok (.iload_n 3, 1) := by decide +kernel
theorem dX6_hasWayWithin_3 : decode cX6_hasWayWithin 3 = .ok (.iconst 5, 1) := by decide +kernel
theorem dX6_hasWayWithin_4 : decode cX6_hasWayWithin 4 = .ok (.if_icmp .ge 39, 3) := by decide +kernel
theorem dX6_hasWayWithin_7 : decode cX6_hasWayWithin 7 = .ok (.iload_n 1, 1) := by decide +kernel
theorem dX6_hasWayWithin_8 : decode cX6_hasWayWithin 8 = .ok (.iload_n 3, 1) := by decide +kernel
theorem dX6_hasWayWithin_9 : decode cX6_hasWayWithin 9 = .ok (.ishr, 1) := by decide +kernel
theorem dX6_hasWayWithin_10 : decode cX6_hasWayWithin 10 = .ok (.iconst 1, 1) := by decide +kernel
theorem dX6_hasWayWithin_11 : decode cX6_hasWayWithin 11 = .ok (.iand, 1) := by decide +kernel
theorem dX6_hasWayWithin_12 : decode cX6_hasWayWithin 12 = .ok (.ifCond .ne 25, 3) := by decide +kernel
theorem dX6_hasWayWithin_15 : decode cX6_hasWayWithin 15 = .ok (.aload_n 0, 1) := by decide +kernel
theorem dX6_hasWayWithin_16 : decode cX6_hasWayWithin 16 = .ok (.getfield 9, 3) := by decide +kernel
theorem dX6_hasWayWithin_19 : decode cX6_hasWayWithin 19 = .ok (.iload_n 3, 1) := by decide +kernel
theorem dX6_hasWayWithin_20 : decode cX6_hasWayWithin 20 = .ok (.iaload, 1) := by decide +kernel
theorem dX6_hasWayWithin_21 : decode cX6_hasWayWithin 21 = .ok (.iconst (-1), 1) := by decide +kernel
theorem dX6_hasWayWithin_22 : decode cX6_hasWayWithin 22 = .ok (.if_icmp .eq 15, 3) := by decide +kernel
theorem dX6_hasWayWithin_25 : decode cX6_hasWayWithin 25 = .ok (.aload_n 0, 1) := by decide +kernel
theorem dX6_hasWayWithin_26 : decode cX6_hasWayWithin 26 = .ok (.getfield 9, 3) := by decide +kernel
theorem dX6_hasWayWithin_29 : decode cX6_hasWayWithin 29 = .ok (.iload_n 3, 1) := by decide +kernel
theorem dX6_hasWayWithin_30 : decode cX6_hasWayWithin 30 = .ok (.iaload, 1) := by decide +kernel
theorem dX6_hasWayWithin_31 : decode cX6_hasWayWithin 31 = .ok (.iload_n 2, 1) := by decide +kernel
theorem dX6_hasWayWithin_32 : decode cX6_hasWayWithin 32 = .ok (.if_icmp .gt 5, 3) := by decide +kernel
theorem dX6_hasWayWithin_35 : decode cX6_hasWayWithin 35 = .ok (.iconst 1, 1) := by decide +kernel
theorem dX6_hasWayWithin_36 : decode cX6_hasWayWithin 36 = .ok (.ireturn, 1) := by decide +kernel
theorem dX6_hasWayWithin_37 : decode cX6_hasWayWithin 37 = .ok (.iinc 3 1, 3) := by decide +kernel
theorem dX6_hasWayWithin_40 : decode cX6_hasWayWithin 40 = .ok (.goto (-38), 3) := by decide +kernel
theorem dX6_hasWayWithin_43 : decode cX6_hasWayWithin 43 = .ok (.iconst 0, 1) := by decide +kernel
theorem dX6_hasWayWithin_44 : decode cX6_hasWayWithin 44 = .ok (.ireturn, 1) := by decide +kernel
theorem ilX7_init_wsX7_init_r1 : ∀ w ∈ wsX7_init_r1, w ∈ wsX7_init := fun _ h => List.mem_cons_of_mem _ (List.mem_append_left _ (List.mem_append_left _ (List.mem_append_left _ (List.mem_append_left _ (List.mem_append_left _ (List.mem_append_left _ (List.mem_append_left _ (List.mem_append_left _ (List.mem_append_left _ (h))))))))))
theorem ilX7_init_wsX7_init_r2 : ∀ w ∈ wsX7_init_r2, w ∈ wsX7_init := fun _ h => List.mem_cons_of_mem _ (List.mem_append_left _ (List.mem_append_left _ (List.mem_append_left _ (List.mem_append_left _ (List.mem_append_left _ (List.mem_append_left _ (List.mem_append_left _ (List.mem_append_left _ (List.mem_append_right _ (List.mem_append_left _ (h)))))))))))
theorem ilX7_init_wsX7_init_r3 : ∀ w ∈ wsX7_init_r3, w ∈ wsX7_init := fun _ h => List.mem_cons_of_mem _ (List.mem_append_left _ (List.mem_append_left _ (List.mem_append_left _ (List.mem_append_left _ (List.mem_append_left _ (List.mem_append_left _ (List.mem_append_left _ (List.mem_append_left _ (List.mem_append_right _ (List.mem_append_right _ (List.mem_append_left _ (h))))))))))))
theorem ilX7_init_wsX7_init_r4 : ∀ w ∈ wsX7_init_r4, w ∈ wsX7_init := fun _ h => List.mem_cons_of_mem _ (List.mem_append_left _ (List.mem_append_left _ (List.mem_append_left _ (List.mem_append_left _ (List.mem_append_left _ (List.mem_append_left _ (List.mem_append_left _ (List.mem_append_left _ (List.mem_append_right _ (List.mem_append_right _ (List.mem_append_right _ (List.mem_append_left _ (h)))))))))))))
theorem ilX7_init_wsX7_init_r5 : ∀ w ∈ wsX7_init_r5, w ∈ wsX7_init := fun _ h => List.mem_cons_of_mem _ (List.mem_append_left _ (List.mem_append_left _ (List.mem_append_left _ (List.mem_append_left _ (List.mem_append_left _ (List.mem_append_left _ (List.mem_append_left _ (List.mem_append_left _ (List.mem_append_right _ (List.mem_append_right _ (List.mem_append_right _ (List.mem_append_right _ (h)))))))))))))
theorem ilX7_init_wsX50 : ∀ w ∈ wsX50, w ∈ wsX7_init := fun _ h => List.mem_cons_of_mem _ (List.mem_append_left _ (List.mem_append_left _ (List.mem_append_left _ (List.mem_append_left _ (List.mem_append_left _ (List.mem_append_left _ (List.mem_append_left _ (List.mem_append_right _ (h)))))))))
theorem ilX7_init_wsX70 : ∀ w ∈ wsX70, w ∈ wsX7_init := fun _ h => List.mem_cons_of_mem _ (List.mem_append_left _ (List.mem_append_left _ (List.mem_append_left _ (List.mem_append_left _ (List.mem_append_left _ (List.mem_append_left _ (List.mem_append_right _ (h))))))))
theorem ilX7_init_wsX40 : ∀ w ∈ wsX40, w ∈ wsX7_init := fun _ h => List.mem_cons_of_mem _ (List.mem_append_left _ (List.mem_append_left _ (List.mem_append_left _ (List.mem_append_left _ (List.mem_append_left _ (List.mem_append_right _ (h)))))))
theorem ilX7_init_wsX20 : ∀ w ∈ wsX20, w ∈ wsX7_init := fun _ h => List.mem_cons_of_mem _ (List.mem_append_left _ (List.mem_append_left _ (List.mem_append_left _ (List.mem_append_left _ (List.mem_append_right _ (h))))))
theorem ilX7_init_wsX00 : ∀ w ∈ wsX00, w ∈ wsX7_init := fun _ h => List.mem_cons_of_mem _ (List.mem_append_left _ (List.mem_append_left _ (List.mem_append_left _ (List.mem_append_right _ (h)))))
theorem ilX7_init_wsX60 : ∀ w ∈ wsX60, w ∈ wsX7_init := fun _ h => List.mem_cons_of_mem _ (List.mem_append_left _ (List.mem_append_left _ (List.mem_append_right _ (h))))
theorem ilX7_init_wsX10 : ∀ w ∈ wsX10, w ∈ wsX7_init := fun _ h => List.mem_cons_of_mem _ (List.mem_append_left _ (List.mem_append_right _ (h)))
theorem ilX7_init_wsX30 : ∀ w ∈ wsX30, w ∈ wsX7_init := fun _ h => List.mem_cons_of_mem _ (List.mem_append_right _ (h))
set_option maxRecDepth 20000 in
theorem ggX7_init_X5_init : GoodIn wsX7_init wsX5_init := goodIn_sub (List.forall_mem_cons.mpr ⟨ilX7_init_wsX7_init_r2 _ (List.mem_of_getElem? (i := 13) rfl), (List.forall_mem_append.mpr ⟨(List.forall_mem_cons.mpr ⟨ilX7_init_wsX7_init_r2 _ (List.mem_of_getElem? (i := 14) rfl), (List.forall_mem_cons.mpr ⟨ilX7_init_wsX7_init_r1 _ (List.mem_of_getElem? (i := 1) rfl), (List.forall_mem_cons.mpr ⟨ilX7_init_wsX7_init_r1 _ (List.mem_of_getElem? (i := 2) rfl), (List.forall_mem_cons.mpr ⟨ilX7_init_wsX7_init_r2 _ (List.mem_of_getElem? (i := 15) rfl), (List.forall_mem_cons.mpr ⟨ilX7_init_wsX7_init_r2 _ (List.mem_of_getElem? (i := 16) rfl), (List.forall_mem_cons.mpr ⟨ilX7_init_wsX7_init_r2 _ (List.mem_of_getElem? (i := 17) rfl), (fun _ h => absurd h List.not_mem_nil)⟩)⟩)⟩)⟩)⟩)⟩), ilX7_init_wsX50⟩)⟩) (by decide +kernel)
set_option maxRecDepth 20000 in
theorem gX7_init_X5_init_n9 : GoodIn wsX7_init (wsX5_init) := ggX7_init_X5_init
set_option maxRecDepth 20000 in
theorem ggX7_init_X4_init : GoodIn wsX7_init wsX4_init := goodIn_sub (List.forall_mem_cons.mpr ⟨ilX7_init_wsX7_init_r2 _ (List.mem_of_getElem? (i := 19) rfl), (List.forall_mem_append.mpr ⟨(List.forall_mem_cons.mpr ⟨ilX7_init_wsX7_init_r2 _ (List.mem_of_getElem? (i := 20) rfl), (List.forall_mem_cons.mpr ⟨ilX7_init_wsX7_init_r1 _ (List.mem_of_getElem? (i := 1) rfl), (List.forall_mem_cons.mpr ⟨ilX7_init_wsX7_init_r1 _ (List.mem_of_getElem? (i := 2) rfl), (List.forall_mem_cons.mpr ⟨ilX7_init_wsX7_init_r2 _ (List.mem_of_getElem? (i := 21) rfl), (List.forall_mem_cons.mpr ⟨ilX7_init_wsX7_init_r2 _ (List.mem_of_getElem? (i := 22) rfl), (List.forall_mem_cons.mpr ⟨ilX7_init_wsX7_init_r2 _ (List.mem_of_getElem? (i := 23) rfl), (List.forall_mem_cons.mpr ⟨ilX7_init_wsX7_init_r3 _ (List.mem_of_getElem? (i := 0) rfl), (List.forall_mem_cons.mpr ⟨ilX7_init_wsX7_init_r3 _ (List.mem_of_getElem? (i := 1) rfl), (List.forall_mem_cons.mpr ⟨ilX7_init_wsX7_init_r3 _ (List.mem_of_getElem? (i := 2) rfl), (List.forall_mem_cons.mpr ⟨ilX7_init_wsX7_init_r3 _ (List.mem_of_getElem? (i := 3) rfl), (List.forall_mem_cons.mpr ⟨ilX7_init_wsX7_init_r3 _ (List.mem_of_getElem? (i := 4) rfl), (List.forall_mem_cons.mpr ⟨ilX7_init_wsX7_init_r3 _ (List.mem_of_getElem? (i := 5) rfl), (fun _ h => absurd h List.not_mem_nil)⟩)⟩)⟩)⟩)⟩)⟩)⟩)⟩)⟩)⟩)⟩)⟩), ilX7_init_wsX40⟩)⟩) (by decide +kernel)
set_option maxRecDepth 20000 in
theorem gX7_init_X4_init_n18 : GoodIn wsX7_init (wsX4_init) := ggX7_init_X4_init
set_option maxRecDepth 20000 in
theorem ggX7_init_X2_init : GoodIn wsX7_init wsX2_init := goodIn_sub (List.forall_mem_cons.mpr ⟨ilX7_init_wsX7_init_r3 _ (List.mem_of_getElem? (i := 7) rfl), (List.forall_mem_append.mpr ⟨(List.forall_mem_cons.mpr ⟨ilX7_init_wsX7_init_r3 _ (List.mem_of_getElem? (i := 8) rfl), (List.forall_mem_cons.mpr ⟨ilX7_init_wsX7_init_r1 _ (List.mem_of_getElem? (i := 1) rfl), (List.forall_mem_cons.mpr ⟨ilX7_init_wsX7_init_r1 _ (List.mem_of_getElem? (i := 2) rfl), (List.forall_mem_cons.mpr ⟨ilX7_init_wsX7_init_r3 _ (List.mem_of_getElem? (i := 9) rfl), (List.forall_mem_cons.mpr ⟨ilX7_init_wsX7_init_r3 _ (List.mem_of_getElem? (i := 10) rfl), (List.forall_mem_cons.mpr ⟨ilX7_init_wsX7_init_r2 _ (List.mem_of_getElem? (i := 21) rfl), (List.forall_mem_cons.mpr ⟨ilX7_init_wsX7_init_r3 _ (List.mem_of_getElem? (i := 11) rfl), (List.forall_mem_cons.mpr ⟨ilX7_init_wsX7_init_r3 _ (List.mem_of_getElem? (i := 12) rfl), (List.forall_mem_cons.mpr ⟨ilX7_init_wsX7_init_r3 _ (List.mem_of_getElem? (i := 13) rfl), (List.forall_mem_cons.mpr ⟨ilX7_init_wsX7_init_r3 _ (List.mem_of_getElem? (i := 14) rfl), (List.forall_mem_cons.mpr ⟨ilX7_init_wsX7_init_r3 _ (List.mem_of_getElem? (i := 15) rfl), (List.forall_mem_cons.mpr ⟨ilX7_init_wsX7_init_r3 _ (List.mem_of_getElem? (i := 16) rfl), (List.forall_mem_cons.mpr ⟨ilX7_init_wsX7_init_r3 _ (List.mem_of_getElem? (i := 17) rfl), (List.forall_mem_cons.mpr ⟨ilX7_init_wsX7_init_r3 _ (List.mem_of_getElem? (i := 18) rfl), (fun _ h => absurd h List.not_mem_nil)⟩)⟩)⟩)⟩)⟩)⟩)⟩)⟩)⟩)⟩)⟩)⟩)⟩)⟩), ilX7_init_wsX20⟩)⟩) (by decide +kernel)
set_option maxRecDepth 20000 in
theorem gX7_init_X2_init_n25 : GoodIn wsX7_init (wsX2_init) := ggX7_init_X2_init
set_option maxRecDepth 20000 in
theorem ggX7_init_X0_init : GoodIn wsX7_init wsX0_init := goodIn_sub (List.forall_mem_cons.mpr ⟨ilX7_init_wsX7_init_r3 _ (List.mem_of_getElem? (i := 20) rfl), (List.forall_mem_append.mpr ⟨(List.forall_mem_append.mpr ⟨(List.forall_mem_append.mpr ⟨(List.forall_mem_cons.mpr ⟨ilX7_init_wsX7_init_r3 _ (List.mem_of_getElem? (i := 21) rfl), (List.forall_mem_cons.mpr ⟨ilX7_init_wsX7_init_r1 _ (List.mem_of_getElem? (i := 1) rfl), (List.forall_mem_cons.mpr ⟨ilX7_init_wsX7_init_r1 _ (List.mem_of_getElem? (i := 2) rfl), (List.forall_mem_cons.mpr ⟨ilX7_init_wsX7_init_r3 _ (List.mem_of_getElem? (i := 22) rfl), (List.forall_mem_cons.mpr ⟨ilX7_init_wsX7_init_r2 _ (List.mem_of_getElem? (i := 21) rfl), (List.forall_mem_cons.mpr ⟨ilX7_init_wsX7_init_r3 _ (List.mem_of_getElem? (i := 23) rfl), (List.forall_mem_cons.mpr ⟨ilX7_init_wsX7_init_r4 _ (List.mem_of_getElem? (i := 0) rfl), (List.forall_mem_cons.mpr ⟨ilX7_init_wsX7_init_r4 _ (List.mem_of_getElem? (i := 1) rfl), (List.forall_mem_cons.mpr ⟨ilX7_init_wsX7_init_r4 _ (List.mem_of_getElem? (i := 2) rfl), (List.forall_mem_cons.mpr ⟨ilX7_init_wsX7_init_r4 _ (List.mem_of_getElem? (i := 3) rfl), (List.forall_mem_cons.mpr ⟨ilX7_init_wsX7_init_r4 _ (List.mem_of_getElem? (i := 4) rfl), (List.forall_mem_cons.mpr ⟨ilX7_init_wsX7_init_r1 _ (List.mem_of_getElem? (i := 12) rfl), (List.forall_mem_cons.mpr ⟨ilX7_init_wsX7_init_r1 _ (List.mem_of_getElem? (i := 13) rfl), (List.forall_mem_cons.mpr ⟨ilX7_init_wsX7_init_r4 _ (List.mem_of_getElem? (i := 5) rfl), (List.forall_mem_cons.mpr ⟨ilX7_init_wsX7_init_r3 _ (List.mem_of_getElem? (i := 6) rfl), (List.forall_mem_cons.mpr ⟨ilX7_init_wsX7_init_r3 _ (List.mem_of_getElem? (i := 7) rfl), (List.forall_mem_cons.mpr ⟨ilX7_init_wsX7_init_r3 _ (List.mem_of_getElem? (i := 8) rfl), (List.forall_mem_cons.mpr ⟨ilX7_init_wsX7_init_r3 _ (List.mem_of_getElem? (i := 9) rfl), (List.forall_mem_cons.mpr ⟨ilX7_init_wsX7_init_r3 _ (List.mem_of_getElem? (i := 10) rfl), (List.forall_mem_cons.mpr ⟨ilX7_init_wsX7_init_r3 _ (List.mem_of_getElem? (i := 11) rfl), (List.forall_mem_cons.mpr ⟨ilX7_init_wsX7_init_r3 _ (List.mem_of_getElem? (i := 12) rfl), (List.forall_mem_cons.mpr ⟨ilX7_init_wsX7_init_r3 _ (List.mem_of_getElem? (i := 13) rfl), (List.forall_mem_cons.mpr ⟨ilX7_init_wsX7_init_r3 _ (List.mem_of_getElem? (i := 14) rfl), (List.forall_mem_cons.mpr ⟨ilX7_init_wsX7_init_r3 _ (List.mem_of_getElem? (i := 15) rfl), (fun _ h => absurd h List.not_mem_nil)⟩)⟩)⟩)⟩)⟩)⟩)⟩)⟩)⟩)⟩)⟩)⟩)⟩)⟩)⟩)⟩)⟩)⟩)⟩)⟩)⟩)⟩)⟩)⟩), (List.forall_mem_cons.mpr ⟨ilX7_init_wsX7_init_r3 _ (List.mem_of_getElem? (i := 16) rfl), (List.forall_mem_cons.mpr ⟨ilX7_init_wsX7_init_r3 _ (List.mem_of_getElem? (i := 17) rfl), (List.forall_mem_cons.mpr ⟨ilX7_init_wsX7_init_r3 _ (List.mem_of_getElem? (i := 18) rfl), (fun _ h => absurd h List.not_mem_nil)⟩)⟩)⟩)⟩), ilX7_init_wsX00⟩), ilX7_init_wsX20⟩)⟩) (by decide +kernel)
set_option maxRecDepth 20000 in
theorem gX7_init_X0_init_n32 : GoodIn wsX7_init (wsX0_init) := ggX7_init_X0_init
set_option maxRecDepth 20000 in
theorem ggX7_init_X6_init : GoodIn wsX7_init wsX6_init := goodIn_sub (List.forall_mem_cons.mpr ⟨ilX7_init_wsX7_init_r4 _ (List.mem_of_getElem? (i := 7) rfl), (List.forall_mem_append.mpr ⟨(List.forall_mem_cons.mpr ⟨ilX7_init_wsX7_init_r4 _ (List.mem_of_getElem? (i := 8) rfl), (List.forall_mem_cons.mpr ⟨ilX7_init_wsX7_init_r1 _ (List.mem_of_getElem? (i := 1) rfl), (List.forall_mem_cons.mpr ⟨ilX7_init_wsX7_init_r1 _ (List.mem_of_getElem? (i := 2) rfl), (List.forall_mem_cons.mpr ⟨ilX7_init_wsX7_init_r2 _ (List.mem_of_getElem? (i := 21) rfl), (List.forall_mem_cons.mpr ⟨ilX7_init_wsX7_init_r4 _ (List.mem_of_getElem? (i := 9) rfl), (List.forall_mem_cons.mpr ⟨ilX7_init_wsX7_init_r4 _ (List.mem_of_getElem? (i := 10) rfl), (fun _ h => absurd h List.not_mem_nil)⟩)⟩)⟩)⟩)⟩)⟩), ilX7_init_wsX60⟩)⟩) (by decide +kernel)
set_option maxRecDepth 20000 in
theorem gX7_init_X6_init_n39 : GoodIn wsX7_init (wsX6_init) := ggX7_init_X6_init
set_option maxRecDepth 20000 in
theorem ggX7_init_X1_init : GoodIn wsX7_init wsX1_init := goodIn_sub (List.forall_mem_cons.mpr ⟨ilX7_init_wsX7_init_r4 _ (List.mem_of_getElem? (i := 12) rfl), (List.forall_mem_append.mpr ⟨(List.forall_mem_cons.mpr ⟨ilX7_init_wsX7_init_r4 _ (List.mem_of_getElem? (i := 13) rfl), (List.forall_mem_cons.mpr ⟨ilX7_init_wsX7_init_r1 _ (List.mem_of_getElem? (i := 1) rfl), (List.forall_mem_cons.mpr ⟨ilX7_init_wsX7_init_r1 _ (List.mem_of_getElem? (i := 2) rfl), (List.forall_mem_cons.mpr ⟨ilX7_init_wsX7_init_r4 _ (List.mem_of_getElem? (i := 14) rfl), (List.forall_mem_cons.mpr ⟨ilX7_init_wsX7_init_r4 _ (List.mem_of_getElem? (i := 15) rfl), (List.forall_mem_cons.mpr ⟨ilX7_init_wsX7_init_r4 _ (List.mem_of_getElem? (i := 16) rfl), (List.forall_mem_cons.mpr ⟨ilX7_init_wsX7_init_r4 _ (List.mem_of_getElem? (i := 17) rfl), (List.forall_mem_cons.mpr ⟨ilX7_init_wsX7_init_r4 _ (List.mem_of_getElem? (i := 18) rfl), (List.forall_mem_cons.mpr ⟨ilX7_init_wsX7_init_r4 _ (List.mem_of_getElem? (i := 19) rfl), (List.forall_mem_cons.mpr ⟨ilX7_init_wsX7_init_r2 _ (List.mem_of_getElem? (i := 21) rfl), (List.forall_mem_cons.mpr ⟨ilX7_init_wsX7_init_r4 _ (List.mem_of_getElem? (i := 20) rfl), (List.forall_mem_cons.mpr ⟨ilX7_init_wsX7_init_r4 _ (List.mem_of_getElem? (i := 21) rfl), (List.forall_mem_cons.mpr ⟨ilX7_init_wsX7_init_r4 _ (List.mem_of_getElem? (i := 22) rfl), (List.forall_mem_cons.mpr ⟨ilX7_init_wsX7_init_r4 _ (List.mem_of_getElem? (i := 23) rfl), (List.forall_mem_cons.mpr ⟨ilX7_init_wsX7_init_r5 _ (List.mem_of_getElem? (i := 0) rfl), (List.forall_mem_cons.mpr ⟨ilX7_init_wsX7_init_r5 _ (List.mem_of_getElem? (i := 1) rfl), (List.forall_mem_cons.mpr ⟨ilX7_init_wsX7_init_r5 _ (List.mem_of_getElem? (i := 2) rfl), (List.forall_mem_cons.mpr ⟨ilX7_init_wsX7_init_r5 _ (List.mem_of_getElem? (i := 3) rfl), (List.forall_mem_cons.mpr ⟨ilX7_init_wsX7_init_r5 _ (List.mem_of_getElem? (i := 4) rfl), (List.forall_mem_cons.mpr ⟨ilX7_init_wsX7_init_r5 _ (List.mem_of_getElem? (i := 5) rfl), (List.forall_mem_cons.mpr ⟨ilX7_init_wsX7_init_r5 _ (List.mem_of_getElem? (i := 6) rfl), (fun _ h => absurd h List.not_mem_nil)⟩)⟩)⟩)⟩)⟩)⟩)⟩)⟩)⟩)⟩)⟩)⟩)⟩)⟩)⟩)⟩)⟩)⟩)⟩)⟩)⟩), ilX7_init_wsX10⟩)⟩) (by decide +kernel)
set_option maxRecDepth 20000 in
theorem gX7_init_X1_init_n54 : GoodIn wsX7_init (wsX1_init) := ggX7_init_X1_init
set_option maxRecDepth 20000 in
theorem ggX7_init_X3_init : GoodIn wsX7_init wsX3_init := goodIn_sub (List.forall_mem_cons.mpr ⟨ilX7_init_wsX7_init_r5 _ (List.mem_of_getElem? (i := 9) rfl), (List.forall_mem_append.mpr ⟨(List.forall_mem_cons.mpr ⟨ilX7_init_wsX7_init_r5 _ (List.mem_of_getElem? (i := 10) rfl), (List.forall_mem_cons.mpr ⟨ilX7_init_wsX7_init_r1 _ (List.mem_of_getElem? (i := 1) rfl), (List.forall_mem_cons.mpr ⟨ilX7_init_wsX7_init_r1 _ (List.mem_of_getElem? (i := 2) rfl), (List.forall_mem_cons.mpr ⟨ilX7_init_wsX7_init_r2 _ (List.mem_of_getElem? (i := 21) rfl), (List.forall_mem_cons.mpr ⟨ilX7_init_wsX7_init_r5 _ (List.mem_of_getElem? (i := 11) rfl), (List.forall_mem_cons.mpr ⟨ilX7_init_wsX7_init_r5 _ (List.mem_of_getElem? (i := 12) rfl), (List.forall_mem_cons.mpr ⟨ilX7_init_wsX7_init_r5 _ (List.mem_of_getElem? (i := 13) rfl), (List.forall_mem_cons.mpr ⟨ilX7_init_wsX7_init_r5 _ (List.mem_of_getElem? (i := 14) rfl), (List.forall_mem_cons.mpr ⟨ilX7_init_wsX7_init_r5 _ (List.mem_of_getElem? (i := 15) rfl), (List.forall_mem_cons.mpr ⟨ilX7_init_wsX7_init_r5 _ (List.mem_of_getElem? (i := 16) rfl), (List.forall_mem_cons.mpr ⟨ilX7_init_wsX7_init_r5 _ (List.mem_of_getElem? (i := 17) rfl), (List.forall_mem_cons.mpr ⟨ilX7_init_wsX7_init_r5 _ (List.mem_of_getElem? (i := 18) rfl), (List.forall_mem_cons.mpr ⟨ilX7_init_wsX7_init_r5 _ (List.mem_of_getElem? (i := 19) rfl), (List.forall_mem_cons.mpr ⟨ilX7_init_wsX7_init_r5 _ (List.mem_of_getElem? (i := 20) rfl), (List.forall_mem_cons.mpr ⟨ilX7_init_wsX7_init_r5 _ (List.mem_of_getElem? (i := 21) rfl), (List.forall_mem_cons.mpr ⟨ilX7_init_wsX7_init_r5 _ (List.mem_of_getElem? (i := 22) rfl), (List.forall_mem_cons.mpr ⟨ilX7_init_wsX7_init_r5 _ (List.mem_of_getElem? (i := 23) rfl), (fun _ h => absurd h List.not_mem_nil)⟩)⟩)⟩)⟩)⟩)⟩)⟩)⟩)⟩)⟩)⟩)⟩)⟩)⟩)⟩)⟩)⟩), ilX7_init_wsX30⟩)⟩) (by decide +kernel)
set_option maxRecDepth 20000 in
theorem gX7_init_X3_init : GoodIn wsX7_init (wsX3_init) := ggX7_init_X3_init
theorem dX7_init_0 : decode cX7_init 0 = .ok (.aload_n 0, 1) := by decide +kernel
theorem dX7_init_1 : decode cX7_init 1 = .ok (.invokespecial 1, 3) := by decide +kernel
theorem dX7_init_4 : decode cX7_init 4 = .ok (.aload_n 0, 1) := by decide +kernel
theorem dX7_init_5 : decode cX7_init 5 = .ok (.new 7, 3) := by decide +kernel
theorem dX7_init_8 : decode cX7_init 8 = .ok (.dup, 1) := by decide +kernel
theorem dX7_init_9 : decode cX7_init 9 = .ok (.invokespecial 9, 3) := by decide +kernel
theorem dX7_init_12 : decode cX7_init 12 = .ok (.putfield 10, 3) := by decide +kernel
theorem dX7_init_15 : decode cX7_init 15 = .ok (.aload_n 0, 1) := by decide +kernel
theorem dX7_init_16 : decode cX7_init 16 = .ok (.new 16, 3) := by decide +kernel
theorem dX7_init_19 : decode cX7_init 19 = .ok (.dup, 1) := by decide +kernel
theorem dX7_init_20 : decode cX7_init 20 = .ok (.invokespecial 18, 3) := by decide +kernel
theorem dX7_init_23 : decode cX7_init 23 = .ok (.putfield 19, 3) := by decide +kernel
theorem dX7_init_26 : decode cX7_init 26 = .ok (.aload_n 0, 1) := by decide +kernel
theorem dX7_init_27 : decode cX7_init 27 = .ok (.new 23, 3) := by decide +kernel
theorem dX7_init_30 : decode cX7_init 30 = .ok (.dup, 1) := by decide +kernel
theorem dX7_init_31 : decode cX7_init 31 = .ok (.invokespecial 25, 3) := by decide +kernel
theorem dX7_init_34 : decode cX7_init 34 = .ok (.putfield 26, 3) := by decide +kernel
theorem dX7_init_37 : decode cX7_init 37 = .ok (.aload_n 0, 1) := by decide +kernel
theorem dX7_init_38 : decode cX7_init 38 = .ok (.new 30, 3) := by decide +kernel
theorem dX7_init_41 : decode cX7_init 41 = .ok (.dup, 1) := by decide +kernel
theorem dX7_init_42 : decode cX7_init 42 = .ok (.invokespecial 32, 3) := by decide +kernel
theorem dX7_init_45 : decode cX7_init 45 = .ok (.putfield 33, 3) := by decide +kernel
theorem dX7_init_48 : decode cX7_init 48 = .ok (.aload_n 0, 1) := by decide +kernel
theorem dX7_init_49 : decode cX7_init 49 = .ok (.new 37, 3) := by decide +kernel
theorem dX7_init_52 : decode cX7_init 52 = .ok (.dup, 1) := by decide +kernel
theorem dX7_init_53 : decode cX7_init 53 = .ok (.invokespecial 39, 3) := by decide +kernel
theorem dX7_init_56 : decode cX7_init 56 = .ok (.putfield 40, 3) := by decide +kernel
theorem dX7_init_59 : decode cX7_init 59 = .ok (.aload_n 0, 1) := by decide +kernel
theorem dX7_init_60 : decode cX7_init 60 = .ok (.iconst 3, 1) := by decide +kernel
theorem dX7_init_61 : decode cX7_init 61 = .ok (.anewarray 23, 3) := by decide +kernel
theorem dX7_init_64 : decode cX7_init 64 = .ok (.putfield 44, 3) := by decide +kernel
theorem dX7_init_67 : decode cX7_init 67 = .ok (.iconst 0, 1) := by decide +kernel
theorem dX7_init_68 : decode cX7_init 68 = .ok (.istore_n 1, 1) := by decide +kernel
theorem dX7_init_69 : decode cX7_init 69 = .ok (.iload_n 1, 1) := by decide +kernel
theorem dX7_init_70 : decode cX7_init 70 = .ok (.iconst 3, 1) := by decide +kernel
theorem dX7_init_71 : decode cX7_init 71 = .ok (.if_icmp .ge 22, 3) := by decide +kernel
theorem dX7_init_74 : decode cX7_init 74 = .ok (.aload_n 0, 1) := by decide +kernel
theorem dX7_init_75 : decode cX7_init 75 = .ok (.getfield 44, 3) := by decide +kernel
theorem dX7_init_78 : decode cX7_init 78 = .ok (.iload_n 1, 1) := by decide +kernel
theorem dX7_init_79 : decode cX7_init 79 = .ok (.new 23, 3) := by decide +kernel
theorem dX7_init_82 : decode cX7_init 82 = .ok (.dup, 1) := by decide +kernel
theorem dX7_init_83 : decode cX7_init 83 = .ok (.invokespecial 25, 3) := by decide +kernel
theorem dX7_init_86 : decode cX7_init 86 = .ok (.aastore, 1) := by decide +kernel
theorem dX7_init_87 : decode cX7_init 87 = .ok (.iinc 1 1, 3) := by decide +kernel
theorem dX7_init_90 : decode cX7_init 90 = .ok (.goto (-21), 3) := by decide +kernel
theorem dX7_init_93 : decode cX7_init 93 = .ok (.aload_n 0, 1) := by decide +kernel
theorem dX7_init_94 : decode cX7_init 94 = .ok (.iconst 3, 1) := by decide +kernel
theorem dX7_init_95 : decode cX7_init 95 = .ok (.newarray .boolean, 2) := by decide +kernel
theorem dX7_init_97 : decode cX7_init 97 = .ok (.putfield 48, 3) := by decide +kernel
theorem dX7_init_100 : decode cX7_init 100 = .ok (.aload_n 0, 1) := by decide +kernel
theorem dX7_init_101 : decode cX7_init 101 = .ok (.new 52, 3) := by decide +kernel
theorem dX7_init_104 : decode cX7_init 104 = .ok (.dup, 1) := by decide +kernel
theorem dX7_init_105 : decode cX7_init 105 = .ok (.invokespecial 54, 3) := by decide +kernel
theorem dX7_init_108 : decode cX7_init 108 = .ok (.putfield 55, 3) := by decide +kernel
theorem dX7_init_111 : decode cX7_init 111 = .ok (.aload_n 0, 1) := by decide +kernel
theorem dX7_init_112 : decode cX7_init 112 = .ok (.new 52, 3) := by decide +kernel
theorem dX7_init_115 : decode cX7_init 115 = .ok (.dup, 1) := by decide +kernel
theorem dX7_init_116 : decode cX7_init 116 = .ok (.invokespecial 54, 3) := by decide +kernel
theorem dX7_init_119 : decode cX7_init 119 = .ok (.putfield 59, 3) := by decide +kernel
theorem dX7_init_122 : decode cX7_init 122 = .ok (.aload_n 0, 1) := by decide +kernel
theorem dX7_init_123 : decode cX7_init 123 = .ok (.new 62, 3) := by decide +kernel
theorem dX7_init_126 : decode cX7_init 126 = .ok (.dup, 1) := by decide +kernel
theorem dX7_init_127 : decode cX7_init 127 = .ok (.aload_n 0, 1) := by decide +kernel
theorem dX7_init_128 : decode cX7_init 128 = .ok (.getfield 10, 3) := by decide +kernel
theorem dX7_init_131 : decode cX7_init 131 = .ok (.aload_n 0, 1) := by decide +kernel
theorem dX7_init_132 : decode cX7_init 132 = .ok (.getfield 59, 3) := by decide +kernel
theorem dX7_init_135 : decode cX7_init 135 = .ok (.invokespecial 64, 3) := by decide +kernel
theorem dX7_init_138 : decode cX7_init 138 = .ok (.putfield 67, 3) := by decide +kernel
theorem dX7_init_141 : decode cX7_init 141 = .ok (.aload_n 0, 1) := by decide +kernel
theorem dX7_init_142 : decode cX7_init 142 = .ok (.iconst 0, 1) := by decide +kernel
theorem dX7_init_143 : decode cX7_init 143 = .ok (.putfield 71, 3) := by decide +kernel
theorem dX7_init_146 : decode cX7_init 146 = .ok (.return_, 1) := by decide +kernel
theorem ilX7_feed_wsX70 : ∀ w ∈ wsX70, w ∈ wsX7_feed := fun _ h => List.mem_cons_of_mem _ (List.mem_append_left _ (List.mem_append_right _ (h)))
theorem ilX7_feed_wsX50 : ∀ w ∈ wsX50, w ∈ wsX7_feed := fun _ h => List.mem_cons_of_mem _ (List.mem_append_right _ (h))
set_option maxRecDepth 20000 in
theorem ggX7_feed_X5_append : GoodIn wsX7_feed wsX5_append := goodIn_sub (List.forall_mem_cons.mpr ⟨List.mem_cons_of_mem _ (List.mem_append_left _ (List.mem_append_left _ (List.mem_of_getElem? (i := 6) rfl))), (List.forall_mem_append.mpr ⟨(List.forall_mem_cons.mpr ⟨List.mem_cons_of_mem _ (List.mem_append_left _ (List.mem_append_left _ (List.mem_of_getElem? (i := 7) rfl))), (List.forall_mem_cons.mpr ⟨List.mem_cons_of_mem _ (List.mem_append_left _ (List.mem_append_left _ (List.mem_of_getElem? (i := 8) rfl))), (fun _ h => absurd h List.not_mem_nil)⟩)⟩), ilX7_feed_wsX50⟩)⟩) (by decide +kernel)
set_option maxRecDepth 20000 in
theorem gX7_feed_X5_append : GoodIn wsX7_feed (wsV RX7 79 RX5 yX5_append wsX5_append) := goodIn_app (goodIn_sub (List.forall_mem_cons.mpr ⟨List.mem_cons_of_mem _ (List.mem_append_left _ (List.mem_append_left _ (List.mem_of_getElem? (i := 2) rfl))), (List.forall_mem_cons.mpr ⟨List.mem_cons_of_mem _ (List.mem_append_left _ (List.mem_append_left _ (List.mem_of_getElem? (i := 3) rfl))), (List.forall_mem_cons.mpr ⟨List.mem_cons_of_mem _ (List.mem_append_left _ (List.mem_append_left _ (List.mem_of_getElem? (i := 4) rfl))), (List.forall_mem_cons.mpr ⟨List.mem_cons_of_mem _ (List.mem_append_left _ (List.mem_append_left _ (List.mem_of_getElem? (i := 5) rfl))), (fun _ h => absurd h List.not_mem_nil)⟩)⟩)⟩)⟩) (by decide +kernel)) ggX7_feed_X5_append
theorem dX7_feed_0 : decode cX7_feed 0 = .ok (.aload_n 0, 1) := by decide +kernel
theorem dX7_feed_1 : decode cX7_feed 1 = .ok (.getfield 10, 3) := by decide +kernel
theorem dX7_feed_4 : decode cX7_feed 4 = .ok (.getfield 75, 3) := by decide +kernel
theorem dX7_feed_7 : decode cX7_feed 7 = .ok (.bipush 20, 2) := by decide +kernel
theorem dX7_feed_9 : decode cX7_feed 9 = .ok (.iadd, 1) := by decide +kernel
theorem dX7_feed_10 : decode cX7_feed 10 = .ok (.sipush 500, 3) := by decide +kernel
theorem dX7_feed_13 : decode cX7_feed 13 = .ok (.if_icmp .le 5, 3) := by decide +kernel
theorem dX7_feed_16 : decode cX7_feed 16 = .ok (.iconst (-1), 1) := by decide +kernel
theorem dX7_feed_17 : decode cX7_feed 17 = .ok (.ireturn, 1) := by decide +kernel
theorem dX7_feed_18 : decode cX7_feed 18 = .ok (.aload_n 0, 1) := by decide +kernel
theorem dX7_feed_19 : decode cX7_feed 19 = .ok (.getfield 10, 3) := by decide +kernel
theorem dX7_feed_22 : decode cX7_feed 22 = .ok (.iload_n 1, 1) := by decide +kernel
theorem dX7_feed_23 : decode cX7_feed 23 = .ok (.invokevirtual 79, 3) := by decide +kernel
theorem dX7_feed_26 : decode cX7_feed 26 = .ok (.aload_n 0, 1) := by decide +kernel
theorem dX7_feed_27 : decode cX7_feed 27 = .ok (.getfield 10, 3) := by decide +kernel
theorem dX7_feed_30 : decode cX7_feed 30 = .ok (.iload_n 2, 1) := by decide +kernel
theorem dX7_feed_31 : decode cX7_feed 31 = .ok (.invokevirtual 79, 3) := by decide +kernel
theorem dX7_feed_34 : decode cX7_feed 34 = .ok (.aload_n 0, 1) := by decide +kernel
theorem dX7_feed_35 : decode cX7_feed 35 = .ok (.getfield 10, 3) := by decide +kernel
theorem dX7_feed_38 : decode cX7_feed 38 = .ok (.iload_n 3, 1) := by decide +kernel
theorem dX7_feed_39 : decode cX7_feed 39 = .ok (.invokevirtual 79, 3) := by decide +kernel
theorem dX7_feed_42 : decode cX7_feed 42 = .ok (.aload_n 0, 1) := by decide +kernel
theorem dX7_feed_43 : decode cX7_feed 43 = .ok (.getfield 10, 3) := by decide +kernel
theorem dX7_feed_46 : decode cX7_feed 46 = .ok (.iload 4, 2) := by decide +kernel
theorem dX7_feed_48 : decode cX7_feed 48 = .ok (.invokevirtual 79, 3) := by decide +kernel
theorem dX7_feed_51 : decode cX7_feed 51 = .ok (.aload_n 0, 1) := by decide +kernel
theorem dX7_feed_52 : decode cX7_feed 52 = .ok (.getfield 10, 3) := by decide +kernel
theorem dX7_feed_55 : decode cX7_feed 55 = .ok (.iload 5, 2) := by decide +kernel
theorem dX7_feed_57 : decode cX7_feed 57 = .ok (.invokevirtual 79, 3) := by decide +kernel
theorem dX7_feed_60 : decode cX7_feed 60 = .ok (.aload_n 0, 1) := by decide +kernel
theorem dX7_feed_61 : decode cX7_feed 61 = .ok (.getfield 10, 3) := by decide +kernel
theorem dX7_feed_64 : decode cX7_feed 64 = .ok (.getfield 75, 3) := by decide +kernel
theorem dX7_feed_67 : decode cX7_feed 67 = .ok (.ireturn, 1) := by decide +kernel
theorem dX7_end_0 : decode cX7_end 0 = .ok (.iload_n 1, 1) := by decide +kernel
theorem dX7_end_1 : decode cX7_end 1 = .ok (.ifCond .lt 14, 3) := by decide +kernel
theorem dX7_end_4 : decode cX7_end 4 = .ok (.iload_n 1, 1) := by decide +kernel
theorem dX7_end_5 : decode cX7_end 5 = .ok (.aload_n 0, 1) := by decide +kernel
theorem dX7_end_6 : decode cX7_end 6 = .ok (.getfield 10, 3) := by decide +kernel
theorem dX7_end_9 : decode cX7_end 9 = .ok (.getfield 75, 3) := by decide +kernel
theorem dX7_end_12 : decode cX7_end 12 = .ok (.if_icmp .le 5, 3) := by decide +kernel
theorem dX7_end_15 : decode cX7_end 15 = .ok (.iconst 0, 1) := by decide +kernel
theorem dX7_end_16 : decode cX7_end 16 = .ok (.ireturn, 1) := by decide +kernel
theorem dX7_end_17 : decode cX7_end 17 = .ok (.aload_n 0, 1) := by decide +kernel
theorem dX7_end_18 : decode cX7_end 18 = .ok (.getfield 10, 3) := by decide +kernel
theorem dX7_end_21 : decode cX7_end 21 = .ok (.iload_n 1, 1) := by decide +kernel
theorem dX7_end_22 : decode cX7_end 22 = .ok (.putfield 75, 3) := by decide +kernel
theorem dX7_end_25 : decode cX7_end 25 = .ok (.iconst 1, 1) := by decide +kernel
theorem dX7_end_26 : decode cX7_end 26 = .ok (.ireturn, 1) := by decide +kernel
theorem ilX7_fault_wsX7_fault_r1 : ∀ w ∈ wsX7_fault_r1, w ∈ wsX7_fault := fun _ h => List.mem_cons_of_mem _ (List.mem_append_left _ (List.mem_append_left _ (List.mem_append_left _ (List.mem_append_left _ (List.mem_append_left _ (h))))))
theorem ilX7_fault_wsX7_fault_r2 : ∀ w ∈ wsX7_fault_r2, w ∈ wsX7_fault := fun _ h => List.mem_cons_of_mem _ (List.mem_append_left _ (List.mem_append_left _ (List.mem_append_left _ (List.mem_append_left _ (List.mem_append_right _ (List.mem_append_left _ (h)))))))
theorem ilX7_fault_wsX7_fault_r3 : ∀ w ∈ wsX7_fault_r3, w ∈ wsX7_fault := fun _ h => List.mem_cons_of_mem _ (List.mem_append_left _ (List.mem_append_left _ (List.mem_append_left _ (List.mem_append_left _ (List.mem_append_right _ (List.mem_append_right _ (List.mem_append_left _ (h))))))))
theorem ilX7_fault_wsX7_fault_r4 : ∀ w ∈ wsX7_fault_r4, w ∈ wsX7_fault := fun _ h => List.mem_cons_of_mem _ (List.mem_append_left _ (List.mem_append_left _ (List.mem_append_left _ (List.mem_append_left _ (List.mem_append_right _ (List.mem_append_right _ (List.mem_append_right _ (List.mem_append_left _ (h)))))))))
theorem ilX7_fault_wsX7_fault_r5 : ∀ w ∈ wsX7_fault_r5, w ∈ wsX7_fault := fun _ h => List.mem_cons_of_mem _ (List.mem_append_left _ (List.mem_append_left _ (List.mem_append_left _ (List.mem_append_left _ (List.mem_append_right _ (List.mem_append_right _ (List.mem_append_right _ (List.mem_append_right _ (List.mem_append_left _ (h))))))))))
theorem ilX7_fault_wsX7_fault_r6 : ∀ w ∈ wsX7_fault_r6, w ∈ wsX7_fault := fun _ h => List.mem_cons_of_mem _ (List.mem_append_left _ (List.mem_append_left _ (List.mem_append_left _ (List.mem_append_left _ (List.mem_append_right _ (List.mem_append_right _ (List.mem_append_right _ (List.mem_append_right _ (List.mem_append_right _ (List.mem_append_left _ (h)))))))))))
theorem ilX7_fault_wsX7_fault_r7 : ∀ w ∈ wsX7_fault_r7, w ∈ wsX7_fault := fun _ h => List.mem_cons_of_mem _ (List.mem_append_left _ (List.mem_append_left _ (List.mem_append_left _ (List.mem_append_left _ (List.mem_append_right _ (List.mem_append_right _ (List.mem_append_right _ (List.mem_append_right _ (List.mem_append_right _ (List.mem_append_right _ (List.mem_append_left _ (h))))))))))))
theorem ilX7_fault_wsX7_fault_r8 : ∀ w ∈ wsX7_fault_r8, w ∈ wsX7_fault := fun _ h => List.mem_cons_of_mem _ (List.mem_append_left _ (List.mem_append_left _ (List.mem_append_left _ (List.mem_append_left _ (List.mem_append_right _ (List.mem_append_right _ (List.mem_append_right _ (List.mem_append_right _ (List.mem_append_right _ (List.mem_append_right _ (List.mem_append_right _ (List.mem_append_left _ (h)))))))))))))
theorem ilX7_fault_wsX7_fault_r9 : ∀ w ∈ wsX7_fault_r9, w ∈ wsX7_fault := fun _ h => List.mem_cons_of_mem _ (List.mem_append_left _ (List.mem_append_left _ (List.mem_append_left _ (List.mem_append_left _ (List.mem_append_right _ (List.mem_append_right _ (List.mem_append_right _ (List.mem_append_right _ (List.mem_append_right _ (List.mem_append_right _ (List.mem_append_right _ (List.mem_append_right _ (h)))))))))))))
theorem ilX7_fault_wsX70 : ∀ w ∈ wsX70, w ∈ wsX7_fault := fun _ h => List.mem_cons_of_mem _ (List.mem_append_left _ (List.mem_append_left _ (List.mem_append_left _ (List.mem_append_right _ (h)))))
theorem ilX7_fault_wsX30 : ∀ w ∈ wsX30, w ∈ wsX7_fault := fun _ h => List.mem_cons_of_mem _ (List.mem_append_left _ (List.mem_append_left _ (List.mem_append_right _ (h))))
theorem ilX7_fault_wsX10 : ∀ w ∈ wsX10, w ∈ wsX7_fault := fun _ h => List.mem_cons_of_mem _ (List.mem_append_left _ (List.mem_append_right _ (h)))
theorem ilX7_fault_wsX50 : ∀ w ∈ wsX50, w ∈ wsX7_fault := fun _ h => List.mem_cons_of_mem _ (List.mem_append_right _ (h))
set_option maxRecDepth 20000 in
theorem ggX7_fault_X3_read : GoodIn wsX7_fault wsX3_read := goodIn_sub (List.forall_mem_cons.mpr ⟨ilX7_fault_wsX7_fault_r1 _ (List.mem_of_getElem? (i := 6) rfl), (List.forall_mem_append.mpr ⟨(List.forall_mem_append.mpr ⟨(List.forall_mem_append.mpr ⟨(List.forall_mem_append.mpr ⟨(List.forall_mem_cons.mpr ⟨ilX7_fault_wsX7_fault_r1 _ (List.mem_of_getElem? (i := 7) rfl), (List.forall_mem_cons.mpr ⟨ilX7_fault_wsX7_fault_r1 _ (List.mem_of_getElem? (i := 8) rfl), (List.forall_mem_cons.mpr ⟨ilX7_fault_wsX7_fault_r1 _ (List.mem_of_getElem? (i := 9) rfl), (List.forall_mem_cons.mpr ⟨ilX7_fault_wsX7_fault_r1 _ (List.mem_of_getElem? (i := 10) rfl), (List.forall_mem_cons.mpr ⟨ilX7_fault_wsX7_fault_r1 _ (List.mem_of_getElem? (i := 11) rfl), (List.forall_mem_cons.mpr ⟨ilX7_fault_wsX7_fault_r1 _ (List.mem_of_getElem? (i := 12) rfl), (List.forall_mem_cons.mpr ⟨ilX7_fault_wsX7_fault_r1 _ (List.mem_of_getElem? (i := 13) rfl), (List.forall_mem_cons.mpr ⟨ilX7_fault_wsX7_fault_r1 _ (List.mem_of_getElem? (i := 14) rfl), (List.forall_mem_cons.mpr ⟨ilX7_fault_wsX7_fault_r1 _ (List.mem_of_getElem? (i := 15) rfl), (List.forall_mem_cons.mpr ⟨ilX7_fault_wsX7_fault_r1 _ (List.mem_of_getElem? (i := 16) rfl), (List.forall_mem_cons.mpr ⟨ilX7_fault_wsX7_fault_r1 _ (List.mem_of_getElem? (i := 17) rfl), (List.forall_mem_cons.mpr ⟨ilX7_fault_wsX7_fault_r1 _ (List.mem_of_getElem? (i := 18) rfl), (List.forall_mem_cons.mpr ⟨ilX7_fault_wsX7_fault_r1 _ (List.mem_of_getElem? (i := 19) rfl), (List.forall_mem_cons.mpr ⟨ilX7_fault_wsX7_fault_r1 _ (List.mem_of_getElem? (i := 20) rfl), (List.forall_mem_cons.mpr ⟨ilX7_fault_wsX7_fault_r1 _ (List.mem_of_getElem? (i := 21) rfl), (List.forall_mem_cons.mpr ⟨ilX7_fault_wsX7_fault_r1 _ (List.mem_of_getElem? (i := 22) rfl), (List.forall_mem_cons.mpr ⟨ilX7_fault_wsX7_fault_r1 _ (List.mem_of_getElem? (i := 23) rfl), (List.forall_mem_cons.mpr ⟨ilX7_fault_wsX7_fault_r2 _ (List.mem_of_getElem? (i := 0) rfl), (List.forall_mem_cons.mpr ⟨ilX7_fault_wsX7_fault_r2 _ (List.mem_of_getElem? (i := 1) rfl), (List.forall_mem_cons.mpr ⟨ilX7_fault_wsX7_fault_r2 _ (List.mem_of_getElem? (i := 2) rfl), (List.forall_mem_cons.mpr ⟨ilX7_fault_wsX7_fault_r2 _ (List.mem_of_getElem? (i := 3) rfl), (List.forall_mem_cons.mpr ⟨ilX7_fault_wsX7_fault_r2 _ (List.mem_of_getElem? (i := 4) rfl), (List.forall_mem_cons.mpr ⟨ilX7_fault_wsX7_fault_r2 _ (List.mem_of_getElem? (i := 5) rfl), (List.forall_mem_cons.mpr ⟨ilX7_fault_wsX7_fault_r2 _ (List.mem_of_getElem? (i := 6) rfl), (fun _ h => absurd h List.not_mem_nil)⟩)⟩)⟩)⟩)⟩)⟩)⟩)⟩)⟩)⟩)⟩)⟩)⟩)⟩)⟩)⟩)⟩)⟩)⟩)⟩)⟩)⟩)⟩)⟩), (List.forall_mem_append.mpr ⟨(List.forall_mem_cons.mpr ⟨ilX7_fault_wsX7_fault_r2 _ (List.mem_of_getElem? (i := 7) rfl), (List.forall_mem_cons.mpr ⟨ilX7_fault_wsX7_fault_r2 _ (List.mem_of_getElem? (i := 8) rfl), (List.forall_mem_cons.mpr ⟨ilX7_fault_wsX7_fault_r1 _ (List.mem_of_getElem? (i := 5) rfl), (List.forall_mem_cons.mpr ⟨ilX7_fault_wsX7_fault_r2 _ (List.mem_of_getElem? (i := 9) rfl), (List.forall_mem_cons.mpr ⟨ilX7_fault_wsX7_fault_r2 _ (List.mem_of_getElem? (i := 10) rfl), (List.forall_mem_cons.mpr ⟨ilX7_fault_wsX7_fault_r2 _ (List.mem_of_getElem? (i := 11) rfl), (List.forall_mem_cons.mpr ⟨ilX7_fault_wsX7_fault_r2 _ (List.mem_of_getElem? (i := 12) rfl), (List.forall_mem_cons.mpr ⟨ilX7_fault_wsX7_fault_r2 _ (List.mem_of_getElem? (i := 13) rfl), (List.forall_mem_cons.mpr ⟨ilX7_fault_wsX7_fault_r2 _ (List.mem_of_getElem? (i := 14) rfl), (List.forall_mem_cons.mpr ⟨ilX7_fault_wsX7_fault_r2 _ (List.mem_of_getElem? (i := 15) rfl), (List.forall_mem_cons.mpr ⟨ilX7_fault_wsX7_fault_r2 _ (List.mem_of_getElem? (i := 16) rfl), (List.forall_mem_cons.mpr ⟨ilX7_fault_wsX7_fault_r2 _ (List.mem_of_getElem? (i := 17) rfl), (List.forall_mem_cons.mpr ⟨ilX7_fault_wsX7_fault_r2 _ (List.mem_of_getElem? (i := 18) rfl), (List.forall_mem_cons.mpr ⟨ilX7_fault_wsX7_fault_r2 _ (List.mem_of_getElem? (i := 19) rfl), (List.forall_mem_cons.mpr ⟨ilX7_fault_wsX7_fault_r2 _ (List.mem_of_getElem? (i := 20) rfl), (List.forall_mem_cons.mpr ⟨ilX7_fault_wsX7_fault_r2 _ (List.mem_of_getElem? (i := 21) rfl), (List.forall_mem_cons.mpr ⟨ilX7_fault_wsX7_fault_r2 _ (List.mem_of_getElem? (i := 22) rfl), (List.forall_mem_cons.mpr ⟨ilX7_fault_wsX7_fault_r2 _ (List.mem_of_getElem? (i := 23) rfl), (List.forall_mem_cons.mpr ⟨ilX7_fault_wsX7_fault_r3 _ (List.mem_of_getElem? (i := 0) rfl), (List.forall_mem_cons.mpr ⟨ilX7_fault_wsX7_fault_r3 _ (List.mem_of_getElem? (i := 1) rfl), (List.forall_mem_cons.mpr ⟨ilX7_fault_wsX7_fault_r3 _ (List.mem_of_getElem? (i := 2) rfl), (List.forall_mem_cons.mpr ⟨ilX7_fault_wsX7_fault_r3 _ (List.mem_of_getElem? (i := 3) rfl), (List.forall_mem_cons.mpr ⟨ilX7_fault_wsX7_fault_r3 _ (List.mem_of_getElem? (i := 4) rfl), (List.forall_mem_cons.mpr ⟨ilX7_fault_wsX7_fault_r3 _ (List.mem_of_getElem? (i := 5) rfl), (fun _ h => absurd h List.not_mem_nil)⟩)⟩)⟩)⟩)⟩)⟩)⟩)⟩)⟩)⟩)⟩)⟩)⟩)⟩)⟩)⟩)⟩)⟩)⟩)⟩)⟩)⟩)⟩)⟩), (List.forall_mem_append.mpr ⟨(List.forall_mem_cons.mpr ⟨ilX7_fault_wsX7_fault_r3 _ (List.mem_of_getElem? (i := 6) rfl), (List.forall_mem_cons.mpr ⟨ilX7_fault_wsX7_fault_r3 _ (List.mem_of_getElem? (i := 7) rfl), (List.forall_mem_cons.mpr ⟨ilX7_fault_wsX7_fault_r3 _ (List.mem_of_getElem? (i := 8) rfl), (List.forall_mem_cons.mpr ⟨ilX7_fault_wsX7_fault_r3 _ (List.mem_of_getElem? (i := 9) rfl), (List.forall_mem_cons.mpr ⟨ilX7_fault_wsX7_fault_r3 _ (List.mem_of_getElem? (i := 10) rfl), (List.forall_mem_cons.mpr ⟨ilX7_fault_wsX7_fault_r3 _ (List.mem_of_getElem? (i := 11) rfl), (List.forall_mem_cons.mpr ⟨ilX7_fault_wsX7_fault_r3 _ (List.mem_of_getElem? (i := 12) rfl), (List.forall_mem_cons.mpr ⟨ilX7_fault_wsX7_fault_r3 _ (List.mem_of_getElem? (i := 13) rfl), (List.forall_mem_cons.mpr ⟨ilX7_fault_wsX7_fault_r3 _ (List.mem_of_getElem? (i := 14) rfl), (List.forall_mem_cons.mpr ⟨ilX7_fault_wsX7_fault_r3 _ (List.mem_of_getElem? (i := 15) rfl), (List.forall_mem_cons.mpr ⟨ilX7_fault_wsX7_fault_r3 _ (List.mem_of_getElem? (i := 16) rfl), (List.forall_mem_cons.mpr ⟨ilX7_fault_wsX7_fault_r3 _ (List.mem_of_getElem? (i := 17) rfl), (List.forall_mem_cons.mpr ⟨ilX7_fault_wsX7_fault_r3 _ (List.mem_of_getElem? (i := 18) rfl), (List.forall_mem_cons.mpr ⟨ilX7_fault_wsX7_fault_r3 _ (List.mem_of_getElem? (i := 19) rfl), (List.forall_mem_cons.mpr ⟨ilX7_fault_wsX7_fault_r3 _ (List.mem_of_getElem? (i := 20) rfl), (List.forall_mem_cons.mpr ⟨ilX7_fault_wsX7_fault_r3 _ (List.mem_of_getElem? (i := 21) rfl), (List.forall_mem_cons.mpr ⟨ilX7_fault_wsX7_fault_r3 _ (List.mem_of_getElem? (i := 22) rfl), (List.forall_mem_cons.mpr ⟨ilX7_fault_wsX7_fault_r3 _ (List.mem_of_getElem? (i := 23) rfl), (List.forall_mem_cons.mpr ⟨ilX7_fault_wsX7_fault_r4 _ (List.mem_of_getElem? (i := 0) rfl), (List.forall_mem_cons.mpr ⟨ilX7_fault_wsX7_fault_r4 _ (List.mem_of_getElem? (i := 1) rfl), (List.forall_mem_cons.mpr ⟨ilX7_fault_wsX7_fault_r4 _ (List.mem_of_getElem? (i := 2) rfl), (List.forall_mem_cons.mpr ⟨ilX7_fault_wsX7_fault_r4 _ (List.mem_of_getElem? (i := 3) rfl), (List.forall_mem_cons.mpr ⟨ilX7_fault_wsX7_fault_r4 _ (List.mem_of_getElem? (i := 4) rfl), (List.forall_mem_cons.mpr ⟨ilX7_fault_wsX7_fault_r4 _ (List.mem_of_getElem? (i := 5) rfl), (fun _ h => absurd h List.not_mem_nil)⟩)⟩)⟩)⟩)⟩)⟩)⟩)⟩)⟩)⟩)⟩)⟩)⟩)⟩)⟩)⟩)⟩)⟩)⟩)⟩)⟩)⟩)⟩)⟩), (List.forall_mem_append.mpr ⟨(List.forall_mem_cons.mpr ⟨ilX7_fault_wsX7_fault_r4 _ (List.mem_of_getElem? (i := 6) rfl), (List.forall_mem_cons.mpr ⟨ilX7_fault_wsX7_fault_r4 _ (List.mem_of_getElem? (i := 7) rfl), (List.forall_mem_cons.mpr ⟨ilX7_fault_wsX7_fault_r4 _ (List.mem_of_getElem? (i := 8) rfl), (List.forall_mem_cons.mpr ⟨ilX7_fault_wsX7_fault_r4 _ (List.mem_of_getElem? (i := 9) rfl), (List.forall_mem_cons.mpr ⟨ilX7_fault_wsX7_fault_r4 _ (List.mem_of_getElem? (i := 10) rfl), (List.forall_mem_cons.mpr ⟨ilX7_fault_wsX7_fault_r4 _ (List.mem_of_getElem? (i := 11) rfl), (List.forall_mem_cons.mpr ⟨ilX7_fault_wsX7_fault_r4 _ (List.mem_of_getElem? (i := 12) rfl), (List.forall_mem_cons.mpr ⟨ilX7_fault_wsX7_fault_r4 _ (List.mem_of_getElem? (i := 13) rfl), (List.forall_mem_cons.mpr ⟨ilX7_fault_wsX7_fault_r4 _ (List.mem_of_getElem? (i := 14) rfl), (List.forall_mem_cons.mpr ⟨ilX7_fault_wsX7_fault_r4 _ (List.mem_of_getElem? (i := 15) rfl), (List.forall_mem_cons.mpr ⟨ilX7_fault_wsX7_fault_r4 _ (List.mem_of_getElem? (i := 16) rfl), (List.forall_mem_cons.mpr ⟨ilX7_fault_wsX7_fault_r4 _ (List.mem_of_getElem? (i := 17) rfl), (List.forall_mem_cons.mpr ⟨ilX7_fault_wsX7_fault_r4 _ (List.mem_of_getElem? (i := 18) rfl), (List.forall_mem_cons.mpr ⟨ilX7_fault_wsX7_fault_r4 _ (List.mem_of_getElem? (i := 19) rfl), (List.forall_mem_cons.mpr ⟨ilX7_fault_wsX7_fault_r4 _ (List.mem_of_getElem? (i := 20) rfl), (List.forall_mem_cons.mpr ⟨ilX7_fault_wsX7_fault_r4 _ (List.mem_of_getElem? (i := 21) rfl), (List.forall_mem_cons.mpr ⟨ilX7_fault_wsX7_fault_r4 _ (List.mem_of_getElem? (i := 22) rfl), (List.forall_mem_cons.mpr ⟨ilX7_fault_wsX7_fault_r4 _ (List.mem_of_getElem? (i := 23) rfl), (List.forall_mem_cons.mpr ⟨ilX7_fault_wsX7_fault_r5 _ (List.mem_of_getElem? (i := 0) rfl), (List.forall_mem_cons.mpr ⟨ilX7_fault_wsX7_fault_r5 _ (List.mem_of_getElem? (i := 1) rfl), (List.forall_mem_cons.mpr ⟨ilX7_fault_wsX7_fault_r5 _ (List.mem_of_getElem? (i := 2) rfl), (List.forall_mem_cons.mpr ⟨ilX7_fault_wsX7_fault_r5 _ (List.mem_of_getElem? (i := 3) rfl), (List.forall_mem_cons.mpr ⟨ilX7_fault_wsX7_fault_r5 _ (List.mem_of_getElem? (i := 4) rfl), (List.forall_mem_cons.mpr ⟨ilX7_fault_wsX7_fault_r5 _ (List.mem_of_getElem? (i := 5) rfl), (fun _ h => absurd h List.not_mem_nil)⟩)⟩)⟩)⟩)⟩)⟩)⟩)⟩)⟩)⟩)⟩)⟩)⟩)⟩)⟩)⟩)⟩)⟩)⟩)⟩)⟩)⟩)⟩)⟩), (List.forall_mem_append.mpr ⟨(List.forall_mem_cons.mpr ⟨ilX7_fault_wsX7_fault_r5 _ (List.mem_of_getElem? (i := 6) rfl), (List.forall_mem_cons.mpr ⟨ilX7_fault_wsX7_fault_r5 _ (List.mem_of_getElem? (i := 7) rfl), (List.forall_mem_cons.mpr ⟨ilX7_fault_wsX7_fault_r5 _ (List.mem_of_getElem? (i := 8) rfl), (List.forall_mem_cons.mpr ⟨ilX7_fault_wsX7_fault_r5 _ (List.mem_of_getElem? (i := 9) rfl), (List.forall_mem_cons.mpr ⟨ilX7_fault_wsX7_fault_r5 _ (List.mem_of_getElem? (i := 10) rfl), (List.forall_mem_cons.mpr ⟨ilX7_fault_wsX7_fault_r5 _ (List.mem_of_getElem? (i := 11) rfl), (List.forall_mem_cons.mpr ⟨ilX7_fault_wsX7_fault_r5 _ (List.mem_of_getElem? (i := 12) rfl), (List.forall_mem_cons.mpr ⟨ilX7_fault_wsX7_fault_r5 _ (List.mem_of_getElem? (i := 13) rfl), (List.forall_mem_cons.mpr ⟨ilX7_fault_wsX7_fault_r5 _ (List.mem_of_getElem? (i := 14) rfl), (List.forall_mem_cons.mpr ⟨ilX7_fault_wsX7_fault_r5 _ (List.mem_of_getElem? (i := 15) rfl), (List.forall_mem_cons.mpr ⟨ilX7_fault_wsX7_fault_r5 _ (List.mem_of_getElem? (i := 16) rfl), (List.forall_mem_cons.mpr ⟨ilX7_fault_wsX7_fault_r5 _ (List.mem_of_getElem? (i := 17) rfl), (List.forall_mem_cons.mpr ⟨ilX7_fault_wsX7_fault_r5 _ (List.mem_of_getElem? (i := 18) rfl), (List.forall_mem_cons.mpr ⟨ilX7_fault_wsX7_fault_r5 _ (List.mem_of_getElem? (i := 19) rfl), (List.forall_mem_cons.mpr ⟨ilX7_fault_wsX7_fault_r5 _ (List.mem_of_getElem? (i := 20) rfl), (List.forall_mem_cons.mpr ⟨ilX7_fault_wsX7_fault_r5 _ (List.mem_of_getElem? (i := 21) rfl), (List.forall_mem_cons.mpr ⟨ilX7_fault_wsX7_fault_r5 _ (List.mem_of_getElem? (i := 22) rfl), (List.forall_mem_cons.mpr ⟨ilX7_fault_wsX7_fault_r5 _ (List.mem_of_getElem? (i := 23) rfl), (List.forall_mem_cons.mpr ⟨ilX7_fault_wsX7_fault_r6 _ (List.mem_of_getElem? (i := 0) rfl), (List.forall_mem_cons.mpr ⟨ilX7_fault_wsX7_fault_r6 _ (List.mem_of_getElem? (i := 1) rfl), (List.forall_mem_cons.mpr ⟨ilX7_fault_wsX7_fault_r6 _ (List.mem_of_getElem? (i := 2) rfl), (List.forall_mem_cons.mpr ⟨ilX7_fault_wsX7_fault_r6 _ (List.mem_of_getElem? (i := 3) rfl), (List.forall_mem_cons.mpr ⟨ilX7_fault_wsX7_fault_r6 _ (List.mem_of_getElem? (i := 4) rfl), (List.forall_mem_cons.mpr ⟨ilX7_fault_wsX7_fault_r6 _ (List.mem_of_getElem? (i := 5) rfl), (fun _ h => absurd h List.not_mem_nil)⟩)⟩)⟩)⟩)⟩)⟩)⟩)⟩)⟩)⟩)⟩)⟩)⟩)⟩)⟩)⟩)⟩)⟩)⟩)⟩)⟩)⟩)⟩)⟩), (List.forall_mem_append.mpr ⟨(List.forall_mem_cons.mpr ⟨ilX7_fault_wsX7_fault_r6 _ (List.mem_of_getElem? (i := 6) rfl), (List.forall_mem_cons.mpr ⟨ilX7_fault_wsX7_fault_r6 _ (List.mem_of_getElem? (i := 7) rfl), (List.forall_mem_cons.mpr ⟨ilX7_fault_wsX7_fault_r6 _ (List.mem_of_getElem? (i := 8) rfl), (List.forall_mem_cons.mpr ⟨ilX7_fault_wsX7_fault_r6 _ (List.mem_of_getElem? (i := 9) rfl), (List.forall_mem_cons.mpr ⟨ilX7_fault_wsX7_fault_r6 _ (List.mem_of_getElem? (i := 10) rfl), (List.forall_mem_cons.mpr ⟨ilX7_fault_wsX7_fault_r6 _ (List.mem_of_getElem? (i := 11) rfl), (List.forall_mem_cons.mpr ⟨ilX7_fault_wsX7_fault_r6 _ (List.mem_of_getElem? (i := 12) rfl), (List.forall_mem_cons.mpr ⟨ilX7_fault_wsX7_fault_r6 _ (List.mem_of_getElem? (i := 13) rfl), (List.forall_mem_cons.mpr ⟨ilX7_fault_wsX7_fault_r6 _ (List.mem_of_getElem? (i := 14) rfl), (List.forall_mem_cons.mpr ⟨ilX7_fault_wsX7_fault_r6 _ (List.mem_of_getElem? (i := 15) rfl), (List.forall_mem_cons.mpr ⟨ilX7_fault_wsX7_fault_r6 _ (List.mem_of_getElem? (i := 16) rfl), (List.forall_mem_cons.mpr ⟨ilX7_fault_wsX7_fault_r6 _ (List.mem_of_getElem? (i := 17) rfl), (List.forall_mem_cons.mpr ⟨ilX7_fault_wsX7_fault_r6 _ (List.mem_of_getElem? (i := 18) rfl), (List.forall_mem_cons.mpr ⟨ilX7_fault_wsX7_fault_r6 _ (List.mem_of_getElem? (i := 19) rfl), (List.forall_mem_cons.mpr ⟨ilX7_fault_wsX7_fault_r6 _ (List.mem_of_getElem? (i := 20) rfl), (List.forall_mem_cons.mpr ⟨ilX7_fault_wsX7_fault_r6 _ (List.mem_of_getElem? (i := 21) rfl), (List.forall_mem_cons.mpr ⟨ilX7_fault_wsX7_fault_r6 _ (List.mem_of_getElem? (i := 22) rfl), (List.forall_mem_cons.mpr ⟨ilX7_fault_wsX7_fault_r6 _ (List.mem_of_getElem? (i := 23) rfl), (List.forall_mem_cons.mpr ⟨ilX7_fault_wsX7_fault_r7 _ (List.mem_of_getElem? (i := 0) rfl), (List.forall_mem_cons.mpr ⟨ilX7_fault_wsX7_fault_r7 _ (List.mem_of_getElem? (i := 1) rfl), (List.forall_mem_cons.mpr ⟨ilX7_fault_wsX7_fault_r7 _ (List.mem_of_getElem? (i := 2) rfl), (List.forall_mem_cons.mpr ⟨ilX7_fault_wsX7_fault_r7 _ (List.mem_of_getElem? (i := 3) rfl), (List.forall_mem_cons.mpr ⟨ilX7_fault_wsX7_fault_r7 _ (List.mem_of_getElem? (i := 4) rfl), (List.forall_mem_cons.mpr ⟨ilX7_fault_wsX7_fault_r7 _ (List.mem_of_getElem? (i := 5) rfl), (fun _ h => absurd h List.not_mem_nil)⟩)⟩)⟩)⟩)⟩)⟩)⟩)⟩)⟩)⟩)⟩)⟩)⟩)⟩)⟩)⟩)⟩)⟩)⟩)⟩)⟩)⟩)⟩)⟩), (List.forall_mem_append.mpr ⟨(List.forall_mem_cons.mpr ⟨ilX7_fault_wsX7_fault_r7 _ (List.mem_of_getElem? (i := 6) rfl), (List.forall_mem_cons.mpr ⟨ilX7_fault_wsX7_fault_r7 _ (List.mem_of_getElem? (i := 7) rfl), (List.forall_mem_cons.mpr ⟨ilX7_fault_wsX7_fault_r7 _ (List.mem_of_getElem? (i := 8) rfl), (List.forall_mem_cons.mpr ⟨ilX7_fault_wsX7_fault_r7 _ (List.mem_of_getElem? (i := 9) rfl), (List.forall_mem_cons.mpr ⟨ilX7_fault_wsX7_fault_r7 _ (List.mem_of_getElem? (i := 10) rfl), (List.forall_mem_cons.mpr ⟨ilX7_fault_wsX7_fault_r7 _ (List.mem_of_getElem? (i := 11) rfl), (List.forall_mem_cons.mpr ⟨ilX7_fault_wsX7_fault_r7 _ (List.mem_of_getElem? (i := 12) rfl), (List.forall_mem_cons.mpr ⟨ilX7_fault_wsX7_fault_r7 _ (List.mem_of_getElem? (i := 13) rfl), (List.forall_mem_cons.mpr ⟨ilX7_fault_wsX7_fault_r7 _ (List.mem_of_getElem? (i := 14) rfl), (List.forall_mem_cons.mpr ⟨ilX7_fault_wsX7_fault_r7 _ (List.mem_of_getElem? (i := 15) rfl), (List.forall_mem_cons.mpr ⟨ilX7_fault_wsX7_fault_r7 _ (List.mem_of_getElem? (i := 16) rfl), (List.forall_mem_cons.mpr ⟨ilX7_fault_wsX7_fault_r7 _ (List.mem_of_getElem? (i := 17) rfl), (List.forall_mem_cons.mpr ⟨ilX7_fault_wsX7_fault_r7 _ (List.mem_of_getElem? (i := 18) rfl), (List.forall_mem_cons.mpr ⟨ilX7_fault_wsX7_fault_r7 _ (List.mem_of_getElem? (i := 19) rfl), (List.forall_mem_cons.mpr ⟨ilX7_fault_wsX7_fault_r7 _ (List.mem_of_getElem? (i := 20) rfl), (List.forall_mem_cons.mpr ⟨ilX7_fault_wsX7_fault_r7 _ (List.mem_of_getElem? (i := 21) rfl), (List.forall_mem_cons.mpr ⟨ilX7_fault_wsX7_fault_r7 _ (List.mem_of_getElem? (i := 22) rfl), (List.forall_mem_cons.mpr ⟨ilX7_fault_wsX7_fault_r7 _ (List.mem_of_getElem? (i := 23) rfl), (List.forall_mem_cons.mpr ⟨ilX7_fault_wsX7_fault_r8 _ (List.mem_of_getElem? (i := 0) rfl), (List.forall_mem_cons.mpr ⟨ilX7_fault_wsX7_fault_r8 _ (List.mem_of_getElem? (i := 1) rfl), (List.forall_mem_cons.mpr ⟨ilX7_fault_wsX7_fault_r8 _ (List.mem_of_getElem? (i := 2) rfl), (List.forall_mem_cons.mpr ⟨ilX7_fault_wsX7_fault_r8 _ (List.mem_of_getElem? (i := 3) rfl), (List.forall_mem_cons.mpr ⟨ilX7_fault_wsX7_fault_r8 _ (List.mem_of_getElem? (i := 4) rfl), (List.forall_mem_cons.mpr ⟨ilX7_fault_wsX7_fault_r8 _ (List.mem_of_getElem? (i := 5) rfl), (fun _ h => absurd h List.not_mem_nil)⟩)⟩)⟩)⟩)⟩)⟩)⟩)⟩)⟩)⟩)⟩)⟩)⟩)⟩)⟩)⟩)⟩)⟩)⟩)⟩)⟩)⟩)⟩)⟩), (List.forall_mem_cons.mpr ⟨ilX7_fault_wsX7_fault_r8 _ (List.mem_of_getElem? (i := 6) rfl), (List.forall_mem_cons.mpr ⟨ilX7_fault_wsX7_fault_r8 _ (List.mem_of_getElem? (i := 7) rfl), (List.forall_mem_cons.mpr ⟨ilX7_fault_wsX7_fault_r8 _ (List.mem_of_getElem? (i := 8) rfl), (List.forall_mem_cons.mpr ⟨ilX7_fault_wsX7_fault_r8 _ (List.mem_of_getElem? (i := 9) rfl), (List.forall_mem_cons.mpr ⟨ilX7_fault_wsX7_fault_r8 _ (List.mem_of_getElem? (i := 10) rfl), (List.forall_mem_cons.mpr ⟨ilX7_fault_wsX7_fault_r8 _ (List.mem_of_getElem? (i := 11) rfl), (List.forall_mem_cons.mpr ⟨ilX7_fault_wsX7_fault_r8 _ (List.mem_of_getElem? (i := 12) rfl), (List.forall_mem_cons.mpr ⟨ilX7_fault_wsX7_fault_r8 _ (List.mem_of_getElem? (i := 13) rfl), (List.forall_mem_cons.mpr ⟨ilX7_fault_wsX7_fault_r8 _ (List.mem_of_getElem? (i := 14) rfl), (List.forall_mem_cons.mpr ⟨ilX7_fault_wsX7_fault_r8 _ (List.mem_of_getElem? (i := 15) rfl), (List.forall_mem_cons.mpr ⟨ilX7_fault_wsX7_fault_r8 _ (List.mem_of_getElem? (i := 16) rfl), (List.forall_mem_cons.mpr ⟨ilX7_fault_wsX7_fault_r8 _ (List.mem_of_getElem? (i := 17) rfl), (List.forall_mem_cons.mpr ⟨ilX7_fault_wsX7_fault_r8 _ (List.mem_of_getElem? (i := 18) rfl), (List.forall_mem_cons.mpr ⟨ilX7_fault_wsX7_fault_r8 _ (List.mem_of_getElem? (i := 19) rfl), (List.forall_mem_cons.mpr ⟨ilX7_fault_wsX7_fault_r8 _ (List.mem_of_getElem? (i := 20) rfl), (List.forall_mem_cons.mpr ⟨ilX7_fault_wsX7_fault_r8 _ (List.mem_of_getElem? (i := 21) rfl), (List.forall_mem_cons.mpr ⟨ilX7_fault_wsX7_fault_r8 _ (List.mem_of_getElem? (i := 22) rfl), (List.forall_mem_cons.mpr ⟨ilX7_fault_wsX7_fault_r8 _ (List.mem_of_getElem? (i := 23) rfl), (List.forall_mem_cons.mpr ⟨ilX7_fault_wsX7_fault_r9 _ (List.mem_of_getElem? (i := 0) rfl), (List.forall_mem_cons.mpr ⟨ilX7_fault_wsX7_fault_r9 _ (List.mem_of_getElem? (i := 1) rfl), (List.forall_mem_cons.mpr ⟨ilX7_fault_wsX7_fault_r9 _ (List.mem_of_getElem? (i := 2) rfl), (List.forall_mem_cons.mpr ⟨ilX7_fault_wsX7_fault_r9 _ (List.mem_of_getElem? (i := 3) rfl), (List.forall_mem_cons.mpr ⟨ilX7_fault_wsX7_fault_r9 _ (List.mem_of_getElem? (i := 4) rfl), (fun _ h => absurd h List.not_mem_nil)⟩)⟩)⟩)⟩)⟩)⟩)⟩)⟩)⟩)⟩)⟩)⟩)⟩)⟩)⟩)⟩)⟩)⟩)⟩)⟩)⟩)⟩)⟩)⟩)⟩)⟩)⟩)⟩)⟩)⟩), ilX7_fault_wsX30⟩), ilX7_fault_wsX10⟩), ilX7_fault_wsX50⟩)⟩) (by decide +kernel)
set_option maxRecDepth 20000 in
theorem gX7_fault_X3_read : GoodIn wsX7_fault (wsV RX7 83 RX3 yX3_read wsX3_read) := goodIn_app (goodIn_sub (List.forall_mem_cons.mpr ⟨ilX7_fault_wsX7_fault_r1 _ (List.mem_of_getElem? (i := 2) rfl), (List.forall_mem_cons.mpr ⟨ilX7_fault_wsX7_fault_r1 _ (List.mem_of_getElem? (i := 3) rfl), (List.forall_mem_cons.mpr ⟨ilX7_fault_wsX7_fault_r1 _ (List.mem_of_getElem? (i := 4) rfl), (List.forall_mem_cons.mpr ⟨ilX7_fault_wsX7_fault_r1 _ (List.mem_of_getElem? (i := 5) rfl), (fun _ h => absurd h List.not_mem_nil)⟩)⟩)⟩)⟩) (by decide +kernel)) ggX7_fault_X3_read
theorem dX7_fault_0 : decode cX7_fault 0 = .ok (.aload_n 0, 1) := by decide +kernel
theorem dX7_fault_1 : decode cX7_fault 1 = .ok (.getfield 67, 3) := by decide +kernel
theorem dX7_fault_4 : decode cX7_fault 4 = .ok (.aload_n 0, 1) := by decide +kernel
theorem dX7_fault_5 : decode cX7_fault 5 = .ok (.getfield 59, 3) := by decide +kernel
theorem dX7_fault_8 : decode cX7_fault 8 = .ok (.invokevirtual 83, 3) := by decide +kernel
theorem dX7_fault_11 : decode cX7_fault 11 = .ok (.ireturn, 1) := by decide +kernel
theorem ilX7_land_wsX7_land_r1 : ∀ w ∈ wsX7_land_r1, w ∈ wsX7_land := fun _ h => List.mem_cons_of_mem _ (List.mem_append_left _ (List.mem_append_left _ (List.mem_append_left _ (List.mem_append_left _ (List.mem_append_left _ (List.mem_append_left _ (List.mem_append_left _ (List.mem_append_left _ (h)))))))))
theorem ilX7_land_wsX7_land_r2 : ∀ w ∈ wsX7_land_r2, w ∈ wsX7_land := fun _ h => List.mem_cons_of_mem _ (List.mem_append_left _ (List.mem_append_left _ (List.mem_append_left _ (List.mem_append_left _ (List.mem_append_left _ (List.mem_append_left _ (List.mem_append_left _ (List.mem_append_right _ (List.mem_append_left _ (h))))))))))
theorem ilX7_land_wsX7_land_r3 : ∀ w ∈ wsX7_land_r3, w ∈ wsX7_land := fun _ h => List.mem_cons_of_mem _ (List.mem_append_left _ (List.mem_append_left _ (List.mem_append_left _ (List.mem_append_left _ (List.mem_append_left _ (List.mem_append_left _ (List.mem_append_left _ (List.mem_append_right _ (List.mem_append_right _ (List.mem_append_left _ (h)))))))))))
theorem ilX7_land_wsX7_land_r4 : ∀ w ∈ wsX7_land_r4, w ∈ wsX7_land := fun _ h => List.mem_cons_of_mem _ (List.mem_append_left _ (List.mem_append_left _ (List.mem_append_left _ (List.mem_append_left _ (List.mem_append_left _ (List.mem_append_left _ (List.mem_append_left _ (List.mem_append_right _ (List.mem_append_right _ (List.mem_append_right _ (List.mem_append_left _ (h))))))))))))
theorem ilX7_land_wsX7_land_r5 : ∀ w ∈ wsX7_land_r5, w ∈ wsX7_land := fun _ h => List.mem_cons_of_mem _ (List.mem_append_left _ (List.mem_append_left _ (List.mem_append_left _ (List.mem_append_left _ (List.mem_append_left _ (List.mem_append_left _ (List.mem_append_left _ (List.mem_append_right _ (List.mem_append_right _ (List.mem_append_right _ (List.mem_append_right _ (List.mem_append_left _ (h)))))))))))))
theorem ilX7_land_wsX7_land_r6 : ∀ w ∈ wsX7_land_r6, w ∈ wsX7_land := fun _ h => List.mem_cons_of_mem _ (List.mem_append_left _ (List.mem_append_left _ (List.mem_append_left _ (List.mem_append_left _ (List.mem_append_left _ (List.mem_append_left _ (List.mem_append_left _ (List.mem_append_right _ (List.mem_append_right _ (List.mem_append_right _ (List.mem_append_right _ (List.mem_append_right _ (List.mem_append_left _ (h))))))))))))))
theorem ilX7_land_wsX7_land_r7 : ∀ w ∈ wsX7_land_r7, w ∈ wsX7_land := fun _ h => List.mem_cons_of_mem _ (List.mem_append_left _ (List.mem_append_left _ (List.mem_append_left _ (List.mem_append_left _ (List.mem_append_left _ (List.mem_append_left _ (List.mem_append_left _ (List.mem_append_right _ (List.mem_append_right _ (List.mem_append_right _ (List.mem_append_right _ (List.mem_append_right _ (List.mem_append_right _ (List.mem_append_left _ (h)))))))))))))))
theorem ilX7_land_wsX7_land_r8 : ∀ w ∈ wsX7_land_r8, w ∈ wsX7_land := fun _ h => List.mem_cons_of_mem _ (List.mem_append_left _ (List.mem_append_left _ (List.mem_append_left _ (List.mem_append_left _ (List.mem_append_left _ (List.mem_append_left _ (List.mem_append_left _ (List.mem_append_right _ (List.mem_append_right _ (List.mem_append_right _ (List.mem_append_right _ (List.mem_append_right _ (List.mem_append_right _ (List.mem_append_right _ (List.mem_append_left _ (h))))))))))))))))
theorem ilX7_land_wsX7_land_r9 : ∀ w ∈ wsX7_land_r9, w ∈ wsX7_land := fun _ h => List.mem_cons_of_mem _ (List.mem_append_left _ (List.mem_append_left _ (List.mem_append_left _ (List.mem_append_left _ (List.mem_append_left _ (List.mem_append_left _ (List.mem_append_left _ (List.mem_append_right _ (List.mem_append_right _ (List.mem_append_right _ (List.mem_append_right _ (List.mem_append_right _ (List.mem_append_right _ (List.mem_append_right _ (List.mem_append_right _ (List.mem_append_left _ (h)))))))))))))))))
theorem ilX7_land_wsX7_land_r10 : ∀ w ∈ wsX7_land_r10, w ∈ wsX7_land := fun _ h => List.mem_cons_of_mem _ (List.mem_append_left _ (List.mem_append_left _ (List.mem_append_left _ (List.mem_append_left _ (List.mem_append_left _ (List.mem_append_left _ (List.mem_append_left _ (List.mem_append_right _ (List.mem_append_right _ (List.mem_append_right _ (List.mem_append_right _ (List.mem_append_right _ (List.mem_append_right _ (List.mem_append_right _ (List.mem_append_right _ (List.mem_append_right _ (h)))))))))))))))))
theorem ilX7_land_wsX70 : ∀ w ∈ wsX70, w ∈ wsX7_land := fun _ h => List.mem_cons_of_mem _ (List.mem_append_left _ (List.mem_append_left _ (List.mem_append_left _ (List.mem_append_left _ (List.mem_append_left _ (List.mem_append_left _ (List.mem_append_right _ (h))))))))
theorem ilX7_land_wsX50 : ∀ w ∈ wsX50, w ∈ wsX7_land := fun _ h => List.mem_cons_of_mem _ (List.mem_append_left _ (List.mem_append_left _ (List.mem_append_left _ (List.mem_append_left _ (List.mem_append_left _ (List.mem_append_right _ (h)))))))
theorem ilX7_land_wsX20 : ∀ w ∈ wsX20, w ∈ wsX7_land := fun _ h => List.mem_cons_of_mem _ (List.mem_append_left _ (List.mem_append_left _ (List.mem_append_left _ (List.mem_append_left _ (List.mem_append_right _ (h))))))
theorem ilX7_land_wsX00 : ∀ w ∈ wsX00, w ∈ wsX7_land := fun _ h => List.mem_cons_of_mem _ (List.mem_append_left _ (List.mem_append_left _ (List.mem_append_left _ (List.mem_append_right _ (h)))))
theorem ilX7_land_wsX10 : ∀ w ∈ wsX10, w ∈ wsX7_land := fun _ h => List.mem_cons_of_mem _ (List.mem_append_left _ (List.mem_append_left _ (List.mem_append_right _ (h))))
theorem ilX7_land_wsX30 : ∀ w ∈ wsX30, w ∈ wsX7_land := fun _ h => List.mem_cons_of_mem _ (List.mem_append_left _ (List.mem_append_right _ (h)))
theorem ilX7_land_wsX40 : ∀ w ∈ wsX40, w ∈ wsX7_land := fun _ h => List.mem_cons_of_mem _ (List.mem_append_right _ (h))
set_option maxRecDepth 20000 in
theorem ggX7_land_X3_read : GoodIn wsX7_land wsX3_read := goodIn_sub (List.forall_mem_cons.mpr ⟨ilX7_land_wsX7_land_r1 _ (List.mem_of_getElem? (i := 17) rfl), (List.forall_mem_append.mpr ⟨(List.forall_mem_append.mpr ⟨(List.forall_mem_append.mpr ⟨(List.forall_mem_append.mpr ⟨(List.forall_mem_cons.mpr ⟨ilX7_land_wsX7_land_r1 _ (List.mem_of_getElem? (i := 18) rfl), (List.forall_mem_cons.mpr ⟨ilX7_land_wsX7_land_r1 _ (List.mem_of_getElem? (i := 19) rfl), (List.forall_mem_cons.mpr ⟨ilX7_land_wsX7_land_r1 _ (List.mem_of_getElem? (i := 20) rfl), (List.forall_mem_cons.mpr ⟨ilX7_land_wsX7_land_r1 _ (List.mem_of_getElem? (i := 21) rfl), (List.forall_mem_cons.mpr ⟨ilX7_land_wsX7_land_r1 _ (List.mem_of_getElem? (i := 22) rfl), (List.forall_mem_cons.mpr ⟨ilX7_land_wsX7_land_r1 _ (List.mem_of_getElem? (i := 23) rfl), (List.forall_mem_cons.mpr ⟨ilX7_land_wsX7_land_r2 _ (List.mem_of_getElem? (i := 0) rfl), (List.forall_mem_cons.mpr ⟨ilX7_land_wsX7_land_r2 _ (List.mem_of_getElem? (i := 1) rfl), (List.forall_mem_cons.mpr ⟨ilX7_land_wsX7_land_r2 _ (List.mem_of_getElem? (i := 2) rfl), (List.forall_mem_cons.mpr ⟨ilX7_land_wsX7_land_r2 _ (List.mem_of_getElem? (i := 3) rfl), (List.forall_mem_cons.mpr ⟨ilX7_land_wsX7_land_r2 _ (List.mem_of_getElem? (i := 4) rfl), (List.forall_mem_cons.mpr ⟨ilX7_land_wsX7_land_r2 _ (List.mem_of_getElem? (i := 5) rfl), (List.forall_mem_cons.mpr ⟨ilX7_land_wsX7_land_r2 _ (List.mem_of_getElem? (i := 6) rfl), (List.forall_mem_cons.mpr ⟨ilX7_land_wsX7_land_r2 _ (List.mem_of_getElem? (i := 7) rfl), (List.forall_mem_cons.mpr ⟨ilX7_land_wsX7_land_r2 _ (List.mem_of_getElem? (i := 8) rfl), (List.forall_mem_cons.mpr ⟨ilX7_land_wsX7_land_r2 _ (List.mem_of_getElem? (i := 9) rfl), (List.forall_mem_cons.mpr ⟨ilX7_land_wsX7_land_r2 _ (List.mem_of_getElem? (i := 10) rfl), (List.forall_mem_cons.mpr ⟨ilX7_land_wsX7_land_r2 _ (List.mem_of_getElem? (i := 11) rfl), (List.forall_mem_cons.mpr ⟨ilX7_land_wsX7_land_r2 _ (List.mem_of_getElem? (i := 12) rfl), (List.forall_mem_cons.mpr ⟨ilX7_land_wsX7_land_r2 _ (List.mem_of_getElem? (i := 13) rfl), (List.forall_mem_cons.mpr ⟨ilX7_land_wsX7_land_r2 _ (List.mem_of_getElem? (i := 14) rfl), (List.forall_mem_cons.mpr ⟨ilX7_land_wsX7_land_r2 _ (List.mem_of_getElem? (i := 15) rfl), (List.forall_mem_cons.mpr ⟨ilX7_land_wsX7_land_r2 _ (List.mem_of_getElem? (i := 16) rfl), (List.forall_mem_cons.mpr ⟨ilX7_land_wsX7_land_r2 _ (List.mem_of_getElem? (i := 17) rfl), (fun _ h => absurd h List.not_mem_nil)⟩)⟩)⟩)⟩)⟩)⟩)⟩)⟩)⟩)⟩)⟩)⟩)⟩)⟩)⟩)⟩)⟩)⟩)⟩)⟩)⟩)⟩)⟩)⟩), (List.forall_mem_append.mpr ⟨(List.forall_mem_cons.mpr ⟨ilX7_land_wsX7_land_r2 _ (List.mem_of_getElem? (i := 18) rfl), (List.forall_mem_cons.mpr ⟨ilX7_land_wsX7_land_r2 _ (List.mem_of_getElem? (i := 19) rfl), (List.forall_mem_cons.mpr ⟨ilX7_land_wsX7_land_r1 _ (List.mem_of_getElem? (i := 16) rfl), (List.forall_mem_cons.mpr ⟨ilX7_land_wsX7_land_r2 _ (List.mem_of_getElem? (i := 20) rfl), (List.forall_mem_cons.mpr ⟨ilX7_land_wsX7_land_r2 _ (List.mem_of_getElem? (i := 21) rfl), (List.forall_mem_cons.mpr ⟨ilX7_land_wsX7_land_r2 _ (List.mem_of_getElem? (i := 22) rfl), (List.forall_mem_cons.mpr ⟨ilX7_land_wsX7_land_r2 _ (List.mem_of_getElem? (i := 23) rfl), (List.forall_mem_cons.mpr ⟨ilX7_land_wsX7_land_r3 _ (List.mem_of_getElem? (i := 0) rfl), (List.forall_mem_cons.mpr ⟨ilX7_land_wsX7_land_r3 _ (List.mem_of_getElem? (i := 1) rfl), (List.forall_mem_cons.mpr ⟨ilX7_land_wsX7_land_r3 _ (List.mem_of_getElem? (i := 2) rfl), (List.forall_mem_cons.mpr ⟨ilX7_land_wsX7_land_r3 _ (List.mem_of_getElem? (i := 3) rfl), (List.forall_mem_cons.mpr ⟨ilX7_land_wsX7_land_r3 _ (List.mem_of_getElem? (i := 4) rfl), (List.forall_mem_cons.mpr ⟨ilX7_land_wsX7_land_r3 _ (List.mem_of_getElem? (i := 5) rfl), (List.forall_mem_cons.mpr ⟨ilX7_land_wsX7_land_r3 _ (List.mem_of_getElem? (i := 6) rfl), (List.forall_mem_cons.mpr ⟨ilX7_land_wsX7_land_r3 _ (List.mem_of_getElem? (i := 7) rfl), (List.forall_mem_cons.mpr ⟨ilX7_land_wsX7_land_r3 _ (List.mem_of_getElem? (i := 8) rfl), (List.forall_mem_cons.mpr ⟨ilX7_land_wsX7_land_r3 _ (List.mem_of_getElem? (i := 9) rfl), (List.forall_mem_cons.mpr ⟨ilX7_land_wsX7_land_r3 _ (List.mem_of_getElem? (i := 10) rfl), (List.forall_mem_cons.mpr ⟨ilX7_land_wsX7_land_r3 _ (List.mem_of_getElem? (i := 11) rfl), (List.forall_mem_cons.mpr ⟨ilX7_land_wsX7_land_r3 _ (List.mem_of_getElem? (i := 12) rfl), (List.forall_mem_cons.mpr ⟨ilX7_land_wsX7_land_r3 _ (List.mem_of_getElem? (i := 13) rfl), (List.forall_mem_cons.mpr ⟨ilX7_land_wsX7_land_r3 _ (List.mem_of_getElem? (i := 14) rfl), (List.forall_mem_cons.mpr ⟨ilX7_land_wsX7_land_r3 _ (List.mem_of_getElem? (i := 15) rfl), (List.forall_mem_cons.mpr ⟨ilX7_land_wsX7_land_r3 _ (List.mem_of_getElem? (i := 16) rfl), (fun _ h => absurd h List.not_mem_nil)⟩)⟩)⟩)⟩)⟩)⟩)⟩)⟩)⟩)⟩)⟩)⟩)⟩)⟩)⟩)⟩)⟩)⟩)⟩)⟩)⟩)⟩)⟩)⟩), (List.forall_mem_append.mpr ⟨(List.forall_mem_cons.mpr ⟨ilX7_land_wsX7_land_r3 _ (List.mem_of_getElem? (i := 17) rfl), (List.forall_mem_cons.mpr ⟨ilX7_land_wsX7_land_r3 _ (List.mem_of_getElem? (i := 18) rfl), (List.forall_mem_cons.mpr ⟨ilX7_land_wsX7_land_r3 _ (List.mem_of_getElem? (i := 19) rfl), (List.forall_mem_cons.mpr ⟨ilX7_land_wsX7_land_r3 _ (List.mem_of_getElem? (i := 20) rfl), (List.forall_mem_cons.mpr ⟨ilX7_land_wsX7_land_r3 _ (List.mem_of_getElem? (i := 21) rfl), (List.forall_mem_cons.mpr ⟨ilX7_land_wsX7_land_r3 _ (List.mem_of_getElem? (i := 22) rfl), (List.forall_mem_cons.mpr ⟨ilX7_land_wsX7_land_r3 _ (List.mem_of_getElem? (i := 23) rfl), (List.forall_mem_cons.mpr ⟨ilX7_land_wsX7_land_r4 _ (List.mem_of_getElem? (i := 0) rfl), (List.forall_mem_cons.mpr ⟨ilX7_land_wsX7_land_r4 _ (List.mem_of_getElem? (i := 1) rfl), (List.forall_mem_cons.mpr ⟨ilX7_land_wsX7_land_r4 _ (List.mem_of_getElem? (i := 2) rfl), (List.forall_mem_cons.mpr ⟨ilX7_land_wsX7_land_r4 _ (List.mem_of_getElem? (i := 3) rfl), (List.forall_mem_cons.mpr ⟨ilX7_land_wsX7_land_r4 _ (List.mem_of_getElem? (i := 4) rfl), (List.forall_mem_cons.mpr ⟨ilX7_land_wsX7_land_r4 _ (List.mem_of_getElem? (i := 5) rfl), (List.forall_mem_cons.mpr ⟨ilX7_land_wsX7_land_r4 _ (List.mem_of_getElem? (i := 6) rfl), (List.forall_mem_cons.mpr ⟨ilX7_land_wsX7_land_r4 _ (List.mem_of_getElem? (i := 7) rfl), (List.forall_mem_cons.mpr ⟨ilX7_land_wsX7_land_r4 _ (List.mem_of_getElem? (i := 8) rfl), (List.forall_mem_cons.mpr ⟨ilX7_land_wsX7_land_r4 _ (List.mem_of_getElem? (i := 9) rfl), (List.forall_mem_cons.mpr ⟨ilX7_land_wsX7_land_r4 _ (List.mem_of_getElem? (i := 10) rfl), (List.forall_mem_cons.mpr ⟨ilX7_land_wsX7_land_r4 _ (List.mem_of_getElem? (i := 11) rfl), (List.forall_mem_cons.mpr ⟨ilX7_land_wsX7_land_r4 _ (List.mem_of_getElem? (i := 12) rfl), (List.forall_mem_cons.mpr ⟨ilX7_land_wsX7_land_r4 _ (List.mem_of_getElem? (i := 13) rfl), (List.forall_mem_cons.mpr ⟨ilX7_land_wsX7_land_r4 _ (List.mem_of_getElem? (i := 14) rfl), (List.forall_mem_cons.mpr ⟨ilX7_land_wsX7_land_r4 _ (List.mem_of_getElem? (i := 15) rfl), (List.forall_mem_cons.mpr ⟨ilX7_land_wsX7_land_r4 _ (List.mem_of_getElem? (i := 16) rfl), (fun _ h => absurd h List.not_mem_nil)⟩)⟩)⟩)⟩)⟩)⟩)⟩)⟩)⟩)⟩)⟩)⟩)⟩)⟩)⟩)⟩)⟩)⟩)⟩)⟩)⟩)⟩)⟩)⟩), (List.forall_mem_append.mpr ⟨(List.forall_mem_cons.mpr ⟨ilX7_land_wsX7_land_r4 _ (List.mem_of_getElem? (i := 17) rfl), (List.forall_mem_cons.mpr ⟨ilX7_land_wsX7_land_r4 _ (List.mem_of_getElem? (i := 18) rfl), (List.forall_mem_cons.mpr ⟨ilX7_land_wsX7_land_r4 _ (List.mem_of_getElem? (i := 19) rfl), (List.forall_mem_cons.mpr ⟨ilX7_land_wsX7_land_r4 _ (List.mem_of_getElem? (i := 20) rfl), (List.forall_mem_cons.mpr ⟨ilX7_land_wsX7_land_r4 _ (List.mem_of_getElem? (i := 21) rfl), (List.forall_mem_cons.mpr ⟨ilX7_land_wsX7_land_r4 _ (List.mem_of_getElem? (i := 22) rfl), (List.forall_mem_cons.mpr ⟨ilX7_land_wsX7_land_r4 _ (List.mem_of_getElem? (i := 23) rfl), (List.forall_mem_cons.mpr ⟨ilX7_land_wsX7_land_r5 _ (List.mem_of_getElem? (i := 0) rfl), (List.forall_mem_cons.mpr ⟨ilX7_land_wsX7_land_r5 _ (List.mem_of_getElem? (i := 1) rfl), (List.forall_mem_cons.mpr ⟨ilX7_land_wsX7_land_r5 _ (List.mem_of_getElem? (i := 2) rfl), (List.forall_mem_cons.mpr ⟨ilX7_land_wsX7_land_r5 _ (List.mem_of_getElem? (i := 3) rfl), (List.forall_mem_cons.mpr ⟨ilX7_land_wsX7_land_r5 _ (List.mem_of_getElem? (i := 4) rfl), (List.forall_mem_cons.mpr ⟨ilX7_land_wsX7_land_r5 _ (List.mem_of_getElem? (i := 5) rfl), (List.forall_mem_cons.mpr ⟨ilX7_land_wsX7_land_r5 _ (List.mem_of_getElem? (i := 6) rfl), (List.forall_mem_cons.mpr ⟨ilX7_land_wsX7_land_r5 _ (List.mem_of_getElem? (i := 7) rfl), (List.forall_mem_cons.mpr ⟨ilX7_land_wsX7_land_r5 _ (List.mem_of_getElem? (i := 8) rfl), (List.forall_mem_cons.mpr ⟨ilX7_land_wsX7_land_r5 _ (List.mem_of_getElem? (i := 9) rfl), (List.forall_mem_cons.mpr ⟨ilX7_land_wsX7_land_r5 _ (List.mem_of_getElem? (i := 10) rfl), (List.forall_mem_cons.mpr ⟨ilX7_land_wsX7_land_r5 _ (List.mem_of_getElem? (i := 11) rfl), (List.forall_mem_cons.mpr ⟨ilX7_land_wsX7_land_r5 _ (List.mem_of_getElem? (i := 12) rfl), (List.forall_mem_cons.mpr ⟨ilX7_land_wsX7_land_r5 _ (List.mem_of_getElem? (i := 13) rfl), (List.forall_mem_cons.mpr ⟨ilX7_land_wsX7_land_r5 _ (List.mem_of_getElem? (i := 14) rfl), (List.forall_mem_cons.mpr ⟨ilX7_land_wsX7_land_r5 _ (List.mem_of_getElem? (i := 15) rfl), (List.forall_mem_cons.mpr ⟨ilX7_land_wsX7_land_r5 _ (List.mem_of_getElem? (i := 16) rfl), (fun _ h => absurd h List.not_mem_nil)⟩)⟩)⟩)⟩)⟩)⟩)⟩)⟩)⟩)⟩)⟩)⟩)⟩)⟩)⟩)⟩)⟩)⟩)⟩)⟩)⟩)⟩)⟩)⟩), (List.forall_mem_append.mpr ⟨(List.forall_mem_cons.mpr ⟨ilX7_land_wsX7_land_r5 _ (List.mem_of_getElem? (i := 17) rfl), (List.forall_mem_cons.mpr ⟨ilX7_land_wsX7_land_r5 _ (List.mem_of_getElem? (i := 18) rfl), (List.forall_mem_cons.mpr ⟨ilX7_land_wsX7_land_r5 _ (List.mem_of_getElem? (i := 19) rfl), (List.forall_mem_cons.mpr ⟨ilX7_land_wsX7_land_r5 _ (List.mem_of_getElem? (i := 20) rfl), (List.forall_mem_cons.mpr ⟨ilX7_land_wsX7_land_r5 _ (List.mem_of_getElem? (i := 21) rfl), (List.forall_mem_cons.mpr ⟨ilX7_land_wsX7_land_r5 _ (List.mem_of_getElem? (i := 22) rfl), (List.forall_mem_cons.mpr ⟨ilX7_land_wsX7_land_r5 _ (List.mem_of_getElem? (i := 23) rfl), (List.forall_mem_cons.mpr ⟨ilX7_land_wsX7_land_r6 _ (List.mem_of_getElem? (i := 0) rfl), (List.forall_mem_cons.mpr ⟨ilX7_land_wsX7_land_r6 _ (List.mem_of_getElem? (i := 1) rfl), (List.forall_mem_cons.mpr ⟨ilX7_land_wsX7_land_r6 _ (List.mem_of_getElem? (i := 2) rfl), (List.forall_mem_cons.mpr ⟨ilX7_land_wsX7_land_r6 _ (List.mem_of_getElem? (i := 3) rfl), (List.forall_mem_cons.mpr ⟨ilX7_land_wsX7_land_r6 _ (List.mem_of_getElem? (i := 4) rfl), (List.forall_mem_cons.mpr ⟨ilX7_land_wsX7_land_r6 _ (List.mem_of_getElem? (i := 5) rfl), (List.forall_mem_cons.mpr ⟨ilX7_land_wsX7_land_r6 _ (List.mem_of_getElem? (i := 6) rfl), (List.forall_mem_cons.mpr ⟨ilX7_land_wsX7_land_r6 _ (List.mem_of_getElem? (i := 7) rfl), (List.forall_mem_cons.mpr ⟨ilX7_land_wsX7_land_r6 _ (List.mem_of_getElem? (i := 8) rfl), (List.forall_mem_cons.mpr ⟨ilX7_land_wsX7_land_r6 _ (List.mem_of_getElem? (i := 9) rfl), (List.forall_mem_cons.mpr ⟨ilX7_land_wsX7_land_r6 _ (List.mem_of_getElem? (i := 10) rfl), (List.forall_mem_cons.mpr ⟨ilX7_land_wsX7_land_r6 _ (List.mem_of_getElem? (i := 11) rfl), (List.forall_mem_cons.mpr ⟨ilX7_land_wsX7_land_r6 _ (List.mem_of_getElem? (i := 12) rfl), (List.forall_mem_cons.mpr ⟨ilX7_land_wsX7_land_r6 _ (List.mem_of_getElem? (i := 13) rfl), (List.forall_mem_cons.mpr ⟨ilX7_land_wsX7_land_r6 _ (List.mem_of_getElem? (i := 14) rfl), (List.forall_mem_cons.mpr ⟨ilX7_land_wsX7_land_r6 _ (List.mem_of_getElem? (i := 15) rfl), (List.forall_mem_cons.mpr ⟨ilX7_land_wsX7_land_r6 _ (List.mem_of_getElem? (i := 16) rfl), (fun _ h => absurd h List.not_mem_nil)⟩)⟩)⟩)⟩)⟩)⟩)⟩)⟩)⟩)⟩)⟩)⟩)⟩)⟩)⟩)⟩)⟩)⟩)⟩)⟩)⟩)⟩)⟩)⟩), (List.forall_mem_append.mpr ⟨(List.forall_mem_cons.mpr ⟨ilX7_land_wsX7_land_r6 _ (List.mem_of_getElem? (i := 17) rfl), (List.forall_mem_cons.mpr ⟨ilX7_land_wsX7_land_r6 _ (List.mem_of_getElem? (i := 18) rfl), (List.forall_mem_cons.mpr ⟨ilX7_land_wsX7_land_r6 _ (List.mem_of_getElem? (i := 19) rfl), (List.forall_mem_cons.mpr ⟨ilX7_land_wsX7_land_r6 _ (List.mem_of_getElem? (i := 20) rfl), (List.forall_mem_cons.mpr ⟨ilX7_land_wsX7_land_r6 _ (List.mem_of_getElem? (i := 21) rfl), (List.forall_mem_cons.mpr ⟨ilX7_land_wsX7_land_r6 _ (List.mem_of_getElem? (i := 22) rfl), (List.forall_mem_cons.mpr ⟨ilX7_land_wsX7_land_r6 _ (List.mem_of_getElem? (i := 23) rfl), (List.forall_mem_cons.mpr ⟨ilX7_land_wsX7_land_r7 _ (List.mem_of_getElem? (i := 0) rfl), (List.forall_mem_cons.mpr ⟨ilX7_land_wsX7_land_r7 _ (List.mem_of_getElem? (i := 1) rfl), (List.forall_mem_cons.mpr ⟨ilX7_land_wsX7_land_r7 _ (List.mem_of_getElem? (i := 2) rfl), (List.forall_mem_cons.mpr ⟨ilX7_land_wsX7_land_r7 _ (List.mem_of_getElem? (i := 3) rfl), (List.forall_mem_cons.mpr ⟨ilX7_land_wsX7_land_r7 _ (List.mem_of_getElem? (i := 4) rfl), (List.forall_mem_cons.mpr ⟨ilX7_land_wsX7_land_r7 _ (List.mem_of_getElem? (i := 5) rfl), (List.forall_mem_cons.mpr ⟨ilX7_land_wsX7_land_r7 _ (List.mem_of_getElem? (i := 6) rfl), (List.forall_mem_cons.mpr ⟨ilX7_land_wsX7_land_r7 _ (List.mem_of_getElem? (i := 7) rfl), (List.forall_mem_cons.mpr ⟨ilX7_land_wsX7_land_r7 _ (List.mem_of_getElem? (i := 8) rfl), (List.forall_mem_cons.mpr ⟨ilX7_land_wsX7_land_r7 _ (List.mem_of_getElem? (i := 9) rfl), (List.forall_mem_cons.mpr ⟨ilX7_land_wsX7_land_r7 _ (List.mem_of_getElem? (i := 10) rfl), (List.forall_mem_cons.mpr ⟨ilX7_land_wsX7_land_r7 _ (List.mem_of_getElem? (i := 11) rfl), (List.forall_mem_cons.mpr ⟨ilX7_land_wsX7_land_r7 _ (List.mem_of_getElem? (i := 12) rfl), (List.forall_mem_cons.mpr ⟨ilX7_land_wsX7_land_r7 _ (List.mem_of_getElem? (i := 13) rfl), (List.forall_mem_cons.mpr ⟨ilX7_land_wsX7_land_r7 _ (List.mem_of_getElem? (i := 14) rfl), (List.forall_mem_cons.mpr ⟨ilX7_land_wsX7_land_r7 _ (List.mem_of_getElem? (i := 15) rfl), (List.forall_mem_cons.mpr ⟨ilX7_land_wsX7_land_r7 _ (List.mem_of_getElem? (i := 16) rfl), (fun _ h => absurd h List.not_mem_nil)⟩)⟩)⟩)⟩)⟩)⟩)⟩)⟩)⟩)⟩)⟩)⟩)⟩)⟩)⟩)⟩)⟩)⟩)⟩)⟩)⟩)⟩)⟩)⟩), (List.forall_mem_append.mpr ⟨(List.forall_mem_cons.mpr ⟨ilX7_land_wsX7_land_r7 _ (List.mem_of_getElem? (i := 17) rfl), (List.forall_mem_cons.mpr ⟨ilX7_land_wsX7_land_r7 _ (List.mem_of_getElem? (i := 18) rfl), (List.forall_mem_cons.mpr ⟨ilX7_land_wsX7_land_r7 _ (List.mem_of_getElem? (i := 19) rfl), (List.forall_mem_cons.mpr ⟨ilX7_land_wsX7_land_r7 _ (List.mem_of_getElem? (i := 20) rfl), (List.forall_mem_cons.mpr ⟨ilX7_land_wsX7_land_r7 _ (List.mem_of_getElem? (i := 21) rfl), (List.forall_mem_cons.mpr ⟨ilX7_land_wsX7_land_r7 _ (List.mem_of_getElem? (i := 22) rfl), (List.forall_mem_cons.mpr ⟨ilX7_land_wsX7_land_r7 _ (List.mem_of_getElem? (i := 23) rfl), (List.forall_mem_cons.mpr ⟨ilX7_land_wsX7_land_r8 _ (List.mem_of_getElem? (i := 0) rfl), (List.forall_mem_cons.mpr ⟨ilX7_land_wsX7_land_r8 _ (List.mem_of_getElem? (i := 1) rfl), (List.forall_mem_cons.mpr ⟨ilX7_land_wsX7_land_r8 _ (List.mem_of_getElem? (i := 2) rfl), (List.forall_mem_cons.mpr ⟨ilX7_land_wsX7_land_r8 _ (List.mem_of_getElem? (i := 3) rfl), (List.forall_mem_cons.mpr ⟨ilX7_land_wsX7_land_r8 _ (List.mem_of_getElem? (i := 4) rfl), (List.forall_mem_cons.mpr ⟨ilX7_land_wsX7_land_r8 _ (List.mem_of_getElem? (i := 5) rfl), (List.forall_mem_cons.mpr ⟨ilX7_land_wsX7_land_r8 _ (List.mem_of_getElem? (i := 6) rfl), (List.forall_mem_cons.mpr ⟨ilX7_land_wsX7_land_r8 _ (List.mem_of_getElem? (i := 7) rfl), (List.forall_mem_cons.mpr ⟨ilX7_land_wsX7_land_r8 _ (List.mem_of_getElem? (i := 8) rfl), (List.forall_mem_cons.mpr ⟨ilX7_land_wsX7_land_r8 _ (List.mem_of_getElem? (i := 9) rfl), (List.forall_mem_cons.mpr ⟨ilX7_land_wsX7_land_r8 _ (List.mem_of_getElem? (i := 10) rfl), (List.forall_mem_cons.mpr ⟨ilX7_land_wsX7_land_r8 _ (List.mem_of_getElem? (i := 11) rfl), (List.forall_mem_cons.mpr ⟨ilX7_land_wsX7_land_r8 _ (List.mem_of_getElem? (i := 12) rfl), (List.forall_mem_cons.mpr ⟨ilX7_land_wsX7_land_r8 _ (List.mem_of_getElem? (i := 13) rfl), (List.forall_mem_cons.mpr ⟨ilX7_land_wsX7_land_r8 _ (List.mem_of_getElem? (i := 14) rfl), (List.forall_mem_cons.mpr ⟨ilX7_land_wsX7_land_r8 _ (List.mem_of_getElem? (i := 15) rfl), (List.forall_mem_cons.mpr ⟨ilX7_land_wsX7_land_r8 _ (List.mem_of_getElem? (i := 16) rfl), (fun _ h => absurd h List.not_mem_nil)⟩)⟩)⟩)⟩)⟩)⟩)⟩)⟩)⟩)⟩)⟩)⟩)⟩)⟩)⟩)⟩)⟩)⟩)⟩)⟩)⟩)⟩)⟩)⟩), (List.forall_mem_cons.mpr ⟨ilX7_land_wsX7_land_r8 _ (List.mem_of_getElem? (i := 17) rfl), (List.forall_mem_cons.mpr ⟨ilX7_land_wsX7_land_r8 _ (List.mem_of_getElem? (i := 18) rfl), (List.forall_mem_cons.mpr ⟨ilX7_land_wsX7_land_r8 _ (List.mem_of_getElem? (i := 19) rfl), (List.forall_mem_cons.mpr ⟨ilX7_land_wsX7_land_r8 _ (List.mem_of_getElem? (i := 20) rfl), (List.forall_mem_cons.mpr ⟨ilX7_land_wsX7_land_r8 _ (List.mem_of_getElem? (i := 21) rfl), (List.forall_mem_cons.mpr ⟨ilX7_land_wsX7_land_r8 _ (List.mem_of_getElem? (i := 22) rfl), (List.forall_mem_cons.mpr ⟨ilX7_land_wsX7_land_r8 _ (List.mem_of_getElem? (i := 23) rfl), (List.forall_mem_cons.mpr ⟨ilX7_land_wsX7_land_r9 _ (List.mem_of_getElem? (i := 0) rfl), (List.forall_mem_cons.mpr ⟨ilX7_land_wsX7_land_r9 _ (List.mem_of_getElem? (i := 1) rfl), (List.forall_mem_cons.mpr ⟨ilX7_land_wsX7_land_r9 _ (List.mem_of_getElem? (i := 2) rfl), (List.forall_mem_cons.mpr ⟨ilX7_land_wsX7_land_r9 _ (List.mem_of_getElem? (i := 3) rfl), (List.forall_mem_cons.mpr ⟨ilX7_land_wsX7_land_r9 _ (List.mem_of_getElem? (i := 4) rfl), (List.forall_mem_cons.mpr ⟨ilX7_land_wsX7_land_r9 _ (List.mem_of_getElem? (i := 5) rfl), (List.forall_mem_cons.mpr ⟨ilX7_land_wsX7_land_r9 _ (List.mem_of_getElem? (i := 6) rfl), (List.forall_mem_cons.mpr ⟨ilX7_land_wsX7_land_r9 _ (List.mem_of_getElem? (i := 7) rfl), (List.forall_mem_cons.mpr ⟨ilX7_land_wsX7_land_r9 _ (List.mem_of_getElem? (i := 8) rfl), (List.forall_mem_cons.mpr ⟨ilX7_land_wsX7_land_r9 _ (List.mem_of_getElem? (i := 9) rfl), (List.forall_mem_cons.mpr ⟨ilX7_land_wsX7_land_r9 _ (List.mem_of_getElem? (i := 10) rfl), (List.forall_mem_cons.mpr ⟨ilX7_land_wsX7_land_r9 _ (List.mem_of_getElem? (i := 11) rfl), (List.forall_mem_cons.mpr ⟨ilX7_land_wsX7_land_r9 _ (List.mem_of_getElem? (i := 12) rfl), (List.forall_mem_cons.mpr ⟨ilX7_land_wsX7_land_r9 _ (List.mem_of_getElem? (i := 13) rfl), (List.forall_mem_cons.mpr ⟨ilX7_land_wsX7_land_r9 _ (List.mem_of_getElem? (i := 14) rfl), (List.forall_mem_cons.mpr ⟨ilX7_land_wsX7_land_r9 _ (List.mem_of_getElem? (i := 15) rfl), (fun _ h => absurd h List.not_mem_nil)⟩)⟩)⟩)⟩)⟩)⟩)⟩)⟩)⟩)⟩)⟩)⟩)⟩)⟩)⟩)⟩)⟩)⟩)⟩)⟩)⟩)⟩)⟩)⟩)⟩)⟩)⟩)⟩)⟩)⟩), ilX7_land_wsX30⟩), ilX7_land_wsX10⟩), ilX7_land_wsX50⟩)⟩) (by decide +kernel)
set_option maxRecDepth 20000 in
theorem gX7_land_X3_read : GoodIn wsX7_land (wsV RX7 83 RX3 yX3_read wsX3_read) := goodIn_app (goodIn_sub (List.forall_mem_cons.mpr ⟨ilX7_land_wsX7_land_r1 _ (List.mem_of_getElem? (i := 13) rfl), (List.forall_mem_cons.mpr ⟨ilX7_land_wsX7_land_r1 _ (List.mem_of_getElem? (i := 14) rfl), (List.forall_mem_cons.mpr ⟨ilX7_land_wsX7_land_r1 _ (List.mem_of_getElem? (i := 15) rfl), (List.forall_mem_cons.mpr ⟨ilX7_land_wsX7_land_r1 _ (List.mem_of_getElem? (i := 16) rfl), (fun _ h => absurd h List.not_mem_nil)⟩)⟩)⟩)⟩) (by decide +kernel)) ggX7_land_X3_read
set_option maxRecDepth 20000 in
theorem ggX7_land_X2_begin : GoodIn wsX7_land wsX2_begin := goodIn_sub (List.forall_mem_cons.mpr ⟨ilX7_land_wsX7_land_r9 _ (List.mem_of_getElem? (i := 20) rfl), (List.forall_mem_append.mpr ⟨(List.forall_mem_append.mpr ⟨(List.forall_mem_cons.mpr ⟨ilX7_land_wsX7_land_r9 _ (List.mem_of_getElem? (i := 21) rfl), (List.forall_mem_cons.mpr ⟨ilX7_land_wsX7_land_r9 _ (List.mem_of_getElem? (i := 22) rfl), (List.forall_mem_cons.mpr ⟨ilX7_land_wsX7_land_r9 _ (List.mem_of_getElem? (i := 23) rfl), (List.forall_mem_cons.mpr ⟨ilX7_land_wsX7_land_r10 _ (List.mem_of_getElem? (i := 0) rfl), (List.forall_mem_cons.mpr ⟨ilX7_land_wsX7_land_r10 _ (List.mem_of_getElem? (i := 1) rfl), (List.forall_mem_cons.mpr ⟨ilX7_land_wsX7_land_r10 _ (List.mem_of_getElem? (i := 2) rfl), (List.forall_mem_cons.mpr ⟨ilX7_land_wsX7_land_r10 _ (List.mem_of_getElem? (i := 3) rfl), (List.forall_mem_cons.mpr ⟨ilX7_land_wsX7_land_r10 _ (List.mem_of_getElem? (i := 4) rfl), (List.forall_mem_cons.mpr ⟨ilX7_land_wsX7_land_r10 _ (List.mem_of_getElem? (i := 5) rfl), (List.forall_mem_cons.mpr ⟨ilX7_land_wsX7_land_r10 _ (List.mem_of_getElem? (i := 6) rfl), (List.forall_mem_cons.mpr ⟨ilX7_land_wsX7_land_r10 _ (List.mem_of_getElem? (i := 7) rfl), (fun _ h => absurd h List.not_mem_nil)⟩)⟩)⟩)⟩)⟩)⟩)⟩)⟩)⟩)⟩)⟩), ilX7_land_wsX20⟩), ilX7_land_wsX10⟩)⟩) (by decide +kernel)
set_option maxRecDepth 20000 in
theorem gX7_land_X2_begin : GoodIn wsX7_land (wsV RX7 87 RX2 yX2_begin wsX2_begin) := goodIn_app (goodIn_sub (List.forall_mem_cons.mpr ⟨ilX7_land_wsX7_land_r9 _ (List.mem_of_getElem? (i := 16) rfl), (List.forall_mem_cons.mpr ⟨ilX7_land_wsX7_land_r9 _ (List.mem_of_getElem? (i := 17) rfl), (List.forall_mem_cons.mpr ⟨ilX7_land_wsX7_land_r9 _ (List.mem_of_getElem? (i := 18) rfl), (List.forall_mem_cons.mpr ⟨ilX7_land_wsX7_land_r9 _ (List.mem_of_getElem? (i := 19) rfl), (fun _ h => absurd h List.not_mem_nil)⟩)⟩)⟩)⟩) (by decide +kernel)) ggX7_land_X2_begin
set_option maxRecDepth 20000 in
theorem ggX7_land_X4_forgetBest : GoodIn wsX7_land wsX4_forgetBest := goodIn_sub (List.forall_mem_cons.mpr ⟨ilX7_land_wsX7_land_r10 _ (List.mem_of_getElem? (i := 12) rfl), (List.forall_mem_append.mpr ⟨(List.forall_mem_cons.mpr ⟨ilX7_land_wsX7_land_r10 _ (List.mem_of_getElem? (i := 13) rfl), (fun _ h => absurd h List.not_mem_nil)⟩), ilX7_land_wsX40⟩)⟩) (by decide +kernel)
set_option maxRecDepth 20000 in
theorem gX7_land_X4_forgetBest : GoodIn wsX7_land (wsV RX7 97 RX4 yX4_forgetBest wsX4_forgetBest) := goodIn_app (goodIn_sub (List.forall_mem_cons.mpr ⟨ilX7_land_wsX7_land_r10 _ (List.mem_of_getElem? (i := 8) rfl), (List.forall_mem_cons.mpr ⟨ilX7_land_wsX7_land_r10 _ (List.mem_of_getElem? (i := 9) rfl), (List.forall_mem_cons.mpr ⟨ilX7_land_wsX7_land_r10 _ (List.mem_of_getElem? (i := 10) rfl), (List.forall_mem_cons.mpr ⟨ilX7_land_wsX7_land_r10 _ (List.mem_of_getElem? (i := 11) rfl), (fun _ h => absurd h List.not_mem_nil)⟩)⟩)⟩)⟩) (by decide +kernel)) ggX7_land_X4_forgetBest
theorem dX7_land_0 : decode cX7_land 0 = .ok (.aload_n 0, 1) := by decide +kernel
theorem dX7_land_1 : decode cX7_land 1 = .ok (.getfield 67, 3) := by decide +kernel
theorem dX7_land_4 : decode cX7_land 4 = .ok (.aload_n 0, 1) := by decide +kernel
theorem dX7_land_5 : decode cX7_land 5 = .ok (.getfield 59, 3) := by decide +kernel
theorem dX7_land_8 : decode cX7_land 8 = .ok (.invokevirtual 83, 3) := by decide +kernel
theorem dX7_land_11 : decode cX7_land 11 = .ok (.iconst (-1), 1) := by decide +kernel
theorem dX7_land_12 : decode cX7_land 12 = .ok (.if_icmp .eq 5, 3) := by decide +kernel
theorem dX7_land_15 : decode cX7_land 15 = .ok (.iconst (-1), 1) := by decide +kernel
theorem dX7_land_16 : decode cX7_land 16 = .ok (.ireturn, 1) := by decide +kernel
theorem dX7_land_17 : decode cX7_land 17 = .ok (.aload_n 0, 1) := by decide +kernel
theorem dX7_land_18 : decode cX7_land 18 = .ok (.getfield 55, 3) := by decide +kernel
theorem dX7_land_21 : decode cX7_land 21 = .ok (.astore_n 1, 1) := by decide +kernel
theorem dX7_land_22 : decode cX7_land 22 = .ok (.aload_n 0, 1) := by decide +kernel
theorem dX7_land_23 : decode cX7_land 23 = .ok (.aload_n 0, 1) := by decide +kernel
theorem dX7_land_24 : decode cX7_land 24 = .ok (.getfield 59, 3) := by decide +kernel
theorem dX7_land_27 : decode cX7_land 27 = .ok (.putfield 55, 3) := by decide +kernel
theorem dX7_land_30 : decode cX7_land 30 = .ok (.aload_n 0, 1) := by decide +kernel
theorem dX7_land_31 : decode cX7_land 31 = .ok (.aload_n 1, 1) := by decide +kernel
theorem dX7_land_32 : decode cX7_land 32 = .ok (.putfield 59, 3) := by decide +kernel
theorem dX7_land_35 : decode cX7_land 35 = .ok (.aload_n 0, 1) := by decide +kernel
theorem dX7_land_36 : decode cX7_land 36 = .ok (.iconst 1, 1) := by decide +kernel
theorem dX7_land_37 : decode cX7_land 37 = .ok (.putfield 71, 3) := by decide +kernel
theorem dX7_land_40 : decode cX7_land 40 = .ok (.aload_n 0, 1) := by decide +kernel
theorem dX7_land_41 : decode cX7_land 41 = .ok (.getfield 10, 3) := by decide +kernel
theorem dX7_land_44 : decode cX7_land 44 = .ok (.iconst 0, 1) := by decide +kernel
theorem dX7_land_45 : decode cX7_land 45 = .ok (.putfield 75, 3) := by decide +kernel
theorem dX7_land_48 : decode cX7_land 48 = .ok (.aload_n 0, 1) := by decide +kernel
theorem dX7_land_49 : decode cX7_land 49 = .ok (.getfield 26, 3) := by decide +kernel
theorem dX7_land_52 : decode cX7_land 52 = .ok (.aload_n 0, 1) := by decide +kernel
theorem dX7_land_53 : decode cX7_land 53 = .ok (.getfield 55, 3) := by decide +kernel
theorem dX7_land_56 : decode cX7_land 56 = .ok (.invokevirtual 87, 3) := by decide +kernel
theorem dX7_land_59 : decode cX7_land 59 = .ok (.aload_n 0, 1) := by decide +kernel
theorem dX7_land_60 : decode cX7_land 60 = .ok (.getfield 26, 3) := by decide +kernel
theorem dX7_land_63 : decode cX7_land 63 = .ok (.iconst 0, 1) := by decide +kernel
theorem dX7_land_64 : decode cX7_land 64 = .ok (.putfield 91, 3) := by decide +kernel
theorem dX7_land_67 : decode cX7_land 67 = .ok (.aload_n 0, 1) := by decide +kernel
theorem dX7_land_68 : decode cX7_land 68 = .ok (.getfield 33, 3) := by decide +kernel
theorem dX7_land_71 : decode cX7_land 71 = .ok (.iconst 0, 1) := by decide +kernel
theorem dX7_land_72 : decode cX7_land 72 = .ok (.putfield 94, 3) := by decide +kernel
theorem dX7_land_75 : decode cX7_land 75 = .ok (.aload_n 0, 1) := by decide +kernel
theorem dX7_land_76 : decode cX7_land 76 = .ok (.getfield 19, 3) := by decide +kernel
theorem dX7_land_79 : decode cX7_land 79 = .ok (.invokevirtual 97, 3) := by decide +kernel
theorem dX7_land_82 : decode cX7_land 82 = .ok (.iconst 0, 1) := by decide +kernel
theorem dX7_land_83 : decode cX7_land 83 = .ok (.istore_n 2, 1) := by decide +kernel
theorem dX7_land_84 : decode cX7_land 84 = .ok (.iload_n 2, 1) := by decide +kernel
theorem dX7_land_85 : decode cX7_land 85 = .ok (.iconst 3, 1) := by decide +kernel
theorem dX7_land_86 : decode cX7_land 86 = .ok (.if_icmp .ge 16, 3) := by decide +kernel
theorem dX7_land_89 : decode cX7_land 89 = .ok (.aload_n 0, 1) := by decide +kernel
theorem dX7_land_90 : decode cX7_land 90 = .ok (.getfield 48, 3) := by decide +kernel
theorem dX7_land_93 : decode cX7_land 93 = .ok (.iload_n 2, 1) := by decide +kernel
theorem dX7_land_94 : decode cX7_land 94 = .ok (.iconst 0, 1) := by decide +kernel
theorem dX7_land_95 : decode cX7_land 95 = .ok (.bastore, 1) := by decide +kernel
theorem dX7_land_96 : decode cX7_land 96 = .ok (.iinc 2 1, 3) := by decide +kernel
theorem dX7_land_99 : decode cX7_land 99 = .ok (.goto (-15), 3) := by decide +kernel
theorem dX7_land_102 : decode cX7_land 102 = .ok (.aload_n 0, 1) := by decide +kernel
theorem dX7_land_103 : decode cX7_land 103 = .ok (.getfield 55, 3) := by decide +kernel
theorem dX7_land_106 : decode cX7_land 106 = .ok (.getfield 100, 3) := by decide +kernel
theorem dX7_land_109 : decode cX7_land 109 = .ok (.ireturn, 1) := by decide +kernel
theorem ilX7_sort_wsX70 : ∀ w ∈ wsX70, w ∈ wsX7_sort := fun _ h => List.mem_cons_of_mem _ (List.mem_append_left _ (List.mem_append_right _ (h)))
theorem ilX7_sort_wsX10 : ∀ w ∈ wsX10, w ∈ wsX7_sort := fun _ h => List.mem_cons_of_mem _ (List.mem_append_right _ (h))
set_option maxRecDepth 20000 in
theorem ggX7_sort_X7_isSort : GoodIn wsX7_sort wsX7_isSort := goodIn_sub (List.forall_mem_cons.mpr ⟨List.mem_cons_of_mem _ (List.mem_append_left _ (List.mem_append_left _ (List.mem_of_getElem? (i := 5) rfl))), (List.forall_mem_append.mpr ⟨(List.forall_mem_append.mpr ⟨(List.forall_mem_cons.mpr ⟨List.mem_cons_of_mem _ (List.mem_append_left _ (List.mem_append_left _ (List.mem_of_getElem? (i := 6) rfl))), (List.forall_mem_cons.mpr ⟨List.mem_cons_of_mem _ (List.mem_append_left _ (List.mem_append_left _ (List.mem_of_getElem? (i := 0) rfl))), (List.forall_mem_cons.mpr ⟨List.mem_cons_of_mem _ (List.mem_append_left _ (List.mem_append_left _ (List.mem_of_getElem? (i := 7) rfl))), (List.forall_mem_cons.mpr ⟨List.mem_cons_of_mem _ (List.mem_append_left _ (List.mem_append_left _ (List.mem_of_getElem? (i := 8) rfl))), (List.forall_mem_cons.mpr ⟨List.mem_cons_of_mem _ (List.mem_append_left _ (List.mem_append_left _ (List.mem_of_getElem? (i := 9) rfl))), (List.forall_mem_cons.mpr ⟨List.mem_cons_of_mem _ (List.mem_append_left _ (List.mem_append_left _ (List.mem_of_getElem? (i := 10) rfl))), (List.forall_mem_cons.mpr ⟨List.mem_cons_of_mem _ (List.mem_append_left _ (List.mem_append_left _ (List.mem_of_getElem? (i := 11) rfl))), (List.forall_mem_cons.mpr ⟨List.mem_cons_of_mem _ (List.mem_append_left _ (List.mem_append_left _ (List.mem_of_getElem? (i := 12) rfl))), (fun _ h => absurd h List.not_mem_nil)⟩)⟩)⟩)⟩)⟩)⟩)⟩)⟩), ilX7_sort_wsX70⟩), ilX7_sort_wsX10⟩)⟩) (by decide +kernel)
set_option maxRecDepth 20000 in
theorem gX7_sort_X7_isSort : GoodIn wsX7_sort (wsV RX7 103 RX7 yX7_isSort wsX7_isSort) := goodIn_app (goodIn_sub (List.forall_mem_cons.mpr ⟨List.mem_cons_of_mem _ (List.mem_append_left _ (List.mem_append_left _ (List.mem_of_getElem? (i := 1) rfl))), (List.forall_mem_cons.mpr ⟨List.mem_cons_of_mem _ (List.mem_append_left _ (List.mem_append_left _ (List.mem_of_getElem? (i := 2) rfl))), (List.forall_mem_cons.mpr ⟨List.mem_cons_of_mem _ (List.mem_append_left _ (List.mem_append_left _ (List.mem_of_getElem? (i := 3) rfl))), (List.forall_mem_cons.mpr ⟨List.mem_cons_of_mem _ (List.mem_append_left _ (List.mem_append_left _ (List.mem_of_getElem? (i := 4) rfl))), (fun _ h => absurd h List.not_mem_nil)⟩)⟩)⟩)⟩) (by decide +kernel)) ggX7_sort_X7_isSort
set_option maxRecDepth 20000 in
theorem ggX7_sort_X1_numberOf : GoodIn wsX7_sort wsX1_numberOf := goodIn_sub (List.forall_mem_cons.mpr ⟨List.mem_cons_of_mem _ (List.mem_append_left _ (List.mem_append_left _ (List.mem_of_getElem? (i := 16) rfl))), (List.forall_mem_append.mpr ⟨(List.forall_mem_cons.mpr ⟨List.mem_cons_of_mem _ (List.mem_append_left _ (List.mem_append_left _ (List.mem_of_getElem? (i := 17) rfl))), (List.forall_mem_cons.mpr ⟨List.mem_cons_of_mem _ (List.mem_append_left _ (List.mem_append_left _ (List.mem_of_getElem? (i := 18) rfl))), (List.forall_mem_cons.mpr ⟨List.mem_cons_of_mem _ (List.mem_append_left _ (List.mem_append_left _ (List.mem_of_getElem? (i := 19) rfl))), (List.forall_mem_cons.mpr ⟨List.mem_cons_of_mem _ (List.mem_append_left _ (List.mem_append_left _ (List.mem_of_getElem? (i := 20) rfl))), (List.forall_mem_cons.mpr ⟨List.mem_cons_of_mem _ (List.mem_append_left _ (List.mem_append_left _ (List.mem_of_getElem? (i := 21) rfl))), (List.forall_mem_cons.mpr ⟨List.mem_cons_of_mem _ (List.mem_append_left _ (List.mem_append_left _ (List.mem_of_getElem? (i := 22) rfl))), (fun _ h => absurd h List.not_mem_nil)⟩)⟩)⟩)⟩)⟩)⟩), ilX7_sort_wsX10⟩)⟩) (by decide +kernel)
set_option maxRecDepth 20000 in
theorem gX7_sort_X1_numberOf : GoodIn wsX7_sort (wsV RX7 107 RX1 yX1_numberOf wsX1_numberOf) := goodIn_app (goodIn_sub (List.forall_mem_cons.mpr ⟨List.mem_cons_of_mem _ (List.mem_append_left _ (List.mem_append_left _ (List.mem_of_getElem? (i := 13) rfl))), (List.forall_mem_cons.mpr ⟨List.mem_cons_of_mem _ (List.mem_append_left _ (List.mem_append_left _ (List.mem_of_getElem? (i := 14) rfl))), (List.forall_mem_cons.mpr ⟨List.mem_cons_of_mem _ (List.mem_append_left _ (List.mem_append_left _ (List.mem_of_getElem? (i := 15) rfl))), (List.forall_mem_cons.mpr ⟨List.mem_cons_of_mem _ (List.mem_append_left _ (List.mem_append_left _ (List.mem_of_getElem? (i := 10) rfl))), (fun _ h => absurd h List.not_mem_nil)⟩)⟩)⟩)⟩) (by decide +kernel)) ggX7_sort_X1_numberOf
theorem dX7_sort_0 : decode cX7_sort 0 = .ok (.aload_n 0, 1) := by decide +kernel
theorem dX7_sort_1 : decode cX7_sort 1 = .ok (.iload_n 1, 1) := by decide +kernel
theorem dX7_sort_2 : decode cX7_sort 2 = .ok (.invokevirtual 103, 3) := by decide +kernel
theorem dX7_sort_5 : decode cX7_sort 5 = .ok (.ifCond .eq 15, 3) := by decide +kernel
theorem dX7_sort_8 : decode cX7_sort 8 = .ok (.aload_n 0, 1) := by decide +kernel
theorem dX7_sort_9 : decode cX7_sort 9 = .ok (.getfield 55, 3) := by decide +kernel
theorem dX7_sort_12 : decode cX7_sort 12 = .ok (.iload_n 1, 1) := by decide +kernel
theorem dX7_sort_13 : decode cX7_sort 13 = .ok (.iload_n 2, 1) := by decide +kernel
theorem dX7_sort_14 : decode cX7_sort 14 = .ok (.invokevirtual 107, 3) := by decide +kernel
theorem dX7_sort_17 : decode cX7_sort 17 = .ok (.goto 4, 3) := by decide +kernel
theorem dX7_sort_20 : decode cX7_sort 20 = .ok (.iconst (-1), 1) := by decide +kernel
theorem dX7_sort_21 : decode cX7_sort 21 = .ok (.ireturn, 1) := by decide +kernel
theorem ilX7_back_wsX7_back_r1 : ∀ w ∈ wsX7_back_r1, w ∈ wsX7_back := fun _ h => List.mem_cons_of_mem _ (List.mem_append_left _ (List.mem_append_left _ (List.mem_append_left _ (h))))
theorem ilX7_back_wsX7_back_r2 : ∀ w ∈ wsX7_back_r2, w ∈ wsX7_back := fun _ h => List.mem_cons_of_mem _ (List.mem_append_left _ (List.mem_append_left _ (List.mem_append_right _ (h))))
theorem ilX7_back_wsX70 : ∀ w ∈ wsX70, w ∈ wsX7_back := fun _ h => List.mem_cons_of_mem _ (List.mem_append_left _ (List.mem_append_right _ (h)))
theorem ilX7_back_wsX10 : ∀ w ∈ wsX10, w ∈ wsX7_back := fun _ h => List.mem_cons_of_mem _ (List.mem_append_right _ (h))
set_option maxRecDepth 20000 in
theorem ggX7_back_X7_isSort : GoodIn wsX7_back wsX7_isSort := goodIn_sub (List.forall_mem_cons.mpr ⟨ilX7_back_wsX7_back_r1 _ (List.mem_of_getElem? (i := 7) rfl), (List.forall_mem_append.mpr ⟨(List.forall_mem_append.mpr ⟨(List.forall_mem_cons.mpr ⟨ilX7_back_wsX7_back_r1 _ (List.mem_of_getElem? (i := 8) rfl), (List.forall_mem_cons.mpr ⟨ilX7_back_wsX7_back_r1 _ (List.mem_of_getElem? (i := 0) rfl), (List.forall_mem_cons.mpr ⟨ilX7_back_wsX7_back_r1 _ (List.mem_of_getElem? (i := 9) rfl), (List.forall_mem_cons.mpr ⟨ilX7_back_wsX7_back_r1 _ (List.mem_of_getElem? (i := 10) rfl), (List.forall_mem_cons.mpr ⟨ilX7_back_wsX7_back_r1 _ (List.mem_of_getElem? (i := 11) rfl), (List.forall_mem_cons.mpr ⟨ilX7_back_wsX7_back_r1 _ (List.mem_of_getElem? (i := 12) rfl), (List.forall_mem_cons.mpr ⟨ilX7_back_wsX7_back_r1 _ (List.mem_of_getElem? (i := 13) rfl), (List.forall_mem_cons.mpr ⟨ilX7_back_wsX7_back_r1 _ (List.mem_of_getElem? (i := 14) rfl), (fun _ h => absurd h List.not_mem_nil)⟩)⟩)⟩)⟩)⟩)⟩)⟩)⟩), ilX7_back_wsX70⟩), ilX7_back_wsX10⟩)⟩) (by decide +kernel)
set_option maxRecDepth 20000 in
theorem gX7_back_X7_isSort : GoodIn wsX7_back (wsV RX7 103 RX7 yX7_isSort wsX7_isSort) := goodIn_app (goodIn_sub (List.forall_mem_cons.mpr ⟨ilX7_back_wsX7_back_r1 _ (List.mem_of_getElem? (i := 3) rfl), (List.forall_mem_cons.mpr ⟨ilX7_back_wsX7_back_r1 _ (List.mem_of_getElem? (i := 4) rfl), (List.forall_mem_cons.mpr ⟨ilX7_back_wsX7_back_r1 _ (List.mem_of_getElem? (i := 5) rfl), (List.forall_mem_cons.mpr ⟨ilX7_back_wsX7_back_r1 _ (List.mem_of_getElem? (i := 6) rfl), (fun _ h => absurd h List.not_mem_nil)⟩)⟩)⟩)⟩) (by decide +kernel)) ggX7_back_X7_isSort
set_option maxRecDepth 20000 in
theorem ggX7_back_X7_isNight : GoodIn wsX7_back wsX7_isNight := goodIn_sub (List.forall_mem_cons.mpr ⟨ilX7_back_wsX7_back_r1 _ (List.mem_of_getElem? (i := 17) rfl), (List.forall_mem_cons.mpr ⟨ilX7_back_wsX7_back_r1 _ (List.mem_of_getElem? (i := 18) rfl), (List.forall_mem_cons.mpr ⟨ilX7_back_wsX7_back_r1 _ (List.mem_of_getElem? (i := 19) rfl), (List.forall_mem_cons.mpr ⟨ilX7_back_wsX7_back_r1 _ (List.mem_of_getElem? (i := 6) rfl), (List.forall_mem_cons.mpr ⟨ilX7_back_wsX7_back_r1 _ (List.mem_of_getElem? (i := 20) rfl), (fun _ h => absurd h List.not_mem_nil)⟩)⟩)⟩)⟩)⟩) (by decide +kernel)
set_option maxRecDepth 20000 in
theorem gX7_back_X7_isNight : GoodIn wsX7_back (va_wsS RX7 111 yX7_isNight wsX7_isNight) := goodIn_app (goodIn_of _ (by decide +kernel)) ggX7_back_X7_isNight
set_option maxRecDepth 20000 in
theorem ggX7_back_X4_backOf : GoodIn wsX7_back wsX4_backOf := goodIn_sub (List.forall_mem_cons.mpr ⟨ilX7_back_wsX7_back_r2 _ (List.mem_of_getElem? (i := 0) rfl), (List.forall_mem_append.mpr ⟨(List.forall_mem_cons.mpr ⟨ilX7_back_wsX7_back_r2 _ (List.mem_of_getElem? (i := 1) rfl), (List.forall_mem_cons.mpr ⟨ilX7_back_wsX7_back_r2 _ (List.mem_of_getElem? (i := 2) rfl), (List.forall_mem_cons.mpr ⟨ilX7_back_wsX7_back_r2 _ (List.mem_of_getElem? (i := 3) rfl), (List.forall_mem_cons.mpr ⟨ilX7_back_wsX7_back_r2 _ (List.mem_of_getElem? (i := 4) rfl), (fun _ h => absurd h List.not_mem_nil)⟩)⟩)⟩)⟩), ilX7_back_wsX10⟩)⟩) (by decide +kernel)
set_option maxRecDepth 20000 in
theorem gX7_back_X4_backOf : GoodIn wsX7_back (va_wsS RX7 120 yX4_backOf wsX4_backOf) := goodIn_app (goodIn_of _ (by decide +kernel)) ggX7_back_X4_backOf
set_option maxRecDepth 20000 in
theorem ggX7_back_X4_leastPrice : GoodIn wsX7_back wsX4_leastPrice := goodIn_sub (List.forall_mem_cons.mpr ⟨ilX7_back_wsX7_back_r2 _ (List.mem_of_getElem? (i := 7) rfl), (List.forall_mem_append.mpr ⟨(List.forall_mem_cons.mpr ⟨ilX7_back_wsX7_back_r2 _ (List.mem_of_getElem? (i := 8) rfl), (List.forall_mem_cons.mpr ⟨ilX7_back_wsX7_back_r2 _ (List.mem_of_getElem? (i := 2) rfl), (fun _ h => absurd h List.not_mem_nil)⟩)⟩), ilX7_back_wsX10⟩)⟩) (by decide +kernel)
set_option maxRecDepth 20000 in
theorem gX7_back_X4_leastPrice : GoodIn wsX7_back (va_wsS RX7 124 yX4_leastPrice wsX4_leastPrice) := goodIn_app (goodIn_of _ (by decide +kernel)) ggX7_back_X4_leastPrice
set_option maxRecDepth 20000 in
theorem ggX7_back_X4_mostPrice : GoodIn wsX7_back wsX4_mostPrice := goodIn_sub (List.forall_mem_cons.mpr ⟨ilX7_back_wsX7_back_r2 _ (List.mem_of_getElem? (i := 11) rfl), (List.forall_mem_append.mpr ⟨(List.forall_mem_cons.mpr ⟨ilX7_back_wsX7_back_r2 _ (List.mem_of_getElem? (i := 12) rfl), (List.forall_mem_cons.mpr ⟨ilX7_back_wsX7_back_r2 _ (List.mem_of_getElem? (i := 13) rfl), (List.forall_mem_cons.mpr ⟨ilX7_back_wsX7_back_r2 _ (List.mem_of_getElem? (i := 14) rfl), (List.forall_mem_cons.mpr ⟨ilX7_back_wsX7_back_r2 _ (List.mem_of_getElem? (i := 15) rfl), (List.forall_mem_cons.mpr ⟨ilX7_back_wsX7_back_r2 _ (List.mem_of_getElem? (i := 16) rfl), (List.forall_mem_cons.mpr ⟨ilX7_back_wsX7_back_r2 _ (List.mem_of_getElem? (i := 17) rfl), (fun _ h => absurd h List.not_mem_nil)⟩)⟩)⟩)⟩)⟩)⟩), ilX7_back_wsX10⟩)⟩) (by decide +kernel)
set_option maxRecDepth 20000 in
theorem gX7_back_X4_mostPrice : GoodIn wsX7_back (va_wsS RX7 128 yX4_mostPrice wsX4_mostPrice) := goodIn_app (goodIn_of _ (by decide +kernel)) ggX7_back_X4_mostPrice
theorem dX7_back_0 : decode cX7_back 0 = .ok (.aload_n 0, 1) := by decide +kernel
theorem dX7_back_1 : decode cX7_back 1 = .ok (.iload_n 1, 1) := by decide +kernel
theorem dX7_back_2 : decode cX7_back 2 = .ok (.invokevirtual 103, 3) := by decide +kernel
theorem dX7_back_5 : decode cX7_back 5 = .ok (.ifCond .eq 10, 3) := by decide +kernel
theorem dX7_back_8 : decode cX7_back 8 = .ok (.iload_n 2, 1) := by decide +kernel
theorem dX7_back_9 : decode cX7_back 9 = .ok (.invokestatic 111, 3) := by decide +kernel
theorem dX7_back_12 : decode cX7_back 12 = .ok (.ifCond .ne 5, 3) := by decide +kernel
theorem dX7_back_15 : decode cX7_back 15 = .ok (.iconst (-1), 1) := by decide +kernel
theorem dX7_back_16 : decode cX7_back 16 = .ok (.ireturn, 1) := by decide +kernel
theorem dX7_back_17 : decode cX7_back 17 = .ok (.aload_n 0, 1) := by decide +kernel
theorem dX7_back_18 : decode cX7_back 18 = .ok (.getfield 55, 3) := by decide +kernel
theorem dX7_back_21 : decode cX7_back 21 = .ok (.iload_n 1, 1) := by decide +kernel
theorem dX7_back_22 : decode cX7_back 22 = .ok (.iload_n 2, 1) := by decide +kernel
theorem dX7_back_23 : decode cX7_back 23 = .ok (.aload_n 0, 1) := by decide +kernel
theorem dX7_back_24 : decode cX7_back 24 = .ok (.getfield 55, 3) := by decide +kernel
theorem dX7_back_27 : decode cX7_back 27 = .ok (.getfield 114, 3) := by decide +kernel
theorem dX7_back_30 : decode cX7_back 30 = .ok (.aload_n 0, 1) := by decide +kernel
theorem dX7_back_31 : decode cX7_back 31 = .ok (.getfield 55, 3) := by decide +kernel
theorem dX7_back_34 : decode cX7_back 34 = .ok (.getfield 117, 3) := by decide +kernel
theorem dX7_back_37 : decode cX7_back 37 = .ok (.invokestatic 120, 3) := by decide +kernel
theorem dX7_back_40 : decode cX7_back 40 = .ok (.istore 4, 2) := by decide +kernel
theorem dX7_back_42 : decode cX7_back 42 = .ok (.iload_n 3, 1) := by decide +kernel
theorem dX7_back_43 : decode cX7_back 43 = .ok (.tableswitch 48 0 2 #[25, 28, 39], 25) := by decide +kernel
theorem dX7_back_68 : decode cX7_back 68 = .ok (.iload 4, 2) := by decide +kernel
theorem dX7_back_70 : decode cX7_back 70 = .ok (.ireturn, 1) := by decide +kernel
theorem dX7_back_71 : decode cX7_back 71 = .ok (.aload_n 0, 1) := by decide +kernel
theorem dX7_back_72 : decode cX7_back 72 = .ok (.getfield 55, 3) := by decide +kernel
theorem dX7_back_75 : decode cX7_back 75 = .ok (.iload_n 1, 1) := by decide +kernel
theorem dX7_back_76 : decode cX7_back 76 = .ok (.iload 4, 2) := by decide +kernel
theorem dX7_back_78 : decode cX7_back 78 = .ok (.invokestatic 124, 3) := by decide +kernel
theorem dX7_back_81 : decode cX7_back 81 = .ok (.ireturn, 1) := by decide +kernel
theorem dX7_back_82 : decode cX7_back 82 = .ok (.aload_n 0, 1) := by decide +kernel
theorem dX7_back_83 : decode cX7_back 83 = .ok (.getfield 55, 3) := by decide +kernel
theorem dX7_back_86 : decode cX7_back 86 = .ok (.iload_n 1, 1) := by decide +kernel
theorem dX7_back_87 : decode cX7_back 87 = .ok (.invokestatic 128, 3) := by decide +kernel
theorem dX7_back_90 : decode cX7_back 90 = .ok (.ireturn, 1) := by decide +kernel
theorem dX7_back_91 : decode cX7_back 91 = .ok (.iconst (-1), 1) := by decide +kernel
theorem dX7_back_92 : decode cX7_back 92 = .ok (.ireturn, 1) := by decide +kernel
theorem ilX7_lent_wsX7_lent_r1 : ∀ w ∈ wsX7_lent_r1, w ∈ wsX7_lent := fun _ h => List.mem_cons_of_mem _ (List.mem_append_left _ (List.mem_append_left _ (List.mem_append_left _ (List.mem_append_left _ (h)))))
theorem ilX7_lent_wsX7_lent_r2 : ∀ w ∈ wsX7_lent_r2, w ∈ wsX7_lent := fun _ h => List.mem_cons_of_mem _ (List.mem_append_left _ (List.mem_append_left _ (List.mem_append_left _ (List.mem_append_right _ (List.mem_append_left _ (h))))))
theorem ilX7_lent_wsX7_lent_r3 : ∀ w ∈ wsX7_lent_r3, w ∈ wsX7_lent := fun _ h => List.mem_cons_of_mem _ (List.mem_append_left _ (List.mem_append_left _ (List.mem_append_left _ (List.mem_append_right _ (List.mem_append_right _ (h))))))
theorem ilX7_lent_wsX70 : ∀ w ∈ wsX70, w ∈ wsX7_lent := fun _ h => List.mem_cons_of_mem _ (List.mem_append_left _ (List.mem_append_left _ (List.mem_append_right _ (h))))
theorem ilX7_lent_wsX10 : ∀ w ∈ wsX10, w ∈ wsX7_lent := fun _ h => List.mem_cons_of_mem _ (List.mem_append_left _ (List.mem_append_right _ (h)))
theorem ilX7_lent_wsX40 : ∀ w ∈ wsX40, w ∈ wsX7_lent := fun _ h => List.mem_cons_of_mem _ (List.mem_append_right _ (h))
set_option maxRecDepth 20000 in
theorem ggX7_lent_X7_isNight : GoodIn wsX7_lent wsX7_isNight := goodIn_sub (List.forall_mem_cons.mpr ⟨ilX7_lent_wsX7_lent_r1 _ (List.mem_of_getElem? (i := 9) rfl), (List.forall_mem_cons.mpr ⟨ilX7_lent_wsX7_lent_r1 _ (List.mem_of_getElem? (i := 10) rfl), (List.forall_mem_cons.mpr ⟨ilX7_lent_wsX7_lent_r1 _ (List.mem_of_getElem? (i := 11) rfl), (List.forall_mem_cons.mpr ⟨ilX7_lent_wsX7_lent_r1 _ (List.mem_of_getElem? (i := 8) rfl), (List.forall_mem_cons.mpr ⟨ilX7_lent_wsX7_lent_r1 _ (List.mem_of_getElem? (i := 12) rfl), (fun _ h => absurd h List.not_mem_nil)⟩)⟩)⟩)⟩)⟩) (by decide +kernel)
set_option maxRecDepth 20000 in
theorem gX7_lent_X7_isNight : GoodIn wsX7_lent (va_wsS RX7 111 yX7_isNight wsX7_isNight) := goodIn_app (goodIn_of _ (by decide +kernel)) ggX7_lent_X7_isNight
set_option maxRecDepth 20000 in
theorem ggX7_lent_X7_isSort : GoodIn wsX7_lent wsX7_isSort := goodIn_sub (List.forall_mem_cons.mpr ⟨ilX7_lent_wsX7_lent_r1 _ (List.mem_of_getElem? (i := 16) rfl), (List.forall_mem_append.mpr ⟨(List.forall_mem_append.mpr ⟨(List.forall_mem_cons.mpr ⟨ilX7_lent_wsX7_lent_r1 _ (List.mem_of_getElem? (i := 0) rfl), (List.forall_mem_cons.mpr ⟨ilX7_lent_wsX7_lent_r1 _ (List.mem_of_getElem? (i := 2) rfl), (List.forall_mem_cons.mpr ⟨ilX7_lent_wsX7_lent_r1 _ (List.mem_of_getElem? (i := 17) rfl), (List.forall_mem_cons.mpr ⟨ilX7_lent_wsX7_lent_r1 _ (List.mem_of_getElem? (i := 18) rfl), (List.forall_mem_cons.mpr ⟨ilX7_lent_wsX7_lent_r1 _ (List.mem_of_getElem? (i := 19) rfl), (List.forall_mem_cons.mpr ⟨ilX7_lent_wsX7_lent_r1 _ (List.mem_of_getElem? (i := 20) rfl), (List.forall_mem_cons.mpr ⟨ilX7_lent_wsX7_lent_r1 _ (List.mem_of_getElem? (i := 21) rfl), (List.forall_mem_cons.mpr ⟨ilX7_lent_wsX7_lent_r1 _ (List.mem_of_getElem? (i := 22) rfl), (fun _ h => absurd h List.not_mem_nil)⟩)⟩)⟩)⟩)⟩)⟩)⟩)⟩), ilX7_lent_wsX70⟩), ilX7_lent_wsX10⟩)⟩) (by decide +kernel)
set_option maxRecDepth 20000 in
theorem gX7_lent_X7_isSort : GoodIn wsX7_lent (wsV RX7 103 RX7 yX7_isSort wsX7_isSort) := goodIn_app (goodIn_sub (List.forall_mem_cons.mpr ⟨ilX7_lent_wsX7_lent_r1 _ (List.mem_of_getElem? (i := 13) rfl), (List.forall_mem_cons.mpr ⟨ilX7_lent_wsX7_lent_r1 _ (List.mem_of_getElem? (i := 14) rfl), (List.forall_mem_cons.mpr ⟨ilX7_lent_wsX7_lent_r1 _ (List.mem_of_getElem? (i := 15) rfl), (List.forall_mem_cons.mpr ⟨ilX7_lent_wsX7_lent_r1 _ (List.mem_of_getElem? (i := 8) rfl), (fun _ h => absurd h List.not_mem_nil)⟩)⟩)⟩)⟩) (by decide +kernel)) ggX7_lent_X7_isSort
set_option maxRecDepth 20000 in
theorem ggX7_lent_X4_shareNight : GoodIn wsX7_lent wsX4_shareNight := goodIn_sub (List.forall_mem_cons.mpr ⟨ilX7_lent_wsX7_lent_r2 _ (List.mem_of_getElem? (i := 3) rfl), (List.forall_mem_append.mpr ⟨(List.forall_mem_append.mpr ⟨(List.forall_mem_append.mpr ⟨(List.forall_mem_cons.mpr ⟨ilX7_lent_wsX7_lent_r2 _ (List.mem_of_getElem? (i := 4) rfl), (List.forall_mem_cons.mpr ⟨ilX7_lent_wsX7_lent_r2 _ (List.mem_of_getElem? (i := 5) rfl), (List.forall_mem_cons.mpr ⟨ilX7_lent_wsX7_lent_r2 _ (List.mem_of_getElem? (i := 6) rfl), (List.forall_mem_cons.mpr ⟨ilX7_lent_wsX7_lent_r2 _ (List.mem_of_getElem? (i := 7) rfl), (List.forall_mem_cons.mpr ⟨ilX7_lent_wsX7_lent_r2 _ (List.mem_of_getElem? (i := 8) rfl), (List.forall_mem_cons.mpr ⟨ilX7_lent_wsX7_lent_r2 _ (List.mem_of_getElem? (i := 9) rfl), (List.forall_mem_cons.mpr ⟨ilX7_lent_wsX7_lent_r2 _ (List.mem_of_getElem? (i := 10) rfl), (List.forall_mem_cons.mpr ⟨ilX7_lent_wsX7_lent_r2 _ (List.mem_of_getElem? (i := 11) rfl), (List.forall_mem_cons.mpr ⟨ilX7_lent_wsX7_lent_r2 _ (List.mem_of_getElem? (i := 12) rfl), (List.forall_mem_cons.mpr ⟨ilX7_lent_wsX7_lent_r2 _ (List.mem_of_getElem? (i := 13) rfl), (List.forall_mem_cons.mpr ⟨ilX7_lent_wsX7_lent_r2 _ (List.mem_of_getElem? (i := 14) rfl), (List.forall_mem_cons.mpr ⟨ilX7_lent_wsX7_lent_r2 _ (List.mem_of_getElem? (i := 2) rfl), (List.forall_mem_cons.mpr ⟨ilX7_lent_wsX7_lent_r2 _ (List.mem_of_getElem? (i := 15) rfl), (List.forall_mem_cons.mpr ⟨ilX7_lent_wsX7_lent_r2 _ (List.mem_of_getElem? (i := 16) rfl), (List.forall_mem_cons.mpr ⟨ilX7_lent_wsX7_lent_r2 _ (List.mem_of_getElem? (i := 17) rfl), (List.forall_mem_cons.mpr ⟨ilX7_lent_wsX7_lent_r2 _ (List.mem_of_getElem? (i := 18) rfl), (List.forall_mem_cons.mpr ⟨ilX7_lent_wsX7_lent_r2 _ (List.mem_of_getElem? (i := 19) rfl), (List.forall_mem_cons.mpr ⟨ilX7_lent_wsX7_lent_r2 _ (List.mem_of_getElem? (i := 20) rfl), (List.forall_mem_cons.mpr ⟨ilX7_lent_wsX7_lent_r2 _ (List.mem_of_getElem? (i := 21) rfl), (List.forall_mem_cons.mpr ⟨ilX7_lent_wsX7_lent_r2 _ (List.mem_of_getElem? (i := 22) rfl), (List.forall_mem_cons.mpr ⟨ilX7_lent_wsX7_lent_r2 _ (List.mem_of_getElem? (i := 23) rfl), (List.forall_mem_cons.mpr ⟨ilX7_lent_wsX7_lent_r3 _ (List.mem_of_getElem? (i := 0) rfl), (List.forall_mem_cons.mpr ⟨ilX7_lent_wsX7_lent_r3 _ (List.mem_of_getElem? (i := 1) rfl), (List.forall_mem_cons.mpr ⟨ilX7_lent_wsX7_lent_r3 _ (List.mem_of_getElem? (i := 2) rfl), (fun _ h => absurd h List.not_mem_nil)⟩)⟩)⟩)⟩)⟩)⟩)⟩)⟩)⟩)⟩)⟩)⟩)⟩)⟩)⟩)⟩)⟩)⟩)⟩)⟩)⟩)⟩)⟩)⟩), (List.forall_mem_cons.mpr ⟨ilX7_lent_wsX7_lent_r3 _ (List.mem_of_getElem? (i := 3) rfl), (List.forall_mem_cons.mpr ⟨ilX7_lent_wsX7_lent_r3 _ (List.mem_of_getElem? (i := 4) rfl), (List.forall_mem_cons.mpr ⟨ilX7_lent_wsX7_lent_r3 _ (List.mem_of_getElem? (i := 5) rfl), (List.forall_mem_cons.mpr ⟨ilX7_lent_wsX7_lent_r3 _ (List.mem_of_getElem? (i := 6) rfl), (List.forall_mem_cons.mpr ⟨ilX7_lent_wsX7_lent_r3 _ (List.mem_of_getElem? (i := 7) rfl), (List.forall_mem_cons.mpr ⟨ilX7_lent_wsX7_lent_r3 _ (List.mem_of_getElem? (i := 8) rfl), (List.forall_mem_cons.mpr ⟨ilX7_lent_wsX7_lent_r3 _ (List.mem_of_getElem? (i := 9) rfl), (List.forall_mem_cons.mpr ⟨ilX7_lent_wsX7_lent_r1 _ (List.mem_of_getElem? (i := 20) rfl), (List.forall_mem_cons.mpr ⟨ilX7_lent_wsX7_lent_r3 _ (List.mem_of_getElem? (i := 10) rfl), (List.forall_mem_cons.mpr ⟨ilX7_lent_wsX7_lent_r1 _ (List.mem_of_getElem? (i := 22) rfl), (List.forall_mem_cons.mpr ⟨ilX7_lent_wsX7_lent_r3 _ (List.mem_of_getElem? (i := 11) rfl), (List.forall_mem_cons.mpr ⟨ilX7_lent_wsX7_lent_r3 _ (List.mem_of_getElem? (i := 12) rfl), (List.forall_mem_cons.mpr ⟨ilX7_lent_wsX7_lent_r3 _ (List.mem_of_getElem? (i := 13) rfl), (List.forall_mem_cons.mpr ⟨ilX7_lent_wsX7_lent_r3 _ (List.mem_of_getElem? (i := 14) rfl), (List.forall_mem_cons.mpr ⟨ilX7_lent_wsX7_lent_r3 _ (List.mem_of_getElem? (i := 15) rfl), (List.forall_mem_cons.mpr ⟨ilX7_lent_wsX7_lent_r3 _ (List.mem_of_getElem? (i := 16) rfl), (fun _ h => absurd h List.not_mem_nil)⟩)⟩)⟩)⟩)⟩)⟩)⟩)⟩)⟩)⟩)⟩)⟩)⟩)⟩)⟩)⟩)⟩), ilX7_lent_wsX10⟩), ilX7_lent_wsX40⟩)⟩) (by decide +kernel)
set_option maxRecDepth 20000 in
theorem gX7_lent_X4_shareNight : GoodIn wsX7_lent (wsV RX7 132 RX4 yX4_shareNight wsX4_shareNight) := goodIn_app (goodIn_sub (List.forall_mem_cons.mpr ⟨ilX7_lent_wsX7_lent_r1 _ (List.mem_of_getElem? (i := 23) rfl), (List.forall_mem_cons.mpr ⟨ilX7_lent_wsX7_lent_r2 _ (List.mem_of_getElem? (i := 0) rfl), (List.forall_mem_cons.mpr ⟨ilX7_lent_wsX7_lent_r2 _ (List.mem_of_getElem? (i := 1) rfl), (List.forall_mem_cons.mpr ⟨ilX7_lent_wsX7_lent_r2 _ (List.mem_of_getElem? (i := 2) rfl), (fun _ h => absurd h List.not_mem_nil)⟩)⟩)⟩)⟩) (by decide +kernel)) ggX7_lent_X4_shareNight
set_option maxRecDepth 20000 in
theorem ggX7_lent_X4_sownTonight : GoodIn wsX7_lent wsX4_sownTonight := goodIn_sub (List.forall_mem_cons.mpr ⟨ilX7_lent_wsX7_lent_r3 _ (List.mem_of_getElem? (i := 20) rfl), (List.forall_mem_append.mpr ⟨(List.forall_mem_append.mpr ⟨(List.forall_mem_cons.mpr ⟨ilX7_lent_wsX7_lent_r2 _ (List.mem_of_getElem? (i := 4) rfl), (List.forall_mem_cons.mpr ⟨ilX7_lent_wsX7_lent_r2 _ (List.mem_of_getElem? (i := 5) rfl), (fun _ h => absurd h List.not_mem_nil)⟩)⟩), ilX7_lent_wsX10⟩), ilX7_lent_wsX40⟩)⟩) (by decide +kernel)
set_option maxRecDepth 20000 in
theorem gX7_lent_X4_sownTonight : GoodIn wsX7_lent (wsV RX7 136 RX4 yX4_sownTonight wsX4_sownTonight) := goodIn_app (goodIn_sub (List.forall_mem_cons.mpr ⟨ilX7_lent_wsX7_lent_r3 _ (List.mem_of_getElem? (i := 17) rfl), (List.forall_mem_cons.mpr ⟨ilX7_lent_wsX7_lent_r3 _ (List.mem_of_getElem? (i := 18) rfl), (List.forall_mem_cons.mpr ⟨ilX7_lent_wsX7_lent_r3 _ (List.mem_of_getElem? (i := 19) rfl), (List.forall_mem_cons.mpr ⟨ilX7_lent_wsX7_lent_r2 _ (List.mem_of_getElem? (i := 2) rfl), (fun _ h => absurd h List.not_mem_nil)⟩)⟩)⟩)⟩) (by decide +kernel)) ggX7_lent_X4_sownTonight
theorem dX7_lent_0 : decode cX7_lent 0 = .ok (.aload_n 0, 1) := by decide +kernel
theorem dX7_lent_1 : decode cX7_lent 1 = .ok (.getfield 71, 3) := by decide +kernel
theorem dX7_lent_4 : decode cX7_lent 4 = .ok (.ifCond .eq 23, 3) := by decide +kernel
theorem dX7_lent_7 : decode cX7_lent 7 = .ok (.iload_n 2, 1) := by decide +kernel
theorem dX7_lent_8 : decode cX7_lent 8 = .ok (.invokestatic 111, 3) := by decide +kernel
theorem dX7_lent_11 : decode cX7_lent 11 = .ok (.ifCond .eq 16, 3) := by decide +kernel
theorem dX7_lent_14 : decode cX7_lent 14 = .ok (.iload_n 1, 1) := by decide +kernel
theorem dX7_lent_15 : decode cX7_lent 15 = .ok (.iconst (-1), 1) := by decide +kernel
theorem dX7_lent_16 : decode cX7_lent 16 = .ok (.if_icmp .eq 13, 3) := by decide +kernel
theorem dX7_lent_19 : decode cX7_lent 19 = .ok (.aload_n 0, 1) := by decide +kernel
theorem dX7_lent_20 : decode cX7_lent 20 = .ok (.iload_n 1, 1) := by decide +kernel
theorem dX7_lent_21 : decode cX7_lent 21 = .ok (.invokevirtual 103, 3) := by decide +kernel
theorem dX7_lent_24 : decode cX7_lent 24 = .ok (.ifCond .ne 5, 3) := by decide +kernel
theorem dX7_lent_27 : decode cX7_lent 27 = .ok (.iconst (-1), 1) := by decide +kernel
theorem dX7_lent_28 : decode cX7_lent 28 = .ok (.ireturn, 1) := by decide +kernel
theorem dX7_lent_29 : decode cX7_lent 29 = .ok (.aload_n 0, 1) := by decide +kernel
theorem dX7_lent_30 : decode cX7_lent 30 = .ok (.getfield 19, 3) := by decide +kernel
theorem dX7_lent_33 : decode cX7_lent 33 = .ok (.aload_n 0, 1) := by decide +kernel
theorem dX7_lent_34 : decode cX7_lent 34 = .ok (.getfield 55, 3) := by decide +kernel
theorem dX7_lent_37 : decode cX7_lent 37 = .ok (.iload_n 2, 1) := by decide +kernel
theorem dX7_lent_38 : decode cX7_lent 38 = .ok (.aload_n 0, 1) := by decide +kernel
theorem dX7_lent_39 : decode cX7_lent 39 = .ok (.getfield 55, 3) := by decide +kernel
theorem dX7_lent_42 : decode cX7_lent 42 = .ok (.getfield 114, 3) := by decide +kernel
theorem dX7_lent_45 : decode cX7_lent 45 = .ok (.aload_n 0, 1) := by decide +kernel
theorem dX7_lent_46 : decode cX7_lent 46 = .ok (.getfield 55, 3) := by decide +kernel
theorem dX7_lent_49 : decode cX7_lent 49 = .ok (.getfield 117, 3) := by decide +kernel
theorem dX7_lent_52 : decode cX7_lent 52 = .ok (.invokevirtual 132, 3) := by decide +kernel
theorem dX7_lent_55 : decode cX7_lent 55 = .ok (.iload_n 1, 1) := by decide +kernel
theorem dX7_lent_56 : decode cX7_lent 56 = .ok (.iconst (-1), 1) := by decide +kernel
theorem dX7_lent_57 : decode cX7_lent 57 = .ok (.if_icmp .ne 17, 3) := by decide +kernel
theorem dX7_lent_60 : decode cX7_lent 60 = .ok (.aload_n 0, 1) := by decide +kernel
theorem dX7_lent_61 : decode cX7_lent 61 = .ok (.getfield 19, 3) := by decide +kernel
theorem dX7_lent_64 : decode cX7_lent 64 = .ok (.aload_n 0, 1) := by decide +kernel
theorem dX7_lent_65 : decode cX7_lent 65 = .ok (.getfield 55, 3) := by decide +kernel
theorem dX7_lent_68 : decode cX7_lent 68 = .ok (.invokevirtual 136, 3) := by decide +kernel
theorem dX7_lent_71 : decode cX7_lent 71 = .ok (.goto 12, 3) := by decide +kernel
theorem dX7_lent_74 : decode cX7_lent 74 = .ok (.aload_n 0, 1) := by decide +kernel
theorem dX7_lent_75 : decode cX7_lent 75 = .ok (.getfield 19, 3) := by decide +kernel
theorem dX7_lent_78 : decode cX7_lent 78 = .ok (.getfield 139, 3) := by decide +kernel
theorem dX7_lent_81 : decode cX7_lent 81 = .ok (.iload_n 1, 1) := by decide +kernel
theorem dX7_lent_82 : decode cX7_lent 82 = .ok (.iaload, 1) := by decide +kernel
theorem dX7_lent_83 : decode cX7_lent 83 = .ok (.ireturn, 1) := by decide +kernel
theorem ilX7_brought_wsX7_brought_r1 : ∀ w ∈ wsX7_brought_r1, w ∈ wsX7_brought := fun _ h => List.mem_cons_of_mem _ (List.mem_append_left _ (List.mem_append_left _ (List.mem_append_left _ (List.mem_append_left _ (h)))))
theorem ilX7_brought_wsX7_brought_r2 : ∀ w ∈ wsX7_brought_r2, w ∈ wsX7_brought := fun _ h => List.mem_cons_of_mem _ (List.mem_append_left _ (List.mem_append_left _ (List.mem_append_left _ (List.mem_append_right _ (List.mem_append_left _ (h))))))
theorem ilX7_brought_wsX7_brought_r3 : ∀ w ∈ wsX7_brought_r3, w ∈ wsX7_brought := fun _ h => List.mem_cons_of_mem _ (List.mem_append_left _ (List.mem_append_left _ (List.mem_append_left _ (List.mem_append_right _ (List.mem_append_right _ (h))))))
theorem ilX7_brought_wsX70 : ∀ w ∈ wsX70, w ∈ wsX7_brought := fun _ h => List.mem_cons_of_mem _ (List.mem_append_left _ (List.mem_append_left _ (List.mem_append_right _ (h))))
theorem ilX7_brought_wsX10 : ∀ w ∈ wsX10, w ∈ wsX7_brought := fun _ h => List.mem_cons_of_mem _ (List.mem_append_left _ (List.mem_append_right _ (h)))
theorem ilX7_brought_wsX40 : ∀ w ∈ wsX40, w ∈ wsX7_brought := fun _ h => List.mem_cons_of_mem _ (List.mem_append_right _ (h))
set_option maxRecDepth 20000 in
theorem ggX7_brought_X7_isNight : GoodIn wsX7_brought wsX7_isNight := goodIn_sub (List.forall_mem_cons.mpr ⟨ilX7_brought_wsX7_brought_r1 _ (List.mem_of_getElem? (i := 8) rfl), (List.forall_mem_cons.mpr ⟨ilX7_brought_wsX7_brought_r1 _ (List.mem_of_getElem? (i := 9) rfl), (List.forall_mem_cons.mpr ⟨ilX7_brought_wsX7_brought_r1 _ (List.mem_of_getElem? (i := 10) rfl), (List.forall_mem_cons.mpr ⟨ilX7_brought_wsX7_brought_r1 _ (List.mem_of_getElem? (i := 7) rfl), (List.forall_mem_cons.mpr ⟨ilX7_brought_wsX7_brought_r1 _ (List.mem_of_getElem? (i := 11) rfl), (fun _ h => absurd h List.not_mem_nil)⟩)⟩)⟩)⟩)⟩) (by decide +kernel)
set_option maxRecDepth 20000 in
theorem gX7_brought_X7_isNight : GoodIn wsX7_brought (va_wsS RX7 111 yX7_isNight wsX7_isNight) := goodIn_app (goodIn_of _ (by decide +kernel)) ggX7_brought_X7_isNight
set_option maxRecDepth 20000 in
theorem ggX7_brought_X4_shareNight : GoodIn wsX7_brought wsX4_shareNight := goodIn_sub (List.forall_mem_cons.mpr ⟨ilX7_brought_wsX7_brought_r1 _ (List.mem_of_getElem? (i := 16) rfl), (List.forall_mem_append.mpr ⟨(List.forall_mem_append.mpr ⟨(List.forall_mem_append.mpr ⟨(List.forall_mem_cons.mpr ⟨ilX7_brought_wsX7_brought_r1 _ (List.mem_of_getElem? (i := 17) rfl), (List.forall_mem_cons.mpr ⟨ilX7_brought_wsX7_brought_r1 _ (List.mem_of_getElem? (i := 18) rfl), (List.forall_mem_cons.mpr ⟨ilX7_brought_wsX7_brought_r1 _ (List.mem_of_getElem? (i := 19) rfl), (List.forall_mem_cons.mpr ⟨ilX7_brought_wsX7_brought_r1 _ (List.mem_of_getElem? (i := 20) rfl), (List.forall_mem_cons.mpr ⟨ilX7_brought_wsX7_brought_r1 _ (List.mem_of_getElem? (i := 21) rfl), (List.forall_mem_cons.mpr ⟨ilX7_brought_wsX7_brought_r1 _ (List.mem_of_getElem? (i := 22) rfl), (List.forall_mem_cons.mpr ⟨ilX7_brought_wsX7_brought_r1 _ (List.mem_of_getElem? (i := 23) rfl), (List.forall_mem_cons.mpr ⟨ilX7_brought_wsX7_brought_r2 _ (List.mem_of_getElem? (i := 0) rfl), (List.forall_mem_cons.mpr ⟨ilX7_brought_wsX7_brought_r2 _ (List.mem_of_getElem? (i := 1) rfl), (List.forall_mem_cons.mpr ⟨ilX7_brought_wsX7_brought_r2 _ (List.mem_of_getElem? (i := 2) rfl), (List.forall_mem_cons.mpr ⟨ilX7_brought_wsX7_brought_r2 _ (List.mem_of_getElem? (i := 3) rfl), (List.forall_mem_cons.mpr ⟨ilX7_brought_wsX7_brought_r1 _ (List.mem_of_getElem? (i := 15) rfl), (List.forall_mem_cons.mpr ⟨ilX7_brought_wsX7_brought_r2 _ (List.mem_of_getElem? (i := 4) rfl), (List.forall_mem_cons.mpr ⟨ilX7_brought_wsX7_brought_r2 _ (List.mem_of_getElem? (i := 5) rfl), (List.forall_mem_cons.mpr ⟨ilX7_brought_wsX7_brought_r2 _ (List.mem_of_getElem? (i := 6) rfl), (List.forall_mem_cons.mpr ⟨ilX7_brought_wsX7_brought_r2 _ (List.mem_of_getElem? (i := 7) rfl), (List.forall_mem_cons.mpr ⟨ilX7_brought_wsX7_brought_r2 _ (List.mem_of_getElem? (i := 8) rfl), (List.forall_mem_cons.mpr ⟨ilX7_brought_wsX7_brought_r2 _ (List.mem_of_getElem? (i := 9) rfl), (List.forall_mem_cons.mpr ⟨ilX7_brought_wsX7_brought_r2 _ (List.mem_of_getElem? (i := 10) rfl), (List.forall_mem_cons.mpr ⟨ilX7_brought_wsX7_brought_r2 _ (List.mem_of_getElem? (i := 11) rfl), (List.forall_mem_cons.mpr ⟨ilX7_brought_wsX7_brought_r2 _ (List.mem_of_getElem? (i := 12) rfl), (List.forall_mem_cons.mpr ⟨ilX7_brought_wsX7_brought_r2 _ (List.mem_of_getElem? (i := 13) rfl), (List.forall_mem_cons.mpr ⟨ilX7_brought_wsX7_brought_r2 _ (List.mem_of_getElem? (i := 14) rfl), (List.forall_mem_cons.mpr ⟨ilX7_brought_wsX7_brought_r2 _ (List.mem_of_getElem? (i := 15) rfl), (fun _ h => absurd h List.not_mem_nil)⟩)⟩)⟩)⟩)⟩)⟩)⟩)⟩)⟩)⟩)⟩)⟩)⟩)⟩)⟩)⟩)⟩)⟩)⟩)⟩)⟩)⟩)⟩)⟩), (List.forall_mem_cons.mpr ⟨ilX7_brought_wsX7_brought_r2 _ (List.mem_of_getElem? (i := 16) rfl), (List.forall_mem_cons.mpr ⟨ilX7_brought_wsX7_brought_r2 _ (List.mem_of_getElem? (i := 17) rfl), (List.forall_mem_cons.mpr ⟨ilX7_brought_wsX7_brought_r2 _ (List.mem_of_getElem? (i := 18) rfl), (List.forall_mem_cons.mpr ⟨ilX7_brought_wsX7_brought_r2 _ (List.mem_of_getElem? (i := 19) rfl), (List.forall_mem_cons.mpr ⟨ilX7_brought_wsX7_brought_r2 _ (List.mem_of_getElem? (i := 20) rfl), (List.forall_mem_cons.mpr ⟨ilX7_brought_wsX7_brought_r2 _ (List.mem_of_getElem? (i := 21) rfl), (List.forall_mem_cons.mpr ⟨ilX7_brought_wsX7_brought_r2 _ (List.mem_of_getElem? (i := 22) rfl), (List.forall_mem_cons.mpr ⟨ilX7_brought_wsX7_brought_r2 _ (List.mem_of_getElem? (i := 23) rfl), (List.forall_mem_cons.mpr ⟨ilX7_brought_wsX7_brought_r3 _ (List.mem_of_getElem? (i := 0) rfl), (List.forall_mem_cons.mpr ⟨ilX7_brought_wsX7_brought_r3 _ (List.mem_of_getElem? (i := 1) rfl), (List.forall_mem_cons.mpr ⟨ilX7_brought_wsX7_brought_r3 _ (List.mem_of_getElem? (i := 2) rfl), (List.forall_mem_cons.mpr ⟨ilX7_brought_wsX7_brought_r3 _ (List.mem_of_getElem? (i := 3) rfl), (List.forall_mem_cons.mpr ⟨ilX7_brought_wsX7_brought_r3 _ (List.mem_of_getElem? (i := 4) rfl), (List.forall_mem_cons.mpr ⟨ilX7_brought_wsX7_brought_r3 _ (List.mem_of_getElem? (i := 5) rfl), (List.forall_mem_cons.mpr ⟨ilX7_brought_wsX7_brought_r3 _ (List.mem_of_getElem? (i := 6) rfl), (List.forall_mem_cons.mpr ⟨ilX7_brought_wsX7_brought_r3 _ (List.mem_of_getElem? (i := 7) rfl), (fun _ h => absurd h List.not_mem_nil)⟩)⟩)⟩)⟩)⟩)⟩)⟩)⟩)⟩)⟩)⟩)⟩)⟩)⟩)⟩)⟩)⟩), ilX7_brought_wsX10⟩), ilX7_brought_wsX40⟩)⟩) (by decide +kernel)
set_option maxRecDepth 20000 in
theorem gX7_brought_X4_shareNight : GoodIn wsX7_brought (wsV RX7 132 RX4 yX4_shareNight wsX4_shareNight) := goodIn_app (goodIn_sub (List.forall_mem_cons.mpr ⟨ilX7_brought_wsX7_brought_r1 _ (List.mem_of_getElem? (i := 12) rfl), (List.forall_mem_cons.mpr ⟨ilX7_brought_wsX7_brought_r1 _ (List.mem_of_getElem? (i := 13) rfl), (List.forall_mem_cons.mpr ⟨ilX7_brought_wsX7_brought_r1 _ (List.mem_of_getElem? (i := 14) rfl), (List.forall_mem_cons.mpr ⟨ilX7_brought_wsX7_brought_r1 _ (List.mem_of_getElem? (i := 15) rfl), (fun _ h => absurd h List.not_mem_nil)⟩)⟩)⟩)⟩) (by decide +kernel)) ggX7_brought_X4_shareNight
set_option maxRecDepth 20000 in
theorem ggX7_brought_X4_yieldTonight : GoodIn wsX7_brought wsX4_yieldTonight := goodIn_sub (List.forall_mem_cons.mpr ⟨ilX7_brought_wsX7_brought_r3 _ (List.mem_of_getElem? (i := 11) rfl), (List.forall_mem_append.mpr ⟨(List.forall_mem_append.mpr ⟨(List.forall_mem_cons.mpr ⟨ilX7_brought_wsX7_brought_r1 _ (List.mem_of_getElem? (i := 17) rfl), (List.forall_mem_cons.mpr ⟨ilX7_brought_wsX7_brought_r1 _ (List.mem_of_getElem? (i := 18) rfl), (List.forall_mem_cons.mpr ⟨ilX7_brought_wsX7_brought_r3 _ (List.mem_of_getElem? (i := 12) rfl), (List.forall_mem_cons.mpr ⟨ilX7_brought_wsX7_brought_r3 _ (List.mem_of_getElem? (i := 13) rfl), (List.forall_mem_cons.mpr ⟨ilX7_brought_wsX7_brought_r3 _ (List.mem_of_getElem? (i := 14) rfl), (List.forall_mem_cons.mpr ⟨ilX7_brought_wsX7_brought_r2 _ (List.mem_of_getElem? (i := 23) rfl), (List.forall_mem_cons.mpr ⟨ilX7_brought_wsX7_brought_r3 _ (List.mem_of_getElem? (i := 15) rfl), (List.forall_mem_cons.mpr ⟨ilX7_brought_wsX7_brought_r3 _ (List.mem_of_getElem? (i := 16) rfl), (List.forall_mem_cons.mpr ⟨ilX7_brought_wsX7_brought_r3 _ (List.mem_of_getElem? (i := 17) rfl), (fun _ h => absurd h List.not_mem_nil)⟩)⟩)⟩)⟩)⟩)⟩)⟩)⟩)⟩), ilX7_brought_wsX10⟩), ilX7_brought_wsX40⟩)⟩) (by decide +kernel)
set_option maxRecDepth 20000 in
theorem gX7_brought_X4_yieldTonight : GoodIn wsX7_brought (wsV RX7 143 RX4 yX4_yieldTonight wsX4_yieldTonight) := goodIn_app (goodIn_sub (List.forall_mem_cons.mpr ⟨ilX7_brought_wsX7_brought_r3 _ (List.mem_of_getElem? (i := 8) rfl), (List.forall_mem_cons.mpr ⟨ilX7_brought_wsX7_brought_r3 _ (List.mem_of_getElem? (i := 9) rfl), (List.forall_mem_cons.mpr ⟨ilX7_brought_wsX7_brought_r3 _ (List.mem_of_getElem? (i := 10) rfl), (List.forall_mem_cons.mpr ⟨ilX7_brought_wsX7_brought_r1 _ (List.mem_of_getElem? (i := 15) rfl), (fun _ h => absurd h List.not_mem_nil)⟩)⟩)⟩)⟩) (by decide +kernel)) ggX7_brought_X4_yieldTonight
theorem dX7_brought_0 : decode cX7_brought 0 = .ok (.aload_n 0, 1) := by decide +kernel
theorem dX7_brought_1 : decode cX7_brought 1 = .ok (.getfield 71, 3) := by decide +kernel
theorem dX7_brought_4 : decode cX7_brought 4 = .ok (.ifCond .eq 10, 3) := by decide +kernel
theorem dX7_brought_7 : decode cX7_brought 7 = .ok (.iload_n 1, 1) := by decide +kernel
theorem dX7_brought_8 : decode cX7_brought 8 = .ok (.invokestatic 111, 3) := by decide +kernel
theorem dX7_brought_11 : decode cX7_brought 11 = .ok (.ifCond .ne 5, 3) := by decide +kernel
theorem dX7_brought_14 : decode cX7_brought 14 = .ok (.iconst (-1), 1) := by decide +kernel
theorem dX7_brought_15 : decode cX7_brought 15 = .ok (.ireturn, 1) := by decide +kernel
theorem dX7_brought_16 : decode cX7_brought 16 = .ok (.aload_n 0, 1) := by decide +kernel
theorem dX7_brought_17 : decode cX7_brought 17 = .ok (.getfield 19, 3) := by decide +kernel
theorem dX7_brought_20 : decode cX7_brought 20 = .ok (.aload_n 0, 1) := by decide +kernel
theorem dX7_brought_21 : decode cX7_brought 21 = .ok (.getfield 55, 3) := by decide +kernel
theorem dX7_brought_24 : decode cX7_brought 24 = .ok (.iload_n 1, 1) := by decide +kernel
theorem dX7_brought_25 : decode cX7_brought 25 = .ok (.aload_n 0, 1) := by decide +kernel
theorem dX7_brought_26 : decode cX7_brought 26 = .ok (.getfield 55, 3) := by decide +kernel
theorem dX7_brought_29 : decode cX7_brought 29 = .ok (.getfield 114, 3) := by decide +kernel
theorem dX7_brought_32 : decode cX7_brought 32 = .ok (.aload_n 0, 1) := by decide +kernel
theorem dX7_brought_33 : decode cX7_brought 33 = .ok (.getfield 55, 3) := by decide +kernel
theorem dX7_brought_36 : decode cX7_brought 36 = .ok (.getfield 117, 3) := by decide +kernel
theorem dX7_brought_39 : decode cX7_brought 39 = .ok (.invokevirtual 132, 3) := by decide +kernel
theorem dX7_brought_42 : decode cX7_brought 42 = .ok (.aload_n 0, 1) := by decide +kernel
theorem dX7_brought_43 : decode cX7_brought 43 = .ok (.getfield 19, 3) := by decide +kernel
theorem dX7_brought_46 : decode cX7_brought 46 = .ok (.aload_n 0, 1) := by decide +kernel
theorem dX7_brought_47 : decode cX7_brought 47 = .ok (.getfield 55, 3) := by decide +kernel
theorem dX7_brought_50 : decode cX7_brought 50 = .ok (.invokevirtual 143, 3) := by decide +kernel
theorem dX7_brought_53 : decode cX7_brought 53 = .ok (.ireturn, 1) := by decide +kernel
theorem ilX7_moon_wsX7_moon_r1 : ∀ w ∈ wsX7_moon_r1, w ∈ wsX7_moon := fun _ h => List.mem_cons_of_mem _ (List.mem_append_left _ (List.mem_append_left _ (List.mem_append_left _ (List.mem_append_left _ (h)))))
theorem ilX7_moon_wsX7_moon_r2 : ∀ w ∈ wsX7_moon_r2, w ∈ wsX7_moon := fun _ h => List.mem_cons_of_mem _ (List.mem_append_left _ (List.mem_append_left _ (List.mem_append_left _ (List.mem_append_right _ (List.mem_append_left _ (h))))))
theorem ilX7_moon_wsX7_moon_r3 : ∀ w ∈ wsX7_moon_r3, w ∈ wsX7_moon := fun _ h => List.mem_cons_of_mem _ (List.mem_append_left _ (List.mem_append_left _ (List.mem_append_left _ (List.mem_append_right _ (List.mem_append_right _ (List.mem_append_left _ (h)))))))
theorem ilX7_moon_wsX7_moon_r4 : ∀ w ∈ wsX7_moon_r4, w ∈ wsX7_moon := fun _ h => List.mem_cons_of_mem _ (List.mem_append_left _ (List.mem_append_left _ (List.mem_append_left _ (List.mem_append_right _ (List.mem_append_right _ (List.mem_append_right _ (h)))))))
theorem ilX7_moon_wsX70 : ∀ w ∈ wsX70, w ∈ wsX7_moon := fun _ h => List.mem_cons_of_mem _ (List.mem_append_left _ (List.mem_append_left _ (List.mem_append_right _ (h))))
theorem ilX7_moon_wsX40 : ∀ w ∈ wsX40, w ∈ wsX7_moon := fun _ h => List.mem_cons_of_mem _ (List.mem_append_left _ (List.mem_append_right _ (h)))
theorem ilX7_moon_wsX10 : ∀ w ∈ wsX10, w ∈ wsX7_moon := fun _ h => List.mem_cons_of_mem _ (List.mem_append_right _ (h))
set_option maxRecDepth 20000 in
theorem ggX7_moon_X7_isIn : GoodIn wsX7_moon wsX7_isIn := goodIn_sub (List.forall_mem_cons.mpr ⟨ilX7_moon_wsX7_moon_r1 _ (List.mem_of_getElem? (i := 8) rfl), (fun _ h => absurd h List.not_mem_nil)⟩) (by decide +kernel)
set_option maxRecDepth 20000 in
theorem gX7_moon_X7_isIn : GoodIn wsX7_moon (va_wsS RX7 146 yX7_isIn wsX7_isIn) := goodIn_app (goodIn_of _ (by decide +kernel)) ggX7_moon_X7_isIn
set_option maxRecDepth 20000 in
theorem ggX7_moon_X4_shareMoon : GoodIn wsX7_moon wsX4_shareMoon := goodIn_sub (List.forall_mem_cons.mpr ⟨ilX7_moon_wsX7_moon_r1 _ (List.mem_of_getElem? (i := 13) rfl), (List.forall_mem_append.mpr ⟨(List.forall_mem_append.mpr ⟨(List.forall_mem_append.mpr ⟨(List.forall_mem_cons.mpr ⟨ilX7_moon_wsX7_moon_r1 _ (List.mem_of_getElem? (i := 14) rfl), (List.forall_mem_cons.mpr ⟨ilX7_moon_wsX7_moon_r1 _ (List.mem_of_getElem? (i := 15) rfl), (List.forall_mem_cons.mpr ⟨ilX7_moon_wsX7_moon_r1 _ (List.mem_of_getElem? (i := 16) rfl), (List.forall_mem_cons.mpr ⟨ilX7_moon_wsX7_moon_r1 _ (List.mem_of_getElem? (i := 17) rfl), (List.forall_mem_cons.mpr ⟨ilX7_moon_wsX7_moon_r1 _ (List.mem_of_getElem? (i := 18) rfl), (List.forall_mem_cons.mpr ⟨ilX7_moon_wsX7_moon_r1 _ (List.mem_of_getElem? (i := 19) rfl), (List.forall_mem_cons.mpr ⟨ilX7_moon_wsX7_moon_r1 _ (List.mem_of_getElem? (i := 20) rfl), (List.forall_mem_cons.mpr ⟨ilX7_moon_wsX7_moon_r1 _ (List.mem_of_getElem? (i := 21) rfl), (List.forall_mem_cons.mpr ⟨ilX7_moon_wsX7_moon_r1 _ (List.mem_of_getElem? (i := 22) rfl), (List.forall_mem_cons.mpr ⟨ilX7_moon_wsX7_moon_r1 _ (List.mem_of_getElem? (i := 12) rfl), (List.forall_mem_cons.mpr ⟨ilX7_moon_wsX7_moon_r1 _ (List.mem_of_getElem? (i := 23) rfl), (List.forall_mem_cons.mpr ⟨ilX7_moon_wsX7_moon_r2 _ (List.mem_of_getElem? (i := 0) rfl), (List.forall_mem_cons.mpr ⟨ilX7_moon_wsX7_moon_r2 _ (List.mem_of_getElem? (i := 1) rfl), (List.forall_mem_cons.mpr ⟨ilX7_moon_wsX7_moon_r2 _ (List.mem_of_getElem? (i := 2) rfl), (List.forall_mem_cons.mpr ⟨ilX7_moon_wsX7_moon_r2 _ (List.mem_of_getElem? (i := 3) rfl), (List.forall_mem_cons.mpr ⟨ilX7_moon_wsX7_moon_r2 _ (List.mem_of_getElem? (i := 4) rfl), (List.forall_mem_cons.mpr ⟨ilX7_moon_wsX7_moon_r2 _ (List.mem_of_getElem? (i := 5) rfl), (List.forall_mem_cons.mpr ⟨ilX7_moon_wsX7_moon_r2 _ (List.mem_of_getElem? (i := 6) rfl), (List.forall_mem_cons.mpr ⟨ilX7_moon_wsX7_moon_r2 _ (List.mem_of_getElem? (i := 7) rfl), (List.forall_mem_cons.mpr ⟨ilX7_moon_wsX7_moon_r2 _ (List.mem_of_getElem? (i := 8) rfl), (List.forall_mem_cons.mpr ⟨ilX7_moon_wsX7_moon_r2 _ (List.mem_of_getElem? (i := 9) rfl), (List.forall_mem_cons.mpr ⟨ilX7_moon_wsX7_moon_r2 _ (List.mem_of_getElem? (i := 10) rfl), (List.forall_mem_cons.mpr ⟨ilX7_moon_wsX7_moon_r2 _ (List.mem_of_getElem? (i := 11) rfl), (List.forall_mem_cons.mpr ⟨ilX7_moon_wsX7_moon_r2 _ (List.mem_of_getElem? (i := 12) rfl), (fun _ h => absurd h List.not_mem_nil)⟩)⟩)⟩)⟩)⟩)⟩)⟩)⟩)⟩)⟩)⟩)⟩)⟩)⟩)⟩)⟩)⟩)⟩)⟩)⟩)⟩)⟩)⟩)⟩), (List.forall_mem_append.mpr ⟨(List.forall_mem_cons.mpr ⟨ilX7_moon_wsX7_moon_r2 _ (List.mem_of_getElem? (i := 13) rfl), (List.forall_mem_cons.mpr ⟨ilX7_moon_wsX7_moon_r2 _ (List.mem_of_getElem? (i := 14) rfl), (List.forall_mem_cons.mpr ⟨ilX7_moon_wsX7_moon_r2 _ (List.mem_of_getElem? (i := 15) rfl), (List.forall_mem_cons.mpr ⟨ilX7_moon_wsX7_moon_r2 _ (List.mem_of_getElem? (i := 16) rfl), (List.forall_mem_cons.mpr ⟨ilX7_moon_wsX7_moon_r2 _ (List.mem_of_getElem? (i := 17) rfl), (List.forall_mem_cons.mpr ⟨ilX7_moon_wsX7_moon_r2 _ (List.mem_of_getElem? (i := 18) rfl), (List.forall_mem_cons.mpr ⟨ilX7_moon_wsX7_moon_r2 _ (List.mem_of_getElem? (i := 19) rfl), (List.forall_mem_cons.mpr ⟨ilX7_moon_wsX7_moon_r2 _ (List.mem_of_getElem? (i := 20) rfl), (List.forall_mem_cons.mpr ⟨ilX7_moon_wsX7_moon_r2 _ (List.mem_of_getElem? (i := 21) rfl), (List.forall_mem_cons.mpr ⟨ilX7_moon_wsX7_moon_r2 _ (List.mem_of_getElem? (i := 22) rfl), (List.forall_mem_cons.mpr ⟨ilX7_moon_wsX7_moon_r2 _ (List.mem_of_getElem? (i := 23) rfl), (List.forall_mem_cons.mpr ⟨ilX7_moon_wsX7_moon_r3 _ (List.mem_of_getElem? (i := 0) rfl), (List.forall_mem_cons.mpr ⟨ilX7_moon_wsX7_moon_r3 _ (List.mem_of_getElem? (i := 1) rfl), (List.forall_mem_cons.mpr ⟨ilX7_moon_wsX7_moon_r3 _ (List.mem_of_getElem? (i := 2) rfl), (List.forall_mem_cons.mpr ⟨ilX7_moon_wsX7_moon_r3 _ (List.mem_of_getElem? (i := 3) rfl), (List.forall_mem_cons.mpr ⟨ilX7_moon_wsX7_moon_r3 _ (List.mem_of_getElem? (i := 4) rfl), (List.forall_mem_cons.mpr ⟨ilX7_moon_wsX7_moon_r3 _ (List.mem_of_getElem? (i := 5) rfl), (List.forall_mem_cons.mpr ⟨ilX7_moon_wsX7_moon_r3 _ (List.mem_of_getElem? (i := 6) rfl), (List.forall_mem_cons.mpr ⟨ilX7_moon_wsX7_moon_r3 _ (List.mem_of_getElem? (i := 7) rfl), (List.forall_mem_cons.mpr ⟨ilX7_moon_wsX7_moon_r3 _ (List.mem_of_getElem? (i := 8) rfl), (List.forall_mem_cons.mpr ⟨ilX7_moon_wsX7_moon_r3 _ (List.mem_of_getElem? (i := 9) rfl), (List.forall_mem_cons.mpr ⟨ilX7_moon_wsX7_moon_r3 _ (List.mem_of_getElem? (i := 10) rfl), (List.forall_mem_cons.mpr ⟨ilX7_moon_wsX7_moon_r3 _ (List.mem_of_getElem? (i := 11) rfl), (List.forall_mem_cons.mpr ⟨ilX7_moon_wsX7_moon_r3 _ (List.mem_of_getElem? (i := 12) rfl), (fun _ h => absurd h List.not_mem_nil)⟩)⟩)⟩)⟩)⟩)⟩)⟩)⟩)⟩)⟩)⟩)⟩)⟩)⟩)⟩)⟩)⟩)⟩)⟩)⟩)⟩)⟩)⟩)⟩), (List.forall_mem_cons.mpr ⟨ilX7_moon_wsX7_moon_r3 _ (List.mem_of_getElem? (i := 13) rfl), (List.forall_mem_cons.mpr ⟨ilX7_moon_wsX7_moon_r3 _ (List.mem_of_getElem? (i := 14) rfl), (List.forall_mem_cons.mpr ⟨ilX7_moon_wsX7_moon_r3 _ (List.mem_of_getElem? (i := 15) rfl), (List.forall_mem_cons.mpr ⟨ilX7_moon_wsX7_moon_r3 _ (List.mem_of_getElem? (i := 16) rfl), (List.forall_mem_cons.mpr ⟨ilX7_moon_wsX7_moon_r3 _ (List.mem_of_getElem? (i := 17) rfl), (List.forall_mem_cons.mpr ⟨ilX7_moon_wsX7_moon_r3 _ (List.mem_of_getElem? (i := 18) rfl), (List.forall_mem_cons.mpr ⟨ilX7_moon_wsX7_moon_r3 _ (List.mem_of_getElem? (i := 19) rfl), (List.forall_mem_cons.mpr ⟨ilX7_moon_wsX7_moon_r3 _ (List.mem_of_getElem? (i := 20) rfl), (List.forall_mem_cons.mpr ⟨ilX7_moon_wsX7_moon_r3 _ (List.mem_of_getElem? (i := 21) rfl), (List.forall_mem_cons.mpr ⟨ilX7_moon_wsX7_moon_r3 _ (List.mem_of_getElem? (i := 22) rfl), (List.forall_mem_cons.mpr ⟨ilX7_moon_wsX7_moon_r3 _ (List.mem_of_getElem? (i := 23) rfl), (List.forall_mem_cons.mpr ⟨ilX7_moon_wsX7_moon_r4 _ (List.mem_of_getElem? (i := 0) rfl), (List.forall_mem_cons.mpr ⟨ilX7_moon_wsX7_moon_r4 _ (List.mem_of_getElem? (i := 1) rfl), (fun _ h => absurd h List.not_mem_nil)⟩)⟩)⟩)⟩)⟩)⟩)⟩)⟩)⟩)⟩)⟩)⟩)⟩)⟩)⟩), ilX7_moon_wsX40⟩), ilX7_moon_wsX10⟩)⟩) (by decide +kernel)
set_option maxRecDepth 20000 in
theorem gX7_moon_X4_shareMoon : GoodIn wsX7_moon (wsV RX7 150 RX4 yX4_shareMoon wsX4_shareMoon) := goodIn_app (goodIn_sub (List.forall_mem_cons.mpr ⟨ilX7_moon_wsX7_moon_r1 _ (List.mem_of_getElem? (i := 9) rfl), (List.forall_mem_cons.mpr ⟨ilX7_moon_wsX7_moon_r1 _ (List.mem_of_getElem? (i := 10) rfl), (List.forall_mem_cons.mpr ⟨ilX7_moon_wsX7_moon_r1 _ (List.mem_of_getElem? (i := 11) rfl), (List.forall_mem_cons.mpr ⟨ilX7_moon_wsX7_moon_r1 _ (List.mem_of_getElem? (i := 12) rfl), (fun _ h => absurd h List.not_mem_nil)⟩)⟩)⟩)⟩) (by decide +kernel)) ggX7_moon_X4_shareMoon
theorem dX7_moon_0 : decode cX7_moon 0 = .ok (.aload_n 0, 1) := by decide +kernel
theorem dX7_moon_1 : decode cX7_moon 1 = .ok (.getfield 71, 3) := by decide +kernel
theorem dX7_moon_4 : decode cX7_moon 4 = .ok (.ifCond .eq 32, 3) := by decide +kernel
theorem dX7_moon_7 : decode cX7_moon 7 = .ok (.iload_n 1, 1) := by decide +kernel
theorem dX7_moon_8 : decode cX7_moon 8 = .ok (.iconst 0, 1) := by decide +kernel
theorem dX7_moon_9 : decode cX7_moon 9 = .ok (.bipush 16, 2) := by decide +kernel
theorem dX7_moon_11 : decode cX7_moon 11 = .ok (.invokestatic 146, 3) := by decide +kernel
theorem dX7_moon_14 : decode cX7_moon 14 = .ok (.ifCond .eq 22, 3) := by decide +kernel
theorem dX7_moon_17 : decode cX7_moon 17 = .ok (.iload_n 2, 1) := by decide +kernel
theorem dX7_moon_18 : decode cX7_moon 18 = .ok (.iconst 1, 1) := by decide +kernel
theorem dX7_moon_19 : decode cX7_moon 19 = .ok (.bipush 9, 2) := by decide +kernel
theorem dX7_moon_21 : decode cX7_moon 21 = .ok (.invokestatic 146, 3) := by decide +kernel
theorem dX7_moon_24 : decode cX7_moon 24 = .ok (.ifCond .eq 12, 3) := by decide +kernel
theorem dX7_moon_27 : decode cX7_moon 27 = .ok (.iload_n 3, 1) := by decide +kernel
theorem dX7_moon_28 : decode cX7_moon 28 = .ok (.iconst 0, 1) := by decide +kernel
theorem dX7_moon_29 : decode cX7_moon 29 = .ok (.iconst 1, 1) := by decide +kernel
theorem dX7_moon_30 : decode cX7_moon 30 = .ok (.invokestatic 146, 3) := by decide +kernel
theorem dX7_moon_33 : decode cX7_moon 33 = .ok (.ifCond .ne 5, 3) := by decide +kernel
theorem dX7_moon_36 : decode cX7_moon 36 = .ok (.iconst (-1), 1) := by decide +kernel
theorem dX7_moon_37 : decode cX7_moon 37 = .ok (.ireturn, 1) := by decide +kernel
theorem dX7_moon_38 : decode cX7_moon 38 = .ok (.aload_n 0, 1) := by decide +kernel
theorem dX7_moon_39 : decode cX7_moon 39 = .ok (.getfield 19, 3) := by decide +kernel
theorem dX7_moon_42 : decode cX7_moon 42 = .ok (.aload_n 0, 1) := by decide +kernel
theorem dX7_moon_43 : decode cX7_moon 43 = .ok (.getfield 55, 3) := by decide +kernel
theorem dX7_moon_46 : decode cX7_moon 46 = .ok (.iload_n 1, 1) := by decide +kernel
theorem dX7_moon_47 : decode cX7_moon 47 = .ok (.iload_n 2, 1) := by decide +kernel
theorem dX7_moon_48 : decode cX7_moon 48 = .ok (.invokevirtual 150, 3) := by decide +kernel
theorem dX7_moon_51 : decode cX7_moon 51 = .ok (.iload_n 3, 1) := by decide +kernel
theorem dX7_moon_52 : decode cX7_moon 52 = .ok (.ifCond .ne 13, 3) := by decide +kernel
theorem dX7_moon_55 : decode cX7_moon 55 = .ok (.aload_n 0, 1) := by decide +kernel
theorem dX7_moon_56 : decode cX7_moon 56 = .ok (.getfield 19, 3) := by decide +kernel
theorem dX7_moon_59 : decode cX7_moon 59 = .ok (.getfield 154, 3) := by decide +kernel
theorem dX7_moon_62 : decode cX7_moon 62 = .ok (.goto 10, 3) := by decide +kernel
theorem dX7_moon_65 : decode cX7_moon 65 = .ok (.aload_n 0, 1) := by decide +kernel
theorem dX7_moon_66 : decode cX7_moon 66 = .ok (.getfield 19, 3) := by decide +kernel
theorem dX7_moon_69 : decode cX7_moon 69 = .ok (.getfield 157, 3) := by decide +kernel
theorem dX7_moon_72 : decode cX7_moon 72 = .ok (.ireturn, 1) := by decide +kernel
theorem ilX7_best_wsX7_best_r1 : ∀ w ∈ wsX7_best_r1, w ∈ wsX7_best := fun _ h => List.mem_cons_of_mem _ (List.mem_append_left _ (List.mem_append_left _ (List.mem_append_left _ (List.mem_append_left _ (h)))))
theorem ilX7_best_wsX7_best_r2 : ∀ w ∈ wsX7_best_r2, w ∈ wsX7_best := fun _ h => List.mem_cons_of_mem _ (List.mem_append_left _ (List.mem_append_left _ (List.mem_append_left _ (List.mem_append_right _ (List.mem_append_left _ (h))))))
theorem ilX7_best_wsX7_best_r3 : ∀ w ∈ wsX7_best_r3, w ∈ wsX7_best := fun _ h => List.mem_cons_of_mem _ (List.mem_append_left _ (List.mem_append_left _ (List.mem_append_left _ (List.mem_append_right _ (List.mem_append_right _ (List.mem_append_left _ (h)))))))
theorem ilX7_best_wsX7_best_r4 : ∀ w ∈ wsX7_best_r4, w ∈ wsX7_best := fun _ h => List.mem_cons_of_mem _ (List.mem_append_left _ (List.mem_append_left _ (List.mem_append_left _ (List.mem_append_right _ (List.mem_append_right _ (List.mem_append_right _ (List.mem_append_left _ (h))))))))
theorem ilX7_best_wsX7_best_r5 : ∀ w ∈ wsX7_best_r5, w ∈ wsX7_best := fun _ h => List.mem_cons_of_mem _ (List.mem_append_left _ (List.mem_append_left _ (List.mem_append_left _ (List.mem_append_right _ (List.mem_append_right _ (List.mem_append_right _ (List.mem_append_right _ (h))))))))
theorem ilX7_best_wsX70 : ∀ w ∈ wsX70, w ∈ wsX7_best := fun _ h => List.mem_cons_of_mem _ (List.mem_append_left _ (List.mem_append_left _ (List.mem_append_right _ (h))))
theorem ilX7_best_wsX40 : ∀ w ∈ wsX40, w ∈ wsX7_best := fun _ h => List.mem_cons_of_mem _ (List.mem_append_left _ (List.mem_append_right _ (h)))
theorem ilX7_best_wsX10 : ∀ w ∈ wsX10, w ∈ wsX7_best := fun _ h => List.mem_cons_of_mem _ (List.mem_append_right _ (h))
set_option maxRecDepth 20000 in
theorem ggX7_best_X7_isIn : GoodIn wsX7_best wsX7_isIn := goodIn_sub (List.forall_mem_cons.mpr ⟨ilX7_best_wsX7_best_r1 _ (List.mem_of_getElem? (i := 9) rfl), (fun _ h => absurd h List.not_mem_nil)⟩) (by decide +kernel)
set_option maxRecDepth 20000 in
theorem gX7_best_X7_isIn : GoodIn wsX7_best (va_wsS RX7 146 yX7_isIn wsX7_isIn) := goodIn_app (goodIn_of _ (by decide +kernel)) ggX7_best_X7_isIn
set_option maxRecDepth 20000 in
theorem ggX7_best_X4_seekBest : GoodIn wsX7_best wsX4_seekBest := goodIn_sub (List.forall_mem_cons.mpr ⟨ilX7_best_wsX7_best_r1 _ (List.mem_of_getElem? (i := 14) rfl), (List.forall_mem_append.mpr ⟨(List.forall_mem_append.mpr ⟨(List.forall_mem_append.mpr ⟨(List.forall_mem_cons.mpr ⟨ilX7_best_wsX7_best_r1 _ (List.mem_of_getElem? (i := 15) rfl), (List.forall_mem_cons.mpr ⟨ilX7_best_wsX7_best_r1 _ (List.mem_of_getElem? (i := 16) rfl), (List.forall_mem_cons.mpr ⟨ilX7_best_wsX7_best_r1 _ (List.mem_of_getElem? (i := 17) rfl), (List.forall_mem_cons.mpr ⟨ilX7_best_wsX7_best_r1 _ (List.mem_of_getElem? (i := 13) rfl), (List.forall_mem_cons.mpr ⟨ilX7_best_wsX7_best_r1 _ (List.mem_of_getElem? (i := 18) rfl), (List.forall_mem_cons.mpr ⟨ilX7_best_wsX7_best_r1 _ (List.mem_of_getElem? (i := 19) rfl), (List.forall_mem_cons.mpr ⟨ilX7_best_wsX7_best_r1 _ (List.mem_of_getElem? (i := 20) rfl), (List.forall_mem_cons.mpr ⟨ilX7_best_wsX7_best_r1 _ (List.mem_of_getElem? (i := 21) rfl), (List.forall_mem_cons.mpr ⟨ilX7_best_wsX7_best_r1 _ (List.mem_of_getElem? (i := 22) rfl), (List.forall_mem_cons.mpr ⟨ilX7_best_wsX7_best_r1 _ (List.mem_of_getElem? (i := 23) rfl), (List.forall_mem_cons.mpr ⟨ilX7_best_wsX7_best_r2 _ (List.mem_of_getElem? (i := 0) rfl), (List.forall_mem_cons.mpr ⟨ilX7_best_wsX7_best_r2 _ (List.mem_of_getElem? (i := 1) rfl), (List.forall_mem_cons.mpr ⟨ilX7_best_wsX7_best_r2 _ (List.mem_of_getElem? (i := 2) rfl), (List.forall_mem_cons.mpr ⟨ilX7_best_wsX7_best_r2 _ (List.mem_of_getElem? (i := 3) rfl), (List.forall_mem_cons.mpr ⟨ilX7_best_wsX7_best_r2 _ (List.mem_of_getElem? (i := 4) rfl), (List.forall_mem_cons.mpr ⟨ilX7_best_wsX7_best_r2 _ (List.mem_of_getElem? (i := 5) rfl), (List.forall_mem_cons.mpr ⟨ilX7_best_wsX7_best_r2 _ (List.mem_of_getElem? (i := 6) rfl), (List.forall_mem_cons.mpr ⟨ilX7_best_wsX7_best_r2 _ (List.mem_of_getElem? (i := 7) rfl), (List.forall_mem_cons.mpr ⟨ilX7_best_wsX7_best_r2 _ (List.mem_of_getElem? (i := 8) rfl), (List.forall_mem_cons.mpr ⟨ilX7_best_wsX7_best_r2 _ (List.mem_of_getElem? (i := 9) rfl), (List.forall_mem_cons.mpr ⟨ilX7_best_wsX7_best_r2 _ (List.mem_of_getElem? (i := 10) rfl), (List.forall_mem_cons.mpr ⟨ilX7_best_wsX7_best_r2 _ (List.mem_of_getElem? (i := 11) rfl), (List.forall_mem_cons.mpr ⟨ilX7_best_wsX7_best_r2 _ (List.mem_of_getElem? (i := 12) rfl), (List.forall_mem_cons.mpr ⟨ilX7_best_wsX7_best_r2 _ (List.mem_of_getElem? (i := 13) rfl), (fun _ h => absurd h List.not_mem_nil)⟩)⟩)⟩)⟩)⟩)⟩)⟩)⟩)⟩)⟩)⟩)⟩)⟩)⟩)⟩)⟩)⟩)⟩)⟩)⟩)⟩)⟩)⟩)⟩), (List.forall_mem_append.mpr ⟨(List.forall_mem_cons.mpr ⟨ilX7_best_wsX7_best_r2 _ (List.mem_of_getElem? (i := 14) rfl), (List.forall_mem_cons.mpr ⟨ilX7_best_wsX7_best_r2 _ (List.mem_of_getElem? (i := 15) rfl), (List.forall_mem_cons.mpr ⟨ilX7_best_wsX7_best_r2 _ (List.mem_of_getElem? (i := 16) rfl), (List.forall_mem_cons.mpr ⟨ilX7_best_wsX7_best_r2 _ (List.mem_of_getElem? (i := 17) rfl), (List.forall_mem_cons.mpr ⟨ilX7_best_wsX7_best_r2 _ (List.mem_of_getElem? (i := 18) rfl), (List.forall_mem_cons.mpr ⟨ilX7_best_wsX7_best_r2 _ (List.mem_of_getElem? (i := 19) rfl), (List.forall_mem_cons.mpr ⟨ilX7_best_wsX7_best_r2 _ (List.mem_of_getElem? (i := 20) rfl), (List.forall_mem_cons.mpr ⟨ilX7_best_wsX7_best_r2 _ (List.mem_of_getElem? (i := 21) rfl), (List.forall_mem_cons.mpr ⟨ilX7_best_wsX7_best_r2 _ (List.mem_of_getElem? (i := 22) rfl), (List.forall_mem_cons.mpr ⟨ilX7_best_wsX7_best_r2 _ (List.mem_of_getElem? (i := 23) rfl), (List.forall_mem_cons.mpr ⟨ilX7_best_wsX7_best_r3 _ (List.mem_of_getElem? (i := 0) rfl), (List.forall_mem_cons.mpr ⟨ilX7_best_wsX7_best_r3 _ (List.mem_of_getElem? (i := 1) rfl), (List.forall_mem_cons.mpr ⟨ilX7_best_wsX7_best_r3 _ (List.mem_of_getElem? (i := 2) rfl), (List.forall_mem_cons.mpr ⟨ilX7_best_wsX7_best_r3 _ (List.mem_of_getElem? (i := 3) rfl), (List.forall_mem_cons.mpr ⟨ilX7_best_wsX7_best_r3 _ (List.mem_of_getElem? (i := 4) rfl), (List.forall_mem_cons.mpr ⟨ilX7_best_wsX7_best_r3 _ (List.mem_of_getElem? (i := 5) rfl), (List.forall_mem_cons.mpr ⟨ilX7_best_wsX7_best_r3 _ (List.mem_of_getElem? (i := 6) rfl), (List.forall_mem_cons.mpr ⟨ilX7_best_wsX7_best_r3 _ (List.mem_of_getElem? (i := 7) rfl), (List.forall_mem_cons.mpr ⟨ilX7_best_wsX7_best_r3 _ (List.mem_of_getElem? (i := 8) rfl), (List.forall_mem_cons.mpr ⟨ilX7_best_wsX7_best_r3 _ (List.mem_of_getElem? (i := 9) rfl), (List.forall_mem_cons.mpr ⟨ilX7_best_wsX7_best_r3 _ (List.mem_of_getElem? (i := 10) rfl), (List.forall_mem_cons.mpr ⟨ilX7_best_wsX7_best_r3 _ (List.mem_of_getElem? (i := 11) rfl), (List.forall_mem_cons.mpr ⟨ilX7_best_wsX7_best_r3 _ (List.mem_of_getElem? (i := 12) rfl), (List.forall_mem_cons.mpr ⟨ilX7_best_wsX7_best_r3 _ (List.mem_of_getElem? (i := 13) rfl), (fun _ h => absurd h List.not_mem_nil)⟩)⟩)⟩)⟩)⟩)⟩)⟩)⟩)⟩)⟩)⟩)⟩)⟩)⟩)⟩)⟩)⟩)⟩)⟩)⟩)⟩)⟩)⟩)⟩), (List.forall_mem_append.mpr ⟨(List.forall_mem_cons.mpr ⟨ilX7_best_wsX7_best_r3 _ (List.mem_of_getElem? (i := 14) rfl), (List.forall_mem_cons.mpr ⟨ilX7_best_wsX7_best_r3 _ (List.mem_of_getElem? (i := 15) rfl), (List.forall_mem_cons.mpr ⟨ilX7_best_wsX7_best_r3 _ (List.mem_of_getElem? (i := 16) rfl), (List.forall_mem_cons.mpr ⟨ilX7_best_wsX7_best_r3 _ (List.mem_of_getElem? (i := 17) rfl), (List.forall_mem_cons.mpr ⟨ilX7_best_wsX7_best_r3 _ (List.mem_of_getElem? (i := 18) rfl), (List.forall_mem_cons.mpr ⟨ilX7_best_wsX7_best_r3 _ (List.mem_of_getElem? (i := 19) rfl), (List.forall_mem_cons.mpr ⟨ilX7_best_wsX7_best_r3 _ (List.mem_of_getElem? (i := 20) rfl), (List.forall_mem_cons.mpr ⟨ilX7_best_wsX7_best_r3 _ (List.mem_of_getElem? (i := 21) rfl), (List.forall_mem_cons.mpr ⟨ilX7_best_wsX7_best_r3 _ (List.mem_of_getElem? (i := 22) rfl), (List.forall_mem_cons.mpr ⟨ilX7_best_wsX7_best_r3 _ (List.mem_of_getElem? (i := 23) rfl), (List.forall_mem_cons.mpr ⟨ilX7_best_wsX7_best_r4 _ (List.mem_of_getElem? (i := 0) rfl), (List.forall_mem_cons.mpr ⟨ilX7_best_wsX7_best_r4 _ (List.mem_of_getElem? (i := 1) rfl), (List.forall_mem_cons.mpr ⟨ilX7_best_wsX7_best_r4 _ (List.mem_of_getElem? (i := 2) rfl), (List.forall_mem_cons.mpr ⟨ilX7_best_wsX7_best_r4 _ (List.mem_of_getElem? (i := 3) rfl), (List.forall_mem_cons.mpr ⟨ilX7_best_wsX7_best_r4 _ (List.mem_of_getElem? (i := 4) rfl), (List.forall_mem_cons.mpr ⟨ilX7_best_wsX7_best_r4 _ (List.mem_of_getElem? (i := 5) rfl), (List.forall_mem_cons.mpr ⟨ilX7_best_wsX7_best_r4 _ (List.mem_of_getElem? (i := 6) rfl), (List.forall_mem_cons.mpr ⟨ilX7_best_wsX7_best_r4 _ (List.mem_of_getElem? (i := 7) rfl), (List.forall_mem_cons.mpr ⟨ilX7_best_wsX7_best_r4 _ (List.mem_of_getElem? (i := 8) rfl), (List.forall_mem_cons.mpr ⟨ilX7_best_wsX7_best_r4 _ (List.mem_of_getElem? (i := 9) rfl), (List.forall_mem_cons.mpr ⟨ilX7_best_wsX7_best_r4 _ (List.mem_of_getElem? (i := 10) rfl), (List.forall_mem_cons.mpr ⟨ilX7_best_wsX7_best_r4 _ (List.mem_of_getElem? (i := 11) rfl), (List.forall_mem_cons.mpr ⟨ilX7_best_wsX7_best_r4 _ (List.mem_of_getElem? (i := 12) rfl), (List.forall_mem_cons.mpr ⟨ilX7_best_wsX7_best_r4 _ (List.mem_of_getElem? (i := 13) rfl), (fun _ h => absurd h List.not_mem_nil)⟩)⟩)⟩)⟩)⟩)⟩)⟩)⟩)⟩)⟩)⟩)⟩)⟩)⟩)⟩)⟩)⟩)⟩)⟩)⟩)⟩)⟩)⟩)⟩), (List.forall_mem_cons.mpr ⟨ilX7_best_wsX7_best_r4 _ (List.mem_of_getElem? (i := 14) rfl), (List.forall_mem_cons.mpr ⟨ilX7_best_wsX7_best_r4 _ (List.mem_of_getElem? (i := 15) rfl), (List.forall_mem_cons.mpr ⟨ilX7_best_wsX7_best_r4 _ (List.mem_of_getElem? (i := 16) rfl), (List.forall_mem_cons.mpr ⟨ilX7_best_wsX7_best_r4 _ (List.mem_of_getElem? (i := 17) rfl), (List.forall_mem_cons.mpr ⟨ilX7_best_wsX7_best_r4 _ (List.mem_of_getElem? (i := 18) rfl), (List.forall_mem_cons.mpr ⟨ilX7_best_wsX7_best_r4 _ (List.mem_of_getElem? (i := 19) rfl), (List.forall_mem_cons.mpr ⟨ilX7_best_wsX7_best_r4 _ (List.mem_of_getElem? (i := 20) rfl), (List.forall_mem_cons.mpr ⟨ilX7_best_wsX7_best_r4 _ (List.mem_of_getElem? (i := 21) rfl), (List.forall_mem_cons.mpr ⟨ilX7_best_wsX7_best_r4 _ (List.mem_of_getElem? (i := 22) rfl), (List.forall_mem_cons.mpr ⟨ilX7_best_wsX7_best_r4 _ (List.mem_of_getElem? (i := 23) rfl), (List.forall_mem_cons.mpr ⟨ilX7_best_wsX7_best_r5 _ (List.mem_of_getElem? (i := 0) rfl), (fun _ h => absurd h List.not_mem_nil)⟩)⟩)⟩)⟩)⟩)⟩)⟩)⟩)⟩)⟩)⟩)⟩)⟩)⟩), ilX7_best_wsX40⟩), ilX7_best_wsX10⟩)⟩) (by decide +kernel)
set_option maxRecDepth 20000 in
theorem gX7_best_X4_seekBest : GoodIn wsX7_best (wsV RX7 160 RX4 yX4_seekBest wsX4_seekBest) := goodIn_app (goodIn_sub (List.forall_mem_cons.mpr ⟨ilX7_best_wsX7_best_r1 _ (List.mem_of_getElem? (i := 10) rfl), (List.forall_mem_cons.mpr ⟨ilX7_best_wsX7_best_r1 _ (List.mem_of_getElem? (i := 11) rfl), (List.forall_mem_cons.mpr ⟨ilX7_best_wsX7_best_r1 _ (List.mem_of_getElem? (i := 12) rfl), (List.forall_mem_cons.mpr ⟨ilX7_best_wsX7_best_r1 _ (List.mem_of_getElem? (i := 13) rfl), (fun _ h => absurd h List.not_mem_nil)⟩)⟩)⟩)⟩) (by decide +kernel)) ggX7_best_X4_seekBest
theorem dX7_best_0 : decode cX7_best 0 = .ok (.aload_n 0, 1) := by decide +kernel
theorem dX7_best_1 : decode cX7_best 1 = .ok (.getfield 71, 3) := by decide +kernel
theorem dX7_best_4 : decode cX7_best 4 = .ok (.ifCond .eq 12, 3) := by decide +kernel
theorem dX7_best_7 : decode cX7_best 7 = .ok (.iload_n 1, 1) := by decide +kernel
theorem dX7_best_8 : decode cX7_best 8 = .ok (.iconst 0, 1) := by decide +kernel
theorem dX7_best_9 : decode cX7_best 9 = .ok (.iconst 2, 1) := by decide +kernel
theorem dX7_best_10 : decode cX7_best 10 = .ok (.invokestatic 146, 3) := by decide +kernel
theorem dX7_best_13 : decode cX7_best 13 = .ok (.ifCond .ne 5, 3) := by decide +kernel
theorem dX7_best_16 : decode cX7_best 16 = .ok (.iconst (-1), 1) := by decide +kernel
theorem dX7_best_17 : decode cX7_best 17 = .ok (.ireturn, 1) := by decide +kernel
theorem dX7_best_18 : decode cX7_best 18 = .ok (.aload_n 0, 1) := by decide +kernel
theorem dX7_best_19 : decode cX7_best 19 = .ok (.getfield 19, 3) := by decide +kernel
theorem dX7_best_22 : decode cX7_best 22 = .ok (.aload_n 0, 1) := by decide +kernel
theorem dX7_best_23 : decode cX7_best 23 = .ok (.getfield 55, 3) := by decide +kernel
theorem dX7_best_26 : decode cX7_best 26 = .ok (.invokevirtual 160, 3) := by decide +kernel
theorem dX7_best_29 : decode cX7_best 29 = .ok (.iload_n 1, 1) := by decide +kernel
theorem dX7_best_30 : decode cX7_best 30 = .ok (.ifCond .ne 11, 3) := by decide +kernel
theorem dX7_best_33 : decode cX7_best 33 = .ok (.aload_n 0, 1) := by decide +kernel
theorem dX7_best_34 : decode cX7_best 34 = .ok (.getfield 19, 3) := by decide +kernel
theorem dX7_best_37 : decode cX7_best 37 = .ok (.getfield 163, 3) := by decide +kernel
theorem dX7_best_40 : decode cX7_best 40 = .ok (.ireturn, 1) := by decide +kernel
theorem dX7_best_41 : decode cX7_best 41 = .ok (.iload_n 1, 1) := by decide +kernel
theorem dX7_best_42 : decode cX7_best 42 = .ok (.iconst 1, 1) := by decide +kernel
theorem dX7_best_43 : decode cX7_best 43 = .ok (.if_icmp .ne 13, 3) := by decide +kernel
theorem dX7_best_46 : decode cX7_best 46 = .ok (.aload_n 0, 1) := by decide +kernel
theorem dX7_best_47 : decode cX7_best 47 = .ok (.getfield 19, 3) := by decide +kernel
theorem dX7_best_50 : decode cX7_best 50 = .ok (.getfield 166, 3) := by decide +kernel
theorem dX7_best_53 : decode cX7_best 53 = .ok (.goto 10, 3) := by decide +kernel
theorem dX7_best_56 : decode cX7_best 56 = .ok (.aload_n 0, 1) := by decide +kernel
theorem dX7_best_57 : decode cX7_best 57 = .ok (.getfield 19, 3) := by decide +kernel
theorem dX7_best_60 : decode cX7_best 60 = .ok (.getfield 169, 3) := by decide +kernel
theorem dX7_best_63 : decode cX7_best 63 = .ok (.ireturn, 1) := by decide +kernel
theorem ilX7_gains_wsX7_gains_r1 : ∀ w ∈ wsX7_gains_r1, w ∈ wsX7_gains := fun _ h => List.mem_cons_of_mem _ (List.mem_append_left _ (List.mem_append_left _ (List.mem_append_left _ (List.mem_append_left _ (h)))))
theorem ilX7_gains_wsX7_gains_r2 : ∀ w ∈ wsX7_gains_r2, w ∈ wsX7_gains := fun _ h => List.mem_cons_of_mem _ (List.mem_append_left _ (List.mem_append_left _ (List.mem_append_left _ (List.mem_append_right _ (List.mem_append_left _ (h))))))
theorem ilX7_gains_wsX7_gains_r3 : ∀ w ∈ wsX7_gains_r3, w ∈ wsX7_gains := fun _ h => List.mem_cons_of_mem _ (List.mem_append_left _ (List.mem_append_left _ (List.mem_append_left _ (List.mem_append_right _ (List.mem_append_right _ (List.mem_append_left _ (h)))))))
theorem ilX7_gains_wsX7_gains_r4 : ∀ w ∈ wsX7_gains_r4, w ∈ wsX7_gains := fun _ h => List.mem_cons_of_mem _ (List.mem_append_left _ (List.mem_append_left _ (List.mem_append_left _ (List.mem_append_right _ (List.mem_append_right _ (List.mem_append_right _ (h)))))))
theorem ilX7_gains_wsX70 : ∀ w ∈ wsX70, w ∈ wsX7_gains := fun _ h => List.mem_cons_of_mem _ (List.mem_append_left _ (List.mem_append_left _ (List.mem_append_right _ (h))))
theorem ilX7_gains_wsX10 : ∀ w ∈ wsX10, w ∈ wsX7_gains := fun _ h => List.mem_cons_of_mem _ (List.mem_append_left _ (List.mem_append_right _ (h)))
theorem ilX7_gains_wsX40 : ∀ w ∈ wsX40, w ∈ wsX7_gains := fun _ h => List.mem_cons_of_mem _ (List.mem_append_right _ (h))
set_option maxRecDepth 20000 in
theorem ggX7_gains_X7_isSort : GoodIn wsX7_gains wsX7_isSort := goodIn_sub (List.forall_mem_cons.mpr ⟨ilX7_gains_wsX7_gains_r1 _ (List.mem_of_getElem? (i := 10) rfl), (List.forall_mem_append.mpr ⟨(List.forall_mem_append.mpr ⟨(List.forall_mem_cons.mpr ⟨ilX7_gains_wsX7_gains_r1 _ (List.mem_of_getElem? (i := 11) rfl), (List.forall_mem_cons.mpr ⟨ilX7_gains_wsX7_gains_r1 _ (List.mem_of_getElem? (i := 2) rfl), (List.forall_mem_cons.mpr ⟨ilX7_gains_wsX7_gains_r1 _ (List.mem_of_getElem? (i := 12) rfl), (List.forall_mem_cons.mpr ⟨ilX7_gains_wsX7_gains_r1 _ (List.mem_of_getElem? (i := 13) rfl), (List.forall_mem_cons.mpr ⟨ilX7_gains_wsX7_gains_r1 _ (List.mem_of_getElem? (i := 14) rfl), (List.forall_mem_cons.mpr ⟨ilX7_gains_wsX7_gains_r1 _ (List.mem_of_getElem? (i := 15) rfl), (List.forall_mem_cons.mpr ⟨ilX7_gains_wsX7_gains_r1 _ (List.mem_of_getElem? (i := 16) rfl), (List.forall_mem_cons.mpr ⟨ilX7_gains_wsX7_gains_r1 _ (List.mem_of_getElem? (i := 17) rfl), (fun _ h => absurd h List.not_mem_nil)⟩)⟩)⟩)⟩)⟩)⟩)⟩)⟩), ilX7_gains_wsX70⟩), ilX7_gains_wsX10⟩)⟩) (by decide +kernel)
set_option maxRecDepth 20000 in
theorem gX7_gains_X7_isSort : GoodIn wsX7_gains (wsV RX7 103 RX7 yX7_isSort wsX7_isSort) := goodIn_app (goodIn_sub (List.forall_mem_cons.mpr ⟨ilX7_gains_wsX7_gains_r1 _ (List.mem_of_getElem? (i := 6) rfl), (List.forall_mem_cons.mpr ⟨ilX7_gains_wsX7_gains_r1 _ (List.mem_of_getElem? (i := 7) rfl), (List.forall_mem_cons.mpr ⟨ilX7_gains_wsX7_gains_r1 _ (List.mem_of_getElem? (i := 8) rfl), (List.forall_mem_cons.mpr ⟨ilX7_gains_wsX7_gains_r1 _ (List.mem_of_getElem? (i := 9) rfl), (fun _ h => absurd h List.not_mem_nil)⟩)⟩)⟩)⟩) (by decide +kernel)) ggX7_gains_X7_isSort
set_option maxRecDepth 20000 in
theorem ggX7_gains_X4_shareMoon : GoodIn wsX7_gains wsX4_shareMoon := goodIn_sub (List.forall_mem_cons.mpr ⟨ilX7_gains_wsX7_gains_r1 _ (List.mem_of_getElem? (i := 22) rfl), (List.forall_mem_append.mpr ⟨(List.forall_mem_append.mpr ⟨(List.forall_mem_append.mpr ⟨(List.forall_mem_cons.mpr ⟨ilX7_gains_wsX7_gains_r1 _ (List.mem_of_getElem? (i := 23) rfl), (List.forall_mem_cons.mpr ⟨ilX7_gains_wsX7_gains_r2 _ (List.mem_of_getElem? (i := 0) rfl), (List.forall_mem_cons.mpr ⟨ilX7_gains_wsX7_gains_r2 _ (List.mem_of_getElem? (i := 1) rfl), (List.forall_mem_cons.mpr ⟨ilX7_gains_wsX7_gains_r2 _ (List.mem_of_getElem? (i := 2) rfl), (List.forall_mem_cons.mpr ⟨ilX7_gains_wsX7_gains_r2 _ (List.mem_of_getElem? (i := 3) rfl), (List.forall_mem_cons.mpr ⟨ilX7_gains_wsX7_gains_r2 _ (List.mem_of_getElem? (i := 4) rfl), (List.forall_mem_cons.mpr ⟨ilX7_gains_wsX7_gains_r2 _ (List.mem_of_getElem? (i := 5) rfl), (List.forall_mem_cons.mpr ⟨ilX7_gains_wsX7_gains_r2 _ (List.mem_of_getElem? (i := 6) rfl), (List.forall_mem_cons.mpr ⟨ilX7_gains_wsX7_gains_r2 _ (List.mem_of_getElem? (i := 7) rfl), (List.forall_mem_cons.mpr ⟨ilX7_gains_wsX7_gains_r1 _ (List.mem_of_getElem? (i := 21) rfl), (List.forall_mem_cons.mpr ⟨ilX7_gains_wsX7_gains_r2 _ (List.mem_of_getElem? (i := 8) rfl), (List.forall_mem_cons.mpr ⟨ilX7_gains_wsX7_gains_r2 _ (List.mem_of_getElem? (i := 9) rfl), (List.forall_mem_cons.mpr ⟨ilX7_gains_wsX7_gains_r2 _ (List.mem_of_getElem? (i := 10) rfl), (List.forall_mem_cons.mpr ⟨ilX7_gains_wsX7_gains_r2 _ (List.mem_of_getElem? (i := 11) rfl), (List.forall_mem_cons.mpr ⟨ilX7_gains_wsX7_gains_r2 _ (List.mem_of_getElem? (i := 12) rfl), (List.forall_mem_cons.mpr ⟨ilX7_gains_wsX7_gains_r2 _ (List.mem_of_getElem? (i := 13) rfl), (List.forall_mem_cons.mpr ⟨ilX7_gains_wsX7_gains_r2 _ (List.mem_of_getElem? (i := 14) rfl), (List.forall_mem_cons.mpr ⟨ilX7_gains_wsX7_gains_r2 _ (List.mem_of_getElem? (i := 15) rfl), (List.forall_mem_cons.mpr ⟨ilX7_gains_wsX7_gains_r2 _ (List.mem_of_getElem? (i := 16) rfl), (List.forall_mem_cons.mpr ⟨ilX7_gains_wsX7_gains_r2 _ (List.mem_of_getElem? (i := 17) rfl), (List.forall_mem_cons.mpr ⟨ilX7_gains_wsX7_gains_r2 _ (List.mem_of_getElem? (i := 18) rfl), (List.forall_mem_cons.mpr ⟨ilX7_gains_wsX7_gains_r2 _ (List.mem_of_getElem? (i := 19) rfl), (List.forall_mem_cons.mpr ⟨ilX7_gains_wsX7_gains_r2 _ (List.mem_of_getElem? (i := 20) rfl), (List.forall_mem_cons.mpr ⟨ilX7_gains_wsX7_gains_r2 _ (List.mem_of_getElem? (i := 21) rfl), (fun _ h => absurd h List.not_mem_nil)⟩)⟩)⟩)⟩)⟩)⟩)⟩)⟩)⟩)⟩)⟩)⟩)⟩)⟩)⟩)⟩)⟩)⟩)⟩)⟩)⟩)⟩)⟩)⟩), (List.forall_mem_append.mpr ⟨(List.forall_mem_cons.mpr ⟨ilX7_gains_wsX7_gains_r2 _ (List.mem_of_getElem? (i := 22) rfl), (List.forall_mem_cons.mpr ⟨ilX7_gains_wsX7_gains_r2 _ (List.mem_of_getElem? (i := 23) rfl), (List.forall_mem_cons.mpr ⟨ilX7_gains_wsX7_gains_r3 _ (List.mem_of_getElem? (i := 0) rfl), (List.forall_mem_cons.mpr ⟨ilX7_gains_wsX7_gains_r3 _ (List.mem_of_getElem? (i := 1) rfl), (List.forall_mem_cons.mpr ⟨ilX7_gains_wsX7_gains_r3 _ (List.mem_of_getElem? (i := 2) rfl), (List.forall_mem_cons.mpr ⟨ilX7_gains_wsX7_gains_r3 _ (List.mem_of_getElem? (i := 3) rfl), (List.forall_mem_cons.mpr ⟨ilX7_gains_wsX7_gains_r3 _ (List.mem_of_getElem? (i := 4) rfl), (List.forall_mem_cons.mpr ⟨ilX7_gains_wsX7_gains_r3 _ (List.mem_of_getElem? (i := 5) rfl), (List.forall_mem_cons.mpr ⟨ilX7_gains_wsX7_gains_r3 _ (List.mem_of_getElem? (i := 6) rfl), (List.forall_mem_cons.mpr ⟨ilX7_gains_wsX7_gains_r3 _ (List.mem_of_getElem? (i := 7) rfl), (List.forall_mem_cons.mpr ⟨ilX7_gains_wsX7_gains_r3 _ (List.mem_of_getElem? (i := 8) rfl), (List.forall_mem_cons.mpr ⟨ilX7_gains_wsX7_gains_r3 _ (List.mem_of_getElem? (i := 9) rfl), (List.forall_mem_cons.mpr ⟨ilX7_gains_wsX7_gains_r3 _ (List.mem_of_getElem? (i := 10) rfl), (List.forall_mem_cons.mpr ⟨ilX7_gains_wsX7_gains_r3 _ (List.mem_of_getElem? (i := 11) rfl), (List.forall_mem_cons.mpr ⟨ilX7_gains_wsX7_gains_r1 _ (List.mem_of_getElem? (i := 15) rfl), (List.forall_mem_cons.mpr ⟨ilX7_gains_wsX7_gains_r3 _ (List.mem_of_getElem? (i := 12) rfl), (List.forall_mem_cons.mpr ⟨ilX7_gains_wsX7_gains_r1 _ (List.mem_of_getElem? (i := 17) rfl), (List.forall_mem_cons.mpr ⟨ilX7_gains_wsX7_gains_r3 _ (List.mem_of_getElem? (i := 13) rfl), (List.forall_mem_cons.mpr ⟨ilX7_gains_wsX7_gains_r3 _ (List.mem_of_getElem? (i := 14) rfl), (List.forall_mem_cons.mpr ⟨ilX7_gains_wsX7_gains_r3 _ (List.mem_of_getElem? (i := 15) rfl), (List.forall_mem_cons.mpr ⟨ilX7_gains_wsX7_gains_r3 _ (List.mem_of_getElem? (i := 16) rfl), (List.forall_mem_cons.mpr ⟨ilX7_gains_wsX7_gains_r3 _ (List.mem_of_getElem? (i := 17) rfl), (List.forall_mem_cons.mpr ⟨ilX7_gains_wsX7_gains_r3 _ (List.mem_of_getElem? (i := 18) rfl), (List.forall_mem_cons.mpr ⟨ilX7_gains_wsX7_gains_r3 _ (List.mem_of_getElem? (i := 19) rfl), (fun _ h => absurd h List.not_mem_nil)⟩)⟩)⟩)⟩)⟩)⟩)⟩)⟩)⟩)⟩)⟩)⟩)⟩)⟩)⟩)⟩)⟩)⟩)⟩)⟩)⟩)⟩)⟩)⟩), (List.forall_mem_cons.mpr ⟨ilX7_gains_wsX7_gains_r3 _ (List.mem_of_getElem? (i := 20) rfl), (List.forall_mem_cons.mpr ⟨ilX7_gains_wsX7_gains_r3 _ (List.mem_of_getElem? (i := 21) rfl), (List.forall_mem_cons.mpr ⟨ilX7_gains_wsX7_gains_r3 _ (List.mem_of_getElem? (i := 22) rfl), (List.forall_mem_cons.mpr ⟨ilX7_gains_wsX7_gains_r3 _ (List.mem_of_getElem? (i := 23) rfl), (List.forall_mem_cons.mpr ⟨ilX7_gains_wsX7_gains_r4 _ (List.mem_of_getElem? (i := 0) rfl), (List.forall_mem_cons.mpr ⟨ilX7_gains_wsX7_gains_r4 _ (List.mem_of_getElem? (i := 1) rfl), (List.forall_mem_cons.mpr ⟨ilX7_gains_wsX7_gains_r4 _ (List.mem_of_getElem? (i := 2) rfl), (List.forall_mem_cons.mpr ⟨ilX7_gains_wsX7_gains_r4 _ (List.mem_of_getElem? (i := 3) rfl), (List.forall_mem_cons.mpr ⟨ilX7_gains_wsX7_gains_r4 _ (List.mem_of_getElem? (i := 4) rfl), (List.forall_mem_cons.mpr ⟨ilX7_gains_wsX7_gains_r4 _ (List.mem_of_getElem? (i := 5) rfl), (List.forall_mem_cons.mpr ⟨ilX7_gains_wsX7_gains_r4 _ (List.mem_of_getElem? (i := 6) rfl), (List.forall_mem_cons.mpr ⟨ilX7_gains_wsX7_gains_r4 _ (List.mem_of_getElem? (i := 7) rfl), (List.forall_mem_cons.mpr ⟨ilX7_gains_wsX7_gains_r4 _ (List.mem_of_getElem? (i := 8) rfl), (fun _ h => absurd h List.not_mem_nil)⟩)⟩)⟩)⟩)⟩)⟩)⟩)⟩)⟩)⟩)⟩)⟩)⟩)⟩)⟩), ilX7_gains_wsX40⟩), ilX7_gains_wsX10⟩)⟩) (by decide +kernel)
set_option maxRecDepth 20000 in
theorem gX7_gains_X4_shareMoon : GoodIn wsX7_gains (wsV RX7 150 RX4 yX4_shareMoon wsX4_shareMoon) := goodIn_app (goodIn_sub (List.forall_mem_cons.mpr ⟨ilX7_gains_wsX7_gains_r1 _ (List.mem_of_getElem? (i := 18) rfl), (List.forall_mem_cons.mpr ⟨ilX7_gains_wsX7_gains_r1 _ (List.mem_of_getElem? (i := 19) rfl), (List.forall_mem_cons.mpr ⟨ilX7_gains_wsX7_gains_r1 _ (List.mem_of_getElem? (i := 20) rfl), (List.forall_mem_cons.mpr ⟨ilX7_gains_wsX7_gains_r1 _ (List.mem_of_getElem? (i := 21) rfl), (fun _ h => absurd h List.not_mem_nil)⟩)⟩)⟩)⟩) (by decide +kernel)) ggX7_gains_X4_shareMoon
theorem dX7_gains_0 : decode cX7_gains 0 = .ok (.aload_n 0, 1) := by decide +kernel
theorem dX7_gains_1 : decode cX7_gains 1 = .ok (.iload_n 1, 1) := by decide +kernel
theorem dX7_gains_2 : decode cX7_gains 2 = .ok (.invokevirtual 103, 3) := by decide +kernel
theorem dX7_gains_5 : decode cX7_gains 5 = .ok (.ifCond .ne 6, 3) := by decide +kernel
theorem dX7_gains_8 : decode cX7_gains 8 = .ok (.ldc 172, 2) := by decide +kernel
theorem dX7_gains_10 : decode cX7_gains 10 = .ok (.ireturn, 1) := by decide +kernel
theorem dX7_gains_11 : decode cX7_gains 11 = .ok (.aload_n 0, 1) := by decide +kernel
theorem dX7_gains_12 : decode cX7_gains 12 = .ok (.getfield 19, 3) := by decide +kernel
theorem dX7_gains_15 : decode cX7_gains 15 = .ok (.aload_n 0, 1) := by decide +kernel
theorem dX7_gains_16 : decode cX7_gains 16 = .ok (.getfield 55, 3) := by decide +kernel
theorem dX7_gains_19 : decode cX7_gains 19 = .ok (.aload_n 0, 1) := by decide +kernel
theorem dX7_gains_20 : decode cX7_gains 20 = .ok (.getfield 55, 3) := by decide +kernel
theorem dX7_gains_23 : decode cX7_gains 23 = .ok (.getfield 114, 3) := by decide +kernel
theorem dX7_gains_26 : decode cX7_gains 26 = .ok (.aload_n 0, 1) := by decide +kernel
theorem dX7_gains_27 : decode cX7_gains 27 = .ok (.getfield 55, 3) := by decide +kernel
theorem dX7_gains_30 : decode cX7_gains 30 = .ok (.getfield 117, 3) := by decide +kernel
theorem dX7_gains_33 : decode cX7_gains 33 = .ok (.invokevirtual 150, 3) := by decide +kernel
theorem dX7_gains_36 : decode cX7_gains 36 = .ok (.aload_n 0, 1) := by decide +kernel
theorem dX7_gains_37 : decode cX7_gains 37 = .ok (.getfield 19, 3) := by decide +kernel
theorem dX7_gains_40 : decode cX7_gains 40 = .ok (.getfield 173, 3) := by decide +kernel
theorem dX7_gains_43 : decode cX7_gains 43 = .ok (.iload_n 1, 1) := by decide +kernel
theorem dX7_gains_44 : decode cX7_gains 44 = .ok (.iaload, 1) := by decide +kernel
theorem dX7_gains_45 : decode cX7_gains 45 = .ok (.istore_n 2, 1) := by decide +kernel
theorem dX7_gains_46 : decode cX7_gains 46 = .ok (.aload_n 0, 1) := by decide +kernel
theorem dX7_gains_47 : decode cX7_gains 47 = .ok (.getfield 19, 3) := by decide +kernel
theorem dX7_gains_50 : decode cX7_gains 50 = .ok (.aload_n 0, 1) := by decide +kernel
theorem dX7_gains_51 : decode cX7_gains 51 = .ok (.getfield 55, 3) := by decide +kernel
theorem dX7_gains_54 : decode cX7_gains 54 = .ok (.iconst 0, 1) := by decide +kernel
theorem dX7_gains_55 : decode cX7_gains 55 = .ok (.aload_n 0, 1) := by decide +kernel
theorem dX7_gains_56 : decode cX7_gains 56 = .ok (.getfield 55, 3) := by decide +kernel
theorem dX7_gains_59 : decode cX7_gains 59 = .ok (.getfield 117, 3) := by decide +kernel
theorem dX7_gains_62 : decode cX7_gains 62 = .ok (.invokevirtual 150, 3) := by decide +kernel
theorem dX7_gains_65 : decode cX7_gains 65 = .ok (.iload_n 2, 1) := by decide +kernel
theorem dX7_gains_66 : decode cX7_gains 66 = .ok (.aload_n 0, 1) := by decide +kernel
theorem dX7_gains_67 : decode cX7_gains 67 = .ok (.getfield 19, 3) := by decide +kernel
theorem dX7_gains_70 : decode cX7_gains 70 = .ok (.getfield 173, 3) := by decide +kernel
theorem dX7_gains_73 : decode cX7_gains 73 = .ok (.iload_n 1, 1) := by decide +kernel
theorem dX7_gains_74 : decode cX7_gains 74 = .ok (.iaload, 1) := by decide +kernel
theorem dX7_gains_75 : decode cX7_gains 75 = .ok (.isub, 1) := by decide +kernel
theorem dX7_gains_76 : decode cX7_gains 76 = .ok (.ireturn, 1) := by decide +kernel
theorem ilX7_seed_wsX70 : ∀ w ∈ wsX70, w ∈ wsX7_seed := fun _ h => List.mem_cons_of_mem _ (List.mem_append_left _ (List.mem_append_right _ (h)))
theorem ilX7_seed_wsX20 : ∀ w ∈ wsX20, w ∈ wsX7_seed := fun _ h => List.mem_cons_of_mem _ (List.mem_append_right _ (h))
set_option maxRecDepth 20000 in
theorem ggX7_seed_X7_isIn : GoodIn wsX7_seed wsX7_isIn := goodIn_sub (List.forall_mem_cons.mpr ⟨List.mem_cons_of_mem _ (List.mem_append_left _ (List.mem_append_left _ (List.mem_of_getElem? (i := 6) rfl))), (fun _ h => absurd h List.not_mem_nil)⟩) (by decide +kernel)
set_option maxRecDepth 20000 in
theorem gX7_seed_X7_isIn : GoodIn wsX7_seed (va_wsS RX7 146 yX7_isIn wsX7_isIn) := goodIn_app (goodIn_of _ (by decide +kernel)) ggX7_seed_X7_isIn
theorem dX7_seed_0 : decode cX7_seed 0 = .ok (.iload_n 1, 1) := by decide +kernel
theorem dX7_seed_1 : decode cX7_seed 1 = .ok (.iconst 0, 1) := by decide +kernel
theorem dX7_seed_2 : decode cX7_seed 2 = .ok (.ldc 176, 2) := by decide +kernel
theorem dX7_seed_4 : decode cX7_seed 4 = .ok (.invokestatic 146, 3) := by decide +kernel
theorem dX7_seed_7 : decode cX7_seed 7 = .ok (.ifCond .ne 5, 3) := by decide +kernel
theorem dX7_seed_10 : decode cX7_seed 10 = .ok (.iconst 0, 1) := by decide +kernel
theorem dX7_seed_11 : decode cX7_seed 11 = .ok (.ireturn, 1) := by decide +kernel
theorem dX7_seed_12 : decode cX7_seed 12 = .ok (.aload_n 0, 1) := by decide +kernel
theorem dX7_seed_13 : decode cX7_seed 13 = .ok (.getfield 26, 3) := by decide +kernel
theorem dX7_seed_16 : decode cX7_seed 16 = .ok (.iload_n 1, 1) := by decide +kernel
theorem dX7_seed_17 : decode cX7_seed 17 = .ok (.putfield 91, 3) := by decide +kernel
theorem dX7_seed_20 : decode cX7_seed 20 = .ok (.iconst 1, 1) := by decide +kernel
theorem dX7_seed_21 : decode cX7_seed 21 = .ok (.ireturn, 1) := by decide +kernel
theorem ilX7_lend_wsX7_lend_r1 : ∀ w ∈ wsX7_lend_r1, w ∈ wsX7_lend := fun _ h => List.mem_cons_of_mem _ (List.mem_append_left _ (List.mem_append_left _ (List.mem_append_left _ (List.mem_append_left _ (h)))))
theorem ilX7_lend_wsX7_lend_r2 : ∀ w ∈ wsX7_lend_r2, w ∈ wsX7_lend := fun _ h => List.mem_cons_of_mem _ (List.mem_append_left _ (List.mem_append_left _ (List.mem_append_left _ (List.mem_append_right _ (h)))))
theorem ilX7_lend_wsX70 : ∀ w ∈ wsX70, w ∈ wsX7_lend := fun _ h => List.mem_cons_of_mem _ (List.mem_append_left _ (List.mem_append_left _ (List.mem_append_right _ (h))))
theorem ilX7_lend_wsX10 : ∀ w ∈ wsX10, w ∈ wsX7_lend := fun _ h => List.mem_cons_of_mem _ (List.mem_append_left _ (List.mem_append_right _ (h)))
theorem ilX7_lend_wsX20 : ∀ w ∈ wsX20, w ∈ wsX7_lend := fun _ h => List.mem_cons_of_mem _ (List.mem_append_right _ (h))
set_option maxRecDepth 20000 in
theorem ggX7_lend_X7_canBeLoan : GoodIn wsX7_lend wsX7_canBeLoan := goodIn_sub (List.forall_mem_cons.mpr ⟨ilX7_lend_wsX7_lend_r1 _ (List.mem_of_getElem? (i := 6) rfl), (List.forall_mem_append.mpr ⟨(List.forall_mem_append.mpr ⟨(List.forall_mem_cons.mpr ⟨ilX7_lend_wsX7_lend_r1 _ (List.mem_of_getElem? (i := 7) rfl), (List.forall_mem_cons.mpr ⟨ilX7_lend_wsX7_lend_r1 _ (List.mem_of_getElem? (i := 8) rfl), (List.forall_mem_cons.mpr ⟨ilX7_lend_wsX7_lend_r1 _ (List.mem_of_getElem? (i := 9) rfl), (List.forall_mem_cons.mpr ⟨ilX7_lend_wsX7_lend_r1 _ (List.mem_of_getElem? (i := 5) rfl), (List.forall_mem_cons.mpr ⟨ilX7_lend_wsX7_lend_r1 _ (List.mem_of_getElem? (i := 10) rfl), (List.forall_mem_cons.mpr ⟨ilX7_lend_wsX7_lend_r1 _ (List.mem_of_getElem? (i := 11) rfl), (List.forall_mem_cons.mpr ⟨ilX7_lend_wsX7_lend_r1 _ (List.mem_of_getElem? (i := 1) rfl), (List.forall_mem_cons.mpr ⟨ilX7_lend_wsX7_lend_r1 _ (List.mem_of_getElem? (i := 12) rfl), (List.forall_mem_cons.mpr ⟨ilX7_lend_wsX7_lend_r1 _ (List.mem_of_getElem? (i := 13) rfl), (List.forall_mem_cons.mpr ⟨ilX7_lend_wsX7_lend_r1 _ (List.mem_of_getElem? (i := 14) rfl), (List.forall_mem_cons.mpr ⟨ilX7_lend_wsX7_lend_r1 _ (List.mem_of_getElem? (i := 15) rfl), (List.forall_mem_cons.mpr ⟨ilX7_lend_wsX7_lend_r1 _ (List.mem_of_getElem? (i := 16) rfl), (List.forall_mem_cons.mpr ⟨ilX7_lend_wsX7_lend_r1 _ (List.mem_of_getElem? (i := 17) rfl), (List.forall_mem_cons.mpr ⟨ilX7_lend_wsX7_lend_r1 _ (List.mem_of_getElem? (i := 18) rfl), (List.forall_mem_cons.mpr ⟨ilX7_lend_wsX7_lend_r1 _ (List.mem_of_getElem? (i := 19) rfl), (List.forall_mem_cons.mpr ⟨ilX7_lend_wsX7_lend_r1 _ (List.mem_of_getElem? (i := 20) rfl), (fun _ h => absurd h List.not_mem_nil)⟩)⟩)⟩)⟩)⟩)⟩)⟩)⟩)⟩)⟩)⟩)⟩)⟩)⟩)⟩)⟩), ilX7_lend_wsX70⟩), ilX7_lend_wsX10⟩)⟩) (by decide +kernel)
set_option maxRecDepth 20000 in
theorem gX7_lend_X7_canBeLoan : GoodIn wsX7_lend (wsV RX7 177 RX7 yX7_canBeLoan wsX7_canBeLoan) := goodIn_app (goodIn_sub (List.forall_mem_cons.mpr ⟨ilX7_lend_wsX7_lend_r1 _ (List.mem_of_getElem? (i := 2) rfl), (List.forall_mem_cons.mpr ⟨ilX7_lend_wsX7_lend_r1 _ (List.mem_of_getElem? (i := 3) rfl), (List.forall_mem_cons.mpr ⟨ilX7_lend_wsX7_lend_r1 _ (List.mem_of_getElem? (i := 4) rfl), (List.forall_mem_cons.mpr ⟨ilX7_lend_wsX7_lend_r1 _ (List.mem_of_getElem? (i := 5) rfl), (fun _ h => absurd h List.not_mem_nil)⟩)⟩)⟩)⟩) (by decide +kernel)) ggX7_lend_X7_canBeLoan
set_option maxRecDepth 20000 in
theorem ggX7_lend_X2_makeLoan : GoodIn wsX7_lend wsX2_makeLoan := goodIn_sub (List.forall_mem_cons.mpr ⟨ilX7_lend_wsX7_lend_r2 _ (List.mem_of_getElem? (i := 1) rfl), (List.forall_mem_append.mpr ⟨(List.forall_mem_append.mpr ⟨(List.forall_mem_cons.mpr ⟨ilX7_lend_wsX7_lend_r2 _ (List.mem_of_getElem? (i := 2) rfl), (List.forall_mem_cons.mpr ⟨ilX7_lend_wsX7_lend_r2 _ (List.mem_of_getElem? (i := 3) rfl), (List.forall_mem_cons.mpr ⟨ilX7_lend_wsX7_lend_r2 _ (List.mem_of_getElem? (i := 4) rfl), (List.forall_mem_cons.mpr ⟨ilX7_lend_wsX7_lend_r2 _ (List.mem_of_getElem? (i := 5) rfl), (List.forall_mem_cons.mpr ⟨ilX7_lend_wsX7_lend_r2 _ (List.mem_of_getElem? (i := 6) rfl), (List.forall_mem_cons.mpr ⟨ilX7_lend_wsX7_lend_r2 _ (List.mem_of_getElem? (i := 7) rfl), (List.forall_mem_cons.mpr ⟨ilX7_lend_wsX7_lend_r2 _ (List.mem_of_getElem? (i := 8) rfl), (List.forall_mem_cons.mpr ⟨ilX7_lend_wsX7_lend_r2 _ (List.mem_of_getElem? (i := 9) rfl), (List.forall_mem_cons.mpr ⟨ilX7_lend_wsX7_lend_r2 _ (List.mem_of_getElem? (i := 10) rfl), (List.forall_mem_cons.mpr ⟨ilX7_lend_wsX7_lend_r2 _ (List.mem_of_getElem? (i := 11) rfl), (List.forall_mem_cons.mpr ⟨ilX7_lend_wsX7_lend_r2 _ (List.mem_of_getElem? (i := 12) rfl), (List.forall_mem_cons.mpr ⟨ilX7_lend_wsX7_lend_r2 _ (List.mem_of_getElem? (i := 13) rfl), (List.forall_mem_cons.mpr ⟨ilX7_lend_wsX7_lend_r2 _ (List.mem_of_getElem? (i := 0) rfl), (List.forall_mem_cons.mpr ⟨ilX7_lend_wsX7_lend_r2 _ (List.mem_of_getElem? (i := 14) rfl), (List.forall_mem_cons.mpr ⟨ilX7_lend_wsX7_lend_r2 _ (List.mem_of_getElem? (i := 15) rfl), (List.forall_mem_cons.mpr ⟨ilX7_lend_wsX7_lend_r1 _ (List.mem_of_getElem? (i := 13) rfl), (List.forall_mem_cons.mpr ⟨ilX7_lend_wsX7_lend_r1 _ (List.mem_of_getElem? (i := 14) rfl), (List.forall_mem_cons.mpr ⟨ilX7_lend_wsX7_lend_r1 _ (List.mem_of_getElem? (i := 15) rfl), (List.forall_mem_cons.mpr ⟨ilX7_lend_wsX7_lend_r1 _ (List.mem_of_getElem? (i := 16) rfl), (List.forall_mem_cons.mpr ⟨ilX7_lend_wsX7_lend_r1 _ (List.mem_of_getElem? (i := 17) rfl), (fun _ h => absurd h List.not_mem_nil)⟩)⟩)⟩)⟩)⟩)⟩)⟩)⟩)⟩)⟩)⟩)⟩)⟩)⟩)⟩)⟩)⟩)⟩)⟩)⟩), ilX7_lend_wsX20⟩), ilX7_lend_wsX10⟩)⟩) (by decide +kernel)
set_option maxRecDepth 20000 in
theorem gX7_lend_X2_makeLoan : GoodIn wsX7_lend (wsV RX7 181 RX2 yX2_makeLoan wsX2_makeLoan) := goodIn_app (goodIn_sub (List.forall_mem_cons.mpr ⟨ilX7_lend_wsX7_lend_r1 _ (List.mem_of_getElem? (i := 21) rfl), (List.forall_mem_cons.mpr ⟨ilX7_lend_wsX7_lend_r1 _ (List.mem_of_getElem? (i := 22) rfl), (List.forall_mem_cons.mpr ⟨ilX7_lend_wsX7_lend_r1 _ (List.mem_of_getElem? (i := 23) rfl), (List.forall_mem_cons.mpr ⟨ilX7_lend_wsX7_lend_r2 _ (List.mem_of_getElem? (i := 0) rfl), (fun _ h => absurd h List.not_mem_nil)⟩)⟩)⟩)⟩) (by decide +kernel)) ggX7_lend_X2_makeLoan
theorem dX7_lend_0 : decode cX7_lend 0 = .ok (.aload_n 0, 1) := by decide +kernel
theorem dX7_lend_1 : decode cX7_lend 1 = .ok (.iload_n 1, 1) := by decide +kernel
theorem dX7_lend_2 : decode cX7_lend 2 = .ok (.iload_n 2, 1) := by decide +kernel
theorem dX7_lend_3 : decode cX7_lend 3 = .ok (.iload_n 3, 1) := by decide +kernel
theorem dX7_lend_4 : decode cX7_lend 4 = .ok (.iload 4, 2) := by decide +kernel
theorem dX7_lend_6 : decode cX7_lend 6 = .ok (.invokevirtual 177, 3) := by decide +kernel
theorem dX7_lend_9 : decode cX7_lend 9 = .ok (.ifCond .ne 5, 3) := by decide +kernel
theorem dX7_lend_12 : decode cX7_lend 12 = .ok (.iconst (-1), 1) := by decide +kernel
theorem dX7_lend_13 : decode cX7_lend 13 = .ok (.ireturn, 1) := by decide +kernel
theorem dX7_lend_14 : decode cX7_lend 14 = .ok (.aload_n 0, 1) := by decide +kernel
theorem dX7_lend_15 : decode cX7_lend 15 = .ok (.getfield 26, 3) := by decide +kernel
theorem dX7_lend_18 : decode cX7_lend 18 = .ok (.aload_n 0, 1) := by decide +kernel
theorem dX7_lend_19 : decode cX7_lend 19 = .ok (.getfield 55, 3) := by decide +kernel
theorem dX7_lend_22 : decode cX7_lend 22 = .ok (.iload_n 1, 1) := by decide +kernel
theorem dX7_lend_23 : decode cX7_lend 23 = .ok (.iload_n 2, 1) := by decide +kernel
theorem dX7_lend_24 : decode cX7_lend 24 = .ok (.iload_n 3, 1) := by decide +kernel
theorem dX7_lend_25 : decode cX7_lend 25 = .ok (.iload 4, 2) := by decide +kernel
theorem dX7_lend_27 : decode cX7_lend 27 = .ok (.invokevirtual 181, 3) := by decide +kernel
theorem dX7_lend_30 : decode cX7_lend 30 = .ok (.ireturn, 1) := by decide +kernel
theorem ilX7_go_wsX7_go_r1 : ∀ w ∈ wsX7_go_r1, w ∈ wsX7_go := fun _ h => List.mem_cons_of_mem _ (List.mem_append_left _ (List.mem_append_left _ (List.mem_append_left _ (List.mem_append_left _ (h)))))
theorem ilX7_go_wsX7_go_r2 : ∀ w ∈ wsX7_go_r2, w ∈ wsX7_go := fun _ h => List.mem_cons_of_mem _ (List.mem_append_left _ (List.mem_append_left _ (List.mem_append_left _ (List.mem_append_right _ (List.mem_append_left _ (h))))))
theorem ilX7_go_wsX7_go_r3 : ∀ w ∈ wsX7_go_r3, w ∈ wsX7_go := fun _ h => List.mem_cons_of_mem _ (List.mem_append_left _ (List.mem_append_left _ (List.mem_append_left _ (List.mem_append_right _ (List.mem_append_right _ (h))))))
theorem ilX7_go_wsX70 : ∀ w ∈ wsX70, w ∈ wsX7_go := fun _ h => List.mem_cons_of_mem _ (List.mem_append_left _ (List.mem_append_left _ (List.mem_append_right _ (h))))
theorem ilX7_go_wsX20 : ∀ w ∈ wsX20, w ∈ wsX7_go := fun _ h => List.mem_cons_of_mem _ (List.mem_append_left _ (List.mem_append_right _ (h)))
theorem ilX7_go_wsX10 : ∀ w ∈ wsX10, w ∈ wsX7_go := fun _ h => List.mem_cons_of_mem _ (List.mem_append_right _ (h))
set_option maxRecDepth 20000 in
theorem ggX7_go_X7_isIn : GoodIn wsX7_go wsX7_isIn := goodIn_sub (List.forall_mem_cons.mpr ⟨ilX7_go_wsX7_go_r1 _ (List.mem_of_getElem? (i := 7) rfl), (fun _ h => absurd h List.not_mem_nil)⟩) (by decide +kernel)
set_option maxRecDepth 20000 in
theorem gX7_go_X7_isIn : GoodIn wsX7_go (va_wsS RX7 146 yX7_isIn wsX7_isIn) := goodIn_app (goodIn_of _ (by decide +kernel)) ggX7_go_X7_isIn
set_option maxRecDepth 20000 in
theorem ggX7_go_X2_passNight : GoodIn wsX7_go wsX2_passNight := goodIn_sub (List.forall_mem_cons.mpr ⟨ilX7_go_wsX7_go_r1 _ (List.mem_of_getElem? (i := 12) rfl), (List.forall_mem_append.mpr ⟨(List.forall_mem_append.mpr ⟨(List.forall_mem_cons.mpr ⟨ilX7_go_wsX7_go_r1 _ (List.mem_of_getElem? (i := 13) rfl), (List.forall_mem_cons.mpr ⟨ilX7_go_wsX7_go_r1 _ (List.mem_of_getElem? (i := 14) rfl), (List.forall_mem_cons.mpr ⟨ilX7_go_wsX7_go_r1 _ (List.mem_of_getElem? (i := 15) rfl), (List.forall_mem_cons.mpr ⟨ilX7_go_wsX7_go_r1 _ (List.mem_of_getElem? (i := 16) rfl), (List.forall_mem_cons.mpr ⟨ilX7_go_wsX7_go_r1 _ (List.mem_of_getElem? (i := 17) rfl), (List.forall_mem_cons.mpr ⟨ilX7_go_wsX7_go_r1 _ (List.mem_of_getElem? (i := 18) rfl), (List.forall_mem_cons.mpr ⟨ilX7_go_wsX7_go_r1 _ (List.mem_of_getElem? (i := 11) rfl), (List.forall_mem_cons.mpr ⟨ilX7_go_wsX7_go_r1 _ (List.mem_of_getElem? (i := 19) rfl), (List.forall_mem_cons.mpr ⟨ilX7_go_wsX7_go_r1 _ (List.mem_of_getElem? (i := 20) rfl), (List.forall_mem_cons.mpr ⟨ilX7_go_wsX7_go_r1 _ (List.mem_of_getElem? (i := 21) rfl), (List.forall_mem_cons.mpr ⟨ilX7_go_wsX7_go_r1 _ (List.mem_of_getElem? (i := 22) rfl), (List.forall_mem_cons.mpr ⟨ilX7_go_wsX7_go_r1 _ (List.mem_of_getElem? (i := 23) rfl), (List.forall_mem_cons.mpr ⟨ilX7_go_wsX7_go_r2 _ (List.mem_of_getElem? (i := 0) rfl), (List.forall_mem_cons.mpr ⟨ilX7_go_wsX7_go_r2 _ (List.mem_of_getElem? (i := 1) rfl), (List.forall_mem_cons.mpr ⟨ilX7_go_wsX7_go_r2 _ (List.mem_of_getElem? (i := 2) rfl), (List.forall_mem_cons.mpr ⟨ilX7_go_wsX7_go_r2 _ (List.mem_of_getElem? (i := 3) rfl), (List.forall_mem_cons.mpr ⟨ilX7_go_wsX7_go_r2 _ (List.mem_of_getElem? (i := 4) rfl), (List.forall_mem_cons.mpr ⟨ilX7_go_wsX7_go_r2 _ (List.mem_of_getElem? (i := 5) rfl), (List.forall_mem_cons.mpr ⟨ilX7_go_wsX7_go_r2 _ (List.mem_of_getElem? (i := 6) rfl), (List.forall_mem_cons.mpr ⟨ilX7_go_wsX7_go_r2 _ (List.mem_of_getElem? (i := 7) rfl), (List.forall_mem_cons.mpr ⟨ilX7_go_wsX7_go_r2 _ (List.mem_of_getElem? (i := 8) rfl), (List.forall_mem_cons.mpr ⟨ilX7_go_wsX7_go_r2 _ (List.mem_of_getElem? (i := 9) rfl), (List.forall_mem_cons.mpr ⟨ilX7_go_wsX7_go_r2 _ (List.mem_of_getElem? (i := 10) rfl), (fun _ h => absurd h List.not_mem_nil)⟩)⟩)⟩)⟩)⟩)⟩)⟩)⟩)⟩)⟩)⟩)⟩)⟩)⟩)⟩)⟩)⟩)⟩)⟩)⟩)⟩)⟩)⟩), ilX7_go_wsX20⟩), ilX7_go_wsX10⟩)⟩) (by decide +kernel)
set_option maxRecDepth 20000 in
theorem gX7_go_X2_passNight : GoodIn wsX7_go (wsV RX7 184 RX2 yX2_passNight wsX2_passNight) := goodIn_app (goodIn_sub (List.forall_mem_cons.mpr ⟨ilX7_go_wsX7_go_r1 _ (List.mem_of_getElem? (i := 8) rfl), (List.forall_mem_cons.mpr ⟨ilX7_go_wsX7_go_r1 _ (List.mem_of_getElem? (i := 9) rfl), (List.forall_mem_cons.mpr ⟨ilX7_go_wsX7_go_r1 _ (List.mem_of_getElem? (i := 10) rfl), (List.forall_mem_cons.mpr ⟨ilX7_go_wsX7_go_r1 _ (List.mem_of_getElem? (i := 11) rfl), (fun _ h => absurd h List.not_mem_nil)⟩)⟩)⟩)⟩) (by decide +kernel)) ggX7_go_X2_passNight
set_option maxRecDepth 20000 in
theorem ggX7_go_X1_isStruckAt : GoodIn wsX7_go wsX1_isStruckAt := goodIn_sub (List.forall_mem_cons.mpr ⟨ilX7_go_wsX7_go_r2 _ (List.mem_of_getElem? (i := 14) rfl), (List.forall_mem_append.mpr ⟨(List.forall_mem_cons.mpr ⟨ilX7_go_wsX7_go_r2 _ (List.mem_of_getElem? (i := 15) rfl), (List.forall_mem_cons.mpr ⟨ilX7_go_wsX7_go_r2 _ (List.mem_of_getElem? (i := 16) rfl), (fun _ h => absurd h List.not_mem_nil)⟩)⟩), ilX7_go_wsX10⟩)⟩) (by decide +kernel)
set_option maxRecDepth 20000 in
theorem gX7_go_X1_isStruckAt : GoodIn wsX7_go (wsV RX7 190 RX1 yX1_isStruckAt wsX1_isStruckAt) := goodIn_app (goodIn_sub (List.forall_mem_cons.mpr ⟨ilX7_go_wsX7_go_r2 _ (List.mem_of_getElem? (i := 11) rfl), (List.forall_mem_cons.mpr ⟨ilX7_go_wsX7_go_r2 _ (List.mem_of_getElem? (i := 12) rfl), (List.forall_mem_cons.mpr ⟨ilX7_go_wsX7_go_r2 _ (List.mem_of_getElem? (i := 13) rfl), (List.forall_mem_cons.mpr ⟨ilX7_go_wsX7_go_r2 _ (List.mem_of_getElem? (i := 7) rfl), (fun _ h => absurd h List.not_mem_nil)⟩)⟩)⟩)⟩) (by decide +kernel)) ggX7_go_X1_isStruckAt
set_option maxRecDepth 20000 in
theorem ggX7_go_X2_strikeByLots : GoodIn wsX7_go wsX2_strikeByLots := goodIn_sub (List.forall_mem_cons.mpr ⟨ilX7_go_wsX7_go_r2 _ (List.mem_of_getElem? (i := 20) rfl), (List.forall_mem_append.mpr ⟨(List.forall_mem_append.mpr ⟨(List.forall_mem_append.mpr ⟨(List.forall_mem_cons.mpr ⟨ilX7_go_wsX7_go_r2 _ (List.mem_of_getElem? (i := 21) rfl), (List.forall_mem_cons.mpr ⟨ilX7_go_wsX7_go_r2 _ (List.mem_of_getElem? (i := 22) rfl), (List.forall_mem_cons.mpr ⟨ilX7_go_wsX7_go_r1 _ (List.mem_of_getElem? (i := 20) rfl), (List.forall_mem_cons.mpr ⟨ilX7_go_wsX7_go_r2 _ (List.mem_of_getElem? (i := 23) rfl), (List.forall_mem_cons.mpr ⟨ilX7_go_wsX7_go_r3 _ (List.mem_of_getElem? (i := 0) rfl), (List.forall_mem_cons.mpr ⟨ilX7_go_wsX7_go_r3 _ (List.mem_of_getElem? (i := 1) rfl), (List.forall_mem_cons.mpr ⟨ilX7_go_wsX7_go_r1 _ (List.mem_of_getElem? (i := 11) rfl), (List.forall_mem_cons.mpr ⟨ilX7_go_wsX7_go_r3 _ (List.mem_of_getElem? (i := 2) rfl), (List.forall_mem_cons.mpr ⟨ilX7_go_wsX7_go_r3 _ (List.mem_of_getElem? (i := 3) rfl), (List.forall_mem_cons.mpr ⟨ilX7_go_wsX7_go_r3 _ (List.mem_of_getElem? (i := 4) rfl), (List.forall_mem_cons.mpr ⟨ilX7_go_wsX7_go_r3 _ (List.mem_of_getElem? (i := 5) rfl), (List.forall_mem_cons.mpr ⟨ilX7_go_wsX7_go_r3 _ (List.mem_of_getElem? (i := 6) rfl), (List.forall_mem_cons.mpr ⟨ilX7_go_wsX7_go_r3 _ (List.mem_of_getElem? (i := 7) rfl), (List.forall_mem_cons.mpr ⟨ilX7_go_wsX7_go_r3 _ (List.mem_of_getElem? (i := 8) rfl), (List.forall_mem_cons.mpr ⟨ilX7_go_wsX7_go_r3 _ (List.mem_of_getElem? (i := 9) rfl), (List.forall_mem_cons.mpr ⟨ilX7_go_wsX7_go_r1 _ (List.mem_of_getElem? (i := 14) rfl), (List.forall_mem_cons.mpr ⟨ilX7_go_wsX7_go_r3 _ (List.mem_of_getElem? (i := 10) rfl), (List.forall_mem_cons.mpr ⟨ilX7_go_wsX7_go_r3 _ (List.mem_of_getElem? (i := 11) rfl), (List.forall_mem_cons.mpr ⟨ilX7_go_wsX7_go_r3 _ (List.mem_of_getElem? (i := 12) rfl), (List.forall_mem_cons.mpr ⟨ilX7_go_wsX7_go_r3 _ (List.mem_of_getElem? (i := 13) rfl), (List.forall_mem_cons.mpr ⟨ilX7_go_wsX7_go_r2 _ (List.mem_of_getElem? (i := 7) rfl), (List.forall_mem_cons.mpr ⟨ilX7_go_wsX7_go_r3 _ (List.mem_of_getElem? (i := 14) rfl), (List.forall_mem_cons.mpr ⟨ilX7_go_wsX7_go_r3 _ (List.mem_of_getElem? (i := 15) rfl), (List.forall_mem_cons.mpr ⟨ilX7_go_wsX7_go_r3 _ (List.mem_of_getElem? (i := 16) rfl), (fun _ h => absurd h List.not_mem_nil)⟩)⟩)⟩)⟩)⟩)⟩)⟩)⟩)⟩)⟩)⟩)⟩)⟩)⟩)⟩)⟩)⟩)⟩)⟩)⟩)⟩)⟩)⟩)⟩), (List.forall_mem_cons.mpr ⟨ilX7_go_wsX7_go_r3 _ (List.mem_of_getElem? (i := 17) rfl), (List.forall_mem_cons.mpr ⟨ilX7_go_wsX7_go_r3 _ (List.mem_of_getElem? (i := 18) rfl), (List.forall_mem_cons.mpr ⟨ilX7_go_wsX7_go_r3 _ (List.mem_of_getElem? (i := 19) rfl), (List.forall_mem_cons.mpr ⟨ilX7_go_wsX7_go_r1 _ (List.mem_of_getElem? (i := 22) rfl), (List.forall_mem_cons.mpr ⟨ilX7_go_wsX7_go_r3 _ (List.mem_of_getElem? (i := 20) rfl), (List.forall_mem_cons.mpr ⟨ilX7_go_wsX7_go_r3 _ (List.mem_of_getElem? (i := 21) rfl), (List.forall_mem_cons.mpr ⟨ilX7_go_wsX7_go_r2 _ (List.mem_of_getElem? (i := 3) rfl), (fun _ h => absurd h List.not_mem_nil)⟩)⟩)⟩)⟩)⟩)⟩)⟩)⟩), ilX7_go_wsX10⟩), ilX7_go_wsX20⟩)⟩) (by decide +kernel)
set_option maxRecDepth 20000 in
theorem gX7_go_X2_strikeByLots : GoodIn wsX7_go (wsV RX7 193 RX2 yX2_strikeByLots wsX2_strikeByLots) := goodIn_app (goodIn_sub (List.forall_mem_cons.mpr ⟨ilX7_go_wsX7_go_r2 _ (List.mem_of_getElem? (i := 17) rfl), (List.forall_mem_cons.mpr ⟨ilX7_go_wsX7_go_r2 _ (List.mem_of_getElem? (i := 18) rfl), (List.forall_mem_cons.mpr ⟨ilX7_go_wsX7_go_r2 _ (List.mem_of_getElem? (i := 19) rfl), (List.forall_mem_cons.mpr ⟨ilX7_go_wsX7_go_r1 _ (List.mem_of_getElem? (i := 11) rfl), (fun _ h => absurd h List.not_mem_nil)⟩)⟩)⟩)⟩) (by decide +kernel)) ggX7_go_X2_strikeByLots
theorem dX7_go_0 : decode cX7_go 0 = .ok (.aload_n 0, 1) := by decide +kernel
theorem dX7_go_1 : decode cX7_go 1 = .ok (.getfield 71, 3) := by decide +kernel
theorem dX7_go_4 : decode cX7_go 4 = .ok (.ifCond .eq 14, 3) := by decide +kernel
theorem dX7_go_7 : decode cX7_go 7 = .ok (.iload_n 1, 1) := by decide +kernel
theorem dX7_go_8 : decode cX7_go 8 = .ok (.iconst 1, 1) := by decide +kernel
theorem dX7_go_9 : decode cX7_go 9 = .ok (.sipush 200, 3) := by decide +kernel
theorem dX7_go_12 : decode cX7_go 12 = .ok (.invokestatic 146, 3) := by decide +kernel
theorem dX7_go_15 : decode cX7_go 15 = .ok (.ifCond .ne 5, 3) := by decide +kernel
theorem dX7_go_18 : decode cX7_go 18 = .ok (.iconst (-1), 1) := by decide +kernel
theorem dX7_go_19 : decode cX7_go 19 = .ok (.ireturn, 1) := by decide +kernel
theorem dX7_go_20 : decode cX7_go 20 = .ok (.iconst 0, 1) := by decide +kernel
theorem dX7_go_21 : decode cX7_go 21 = .ok (.istore_n 2, 1) := by decide +kernel
theorem dX7_go_22 : decode cX7_go 22 = .ok (.iload_n 2, 1) := by decide +kernel
theorem dX7_go_23 : decode cX7_go 23 = .ok (.iload_n 1, 1) := by decide +kernel
theorem dX7_go_24 : decode cX7_go 24 = .ok (.if_icmp .ge 48, 3) := by decide +kernel
theorem dX7_go_27 : decode cX7_go 27 = .ok (.aload_n 0, 1) := by decide +kernel
theorem dX7_go_28 : decode cX7_go 28 = .ok (.getfield 26, 3) := by decide +kernel
theorem dX7_go_31 : decode cX7_go 31 = .ok (.aload_n 0, 1) := by decide +kernel
theorem dX7_go_32 : decode cX7_go 32 = .ok (.getfield 55, 3) := by decide +kernel
theorem dX7_go_35 : decode cX7_go 35 = .ok (.invokevirtual 184, 3) := by decide +kernel
theorem dX7_go_38 : decode cX7_go 38 = .ok (.aload_n 0, 1) := by decide +kernel
theorem dX7_go_39 : decode cX7_go 39 = .ok (.getfield 55, 3) := by decide +kernel
theorem dX7_go_42 : decode cX7_go 42 = .ok (.aload_n 0, 1) := by decide +kernel
theorem dX7_go_43 : decode cX7_go 43 = .ok (.getfield 26, 3) := by decide +kernel
theorem dX7_go_46 : decode cX7_go 46 = .ok (.getfield 187, 3) := by decide +kernel
theorem dX7_go_49 : decode cX7_go 49 = .ok (.invokevirtual 190, 3) := by decide +kernel
theorem dX7_go_52 : decode cX7_go 52 = .ok (.ifCond .eq 14, 3) := by decide +kernel
theorem dX7_go_55 : decode cX7_go 55 = .ok (.aload_n 0, 1) := by decide +kernel
theorem dX7_go_56 : decode cX7_go 56 = .ok (.getfield 26, 3) := by decide +kernel
theorem dX7_go_59 : decode cX7_go 59 = .ok (.aload_n 0, 1) := by decide +kernel
theorem dX7_go_60 : decode cX7_go 60 = .ok (.getfield 55, 3) := by decide +kernel
theorem dX7_go_63 : decode cX7_go 63 = .ok (.invokevirtual 193, 3) := by decide +kernel
theorem dX7_go_66 : decode cX7_go 66 = .ok (.iinc 2 1, 3) := by decide +kernel
theorem dX7_go_69 : decode cX7_go 69 = .ok (.goto (-47), 3) := by decide +kernel
theorem dX7_go_72 : decode cX7_go 72 = .ok (.aload_n 0, 1) := by decide +kernel
theorem dX7_go_73 : decode cX7_go 73 = .ok (.getfield 26, 3) := by decide +kernel
theorem dX7_go_76 : decode cX7_go 76 = .ok (.getfield 187, 3) := by decide +kernel
theorem dX7_go_79 : decode cX7_go 79 = .ok (.ireturn, 1) := by decide +kernel
theorem ilX7_market_wsX7_market_r1 : ∀ w ∈ wsX7_market_r1, w ∈ wsX7_market := fun _ h => List.mem_cons_of_mem _ (List.mem_append_left _ (List.mem_append_left _ (List.mem_append_left _ (List.mem_append_left _ (h)))))
theorem ilX7_market_wsX7_market_r2 : ∀ w ∈ wsX7_market_r2, w ∈ wsX7_market := fun _ h => List.mem_cons_of_mem _ (List.mem_append_left _ (List.mem_append_left _ (List.mem_append_left _ (List.mem_append_right _ (h)))))
theorem ilX7_market_wsX70 : ∀ w ∈ wsX70, w ∈ wsX7_market := fun _ h => List.mem_cons_of_mem _ (List.mem_append_left _ (List.mem_append_left _ (List.mem_append_right _ (h))))
theorem ilX7_market_wsX20 : ∀ w ∈ wsX20, w ∈ wsX7_market := fun _ h => List.mem_cons_of_mem _ (List.mem_append_left _ (List.mem_append_right _ (h)))
theorem ilX7_market_wsX10 : ∀ w ∈ wsX10, w ∈ wsX7_market := fun _ h => List.mem_cons_of_mem _ (List.mem_append_right _ (h))
set_option maxRecDepth 20000 in
theorem ggX7_market_X7_isSort : GoodIn wsX7_market wsX7_isSort := goodIn_sub (List.forall_mem_cons.mpr ⟨ilX7_market_wsX7_market_r1 _ (List.mem_of_getElem? (i := 9) rfl), (List.forall_mem_append.mpr ⟨(List.forall_mem_append.mpr ⟨(List.forall_mem_cons.mpr ⟨ilX7_market_wsX7_market_r1 _ (List.mem_of_getElem? (i := 0) rfl), (List.forall_mem_cons.mpr ⟨ilX7_market_wsX7_market_r1 _ (List.mem_of_getElem? (i := 10) rfl), (List.forall_mem_cons.mpr ⟨ilX7_market_wsX7_market_r1 _ (List.mem_of_getElem? (i := 11) rfl), (List.forall_mem_cons.mpr ⟨ilX7_market_wsX7_market_r1 _ (List.mem_of_getElem? (i := 12) rfl), (List.forall_mem_cons.mpr ⟨ilX7_market_wsX7_market_r1 _ (List.mem_of_getElem? (i := 13) rfl), (List.forall_mem_cons.mpr ⟨ilX7_market_wsX7_market_r1 _ (List.mem_of_getElem? (i := 14) rfl), (List.forall_mem_cons.mpr ⟨ilX7_market_wsX7_market_r1 _ (List.mem_of_getElem? (i := 15) rfl), (List.forall_mem_cons.mpr ⟨ilX7_market_wsX7_market_r1 _ (List.mem_of_getElem? (i := 16) rfl), (fun _ h => absurd h List.not_mem_nil)⟩)⟩)⟩)⟩)⟩)⟩)⟩)⟩), ilX7_market_wsX70⟩), ilX7_market_wsX10⟩)⟩) (by decide +kernel)
set_option maxRecDepth 20000 in
theorem gX7_market_X7_isSort : GoodIn wsX7_market (wsV RX7 103 RX7 yX7_isSort wsX7_isSort) := goodIn_app (goodIn_sub (List.forall_mem_cons.mpr ⟨ilX7_market_wsX7_market_r1 _ (List.mem_of_getElem? (i := 5) rfl), (List.forall_mem_cons.mpr ⟨ilX7_market_wsX7_market_r1 _ (List.mem_of_getElem? (i := 6) rfl), (List.forall_mem_cons.mpr ⟨ilX7_market_wsX7_market_r1 _ (List.mem_of_getElem? (i := 7) rfl), (List.forall_mem_cons.mpr ⟨ilX7_market_wsX7_market_r1 _ (List.mem_of_getElem? (i := 8) rfl), (fun _ h => absurd h List.not_mem_nil)⟩)⟩)⟩)⟩) (by decide +kernel)) ggX7_market_X7_isSort
set_option maxRecDepth 20000 in
theorem ggX7_market_X2_loansOwed : GoodIn wsX7_market wsX2_loansOwed := goodIn_sub (List.forall_mem_cons.mpr ⟨ilX7_market_wsX7_market_r1 _ (List.mem_of_getElem? (i := 21) rfl), (List.forall_mem_append.mpr ⟨(List.forall_mem_cons.mpr ⟨ilX7_market_wsX7_market_r1 _ (List.mem_of_getElem? (i := 22) rfl), (fun _ h => absurd h List.not_mem_nil)⟩), ilX7_market_wsX20⟩)⟩) (by decide +kernel)
set_option maxRecDepth 20000 in
theorem gX7_market_X2_loansOwed : GoodIn wsX7_market (wsV RX7 202 RX2 yX2_loansOwed wsX2_loansOwed) := goodIn_app (goodIn_sub (List.forall_mem_cons.mpr ⟨ilX7_market_wsX7_market_r1 _ (List.mem_of_getElem? (i := 17) rfl), (List.forall_mem_cons.mpr ⟨ilX7_market_wsX7_market_r1 _ (List.mem_of_getElem? (i := 18) rfl), (List.forall_mem_cons.mpr ⟨ilX7_market_wsX7_market_r1 _ (List.mem_of_getElem? (i := 19) rfl), (List.forall_mem_cons.mpr ⟨ilX7_market_wsX7_market_r1 _ (List.mem_of_getElem? (i := 20) rfl), (fun _ h => absurd h List.not_mem_nil)⟩)⟩)⟩)⟩) (by decide +kernel)) ggX7_market_X2_loansOwed
set_option maxRecDepth 20000 in
theorem ggX7_market_X2_allOwed : GoodIn wsX7_market wsX2_allOwed := goodIn_sub (List.forall_mem_cons.mpr ⟨ilX7_market_wsX7_market_r2 _ (List.mem_of_getElem? (i := 2) rfl), (List.forall_mem_append.mpr ⟨(List.forall_mem_cons.mpr ⟨ilX7_market_wsX7_market_r1 _ (List.mem_of_getElem? (i := 22) rfl), (List.forall_mem_cons.mpr ⟨ilX7_market_wsX7_market_r2 _ (List.mem_of_getElem? (i := 3) rfl), (fun _ h => absurd h List.not_mem_nil)⟩)⟩), ilX7_market_wsX20⟩)⟩) (by decide +kernel)
set_option maxRecDepth 20000 in
theorem gX7_market_X2_allOwed : GoodIn wsX7_market (wsV RX7 206 RX2 yX2_allOwed wsX2_allOwed) := goodIn_app (goodIn_sub (List.forall_mem_cons.mpr ⟨ilX7_market_wsX7_market_r1 _ (List.mem_of_getElem? (i := 23) rfl), (List.forall_mem_cons.mpr ⟨ilX7_market_wsX7_market_r2 _ (List.mem_of_getElem? (i := 0) rfl), (List.forall_mem_cons.mpr ⟨ilX7_market_wsX7_market_r2 _ (List.mem_of_getElem? (i := 1) rfl), (List.forall_mem_cons.mpr ⟨ilX7_market_wsX7_market_r1 _ (List.mem_of_getElem? (i := 20) rfl), (fun _ h => absurd h List.not_mem_nil)⟩)⟩)⟩)⟩) (by decide +kernel)) ggX7_market_X2_allOwed
set_option maxRecDepth 20000 in
theorem ggX7_market_X2_allLost : GoodIn wsX7_market wsX2_allLost := goodIn_sub (List.forall_mem_cons.mpr ⟨ilX7_market_wsX7_market_r2 _ (List.mem_of_getElem? (i := 7) rfl), (List.forall_mem_append.mpr ⟨(List.forall_mem_cons.mpr ⟨ilX7_market_wsX7_market_r2 _ (List.mem_of_getElem? (i := 8) rfl), (fun _ h => absurd h List.not_mem_nil)⟩), ilX7_market_wsX20⟩)⟩) (by decide +kernel)
set_option maxRecDepth 20000 in
theorem gX7_market_X2_allLost : GoodIn wsX7_market (wsV RX7 209 RX2 yX2_allLost wsX2_allLost) := goodIn_app (goodIn_sub (List.forall_mem_cons.mpr ⟨ilX7_market_wsX7_market_r2 _ (List.mem_of_getElem? (i := 4) rfl), (List.forall_mem_cons.mpr ⟨ilX7_market_wsX7_market_r2 _ (List.mem_of_getElem? (i := 5) rfl), (List.forall_mem_cons.mpr ⟨ilX7_market_wsX7_market_r2 _ (List.mem_of_getElem? (i := 6) rfl), (List.forall_mem_cons.mpr ⟨ilX7_market_wsX7_market_r1 _ (List.mem_of_getElem? (i := 20) rfl), (fun _ h => absurd h List.not_mem_nil)⟩)⟩)⟩)⟩) (by decide +kernel)) ggX7_market_X2_allLost
theorem dX7_market_0 : decode cX7_market 0 = .ok (.aload_n 0, 1) := by decide +kernel
theorem dX7_market_1 : decode cX7_market 1 = .ok (.getfield 71, 3) := by decide +kernel
theorem dX7_market_4 : decode cX7_market 4 = .ok (.ifCond .ne 5, 3) := by decide +kernel
theorem dX7_market_7 : decode cX7_market 7 = .ok (.iconst (-1), 1) := by decide +kernel
theorem dX7_market_8 : decode cX7_market 8 = .ok (.ireturn, 1) := by decide +kernel
theorem dX7_market_9 : decode cX7_market 9 = .ok (.iload_n 1, 1) := by decide +kernel
theorem dX7_market_10 : decode cX7_market 10 = .ok (.bipush 20, 2) := by decide +kernel
theorem dX7_market_12 : decode cX7_market 12 = .ok (.if_icmp .lt 31, 3) := by decide +kernel
theorem dX7_market_15 : decode cX7_market 15 = .ok (.aload_n 0, 1) := by decide +kernel
theorem dX7_market_16 : decode cX7_market 16 = .ok (.iload_n 1, 1) := by decide +kernel
theorem dX7_market_17 : decode cX7_market 17 = .ok (.bipush 20, 2) := by decide +kernel
theorem dX7_market_19 : decode cX7_market 19 = .ok (.isub, 1) := by decide +kernel
theorem dX7_market_20 : decode cX7_market 20 = .ok (.invokevirtual 103, 3) := by decide +kernel
theorem dX7_market_23 : decode cX7_market 23 = .ok (.ifCond .eq 18, 3) := by decide +kernel
theorem dX7_market_26 : decode cX7_market 26 = .ok (.aload_n 0, 1) := by decide +kernel
theorem dX7_market_27 : decode cX7_market 27 = .ok (.getfield 26, 3) := by decide +kernel
theorem dX7_market_30 : decode cX7_market 30 = .ok (.getfield 196, 3) := by decide +kernel
theorem dX7_market_33 : decode cX7_market 33 = .ok (.iload_n 1, 1) := by decide +kernel
theorem dX7_market_34 : decode cX7_market 34 = .ok (.bipush 20, 2) := by decide +kernel
theorem dX7_market_36 : decode cX7_market 36 = .ok (.isub, 1) := by decide +kernel
theorem dX7_market_37 : decode cX7_market 37 = .ok (.iaload, 1) := by decide +kernel
theorem dX7_market_38 : decode cX7_market 38 = .ok (.goto 4, 3) := by decide +kernel
theorem dX7_market_41 : decode cX7_market 41 = .ok (.iconst (-1), 1) := by decide +kernel
theorem dX7_market_42 : decode cX7_market 42 = .ok (.ireturn, 1) := by decide +kernel
theorem dX7_market_43 : decode cX7_market 43 = .ok (.iload_n 1, 1) := by decide +kernel
theorem dX7_market_44 : decode cX7_market 44 = .ok (.bipush 10, 2) := by decide +kernel
theorem dX7_market_46 : decode cX7_market 46 = .ok (.if_icmp .lt 31, 3) := by decide +kernel
theorem dX7_market_49 : decode cX7_market 49 = .ok (.aload_n 0, 1) := by decide +kernel
theorem dX7_market_50 : decode cX7_market 50 = .ok (.iload_n 1, 1) := by decide +kernel
theorem dX7_market_51 : decode cX7_market 51 = .ok (.bipush 10, 2) := by decide +kernel
theorem dX7_market_53 : decode cX7_market 53 = .ok (.isub, 1) := by decide +kernel
theorem dX7_market_54 : decode cX7_market 54 = .ok (.invokevirtual 103, 3) := by decide +kernel
theorem dX7_market_57 : decode cX7_market 57 = .ok (.ifCond .eq 18, 3) := by decide +kernel
theorem dX7_market_60 : decode cX7_market 60 = .ok (.aload_n 0, 1) := by decide +kernel
theorem dX7_market_61 : decode cX7_market 61 = .ok (.getfield 26, 3) := by decide +kernel
theorem dX7_market_64 : decode cX7_market 64 = .ok (.getfield 199, 3) := by decide +kernel
theorem dX7_market_67 : decode cX7_market 67 = .ok (.iload_n 1, 1) := by decide +kernel
theorem dX7_market_68 : decode cX7_market 68 = .ok (.bipush 10, 2) := by decide +kernel
theorem dX7_market_70 : decode cX7_market 70 = .ok (.isub, 1) := by decide +kernel
theorem dX7_market_71 : decode cX7_market 71 = .ok (.iaload, 1) := by decide +kernel
theorem dX7_market_72 : decode cX7_market 72 = .ok (.goto 4, 3) := by decide +kernel
theorem dX7_market_75 : decode cX7_market 75 = .ok (.iconst (-1), 1) := by decide +kernel
theorem dX7_market_76 : decode cX7_market 76 = .ok (.ireturn, 1) := by decide +kernel
theorem dX7_market_77 : decode cX7_market 77 = .ok (.iload_n 1, 1) := by decide +kernel
theorem dX7_market_78 : decode cX7_market 78 = .ok (.tableswitch 62 0 3 #[30, 38, 46, 54], 30) := by decide +kernel
theorem dX7_market_108 : decode cX7_market 108 = .ok (.aload_n 0, 1) := by decide +kernel
theorem dX7_market_109 : decode cX7_market 109 = .ok (.getfield 26, 3) := by decide +kernel
theorem dX7_market_112 : decode cX7_market 112 = .ok (.getfield 187, 3) := by decide +kernel
theorem dX7_market_115 : decode cX7_market 115 = .ok (.ireturn, 1) := by decide +kernel
theorem dX7_market_116 : decode cX7_market 116 = .ok (.aload_n 0, 1) := by decide +kernel
theorem dX7_market_117 : decode cX7_market 117 = .ok (.getfield 26, 3) := by decide +kernel
theorem dX7_market_120 : decode cX7_market 120 = .ok (.invokevirtual 202, 3) := by decide +kernel
theorem dX7_market_123 : decode cX7_market 123 = .ok (.ireturn, 1) := by decide +kernel
theorem dX7_market_124 : decode cX7_market 124 = .ok (.aload_n 0, 1) := by decide +kernel
theorem dX7_market_125 : decode cX7_market 125 = .ok (.getfield 26, 3) := by decide +kernel
theorem dX7_market_128 : decode cX7_market 128 = .ok (.invokevirtual 206, 3) := by decide +kernel
theorem dX7_market_131 : decode cX7_market 131 = .ok (.ireturn, 1) := by decide +kernel
theorem dX7_market_132 : decode cX7_market 132 = .ok (.aload_n 0, 1) := by decide +kernel
theorem dX7_market_133 : decode cX7_market 133 = .ok (.getfield 26, 3) := by decide +kernel
theorem dX7_market_136 : decode cX7_market 136 = .ok (.invokevirtual 209, 3) := by decide +kernel
theorem dX7_market_139 : decode cX7_market 139 = .ok (.ireturn, 1) := by decide +kernel
theorem dX7_market_140 : decode cX7_market 140 = .ok (.iconst (-1), 1) := by decide +kernel
theorem dX7_market_141 : decode cX7_market 141 = .ok (.ireturn, 1) := by decide +kernel
theorem ilX7_loan_wsX70 : ∀ w ∈ wsX70, w ∈ wsX7_loan := fun _ h => List.mem_cons_of_mem _ (List.mem_append_left _ (List.mem_append_right _ (h)))
theorem ilX7_loan_wsX20 : ∀ w ∈ wsX20, w ∈ wsX7_loan := fun _ h => List.mem_cons_of_mem _ (List.mem_append_right _ (h))
set_option maxRecDepth 20000 in
theorem ggX7_loan_X2_isOwed : GoodIn wsX7_loan wsX2_isOwed := goodIn_sub (List.forall_mem_cons.mpr ⟨List.mem_cons_of_mem _ (List.mem_append_left _ (List.mem_append_left _ (List.mem_of_getElem? (i := 5) rfl))), (List.forall_mem_append.mpr ⟨(List.forall_mem_cons.mpr ⟨List.mem_cons_of_mem _ (List.mem_append_left _ (List.mem_append_left _ (List.mem_of_getElem? (i := 6) rfl))), (fun _ h => absurd h List.not_mem_nil)⟩), ilX7_loan_wsX20⟩)⟩) (by decide +kernel)
set_option maxRecDepth 20000 in
theorem gX7_loan_X2_isOwed : GoodIn wsX7_loan (wsV RX7 212 RX2 yX2_isOwed wsX2_isOwed) := goodIn_app (goodIn_sub (List.forall_mem_cons.mpr ⟨List.mem_cons_of_mem _ (List.mem_append_left _ (List.mem_append_left _ (List.mem_of_getElem? (i := 1) rfl))), (List.forall_mem_cons.mpr ⟨List.mem_cons_of_mem _ (List.mem_append_left _ (List.mem_append_left _ (List.mem_of_getElem? (i := 2) rfl))), (List.forall_mem_cons.mpr ⟨List.mem_cons_of_mem _ (List.mem_append_left _ (List.mem_append_left _ (List.mem_of_getElem? (i := 3) rfl))), (List.forall_mem_cons.mpr ⟨List.mem_cons_of_mem _ (List.mem_append_left _ (List.mem_append_left _ (List.mem_of_getElem? (i := 4) rfl))), (fun _ h => absurd h List.not_mem_nil)⟩)⟩)⟩)⟩) (by decide +kernel)) ggX7_loan_X2_isOwed
set_option maxRecDepth 20000 in
theorem ggX7_loan_X2_numberOf : GoodIn wsX7_loan wsX2_numberOf := goodIn_sub (List.forall_mem_cons.mpr ⟨List.mem_cons_of_mem _ (List.mem_append_left _ (List.mem_append_left _ (List.mem_of_getElem? (i := 10) rfl))), (List.forall_mem_append.mpr ⟨(List.forall_mem_cons.mpr ⟨List.mem_cons_of_mem _ (List.mem_append_left _ (List.mem_append_left _ (List.mem_of_getElem? (i := 11) rfl))), (List.forall_mem_cons.mpr ⟨List.mem_cons_of_mem _ (List.mem_append_left _ (List.mem_append_left _ (List.mem_of_getElem? (i := 12) rfl))), (List.forall_mem_cons.mpr ⟨List.mem_cons_of_mem _ (List.mem_append_left _ (List.mem_append_left _ (List.mem_of_getElem? (i := 13) rfl))), (List.forall_mem_cons.mpr ⟨List.mem_cons_of_mem _ (List.mem_append_left _ (List.mem_append_left _ (List.mem_of_getElem? (i := 6) rfl))), (List.forall_mem_cons.mpr ⟨List.mem_cons_of_mem _ (List.mem_append_left _ (List.mem_append_left _ (List.mem_of_getElem? (i := 14) rfl))), (List.forall_mem_cons.mpr ⟨List.mem_cons_of_mem _ (List.mem_append_left _ (List.mem_append_left _ (List.mem_of_getElem? (i := 15) rfl))), (fun _ h => absurd h List.not_mem_nil)⟩)⟩)⟩)⟩)⟩)⟩), ilX7_loan_wsX20⟩)⟩) (by decide +kernel)
set_option maxRecDepth 20000 in
theorem gX7_loan_X2_numberOf : GoodIn wsX7_loan (wsV RX7 215 RX2 yX2_numberOf wsX2_numberOf) := goodIn_app (goodIn_sub (List.forall_mem_cons.mpr ⟨List.mem_cons_of_mem _ (List.mem_append_left _ (List.mem_append_left _ (List.mem_of_getElem? (i := 7) rfl))), (List.forall_mem_cons.mpr ⟨List.mem_cons_of_mem _ (List.mem_append_left _ (List.mem_append_left _ (List.mem_of_getElem? (i := 8) rfl))), (List.forall_mem_cons.mpr ⟨List.mem_cons_of_mem _ (List.mem_append_left _ (List.mem_append_left _ (List.mem_of_getElem? (i := 9) rfl))), (List.forall_mem_cons.mpr ⟨List.mem_cons_of_mem _ (List.mem_append_left _ (List.mem_append_left _ (List.mem_of_getElem? (i := 4) rfl))), (fun _ h => absurd h List.not_mem_nil)⟩)⟩)⟩)⟩) (by decide +kernel)) ggX7_loan_X2_numberOf
theorem dX7_loan_0 : decode cX7_loan 0 = .ok (.aload_n 0, 1) := by decide +kernel
theorem dX7_loan_1 : decode cX7_loan 1 = .ok (.getfield 26, 3) := by decide +kernel
theorem dX7_loan_4 : decode cX7_loan 4 = .ok (.iload_n 1, 1) := by decide +kernel
theorem dX7_loan_5 : decode cX7_loan 5 = .ok (.invokevirtual 212, 3) := by decide +kernel
theorem dX7_loan_8 : decode cX7_loan 8 = .ok (.ifCond .eq 15, 3) := by decide +kernel
theorem dX7_loan_11 : decode cX7_loan 11 = .ok (.aload_n 0, 1) := by decide +kernel
theorem dX7_loan_12 : decode cX7_loan 12 = .ok (.getfield 26, 3) := by decide +kernel
theorem dX7_loan_15 : decode cX7_loan 15 = .ok (.iload_n 1, 1) := by decide +kernel
theorem dX7_loan_16 : decode cX7_loan 16 = .ok (.iload_n 2, 1) := by decide +kernel
theorem dX7_loan_17 : decode cX7_loan 17 = .ok (.invokevirtual 215, 3) := by decide +kernel
theorem dX7_loan_20 : decode cX7_loan 20 = .ok (.goto 4, 3) := by decide +kernel
theorem dX7_loan_23 : decode cX7_loan 23 = .ok (.iconst (-1), 1) := by decide +kernel
theorem dX7_loan_24 : decode cX7_loan 24 = .ok (.ireturn, 1) := by decide +kernel
theorem ilX7_entry_wsX7_entry_r1 : ∀ w ∈ wsX7_entry_r1, w ∈ wsX7_entry := fun _ h => List.mem_cons_of_mem _ (List.mem_append_left _ (List.mem_append_left _ (List.mem_append_left _ (List.mem_append_left _ (h)))))
theorem ilX7_entry_wsX7_entry_r2 : ∀ w ∈ wsX7_entry_r2, w ∈ wsX7_entry := fun _ h => List.mem_cons_of_mem _ (List.mem_append_left _ (List.mem_append_left _ (List.mem_append_left _ (List.mem_append_right _ (h)))))
theorem ilX7_entry_wsX70 : ∀ w ∈ wsX70, w ∈ wsX7_entry := fun _ h => List.mem_cons_of_mem _ (List.mem_append_left _ (List.mem_append_left _ (List.mem_append_right _ (h))))
theorem ilX7_entry_wsX00 : ∀ w ∈ wsX00, w ∈ wsX7_entry := fun _ h => List.mem_cons_of_mem _ (List.mem_append_left _ (List.mem_append_right _ (h)))
theorem ilX7_entry_wsX10 : ∀ w ∈ wsX10, w ∈ wsX7_entry := fun _ h => List.mem_cons_of_mem _ (List.mem_append_right _ (h))
set_option maxRecDepth 20000 in
theorem ggX7_entry_X7_isNight : GoodIn wsX7_entry wsX7_isNight := goodIn_sub (List.forall_mem_cons.mpr ⟨ilX7_entry_wsX7_entry_r1 _ (List.mem_of_getElem? (i := 6) rfl), (List.forall_mem_cons.mpr ⟨ilX7_entry_wsX7_entry_r1 _ (List.mem_of_getElem? (i := 7) rfl), (List.forall_mem_cons.mpr ⟨ilX7_entry_wsX7_entry_r1 _ (List.mem_of_getElem? (i := 8) rfl), (List.forall_mem_cons.mpr ⟨ilX7_entry_wsX7_entry_r1 _ (List.mem_of_getElem? (i := 5) rfl), (List.forall_mem_cons.mpr ⟨ilX7_entry_wsX7_entry_r1 _ (List.mem_of_getElem? (i := 9) rfl), (fun _ h => absurd h List.not_mem_nil)⟩)⟩)⟩)⟩)⟩) (by decide +kernel)
set_option maxRecDepth 20000 in
theorem gX7_entry_X7_isNight : GoodIn wsX7_entry (va_wsS RX7 111 yX7_isNight wsX7_isNight) := goodIn_app (goodIn_of _ (by decide +kernel)) ggX7_entry_X7_isNight
set_option maxRecDepth 20000 in
theorem ggX7_entry_X7_canBeLoan : GoodIn wsX7_entry wsX7_canBeLoan := goodIn_sub (List.forall_mem_cons.mpr ⟨ilX7_entry_wsX7_entry_r1 _ (List.mem_of_getElem? (i := 13) rfl), (List.forall_mem_append.mpr ⟨(List.forall_mem_append.mpr ⟨(List.forall_mem_cons.mpr ⟨ilX7_entry_wsX7_entry_r1 _ (List.mem_of_getElem? (i := 14) rfl), (List.forall_mem_cons.mpr ⟨ilX7_entry_wsX7_entry_r1 _ (List.mem_of_getElem? (i := 15) rfl), (List.forall_mem_cons.mpr ⟨ilX7_entry_wsX7_entry_r1 _ (List.mem_of_getElem? (i := 16) rfl), (List.forall_mem_cons.mpr ⟨ilX7_entry_wsX7_entry_r1 _ (List.mem_of_getElem? (i := 5) rfl), (List.forall_mem_cons.mpr ⟨ilX7_entry_wsX7_entry_r1 _ (List.mem_of_getElem? (i := 17) rfl), (List.forall_mem_cons.mpr ⟨ilX7_entry_wsX7_entry_r1 _ (List.mem_of_getElem? (i := 18) rfl), (List.forall_mem_cons.mpr ⟨ilX7_entry_wsX7_entry_r1 _ (List.mem_of_getElem? (i := 19) rfl), (List.forall_mem_cons.mpr ⟨ilX7_entry_wsX7_entry_r1 _ (List.mem_of_getElem? (i := 20) rfl), (List.forall_mem_cons.mpr ⟨ilX7_entry_wsX7_entry_r1 _ (List.mem_of_getElem? (i := 21) rfl), (List.forall_mem_cons.mpr ⟨ilX7_entry_wsX7_entry_r1 _ (List.mem_of_getElem? (i := 22) rfl), (List.forall_mem_cons.mpr ⟨ilX7_entry_wsX7_entry_r1 _ (List.mem_of_getElem? (i := 23) rfl), (List.forall_mem_cons.mpr ⟨ilX7_entry_wsX7_entry_r2 _ (List.mem_of_getElem? (i := 0) rfl), (List.forall_mem_cons.mpr ⟨ilX7_entry_wsX7_entry_r2 _ (List.mem_of_getElem? (i := 1) rfl), (List.forall_mem_cons.mpr ⟨ilX7_entry_wsX7_entry_r1 _ (List.mem_of_getElem? (i := 7) rfl), (List.forall_mem_cons.mpr ⟨ilX7_entry_wsX7_entry_r1 _ (List.mem_of_getElem? (i := 8) rfl), (List.forall_mem_cons.mpr ⟨ilX7_entry_wsX7_entry_r1 _ (List.mem_of_getElem? (i := 9) rfl), (fun _ h => absurd h List.not_mem_nil)⟩)⟩)⟩)⟩)⟩)⟩)⟩)⟩)⟩)⟩)⟩)⟩)⟩)⟩)⟩)⟩), ilX7_entry_wsX70⟩), ilX7_entry_wsX10⟩)⟩) (by decide +kernel)
set_option maxRecDepth 20000 in
theorem gX7_entry_X7_canBeLoan : GoodIn wsX7_entry (wsV RX7 177 RX7 yX7_canBeLoan wsX7_canBeLoan) := goodIn_app (goodIn_sub (List.forall_mem_cons.mpr ⟨ilX7_entry_wsX7_entry_r1 _ (List.mem_of_getElem? (i := 10) rfl), (List.forall_mem_cons.mpr ⟨ilX7_entry_wsX7_entry_r1 _ (List.mem_of_getElem? (i := 11) rfl), (List.forall_mem_cons.mpr ⟨ilX7_entry_wsX7_entry_r1 _ (List.mem_of_getElem? (i := 12) rfl), (List.forall_mem_cons.mpr ⟨ilX7_entry_wsX7_entry_r1 _ (List.mem_of_getElem? (i := 5) rfl), (fun _ h => absurd h List.not_mem_nil)⟩)⟩)⟩)⟩) (by decide +kernel)) ggX7_entry_X7_canBeLoan
set_option maxRecDepth 20000 in
theorem ggX7_entry_X0_append : GoodIn wsX7_entry wsX0_append := goodIn_sub (List.forall_mem_cons.mpr ⟨ilX7_entry_wsX7_entry_r2 _ (List.mem_of_getElem? (i := 6) rfl), (List.forall_mem_append.mpr ⟨(List.forall_mem_cons.mpr ⟨ilX7_entry_wsX7_entry_r2 _ (List.mem_of_getElem? (i := 7) rfl), (List.forall_mem_cons.mpr ⟨ilX7_entry_wsX7_entry_r2 _ (List.mem_of_getElem? (i := 8) rfl), (List.forall_mem_cons.mpr ⟨ilX7_entry_wsX7_entry_r2 _ (List.mem_of_getElem? (i := 9) rfl), (List.forall_mem_cons.mpr ⟨ilX7_entry_wsX7_entry_r2 _ (List.mem_of_getElem? (i := 10) rfl), (fun _ h => absurd h List.not_mem_nil)⟩)⟩)⟩)⟩), ilX7_entry_wsX00⟩)⟩) (by decide +kernel)
set_option maxRecDepth 20000 in
theorem gX7_entry_X0_append : GoodIn wsX7_entry (wsV RX7 218 RX0 yX0_append wsX0_append) := goodIn_app (goodIn_sub (List.forall_mem_cons.mpr ⟨ilX7_entry_wsX7_entry_r2 _ (List.mem_of_getElem? (i := 2) rfl), (List.forall_mem_cons.mpr ⟨ilX7_entry_wsX7_entry_r2 _ (List.mem_of_getElem? (i := 3) rfl), (List.forall_mem_cons.mpr ⟨ilX7_entry_wsX7_entry_r2 _ (List.mem_of_getElem? (i := 4) rfl), (List.forall_mem_cons.mpr ⟨ilX7_entry_wsX7_entry_r2 _ (List.mem_of_getElem? (i := 5) rfl), (fun _ h => absurd h List.not_mem_nil)⟩)⟩)⟩)⟩) (by decide +kernel)) ggX7_entry_X0_append
theorem dX7_entry_0 : decode cX7_entry 0 = .ok (.iload_n 1, 1) := by decide +kernel
theorem dX7_entry_1 : decode cX7_entry 1 = .ok (.invokestatic 111, 3) := by decide +kernel
theorem dX7_entry_4 : decode cX7_entry 4 = .ok (.ifCond .eq 23, 3) := by decide +kernel
theorem dX7_entry_7 : decode cX7_entry 7 = .ok (.iload_n 2, 1) := by decide +kernel
theorem dX7_entry_8 : decode cX7_entry 8 = .ok (.ifCond .lt 19, 3) := by decide +kernel
theorem dX7_entry_11 : decode cX7_entry 11 = .ok (.iload_n 3, 1) := by decide +kernel
theorem dX7_entry_12 : decode cX7_entry 12 = .ok (.ifCond .lt 15, 3) := by decide +kernel
theorem dX7_entry_15 : decode cX7_entry 15 = .ok (.aload_n 0, 1) := by decide +kernel
theorem dX7_entry_16 : decode cX7_entry 16 = .ok (.getfield 33, 3) := by decide +kernel
theorem dX7_entry_19 : decode cX7_entry 19 = .ok (.getfield 94, 3) := by decide +kernel
theorem dX7_entry_22 : decode cX7_entry 22 = .ok (.bipush 20, 2) := by decide +kernel
theorem dX7_entry_24 : decode cX7_entry 24 = .ok (.if_icmp .lt 5, 3) := by decide +kernel
theorem dX7_entry_27 : decode cX7_entry 27 = .ok (.iconst (-1), 1) := by decide +kernel
theorem dX7_entry_28 : decode cX7_entry 28 = .ok (.ireturn, 1) := by decide +kernel
theorem dX7_entry_29 : decode cX7_entry 29 = .ok (.aload_n 0, 1) := by decide +kernel
theorem dX7_entry_30 : decode cX7_entry 30 = .ok (.getfield 33, 3) := by decide +kernel
theorem dX7_entry_33 : decode cX7_entry 33 = .ok (.getfield 94, 3) := by decide +kernel
theorem dX7_entry_36 : decode cX7_entry 36 = .ok (.ifCond .le 26, 3) := by decide +kernel
theorem dX7_entry_39 : decode cX7_entry 39 = .ok (.iload_n 1, 1) := by decide +kernel
theorem dX7_entry_40 : decode cX7_entry 40 = .ok (.aload_n 0, 1) := by decide +kernel
theorem dX7_entry_41 : decode cX7_entry 41 = .ok (.getfield 33, 3) := by decide +kernel
theorem dX7_entry_44 : decode cX7_entry 44 = .ok (.getfield 216, 3) := by decide +kernel
theorem dX7_entry_47 : decode cX7_entry 47 = .ok (.aload_n 0, 1) := by decide +kernel
theorem dX7_entry_48 : decode cX7_entry 48 = .ok (.getfield 33, 3) := by decide +kernel
theorem dX7_entry_51 : decode cX7_entry 51 = .ok (.getfield 94, 3) := by decide +kernel
theorem dX7_entry_54 : decode cX7_entry 54 = .ok (.iconst 1, 1) := by decide +kernel
theorem dX7_entry_55 : decode cX7_entry 55 = .ok (.isub, 1) := by decide +kernel
theorem dX7_entry_56 : decode cX7_entry 56 = .ok (.iaload, 1) := by decide +kernel
theorem dX7_entry_57 : decode cX7_entry 57 = .ok (.if_icmp .ge 5, 3) := by decide +kernel
theorem dX7_entry_60 : decode cX7_entry 60 = .ok (.iconst (-1), 1) := by decide +kernel
theorem dX7_entry_61 : decode cX7_entry 61 = .ok (.ireturn, 1) := by decide +kernel
theorem dX7_entry_62 : decode cX7_entry 62 = .ok (.aload_n 0, 1) := by decide +kernel
theorem dX7_entry_63 : decode cX7_entry 63 = .ok (.iload_n 2, 1) := by decide +kernel
theorem dX7_entry_64 : decode cX7_entry 64 = .ok (.bipush 100, 2) := by decide +kernel
theorem dX7_entry_66 : decode cX7_entry 66 = .ok (.irem, 1) := by decide +kernel
theorem dX7_entry_67 : decode cX7_entry 67 = .ok (.iload_n 2, 1) := by decide +kernel
theorem dX7_entry_68 : decode cX7_entry 68 = .ok (.bipush 100, 2) := by decide +kernel
theorem dX7_entry_70 : decode cX7_entry 70 = .ok (.idiv, 1) := by decide +kernel
theorem dX7_entry_71 : decode cX7_entry 71 = .ok (.iload_n 3, 1) := by decide +kernel
theorem dX7_entry_72 : decode cX7_entry 72 = .ok (.sipush 1000, 3) := by decide +kernel
theorem dX7_entry_75 : decode cX7_entry 75 = .ok (.idiv, 1) := by decide +kernel
theorem dX7_entry_76 : decode cX7_entry 76 = .ok (.iload_n 3, 1) := by decide +kernel
theorem dX7_entry_77 : decode cX7_entry 77 = .ok (.sipush 1000, 3) := by decide +kernel
theorem dX7_entry_80 : decode cX7_entry 80 = .ok (.irem, 1) := by decide +kernel
theorem dX7_entry_81 : decode cX7_entry 81 = .ok (.invokevirtual 177, 3) := by decide +kernel
theorem dX7_entry_84 : decode cX7_entry 84 = .ok (.ifCond .ne 5, 3) := by decide +kernel
theorem dX7_entry_87 : decode cX7_entry 87 = .ok (.iconst (-1), 1) := by decide +kernel
theorem dX7_entry_88 : decode cX7_entry 88 = .ok (.ireturn, 1) := by decide +kernel
theorem dX7_entry_89 : decode cX7_entry 89 = .ok (.aload_n 0, 1) := by decide +kernel
theorem dX7_entry_90 : decode cX7_entry 90 = .ok (.getfield 33, 3) := by decide +kernel
theorem dX7_entry_93 : decode cX7_entry 93 = .ok (.iload_n 1, 1) := by decide +kernel
theorem dX7_entry_94 : decode cX7_entry 94 = .ok (.iload_n 2, 1) := by decide +kernel
theorem dX7_entry_95 : decode cX7_entry 95 = .ok (.iload_n 3, 1) := by decide +kernel
theorem dX7_entry_96 : decode cX7_entry 96 = .ok (.invokevirtual 218, 3) := by decide +kernel
theorem dX7_entry_99 : decode cX7_entry 99 = .ok (.aload_n 0, 1) := by decide +kernel
theorem dX7_entry_100 : decode cX7_entry 100 = .ok (.getfield 33, 3) := by decide +kernel
theorem dX7_entry_103 : decode cX7_entry 103 = .ok (.getfield 94, 3) := by decide +kernel
theorem dX7_entry_106 : decode cX7_entry 106 = .ok (.ireturn, 1) := by decide +kernel
theorem dX7_clear_0 : decode cX7_clear 0 = .ok (.aload_n 0, 1) := by decide +kernel
theorem dX7_clear_1 : decode cX7_clear 1 = .ok (.getfield 33, 3) := by decide +kernel
theorem dX7_clear_4 : decode cX7_clear 4 = .ok (.getfield 94, 3) := by decide +kernel
theorem dX7_clear_7 : decode cX7_clear 7 = .ok (.istore_n 1, 1) := by decide +kernel
theorem dX7_clear_8 : decode cX7_clear 8 = .ok (.aload_n 0, 1) := by decide +kernel
theorem dX7_clear_9 : decode cX7_clear 9 = .ok (.getfield 33, 3) := by decide +kernel
theorem dX7_clear_12 : decode cX7_clear 12 = .ok (.iconst 0, 1) := by decide +kernel
theorem dX7_clear_13 : decode cX7_clear 13 = .ok (.putfield 94, 3) := by decide +kernel
theorem dX7_clear_16 : decode cX7_clear 16 = .ok (.iload_n 1, 1) := by decide +kernel
theorem dX7_clear_17 : decode cX7_clear 17 = .ok (.ireturn, 1) := by decide +kernel
theorem ilX7_judge_wsX7_judge_r1 : ∀ w ∈ wsX7_judge_r1, w ∈ wsX7_judge := fun _ h => List.mem_cons_of_mem _ (List.mem_append_left _ (List.mem_append_left _ (List.mem_append_left _ (List.mem_append_left _ (List.mem_append_left _ (h))))))
theorem ilX7_judge_wsX7_judge_r2 : ∀ w ∈ wsX7_judge_r2, w ∈ wsX7_judge := fun _ h => List.mem_cons_of_mem _ (List.mem_append_left _ (List.mem_append_left _ (List.mem_append_left _ (List.mem_append_left _ (List.mem_append_right _ (List.mem_append_left _ (h)))))))
theorem ilX7_judge_wsX7_judge_r3 : ∀ w ∈ wsX7_judge_r3, w ∈ wsX7_judge := fun _ h => List.mem_cons_of_mem _ (List.mem_append_left _ (List.mem_append_left _ (List.mem_append_left _ (List.mem_append_left _ (List.mem_append_right _ (List.mem_append_right _ (List.mem_append_left _ (h))))))))
theorem ilX7_judge_wsX7_judge_r4 : ∀ w ∈ wsX7_judge_r4, w ∈ wsX7_judge := fun _ h => List.mem_cons_of_mem _ (List.mem_append_left _ (List.mem_append_left _ (List.mem_append_left _ (List.mem_append_left _ (List.mem_append_right _ (List.mem_append_right _ (List.mem_append_right _ (List.mem_append_left _ (h)))))))))
theorem ilX7_judge_wsX7_judge_r5 : ∀ w ∈ wsX7_judge_r5, w ∈ wsX7_judge := fun _ h => List.mem_cons_of_mem _ (List.mem_append_left _ (List.mem_append_left _ (List.mem_append_left _ (List.mem_append_left _ (List.mem_append_right _ (List.mem_append_right _ (List.mem_append_right _ (List.mem_append_right _ (h)))))))))
theorem ilX7_judge_wsX70 : ∀ w ∈ wsX70, w ∈ wsX7_judge := fun _ h => List.mem_cons_of_mem _ (List.mem_append_left _ (List.mem_append_left _ (List.mem_append_left _ (List.mem_append_right _ (h)))))
theorem ilX7_judge_wsX00 : ∀ w ∈ wsX00, w ∈ wsX7_judge := fun _ h => List.mem_cons_of_mem _ (List.mem_append_left _ (List.mem_append_left _ (List.mem_append_right _ (h))))
theorem ilX7_judge_wsX20 : ∀ w ∈ wsX20, w ∈ wsX7_judge := fun _ h => List.mem_cons_of_mem _ (List.mem_append_left _ (List.mem_append_right _ (h)))
theorem ilX7_judge_wsX10 : ∀ w ∈ wsX10, w ∈ wsX7_judge := fun _ h => List.mem_cons_of_mem _ (List.mem_append_right _ (h))
set_option maxRecDepth 20000 in
theorem ggX7_judge_X0_judgeAll : GoodIn wsX7_judge wsX0_judgeAll := goodIn_sub (List.forall_mem_cons.mpr ⟨ilX7_judge_wsX7_judge_r1 _ (List.mem_of_getElem? (i := 9) rfl), (List.forall_mem_append.mpr ⟨(List.forall_mem_append.mpr ⟨(List.forall_mem_append.mpr ⟨(List.forall_mem_append.mpr ⟨(List.forall_mem_cons.mpr ⟨ilX7_judge_wsX7_judge_r1 _ (List.mem_of_getElem? (i := 10) rfl), (List.forall_mem_cons.mpr ⟨ilX7_judge_wsX7_judge_r1 _ (List.mem_of_getElem? (i := 11) rfl), (List.forall_mem_cons.mpr ⟨ilX7_judge_wsX7_judge_r1 _ (List.mem_of_getElem? (i := 12) rfl), (List.forall_mem_cons.mpr ⟨ilX7_judge_wsX7_judge_r1 _ (List.mem_of_getElem? (i := 13) rfl), (List.forall_mem_cons.mpr ⟨ilX7_judge_wsX7_judge_r1 _ (List.mem_of_getElem? (i := 14) rfl), (List.forall_mem_cons.mpr ⟨ilX7_judge_wsX7_judge_r1 _ (List.mem_of_getElem? (i := 15) rfl), (List.forall_mem_cons.mpr ⟨ilX7_judge_wsX7_judge_r1 _ (List.mem_of_getElem? (i := 16) rfl), (List.forall_mem_cons.mpr ⟨ilX7_judge_wsX7_judge_r1 _ (List.mem_of_getElem? (i := 17) rfl), (List.forall_mem_cons.mpr ⟨ilX7_judge_wsX7_judge_r1 _ (List.mem_of_getElem? (i := 18) rfl), (List.forall_mem_cons.mpr ⟨ilX7_judge_wsX7_judge_r1 _ (List.mem_of_getElem? (i := 19) rfl), (List.forall_mem_cons.mpr ⟨ilX7_judge_wsX7_judge_r1 _ (List.mem_of_getElem? (i := 20) rfl), (List.forall_mem_cons.mpr ⟨ilX7_judge_wsX7_judge_r1 _ (List.mem_of_getElem? (i := 21) rfl), (List.forall_mem_cons.mpr ⟨ilX7_judge_wsX7_judge_r1 _ (List.mem_of_getElem? (i := 22) rfl), (List.forall_mem_cons.mpr ⟨ilX7_judge_wsX7_judge_r1 _ (List.mem_of_getElem? (i := 23) rfl), (List.forall_mem_cons.mpr ⟨ilX7_judge_wsX7_judge_r2 _ (List.mem_of_getElem? (i := 0) rfl), (List.forall_mem_cons.mpr ⟨ilX7_judge_wsX7_judge_r2 _ (List.mem_of_getElem? (i := 1) rfl), (List.forall_mem_cons.mpr ⟨ilX7_judge_wsX7_judge_r2 _ (List.mem_of_getElem? (i := 2) rfl), (List.forall_mem_cons.mpr ⟨ilX7_judge_wsX7_judge_r2 _ (List.mem_of_getElem? (i := 3) rfl), (List.forall_mem_cons.mpr ⟨ilX7_judge_wsX7_judge_r2 _ (List.mem_of_getElem? (i := 4) rfl), (List.forall_mem_cons.mpr ⟨ilX7_judge_wsX7_judge_r2 _ (List.mem_of_getElem? (i := 5) rfl), (List.forall_mem_cons.mpr ⟨ilX7_judge_wsX7_judge_r2 _ (List.mem_of_getElem? (i := 6) rfl), (List.forall_mem_cons.mpr ⟨ilX7_judge_wsX7_judge_r2 _ (List.mem_of_getElem? (i := 7) rfl), (List.forall_mem_cons.mpr ⟨ilX7_judge_wsX7_judge_r2 _ (List.mem_of_getElem? (i := 8) rfl), (List.forall_mem_cons.mpr ⟨ilX7_judge_wsX7_judge_r2 _ (List.mem_of_getElem? (i := 9) rfl), (fun _ h => absurd h List.not_mem_nil)⟩)⟩)⟩)⟩)⟩)⟩)⟩)⟩)⟩)⟩)⟩)⟩)⟩)⟩)⟩)⟩)⟩)⟩)⟩)⟩)⟩)⟩)⟩)⟩), (List.forall_mem_append.mpr ⟨(List.forall_mem_cons.mpr ⟨ilX7_judge_wsX7_judge_r2 _ (List.mem_of_getElem? (i := 10) rfl), (List.forall_mem_cons.mpr ⟨ilX7_judge_wsX7_judge_r2 _ (List.mem_of_getElem? (i := 11) rfl), (List.forall_mem_cons.mpr ⟨ilX7_judge_wsX7_judge_r2 _ (List.mem_of_getElem? (i := 12) rfl), (List.forall_mem_cons.mpr ⟨ilX7_judge_wsX7_judge_r2 _ (List.mem_of_getElem? (i := 13) rfl), (List.forall_mem_cons.mpr ⟨ilX7_judge_wsX7_judge_r1 _ (List.mem_of_getElem? (i := 8) rfl), (List.forall_mem_cons.mpr ⟨ilX7_judge_wsX7_judge_r2 _ (List.mem_of_getElem? (i := 14) rfl), (List.forall_mem_cons.mpr ⟨ilX7_judge_wsX7_judge_r2 _ (List.mem_of_getElem? (i := 15) rfl), (List.forall_mem_cons.mpr ⟨ilX7_judge_wsX7_judge_r2 _ (List.mem_of_getElem? (i := 16) rfl), (List.forall_mem_cons.mpr ⟨ilX7_judge_wsX7_judge_r2 _ (List.mem_of_getElem? (i := 17) rfl), (List.forall_mem_cons.mpr ⟨ilX7_judge_wsX7_judge_r2 _ (List.mem_of_getElem? (i := 18) rfl), (List.forall_mem_cons.mpr ⟨ilX7_judge_wsX7_judge_r2 _ (List.mem_of_getElem? (i := 19) rfl), (List.forall_mem_cons.mpr ⟨ilX7_judge_wsX7_judge_r2 _ (List.mem_of_getElem? (i := 20) rfl), (List.forall_mem_cons.mpr ⟨ilX7_judge_wsX7_judge_r2 _ (List.mem_of_getElem? (i := 21) rfl), (List.forall_mem_cons.mpr ⟨ilX7_judge_wsX7_judge_r2 _ (List.mem_of_getElem? (i := 22) rfl), (List.forall_mem_cons.mpr ⟨ilX7_judge_wsX7_judge_r2 _ (List.mem_of_getElem? (i := 23) rfl), (List.forall_mem_cons.mpr ⟨ilX7_judge_wsX7_judge_r3 _ (List.mem_of_getElem? (i := 0) rfl), (List.forall_mem_cons.mpr ⟨ilX7_judge_wsX7_judge_r3 _ (List.mem_of_getElem? (i := 1) rfl), (List.forall_mem_cons.mpr ⟨ilX7_judge_wsX7_judge_r3 _ (List.mem_of_getElem? (i := 2) rfl), (List.forall_mem_cons.mpr ⟨ilX7_judge_wsX7_judge_r3 _ (List.mem_of_getElem? (i := 3) rfl), (List.forall_mem_cons.mpr ⟨ilX7_judge_wsX7_judge_r3 _ (List.mem_of_getElem? (i := 4) rfl), (List.forall_mem_cons.mpr ⟨ilX7_judge_wsX7_judge_r3 _ (List.mem_of_getElem? (i := 5) rfl), (List.forall_mem_cons.mpr ⟨ilX7_judge_wsX7_judge_r3 _ (List.mem_of_getElem? (i := 6) rfl), (List.forall_mem_cons.mpr ⟨ilX7_judge_wsX7_judge_r3 _ (List.mem_of_getElem? (i := 7) rfl), (List.forall_mem_cons.mpr ⟨ilX7_judge_wsX7_judge_r3 _ (List.mem_of_getElem? (i := 8) rfl), (fun _ h => absurd h List.not_mem_nil)⟩)⟩)⟩)⟩)⟩)⟩)⟩)⟩)⟩)⟩)⟩)⟩)⟩)⟩)⟩)⟩)⟩)⟩)⟩)⟩)⟩)⟩)⟩)⟩), (List.forall_mem_append.mpr ⟨(List.forall_mem_cons.mpr ⟨ilX7_judge_wsX7_judge_r3 _ (List.mem_of_getElem? (i := 9) rfl), (List.forall_mem_cons.mpr ⟨ilX7_judge_wsX7_judge_r3 _ (List.mem_of_getElem? (i := 10) rfl), (List.forall_mem_cons.mpr ⟨ilX7_judge_wsX7_judge_r3 _ (List.mem_of_getElem? (i := 11) rfl), (List.forall_mem_cons.mpr ⟨ilX7_judge_wsX7_judge_r3 _ (List.mem_of_getElem? (i := 12) rfl), (List.forall_mem_cons.mpr ⟨ilX7_judge_wsX7_judge_r3 _ (List.mem_of_getElem? (i := 13) rfl), (List.forall_mem_cons.mpr ⟨ilX7_judge_wsX7_judge_r3 _ (List.mem_of_getElem? (i := 14) rfl), (List.forall_mem_cons.mpr ⟨ilX7_judge_wsX7_judge_r3 _ (List.mem_of_getElem? (i := 15) rfl), (List.forall_mem_cons.mpr ⟨ilX7_judge_wsX7_judge_r3 _ (List.mem_of_getElem? (i := 16) rfl), (List.forall_mem_cons.mpr ⟨ilX7_judge_wsX7_judge_r3 _ (List.mem_of_getElem? (i := 17) rfl), (List.forall_mem_cons.mpr ⟨ilX7_judge_wsX7_judge_r3 _ (List.mem_of_getElem? (i := 18) rfl), (List.forall_mem_cons.mpr ⟨ilX7_judge_wsX7_judge_r3 _ (List.mem_of_getElem? (i := 19) rfl), (List.forall_mem_cons.mpr ⟨ilX7_judge_wsX7_judge_r3 _ (List.mem_of_getElem? (i := 20) rfl), (List.forall_mem_cons.mpr ⟨ilX7_judge_wsX7_judge_r3 _ (List.mem_of_getElem? (i := 21) rfl), (List.forall_mem_cons.mpr ⟨ilX7_judge_wsX7_judge_r3 _ (List.mem_of_getElem? (i := 22) rfl), (List.forall_mem_cons.mpr ⟨ilX7_judge_wsX7_judge_r3 _ (List.mem_of_getElem? (i := 23) rfl), (List.forall_mem_cons.mpr ⟨ilX7_judge_wsX7_judge_r4 _ (List.mem_of_getElem? (i := 0) rfl), (List.forall_mem_cons.mpr ⟨ilX7_judge_wsX7_judge_r4 _ (List.mem_of_getElem? (i := 1) rfl), (List.forall_mem_cons.mpr ⟨ilX7_judge_wsX7_judge_r4 _ (List.mem_of_getElem? (i := 2) rfl), (List.forall_mem_cons.mpr ⟨ilX7_judge_wsX7_judge_r4 _ (List.mem_of_getElem? (i := 3) rfl), (List.forall_mem_cons.mpr ⟨ilX7_judge_wsX7_judge_r4 _ (List.mem_of_getElem? (i := 4) rfl), (List.forall_mem_cons.mpr ⟨ilX7_judge_wsX7_judge_r4 _ (List.mem_of_getElem? (i := 5) rfl), (List.forall_mem_cons.mpr ⟨ilX7_judge_wsX7_judge_r4 _ (List.mem_of_getElem? (i := 6) rfl), (List.forall_mem_cons.mpr ⟨ilX7_judge_wsX7_judge_r4 _ (List.mem_of_getElem? (i := 7) rfl), (List.forall_mem_cons.mpr ⟨ilX7_judge_wsX7_judge_r4 _ (List.mem_of_getElem? (i := 8) rfl), (fun _ h => absurd h List.not_mem_nil)⟩)⟩)⟩)⟩)⟩)⟩)⟩)⟩)⟩)⟩)⟩)⟩)⟩)⟩)⟩)⟩)⟩)⟩)⟩)⟩)⟩)⟩)⟩)⟩), (List.forall_mem_cons.mpr ⟨ilX7_judge_wsX7_judge_r4 _ (List.mem_of_getElem? (i := 9) rfl), (List.forall_mem_cons.mpr ⟨ilX7_judge_wsX7_judge_r4 _ (List.mem_of_getElem? (i := 10) rfl), (List.forall_mem_cons.mpr ⟨ilX7_judge_wsX7_judge_r4 _ (List.mem_of_getElem? (i := 11) rfl), (List.forall_mem_cons.mpr ⟨ilX7_judge_wsX7_judge_r4 _ (List.mem_of_getElem? (i := 12) rfl), (List.forall_mem_cons.mpr ⟨ilX7_judge_wsX7_judge_r4 _ (List.mem_of_getElem? (i := 13) rfl), (List.forall_mem_cons.mpr ⟨ilX7_judge_wsX7_judge_r4 _ (List.mem_of_getElem? (i := 14) rfl), (List.forall_mem_cons.mpr ⟨ilX7_judge_wsX7_judge_r4 _ (List.mem_of_getElem? (i := 15) rfl), (List.forall_mem_cons.mpr ⟨ilX7_judge_wsX7_judge_r4 _ (List.mem_of_getElem? (i := 16) rfl), (List.forall_mem_cons.mpr ⟨ilX7_judge_wsX7_judge_r4 _ (List.mem_of_getElem? (i := 17) rfl), (List.forall_mem_cons.mpr ⟨ilX7_judge_wsX7_judge_r4 _ (List.mem_of_getElem? (i := 18) rfl), (List.forall_mem_cons.mpr ⟨ilX7_judge_wsX7_judge_r4 _ (List.mem_of_getElem? (i := 19) rfl), (List.forall_mem_cons.mpr ⟨ilX7_judge_wsX7_judge_r4 _ (List.mem_of_getElem? (i := 20) rfl), (List.forall_mem_cons.mpr ⟨ilX7_judge_wsX7_judge_r4 _ (List.mem_of_getElem? (i := 21) rfl), (List.forall_mem_cons.mpr ⟨ilX7_judge_wsX7_judge_r4 _ (List.mem_of_getElem? (i := 22) rfl), (List.forall_mem_cons.mpr ⟨ilX7_judge_wsX7_judge_r4 _ (List.mem_of_getElem? (i := 23) rfl), (List.forall_mem_cons.mpr ⟨ilX7_judge_wsX7_judge_r5 _ (List.mem_of_getElem? (i := 0) rfl), (fun _ h => absurd h List.not_mem_nil)⟩)⟩)⟩)⟩)⟩)⟩)⟩)⟩)⟩)⟩)⟩)⟩)⟩)⟩)⟩)⟩)⟩)⟩)⟩), ilX7_judge_wsX00⟩), ilX7_judge_wsX20⟩), ilX7_judge_wsX10⟩)⟩) (by decide +kernel)
set_option maxRecDepth 20000 in
theorem gX7_judge_X0_judgeAll : GoodIn wsX7_judge (wsV RX7 221 RX0 yX0_judgeAll wsX0_judgeAll) := goodIn_app (goodIn_sub (List.forall_mem_cons.mpr ⟨ilX7_judge_wsX7_judge_r1 _ (List.mem_of_getElem? (i := 5) rfl), (List.forall_mem_cons.mpr ⟨ilX7_judge_wsX7_judge_r1 _ (List.mem_of_getElem? (i := 6) rfl), (List.forall_mem_cons.mpr ⟨ilX7_judge_wsX7_judge_r1 _ (List.mem_of_getElem? (i := 7) rfl), (List.forall_mem_cons.mpr ⟨ilX7_judge_wsX7_judge_r1 _ (List.mem_of_getElem? (i := 8) rfl), (fun _ h => absurd h List.not_mem_nil)⟩)⟩)⟩)⟩) (by decide +kernel)) ggX7_judge_X0_judgeAll
theorem dX7_judge_0 : decode cX7_judge 0 = .ok (.aload_n 0, 1) := by decide +kernel
theorem dX7_judge_1 : decode cX7_judge 1 = .ok (.getfield 71, 3) := by decide +kernel
theorem dX7_judge_4 : decode cX7_judge 4 = .ok (.ifCond .eq 19, 3) := by decide +kernel
theorem dX7_judge_7 : decode cX7_judge 7 = .ok (.iload_n 1, 1) := by decide +kernel
theorem dX7_judge_8 : decode cX7_judge 8 = .ok (.iconst (-1), 1) := by decide +kernel
theorem dX7_judge_9 : decode cX7_judge 9 = .ok (.if_icmp .lt 14, 3) := by decide +kernel
theorem dX7_judge_12 : decode cX7_judge 12 = .ok (.iload_n 1, 1) := by decide +kernel
theorem dX7_judge_13 : decode cX7_judge 13 = .ok (.aload_n 0, 1) := by decide +kernel
theorem dX7_judge_14 : decode cX7_judge 14 = .ok (.getfield 33, 3) := by decide +kernel
theorem dX7_judge_17 : decode cX7_judge 17 = .ok (.getfield 94, 3) := by decide +kernel
theorem dX7_judge_20 : decode cX7_judge 20 = .ok (.if_icmp .lt 5, 3) := by decide +kernel
theorem dX7_judge_23 : decode cX7_judge 23 = .ok (.iconst (-1), 1) := by decide +kernel
theorem dX7_judge_24 : decode cX7_judge 24 = .ok (.ireturn, 1) := by decide +kernel
theorem dX7_judge_25 : decode cX7_judge 25 = .ok (.aload_n 0, 1) := by decide +kernel
theorem dX7_judge_26 : decode cX7_judge 26 = .ok (.getfield 33, 3) := by decide +kernel
theorem dX7_judge_29 : decode cX7_judge 29 = .ok (.aload_n 0, 1) := by decide +kernel
theorem dX7_judge_30 : decode cX7_judge 30 = .ok (.getfield 55, 3) := by decide +kernel
theorem dX7_judge_33 : decode cX7_judge 33 = .ok (.invokevirtual 221, 3) := by decide +kernel
theorem dX7_judge_36 : decode cX7_judge 36 = .ok (.istore_n 2, 1) := by decide +kernel
theorem dX7_judge_37 : decode cX7_judge 37 = .ok (.iload_n 1, 1) := by decide +kernel
theorem dX7_judge_38 : decode cX7_judge 38 = .ok (.iconst (-1), 1) := by decide +kernel
theorem dX7_judge_39 : decode cX7_judge 39 = .ok (.if_icmp .ne 7, 3) := by decide +kernel
theorem dX7_judge_42 : decode cX7_judge 42 = .ok (.iload_n 2, 1) := by decide +kernel
theorem dX7_judge_43 : decode cX7_judge 43 = .ok (.goto 12, 3) := by decide +kernel
theorem dX7_judge_46 : decode cX7_judge 46 = .ok (.aload_n 0, 1) := by decide +kernel
theorem dX7_judge_47 : decode cX7_judge 47 = .ok (.getfield 33, 3) := by decide +kernel
theorem dX7_judge_50 : decode cX7_judge 50 = .ok (.getfield 224, 3) := by decide +kernel
theorem dX7_judge_53 : decode cX7_judge 53 = .ok (.iload_n 1, 1) := by decide +kernel
theorem dX7_judge_54 : decode cX7_judge 54 = .ok (.iaload, 1) := by decide +kernel
theorem dX7_judge_55 : decode cX7_judge 55 = .ok (.ireturn, 1) := by decide +kernel
set_option maxRecDepth 20000 in
theorem ggX7_holds_X7_isIn : GoodIn wsX7_holds wsX7_isIn := goodIn_sub (List.forall_mem_cons.mpr ⟨List.mem_cons_of_mem _ (List.mem_of_getElem? (i := 3) rfl), (fun _ h => absurd h List.not_mem_nil)⟩) (by decide +kernel)
set_option maxRecDepth 20000 in
theorem gX7_holds_X7_isIn : GoodIn wsX7_holds (va_wsS RX7 146 yX7_isIn wsX7_isIn) := goodIn_app (goodIn_of _ (by decide +kernel)) ggX7_holds_X7_isIn
theorem dX7_holds_0 : decode cX7_holds 0 = .ok (.iload_n 1, 1) := by decide +kernel
theorem dX7_holds_1 : decode cX7_holds 1 = .ok (.iconst 1, 1) := by decide +kernel
theorem dX7_holds_2 : decode cX7_holds 2 = .ok (.sipush 9999, 3) := by decide +kernel
theorem dX7_holds_5 : decode cX7_holds 5 = .ok (.invokestatic 146, 3) := by decide +kernel
theorem dX7_holds_8 : decode cX7_holds 8 = .ok (.ifCond .eq 24, 3) := by decide +kernel
theorem dX7_holds_11 : decode cX7_holds 11 = .ok (.iload_n 2, 1) := by decide +kernel
theorem dX7_holds_12 : decode cX7_holds 12 = .ok (.iconst 0, 1) := by decide +kernel
theorem dX7_holds_13 : decode cX7_holds 13 = .ok (.sipush 999, 3) := by decide +kernel
theorem dX7_holds_16 : decode cX7_holds 16 = .ok (.invokestatic 146, 3) := by decide +kernel
theorem dX7_holds_19 : decode cX7_holds 19 = .ok (.ifCond .eq 13, 3) := by decide +kernel
theorem dX7_holds_22 : decode cX7_holds 22 = .ok (.iload_n 3, 1) := by decide +kernel
theorem dX7_holds_23 : decode cX7_holds 23 = .ok (.iconst 0, 1) := by decide +kernel
theorem dX7_holds_24 : decode cX7_holds 24 = .ok (.bipush 15, 2) := by decide +kernel
theorem dX7_holds_26 : decode cX7_holds 26 = .ok (.invokestatic 146, 3) := by decide +kernel
theorem dX7_holds_29 : decode cX7_holds 29 = .ok (.ifCond .ne 5, 3) := by decide +kernel
theorem dX7_holds_32 : decode cX7_holds 32 = .ok (.iconst (-1), 1) := by decide +kernel
theorem dX7_holds_33 : decode cX7_holds 33 = .ok (.ireturn, 1) := by decide +kernel
theorem dX7_holds_34 : decode cX7_holds 34 = .ok (.iload_n 2, 1) := by decide +kernel
theorem dX7_holds_35 : decode cX7_holds 35 = .ok (.iload_n 3, 1) := by decide +kernel
theorem dX7_holds_36 : decode cX7_holds 36 = .ok (.imul, 1) := by decide +kernel
theorem dX7_holds_37 : decode cX7_holds 37 = .ok (.iload_n 1, 1) := by decide +kernel
theorem dX7_holds_38 : decode cX7_holds 38 = .ok (.bipush 16, 2) := by decide +kernel
theorem dX7_holds_40 : decode cX7_holds 40 = .ok (.iload_n 3, 1) := by decide +kernel
theorem dX7_holds_41 : decode cX7_holds 41 = .ok (.isub, 1) := by decide +kernel
theorem dX7_holds_42 : decode cX7_holds 42 = .ok (.imul, 1) := by decide +kernel
theorem dX7_holds_43 : decode cX7_holds 43 = .ok (.if_icmp .lt 7, 3) := by decide +kernel
theorem dX7_holds_46 : decode cX7_holds 46 = .ok (.iconst 1, 1) := by decide +kernel
theorem dX7_holds_47 : decode cX7_holds 47 = .ok (.goto 4, 3) := by decide +kernel
theorem dX7_holds_50 : decode cX7_holds 50 = .ok (.iconst 0, 1) := by decide +kernel
theorem dX7_holds_51 : decode cX7_holds 51 = .ok (.ireturn, 1) := by decide +kernel
set_option maxRecDepth 20000 in
theorem ggX7_greatest_X7_isIn : GoodIn wsX7_greatest wsX7_isIn := goodIn_sub (List.forall_mem_cons.mpr ⟨List.mem_cons_of_mem _ (List.mem_of_getElem? (i := 3) rfl), (fun _ h => absurd h List.not_mem_nil)⟩) (by decide +kernel)
set_option maxRecDepth 20000 in
theorem gX7_greatest_X7_isIn : GoodIn wsX7_greatest (va_wsS RX7 146 yX7_isIn wsX7_isIn) := goodIn_app (goodIn_of _ (by decide +kernel)) ggX7_greatest_X7_isIn
theorem dX7_greatest_0 : decode cX7_greatest 0 = .ok (.iload_n 1, 1) := by decide +kernel
theorem dX7_greatest_1 : decode cX7_greatest 1 = .ok (.iconst 0, 1) := by decide +kernel
theorem dX7_greatest_2 : decode cX7_greatest 2 = .ok (.sipush 999, 3) := by decide +kernel
theorem dX7_greatest_5 : decode cX7_greatest 5 = .ok (.invokestatic 146, 3) := by decide +kernel
theorem dX7_greatest_8 : decode cX7_greatest 8 = .ok (.ifCond .eq 13, 3) := by decide +kernel
theorem dX7_greatest_11 : decode cX7_greatest 11 = .ok (.iload_n 2, 1) := by decide +kernel
theorem dX7_greatest_12 : decode cX7_greatest 12 = .ok (.iconst 0, 1) := by decide +kernel
theorem dX7_greatest_13 : decode cX7_greatest 13 = .ok (.bipush 15, 2) := by decide +kernel
theorem dX7_greatest_15 : decode cX7_greatest 15 = .ok (.invokestatic 146, 3) := by decide +kernel
theorem dX7_greatest_18 : decode cX7_greatest 18 = .ok (.ifCond .ne 5, 3) := by decide +kernel
theorem dX7_greatest_21 : decode cX7_greatest 21 = .ok (.iconst (-1), 1) := by decide +kernel
theorem dX7_greatest_22 : decode cX7_greatest 22 = .ok (.ireturn, 1) := by decide +kernel
theorem dX7_greatest_23 : decode cX7_greatest 23 = .ok (.iload_n 1, 1) := by decide +kernel
theorem dX7_greatest_24 : decode cX7_greatest 24 = .ok (.iload_n 2, 1) := by decide +kernel
theorem dX7_greatest_25 : decode cX7_greatest 25 = .ok (.imul, 1) := by decide +kernel
theorem dX7_greatest_26 : decode cX7_greatest 26 = .ok (.bipush 16, 2) := by decide +kernel
theorem dX7_greatest_28 : decode cX7_greatest 28 = .ok (.iload_n 2, 1) := by decide +kernel
theorem dX7_greatest_29 : decode cX7_greatest 29 = .ok (.isub, 1) := by decide +kernel
theorem dX7_greatest_30 : decode cX7_greatest 30 = .ok (.idiv, 1) := by decide +kernel
theorem dX7_greatest_31 : decode cX7_greatest 31 = .ok (.ireturn, 1) := by decide +kernel
set_option maxRecDepth 20000 in
theorem ggX7_names_X7_isIn : GoodIn wsX7_names wsX7_isIn := goodIn_sub (List.forall_mem_cons.mpr ⟨List.mem_cons_of_mem _ (List.mem_of_getElem? (i := 9) rfl), (fun _ h => absurd h List.not_mem_nil)⟩) (by decide +kernel)
set_option maxRecDepth 20000 in
theorem gX7_names_X7_isIn : GoodIn wsX7_names (va_wsS RX7 146 yX7_isIn wsX7_isIn) := goodIn_app (goodIn_of _ (by decide +kernel)) ggX7_names_X7_isIn
theorem dX7_names_0 : decode cX7_names 0 = .ok (.iload_n 1, 1) := by decide +kernel
theorem dX7_names_1 : decode cX7_names 1 = .ok (.iconst 1, 1) := by decide +kernel
theorem dX7_names_2 : decode cX7_names 2 = .ok (.bipush 60, 2) := by decide +kernel
theorem dX7_names_4 : decode cX7_names 4 = .ok (.invokestatic 146, 3) := by decide +kernel
theorem dX7_names_7 : decode cX7_names 7 = .ok (.ifCond .eq 13, 3) := by decide +kernel
theorem dX7_names_10 : decode cX7_names 10 = .ok (.iload_n 2, 1) := by decide +kernel
theorem dX7_names_11 : decode cX7_names 11 = .ok (.iconst 0, 1) := by decide +kernel
theorem dX7_names_12 : decode cX7_names 12 = .ok (.bipush 16, 2) := by decide +kernel
theorem dX7_names_14 : decode cX7_names 14 = .ok (.invokestatic 146, 3) := by decide +kernel
theorem dX7_names_17 : decode cX7_names 17 = .ok (.ifCond .ne 5, 3) := by decide +kernel
theorem dX7_names_20 : decode cX7_names 20 = .ok (.iconst (-1), 1) := by decide +kernel
theorem dX7_names_21 : decode cX7_names 21 = .ok (.ireturn, 1) := by decide +kernel
theorem dX7_names_22 : decode cX7_names 22 = .ok (.iload_n 1, 1) := by decide +kernel
theorem dX7_names_23 : decode cX7_names 23 = .ok (.bipush 12, 2) := by decide +kernel
theorem dX7_names_25 : decode cX7_names 25 = .ok (.invokestatic 226, 3) := by decide +kernel
theorem dX7_names_28 : decode cX7_names 28 = .ok (.istore_n 3, 1) := by decide +kernel
theorem dX7_names_29 : decode cX7_names 29 = .ok (.lconst 1, 1) := by decide +kernel
theorem dX7_names_30 : decode cX7_names 30 = .ok (.lstore 4, 2) := by decide +kernel
theorem dX7_names_32 : decode cX7_names 32 = .ok (.lconst 1, 1) := by decide +kernel
theorem dX7_names_33 : decode cX7_names 33 = .ok (.lstore 6, 2) := by decide +kernel
theorem dX7_names_35 : decode cX7_names 35 = .ok (.iconst 1, 1) := by decide +kernel
theorem dX7_names_36 : decode cX7_names 36 = .ok (.istore 8, 2) := by decide +kernel
theorem dX7_names_38 : decode cX7_names 38 = .ok (.iload 8, 2) := by decide +kernel
theorem dX7_names_40 : decode cX7_names 40 = .ok (.iload_n 3, 1) := by decide +kernel
theorem dX7_names_41 : decode cX7_names 41 = .ok (.if_icmp .gt 49, 3) := by decide +kernel
theorem dX7_names_44 : decode cX7_names 44 = .ok (.lload 4, 2) := by decide +kernel
theorem dX7_names_46 : decode cX7_names 46 = .ok (.ldc2_w 231, 3) := by decide +kernel
theorem dX7_names_49 : decode cX7_names 49 = .ok (.lmul, 1) := by decide +kernel
theorem dX7_names_50 : decode cX7_names 50 = .ok (.lstore 4, 2) := by decide +kernel
theorem dX7_names_52 : decode cX7_names 52 = .ok (.lload 6, 2) := by decide +kernel
theorem dX7_names_54 : decode cX7_names 54 = .ok (.bipush 16, 2) := by decide +kernel
theorem dX7_names_56 : decode cX7_names 56 = .ok (.iload_n 2, 1) := by decide +kernel
theorem dX7_names_57 : decode cX7_names 57 = .ok (.isub, 1) := by decide +kernel
theorem dX7_names_58 : decode cX7_names 58 = .ok (.i2l, 1) := by decide +kernel
theorem dX7_names_59 : decode cX7_names 59 = .ok (.lmul, 1) := by decide +kernel
theorem dX7_names_60 : decode cX7_names 60 = .ok (.lstore 6, 2) := by decide +kernel
theorem dX7_names_62 : decode cX7_names 62 = .ok (.lload 4, 2) := by decide +kernel
theorem dX7_names_64 : decode cX7_names 64 = .ok (.lload 6, 2) := by decide +kernel
theorem dX7_names_66 : decode cX7_names 66 = .ok (.lsub, 1) := by decide +kernel
theorem dX7_names_67 : decode cX7_names 67 = .ok (.ldc2_w 231, 3) := by decide +kernel
theorem dX7_names_70 : decode cX7_names 70 = .ok (.lmul, 1) := by decide +kernel
theorem dX7_names_71 : decode cX7_names 71 = .ok (.lload 4, 2) := by decide +kernel
theorem dX7_names_73 : decode cX7_names 73 = .ok (.ldc2_w 233, 3) := by decide +kernel
theorem dX7_names_76 : decode cX7_names 76 = .ok (.lmul, 1) := by decide +kernel
theorem dX7_names_77 : decode cX7_names 77 = .ok (.lcmp, 1) := by decide +kernel
theorem dX7_names_78 : decode cX7_names 78 = .ok (.ifCond .lt 6, 3) := by decide +kernel
theorem dX7_names_81 : decode cX7_names 81 = .ok (.iload 8, 2) := by decide +kernel
theorem dX7_names_83 : decode cX7_names 83 = .ok (.ireturn, 1) := by decide +kernel
theorem dX7_names_84 : decode cX7_names 84 = .ok (.iinc 8 1, 3) := by decide +kernel
theorem dX7_names_87 : decode cX7_names 87 = .ok (.goto (-49), 3) := by decide +kernel
theorem dX7_names_90 : decode cX7_names 90 = .ok (.iconst (-1), 1) := by decide +kernel
theorem dX7_names_91 : decode cX7_names 91 = .ok (.ireturn, 1) := by decide +kernel
theorem ilX7_round_wsX7_round_r1 : ∀ w ∈ wsX7_round_r1, w ∈ wsX7_round := fun _ h => List.mem_cons_of_mem _ (List.mem_append_left _ (List.mem_append_left _ (List.mem_append_left _ (List.mem_append_left _ (h)))))
theorem ilX7_round_wsX7_round_r2 : ∀ w ∈ wsX7_round_r2, w ∈ wsX7_round := fun _ h => List.mem_cons_of_mem _ (List.mem_append_left _ (List.mem_append_left _ (List.mem_append_left _ (List.mem_append_right _ (h)))))
theorem ilX7_round_wsX70 : ∀ w ∈ wsX70, w ∈ wsX7_round := fun _ h => List.mem_cons_of_mem _ (List.mem_append_left _ (List.mem_append_left _ (List.mem_append_right _ (h))))
theorem ilX7_round_wsX10 : ∀ w ∈ wsX10, w ∈ wsX7_round := fun _ h => List.mem_cons_of_mem _ (List.mem_append_left _ (List.mem_append_right _ (h)))
theorem ilX7_round_wsX60 : ∀ w ∈ wsX60, w ∈ wsX7_round := fun _ h => List.mem_cons_of_mem _ (List.mem_append_right _ (h))
set_option maxRecDepth 20000 in
theorem ggX7_round_X7_isIn : GoodIn wsX7_round wsX7_isIn := goodIn_sub (List.forall_mem_cons.mpr ⟨ilX7_round_wsX7_round_r1 _ (List.mem_of_getElem? (i := 8) rfl), (fun _ h => absurd h List.not_mem_nil)⟩) (by decide +kernel)
set_option maxRecDepth 20000 in
theorem gX7_round_X7_isIn : GoodIn wsX7_round (va_wsS RX7 146 yX7_isIn wsX7_isIn) := goodIn_app (goodIn_of _ (by decide +kernel)) ggX7_round_X7_isIn
set_option maxRecDepth 20000 in
theorem ggX7_round_X6_measure : GoodIn wsX7_round wsX6_measure := goodIn_sub (List.forall_mem_cons.mpr ⟨ilX7_round_wsX7_round_r1 _ (List.mem_of_getElem? (i := 13) rfl), (List.forall_mem_append.mpr ⟨(List.forall_mem_append.mpr ⟨(List.forall_mem_cons.mpr ⟨ilX7_round_wsX7_round_r1 _ (List.mem_of_getElem? (i := 14) rfl), (List.forall_mem_cons.mpr ⟨ilX7_round_wsX7_round_r1 _ (List.mem_of_getElem? (i := 15) rfl), (List.forall_mem_cons.mpr ⟨ilX7_round_wsX7_round_r1 _ (List.mem_of_getElem? (i := 16) rfl), (List.forall_mem_cons.mpr ⟨ilX7_round_wsX7_round_r1 _ (List.mem_of_getElem? (i := 17) rfl), (List.forall_mem_cons.mpr ⟨ilX7_round_wsX7_round_r1 _ (List.mem_of_getElem? (i := 18) rfl), (List.forall_mem_cons.mpr ⟨ilX7_round_wsX7_round_r1 _ (List.mem_of_getElem? (i := 19) rfl), (List.forall_mem_cons.mpr ⟨ilX7_round_wsX7_round_r1 _ (List.mem_of_getElem? (i := 12) rfl), (List.forall_mem_cons.mpr ⟨ilX7_round_wsX7_round_r1 _ (List.mem_of_getElem? (i := 20) rfl), (List.forall_mem_cons.mpr ⟨ilX7_round_wsX7_round_r1 _ (List.mem_of_getElem? (i := 21) rfl), (List.forall_mem_cons.mpr ⟨ilX7_round_wsX7_round_r1 _ (List.mem_of_getElem? (i := 22) rfl), (List.forall_mem_cons.mpr ⟨ilX7_round_wsX7_round_r1 _ (List.mem_of_getElem? (i := 23) rfl), (fun _ h => absurd h List.not_mem_nil)⟩)⟩)⟩)⟩)⟩)⟩)⟩)⟩)⟩)⟩)⟩), ilX7_round_wsX60⟩), ilX7_round_wsX10⟩)⟩) (by decide +kernel)
set_option maxRecDepth 20000 in
theorem gX7_round_X6_measure : GoodIn wsX7_round (wsV RX7 238 RX6 yX6_measure wsX6_measure) := goodIn_app (goodIn_sub (List.forall_mem_cons.mpr ⟨ilX7_round_wsX7_round_r1 _ (List.mem_of_getElem? (i := 9) rfl), (List.forall_mem_cons.mpr ⟨ilX7_round_wsX7_round_r1 _ (List.mem_of_getElem? (i := 10) rfl), (List.forall_mem_cons.mpr ⟨ilX7_round_wsX7_round_r1 _ (List.mem_of_getElem? (i := 11) rfl), (List.forall_mem_cons.mpr ⟨ilX7_round_wsX7_round_r1 _ (List.mem_of_getElem? (i := 12) rfl), (fun _ h => absurd h List.not_mem_nil)⟩)⟩)⟩)⟩) (by decide +kernel)) ggX7_round_X6_measure
set_option maxRecDepth 20000 in
theorem ggX7_round_X6_turnAt : GoodIn wsX7_round wsX6_turnAt := goodIn_sub (List.forall_mem_cons.mpr ⟨ilX7_round_wsX7_round_r2 _ (List.mem_of_getElem? (i := 3) rfl), (List.forall_mem_append.mpr ⟨(List.forall_mem_append.mpr ⟨(List.forall_mem_cons.mpr ⟨ilX7_round_wsX7_round_r1 _ (List.mem_of_getElem? (i := 14) rfl), (List.forall_mem_cons.mpr ⟨ilX7_round_wsX7_round_r1 _ (List.mem_of_getElem? (i := 15) rfl), (List.forall_mem_cons.mpr ⟨ilX7_round_wsX7_round_r1 _ (List.mem_of_getElem? (i := 22) rfl), (List.forall_mem_cons.mpr ⟨ilX7_round_wsX7_round_r2 _ (List.mem_of_getElem? (i := 4) rfl), (List.forall_mem_cons.mpr ⟨ilX7_round_wsX7_round_r2 _ (List.mem_of_getElem? (i := 5) rfl), (List.forall_mem_cons.mpr ⟨ilX7_round_wsX7_round_r2 _ (List.mem_of_getElem? (i := 6) rfl), (List.forall_mem_cons.mpr ⟨ilX7_round_wsX7_round_r1 _ (List.mem_of_getElem? (i := 12) rfl), (List.forall_mem_cons.mpr ⟨ilX7_round_wsX7_round_r2 _ (List.mem_of_getElem? (i := 7) rfl), (List.forall_mem_cons.mpr ⟨ilX7_round_wsX7_round_r1 _ (List.mem_of_getElem? (i := 16) rfl), (List.forall_mem_cons.mpr ⟨ilX7_round_wsX7_round_r1 _ (List.mem_of_getElem? (i := 21) rfl), (List.forall_mem_cons.mpr ⟨ilX7_round_wsX7_round_r1 _ (List.mem_of_getElem? (i := 23) rfl), (fun _ h => absurd h List.not_mem_nil)⟩)⟩)⟩)⟩)⟩)⟩)⟩)⟩)⟩)⟩)⟩), ilX7_round_wsX60⟩), ilX7_round_wsX10⟩)⟩) (by decide +kernel)
set_option maxRecDepth 20000 in
theorem gX7_round_X6_turnAt : GoodIn wsX7_round (wsV RX7 245 RX6 yX6_turnAt wsX6_turnAt) := goodIn_app (goodIn_sub (List.forall_mem_cons.mpr ⟨ilX7_round_wsX7_round_r2 _ (List.mem_of_getElem? (i := 0) rfl), (List.forall_mem_cons.mpr ⟨ilX7_round_wsX7_round_r2 _ (List.mem_of_getElem? (i := 1) rfl), (List.forall_mem_cons.mpr ⟨ilX7_round_wsX7_round_r2 _ (List.mem_of_getElem? (i := 2) rfl), (List.forall_mem_cons.mpr ⟨ilX7_round_wsX7_round_r1 _ (List.mem_of_getElem? (i := 12) rfl), (fun _ h => absurd h List.not_mem_nil)⟩)⟩)⟩)⟩) (by decide +kernel)) ggX7_round_X6_turnAt
theorem dX7_round_0 : decode cX7_round 0 = .ok (.aload_n 0, 1) := by decide +kernel
theorem dX7_round_1 : decode cX7_round 1 = .ok (.getfield 71, 3) := by decide +kernel
theorem dX7_round_4 : decode cX7_round 4 = .ok (.ifCond .eq 17, 3) := by decide +kernel
theorem dX7_round_7 : decode cX7_round 7 = .ok (.iload_n 1, 1) := by decide +kernel
theorem dX7_round_8 : decode cX7_round 8 = .ok (.iconst 0, 1) := by decide +kernel
theorem dX7_round_9 : decode cX7_round 9 = .ok (.iconst 4, 1) := by decide +kernel
theorem dX7_round_10 : decode cX7_round 10 = .ok (.invokestatic 146, 3) := by decide +kernel
theorem dX7_round_13 : decode cX7_round 13 = .ok (.ifCond .eq 8, 3) := by decide +kernel
theorem dX7_round_16 : decode cX7_round 16 = .ok (.iload_n 2, 1) := by decide +kernel
theorem dX7_round_17 : decode cX7_round 17 = .ok (.iconst (-1), 1) := by decide +kernel
theorem dX7_round_18 : decode cX7_round 18 = .ok (.if_icmp .ge 5, 3) := by decide +kernel
theorem dX7_round_21 : decode cX7_round 21 = .ok (.iconst (-1), 1) := by decide +kernel
theorem dX7_round_22 : decode cX7_round 22 = .ok (.ireturn, 1) := by decide +kernel
theorem dX7_round_23 : decode cX7_round 23 = .ok (.aload_n 0, 1) := by decide +kernel
theorem dX7_round_24 : decode cX7_round 24 = .ok (.getfield 40, 3) := by decide +kernel
theorem dX7_round_27 : decode cX7_round 27 = .ok (.aload_n 0, 1) := by decide +kernel
theorem dX7_round_28 : decode cX7_round 28 = .ok (.getfield 55, 3) := by decide +kernel
theorem dX7_round_31 : decode cX7_round 31 = .ok (.aload_n 0, 1) := by decide +kernel
theorem dX7_round_32 : decode cX7_round 32 = .ok (.getfield 55, 3) := by decide +kernel
theorem dX7_round_35 : decode cX7_round 35 = .ok (.getfield 235, 3) := by decide +kernel
theorem dX7_round_38 : decode cX7_round 38 = .ok (.invokevirtual 238, 3) := by decide +kernel
theorem dX7_round_41 : decode cX7_round 41 = .ok (.iload_n 2, 1) := by decide +kernel
theorem dX7_round_42 : decode cX7_round 42 = .ok (.iconst (-1), 1) := by decide +kernel
theorem dX7_round_43 : decode cX7_round 43 = .ok (.if_icmp .ne 15, 3) := by decide +kernel
theorem dX7_round_46 : decode cX7_round 46 = .ok (.aload_n 0, 1) := by decide +kernel
theorem dX7_round_47 : decode cX7_round 47 = .ok (.getfield 40, 3) := by decide +kernel
theorem dX7_round_50 : decode cX7_round 50 = .ok (.getfield 242, 3) := by decide +kernel
theorem dX7_round_53 : decode cX7_round 53 = .ok (.iload_n 1, 1) := by decide +kernel
theorem dX7_round_54 : decode cX7_round 54 = .ok (.iaload, 1) := by decide +kernel
theorem dX7_round_55 : decode cX7_round 55 = .ok (.goto 16, 3) := by decide +kernel
theorem dX7_round_58 : decode cX7_round 58 = .ok (.aload_n 0, 1) := by decide +kernel
theorem dX7_round_59 : decode cX7_round 59 = .ok (.getfield 40, 3) := by decide +kernel
theorem dX7_round_62 : decode cX7_round 62 = .ok (.aload_n 0, 1) := by decide +kernel
theorem dX7_round_63 : decode cX7_round 63 = .ok (.getfield 55, 3) := by decide +kernel
theorem dX7_round_66 : decode cX7_round 66 = .ok (.iload_n 1, 1) := by decide +kernel
theorem dX7_round_67 : decode cX7_round 67 = .ok (.iload_n 2, 1) := by decide +kernel
theorem dX7_round_68 : decode cX7_round 68 = .ok (.invokevirtual 245, 3) := by decide +kernel
theorem dX7_round_71 : decode cX7_round 71 = .ok (.ireturn, 1) := by decide +kernel
theorem ilX7_words_wsX7_words_r1 : ∀ w ∈ wsX7_words_r1, w ∈ wsX7_words := fun _ h => List.mem_cons_of_mem _ (List.mem_append_left _ (List.mem_append_left _ (List.mem_append_left _ (List.mem_append_left _ (h)))))
theorem ilX7_words_wsX7_words_r2 : ∀ w ∈ wsX7_words_r2, w ∈ wsX7_words := fun _ h => List.mem_cons_of_mem _ (List.mem_append_left _ (List.mem_append_left _ (List.mem_append_left _ (List.mem_append_right _ (h)))))
theorem ilX7_words_wsX70 : ∀ w ∈ wsX70, w ∈ wsX7_words := fun _ h => List.mem_cons_of_mem _ (List.mem_append_left _ (List.mem_append_left _ (List.mem_append_right _ (h))))
theorem ilX7_words_wsX10 : ∀ w ∈ wsX10, w ∈ wsX7_words := fun _ h => List.mem_cons_of_mem _ (List.mem_append_left _ (List.mem_append_right _ (h)))
theorem ilX7_words_wsX60 : ∀ w ∈ wsX60, w ∈ wsX7_words := fun _ h => List.mem_cons_of_mem _ (List.mem_append_right _ (h))
set_option maxRecDepth 20000 in
theorem ggX7_words_X7_isIn : GoodIn wsX7_words wsX7_isIn := goodIn_sub (List.forall_mem_cons.mpr ⟨ilX7_words_wsX7_words_r1 _ (List.mem_of_getElem? (i := 6) rfl), (fun _ h => absurd h List.not_mem_nil)⟩) (by decide +kernel)
set_option maxRecDepth 20000 in
theorem gX7_words_X7_isIn : GoodIn wsX7_words (va_wsS RX7 146 yX7_isIn wsX7_isIn) := goodIn_app (goodIn_of _ (by decide +kernel)) ggX7_words_X7_isIn
set_option maxRecDepth 20000 in
theorem ggX7_words_X6_fewestWords : GoodIn wsX7_words wsX6_fewestWords := goodIn_sub (List.forall_mem_cons.mpr ⟨ilX7_words_wsX7_words_r1 _ (List.mem_of_getElem? (i := 11) rfl), (List.forall_mem_append.mpr ⟨(List.forall_mem_append.mpr ⟨(List.forall_mem_append.mpr ⟨(List.forall_mem_cons.mpr ⟨ilX7_words_wsX7_words_r1 _ (List.mem_of_getElem? (i := 12) rfl), (List.forall_mem_cons.mpr ⟨ilX7_words_wsX7_words_r1 _ (List.mem_of_getElem? (i := 13) rfl), (List.forall_mem_cons.mpr ⟨ilX7_words_wsX7_words_r1 _ (List.mem_of_getElem? (i := 14) rfl), (List.forall_mem_cons.mpr ⟨ilX7_words_wsX7_words_r1 _ (List.mem_of_getElem? (i := 15) rfl), (List.forall_mem_cons.mpr ⟨ilX7_words_wsX7_words_r1 _ (List.mem_of_getElem? (i := 16) rfl), (List.forall_mem_cons.mpr ⟨ilX7_words_wsX7_words_r1 _ (List.mem_of_getElem? (i := 17) rfl), (List.forall_mem_cons.mpr ⟨ilX7_words_wsX7_words_r1 _ (List.mem_of_getElem? (i := 18) rfl), (List.forall_mem_cons.mpr ⟨ilX7_words_wsX7_words_r1 _ (List.mem_of_getElem? (i := 19) rfl), (List.forall_mem_cons.mpr ⟨ilX7_words_wsX7_words_r1 _ (List.mem_of_getElem? (i := 20) rfl), (List.forall_mem_cons.mpr ⟨ilX7_words_wsX7_words_r1 _ (List.mem_of_getElem? (i := 21) rfl), (List.forall_mem_cons.mpr ⟨ilX7_words_wsX7_words_r1 _ (List.mem_of_getElem? (i := 22) rfl), (List.forall_mem_cons.mpr ⟨ilX7_words_wsX7_words_r1 _ (List.mem_of_getElem? (i := 10) rfl), (List.forall_mem_cons.mpr ⟨ilX7_words_wsX7_words_r1 _ (List.mem_of_getElem? (i := 23) rfl), (List.forall_mem_cons.mpr ⟨ilX7_words_wsX7_words_r2 _ (List.mem_of_getElem? (i := 0) rfl), (List.forall_mem_cons.mpr ⟨ilX7_words_wsX7_words_r2 _ (List.mem_of_getElem? (i := 1) rfl), (List.forall_mem_cons.mpr ⟨ilX7_words_wsX7_words_r2 _ (List.mem_of_getElem? (i := 2) rfl), (List.forall_mem_cons.mpr ⟨ilX7_words_wsX7_words_r2 _ (List.mem_of_getElem? (i := 3) rfl), (List.forall_mem_cons.mpr ⟨ilX7_words_wsX7_words_r2 _ (List.mem_of_getElem? (i := 4) rfl), (List.forall_mem_cons.mpr ⟨ilX7_words_wsX7_words_r2 _ (List.mem_of_getElem? (i := 5) rfl), (List.forall_mem_cons.mpr ⟨ilX7_words_wsX7_words_r2 _ (List.mem_of_getElem? (i := 6) rfl), (List.forall_mem_cons.mpr ⟨ilX7_words_wsX7_words_r2 _ (List.mem_of_getElem? (i := 7) rfl), (List.forall_mem_cons.mpr ⟨ilX7_words_wsX7_words_r2 _ (List.mem_of_getElem? (i := 8) rfl), (List.forall_mem_cons.mpr ⟨ilX7_words_wsX7_words_r2 _ (List.mem_of_getElem? (i := 9) rfl), (List.forall_mem_cons.mpr ⟨ilX7_words_wsX7_words_r2 _ (List.mem_of_getElem? (i := 10) rfl), (fun _ h => absurd h List.not_mem_nil)⟩)⟩)⟩)⟩)⟩)⟩)⟩)⟩)⟩)⟩)⟩)⟩)⟩)⟩)⟩)⟩)⟩)⟩)⟩)⟩)⟩)⟩)⟩)⟩), (List.forall_mem_cons.mpr ⟨ilX7_words_wsX7_words_r2 _ (List.mem_of_getElem? (i := 11) rfl), (List.forall_mem_cons.mpr ⟨ilX7_words_wsX7_words_r2 _ (List.mem_of_getElem? (i := 12) rfl), (List.forall_mem_cons.mpr ⟨ilX7_words_wsX7_words_r2 _ (List.mem_of_getElem? (i := 13) rfl), (fun _ h => absurd h List.not_mem_nil)⟩)⟩)⟩)⟩), ilX7_words_wsX10⟩), ilX7_words_wsX60⟩)⟩) (by decide +kernel)
set_option maxRecDepth 20000 in
theorem gX7_words_X6_fewestWords : GoodIn wsX7_words (wsV RX7 248 RX6 yX6_fewestWords wsX6_fewestWords) := goodIn_app (goodIn_sub (List.forall_mem_cons.mpr ⟨ilX7_words_wsX7_words_r1 _ (List.mem_of_getElem? (i := 7) rfl), (List.forall_mem_cons.mpr ⟨ilX7_words_wsX7_words_r1 _ (List.mem_of_getElem? (i := 8) rfl), (List.forall_mem_cons.mpr ⟨ilX7_words_wsX7_words_r1 _ (List.mem_of_getElem? (i := 9) rfl), (List.forall_mem_cons.mpr ⟨ilX7_words_wsX7_words_r1 _ (List.mem_of_getElem? (i := 10) rfl), (fun _ h => absurd h List.not_mem_nil)⟩)⟩)⟩)⟩) (by decide +kernel)) ggX7_words_X6_fewestWords
theorem dX7_words_0 : decode cX7_words 0 = .ok (.aload_n 0, 1) := by decide +kernel
theorem dX7_words_1 : decode cX7_words 1 = .ok (.getfield 71, 3) := by decide +kernel
theorem dX7_words_4 : decode cX7_words 4 = .ok (.ifCond .eq 24, 3) := by decide +kernel
theorem dX7_words_7 : decode cX7_words 7 = .ok (.iload_n 1, 1) := by decide +kernel
theorem dX7_words_8 : decode cX7_words 8 = .ok (.iconst 0, 1) := by decide +kernel
theorem dX7_words_9 : decode cX7_words 9 = .ok (.bipush 31, 2) := by decide +kernel
theorem dX7_words_11 : decode cX7_words 11 = .ok (.invokestatic 146, 3) := by decide +kernel
theorem dX7_words_14 : decode cX7_words 14 = .ok (.ifCond .eq 14, 3) := by decide +kernel
theorem dX7_words_17 : decode cX7_words 17 = .ok (.iload_n 2, 1) := by decide +kernel
theorem dX7_words_18 : decode cX7_words 18 = .ok (.iconst 0, 1) := by decide +kernel
theorem dX7_words_19 : decode cX7_words 19 = .ok (.sipush 2000, 3) := by decide +kernel
theorem dX7_words_22 : decode cX7_words 22 = .ok (.invokestatic 146, 3) := by decide +kernel
theorem dX7_words_25 : decode cX7_words 25 = .ok (.ifCond .ne 5, 3) := by decide +kernel
theorem dX7_words_28 : decode cX7_words 28 = .ok (.iconst (-1), 1) := by decide +kernel
theorem dX7_words_29 : decode cX7_words 29 = .ok (.ireturn, 1) := by decide +kernel
theorem dX7_words_30 : decode cX7_words 30 = .ok (.aload_n 0, 1) := by decide +kernel
theorem dX7_words_31 : decode cX7_words 31 = .ok (.getfield 40, 3) := by decide +kernel
theorem dX7_words_34 : decode cX7_words 34 = .ok (.aload_n 0, 1) := by decide +kernel
theorem dX7_words_35 : decode cX7_words 35 = .ok (.getfield 55, 3) := by decide +kernel
theorem dX7_words_38 : decode cX7_words 38 = .ok (.iload_n 1, 1) := by decide +kernel
theorem dX7_words_39 : decode cX7_words 39 = .ok (.iload_n 2, 1) := by decide +kernel
theorem dX7_words_40 : decode cX7_words 40 = .ok (.invokevirtual 248, 3) := by decide +kernel
theorem dX7_words_43 : decode cX7_words 43 = .ok (.ireturn, 1) := by decide +kernel
theorem ilX7_purse_wsX7_purse_r1 : ∀ w ∈ wsX7_purse_r1, w ∈ wsX7_purse := fun _ h => List.mem_cons_of_mem _ (List.mem_append_left _ (List.mem_append_left _ (List.mem_append_left _ (h))))
theorem ilX7_purse_wsX7_purse_r2 : ∀ w ∈ wsX7_purse_r2, w ∈ wsX7_purse := fun _ h => List.mem_cons_of_mem _ (List.mem_append_left _ (List.mem_append_left _ (List.mem_append_right _ (h))))
theorem ilX7_purse_wsX70 : ∀ w ∈ wsX70, w ∈ wsX7_purse := fun _ h => List.mem_cons_of_mem _ (List.mem_append_left _ (List.mem_append_right _ (h)))
theorem ilX7_purse_wsX10 : ∀ w ∈ wsX10, w ∈ wsX7_purse := fun _ h => List.mem_cons_of_mem _ (List.mem_append_right _ (h))
set_option maxRecDepth 20000 in
theorem ggX7_purse_X7_isIn : GoodIn wsX7_purse wsX7_isIn := goodIn_sub (List.forall_mem_cons.mpr ⟨ilX7_purse_wsX7_purse_r1 _ (List.mem_of_getElem? (i := 7) rfl), (fun _ h => absurd h List.not_mem_nil)⟩) (by decide +kernel)
set_option maxRecDepth 20000 in
theorem gX7_purse_X7_isIn : GoodIn wsX7_purse (va_wsS RX7 146 yX7_isIn wsX7_isIn) := goodIn_app (goodIn_of _ (by decide +kernel)) ggX7_purse_X7_isIn
set_option maxRecDepth 20000 in
theorem ggX7_purse_X1_needOf : GoodIn wsX7_purse wsX1_needOf := goodIn_sub (List.forall_mem_cons.mpr ⟨ilX7_purse_wsX7_purse_r1 _ (List.mem_of_getElem? (i := 12) rfl), (List.forall_mem_append.mpr ⟨(List.forall_mem_cons.mpr ⟨ilX7_purse_wsX7_purse_r1 _ (List.mem_of_getElem? (i := 13) rfl), (List.forall_mem_cons.mpr ⟨ilX7_purse_wsX7_purse_r1 _ (List.mem_of_getElem? (i := 14) rfl), (List.forall_mem_cons.mpr ⟨ilX7_purse_wsX7_purse_r1 _ (List.mem_of_getElem? (i := 15) rfl), (List.forall_mem_cons.mpr ⟨ilX7_purse_wsX7_purse_r1 _ (List.mem_of_getElem? (i := 16) rfl), (List.forall_mem_cons.mpr ⟨ilX7_purse_wsX7_purse_r1 _ (List.mem_of_getElem? (i := 17) rfl), (List.forall_mem_cons.mpr ⟨ilX7_purse_wsX7_purse_r1 _ (List.mem_of_getElem? (i := 18) rfl), (List.forall_mem_cons.mpr ⟨ilX7_purse_wsX7_purse_r1 _ (List.mem_of_getElem? (i := 19) rfl), (fun _ h => absurd h List.not_mem_nil)⟩)⟩)⟩)⟩)⟩)⟩)⟩), ilX7_purse_wsX10⟩)⟩) (by decide +kernel)
set_option maxRecDepth 20000 in
theorem gX7_purse_X1_needOf : GoodIn wsX7_purse (wsV RX7 254 RX1 yX1_needOf wsX1_needOf) := goodIn_app (goodIn_sub (List.forall_mem_cons.mpr ⟨ilX7_purse_wsX7_purse_r1 _ (List.mem_of_getElem? (i := 8) rfl), (List.forall_mem_cons.mpr ⟨ilX7_purse_wsX7_purse_r1 _ (List.mem_of_getElem? (i := 9) rfl), (List.forall_mem_cons.mpr ⟨ilX7_purse_wsX7_purse_r1 _ (List.mem_of_getElem? (i := 10) rfl), (List.forall_mem_cons.mpr ⟨ilX7_purse_wsX7_purse_r1 _ (List.mem_of_getElem? (i := 11) rfl), (fun _ h => absurd h List.not_mem_nil)⟩)⟩)⟩)⟩) (by decide +kernel)) ggX7_purse_X1_needOf
set_option maxRecDepth 20000 in
theorem ggX7_purse_X7_lastNightBack : GoodIn wsX7_purse wsX7_lastNightBack := goodIn_sub (List.forall_mem_cons.mpr ⟨ilX7_purse_wsX7_purse_r1 _ (List.mem_of_getElem? (i := 23) rfl), (List.forall_mem_append.mpr ⟨(List.forall_mem_append.mpr ⟨(List.forall_mem_cons.mpr ⟨ilX7_purse_wsX7_purse_r1 _ (List.mem_of_getElem? (i := 1) rfl), (List.forall_mem_cons.mpr ⟨ilX7_purse_wsX7_purse_r2 _ (List.mem_of_getElem? (i := 0) rfl), (List.forall_mem_cons.mpr ⟨ilX7_purse_wsX7_purse_r2 _ (List.mem_of_getElem? (i := 1) rfl), (List.forall_mem_cons.mpr ⟨ilX7_purse_wsX7_purse_r2 _ (List.mem_of_getElem? (i := 2) rfl), (List.forall_mem_cons.mpr ⟨ilX7_purse_wsX7_purse_r2 _ (List.mem_of_getElem? (i := 3) rfl), (List.forall_mem_cons.mpr ⟨ilX7_purse_wsX7_purse_r2 _ (List.mem_of_getElem? (i := 4) rfl), (List.forall_mem_cons.mpr ⟨ilX7_purse_wsX7_purse_r2 _ (List.mem_of_getElem? (i := 5) rfl), (List.forall_mem_cons.mpr ⟨ilX7_purse_wsX7_purse_r2 _ (List.mem_of_getElem? (i := 6) rfl), (List.forall_mem_cons.mpr ⟨ilX7_purse_wsX7_purse_r2 _ (List.mem_of_getElem? (i := 7) rfl), (List.forall_mem_cons.mpr ⟨ilX7_purse_wsX7_purse_r2 _ (List.mem_of_getElem? (i := 8) rfl), (List.forall_mem_cons.mpr ⟨ilX7_purse_wsX7_purse_r2 _ (List.mem_of_getElem? (i := 9) rfl), (List.forall_mem_cons.mpr ⟨ilX7_purse_wsX7_purse_r2 _ (List.mem_of_getElem? (i := 10) rfl), (fun _ h => absurd h List.not_mem_nil)⟩)⟩)⟩)⟩)⟩)⟩)⟩)⟩)⟩)⟩)⟩)⟩), ilX7_purse_wsX70⟩), ilX7_purse_wsX10⟩)⟩) (by decide +kernel)
set_option maxRecDepth 20000 in
theorem gX7_purse_X7_lastNightBack : GoodIn wsX7_purse (wsV RX7 258 RX7 yX7_lastNightBack wsX7_lastNightBack) := goodIn_app (goodIn_sub (List.forall_mem_cons.mpr ⟨ilX7_purse_wsX7_purse_r1 _ (List.mem_of_getElem? (i := 20) rfl), (List.forall_mem_cons.mpr ⟨ilX7_purse_wsX7_purse_r1 _ (List.mem_of_getElem? (i := 21) rfl), (List.forall_mem_cons.mpr ⟨ilX7_purse_wsX7_purse_r1 _ (List.mem_of_getElem? (i := 22) rfl), (List.forall_mem_cons.mpr ⟨ilX7_purse_wsX7_purse_r1 _ (List.mem_of_getElem? (i := 6) rfl), (fun _ h => absurd h List.not_mem_nil)⟩)⟩)⟩)⟩) (by decide +kernel)) ggX7_purse_X7_lastNightBack
theorem dX7_purse_0 : decode cX7_purse 0 = .ok (.aload_n 0, 1) := by decide +kernel
theorem dX7_purse_1 : decode cX7_purse 1 = .ok (.getfield 71, 3) := by decide +kernel
theorem dX7_purse_4 : decode cX7_purse 4 = .ok (.ifCond .eq 22, 3) := by decide +kernel
theorem dX7_purse_7 : decode cX7_purse 7 = .ok (.iload_n 1, 1) := by decide +kernel
theorem dX7_purse_8 : decode cX7_purse 8 = .ok (.iconst 0, 1) := by decide +kernel
theorem dX7_purse_9 : decode cX7_purse 9 = .ok (.bipush 100, 2) := by decide +kernel
theorem dX7_purse_11 : decode cX7_purse 11 = .ok (.invokestatic 146, 3) := by decide +kernel
theorem dX7_purse_14 : decode cX7_purse 14 = .ok (.ifCond .eq 12, 3) := by decide +kernel
theorem dX7_purse_17 : decode cX7_purse 17 = .ok (.iload_n 2, 1) := by decide +kernel
theorem dX7_purse_18 : decode cX7_purse 18 = .ok (.iconst 0, 1) := by decide +kernel
theorem dX7_purse_19 : decode cX7_purse 19 = .ok (.iconst 1, 1) := by decide +kernel
theorem dX7_purse_20 : decode cX7_purse 20 = .ok (.invokestatic 146, 3) := by decide +kernel
theorem dX7_purse_23 : decode cX7_purse 23 = .ok (.ifCond .ne 5, 3) := by decide +kernel
theorem dX7_purse_26 : decode cX7_purse 26 = .ok (.iconst (-1), 1) := by decide +kernel
theorem dX7_purse_27 : decode cX7_purse 27 = .ok (.ireturn, 1) := by decide +kernel
theorem dX7_purse_28 : decode cX7_purse 28 = .ok (.iconst 0, 1) := by decide +kernel
theorem dX7_purse_29 : decode cX7_purse 29 = .ok (.istore_n 3, 1) := by decide +kernel
theorem dX7_purse_30 : decode cX7_purse 30 = .ok (.iconst 0, 1) := by decide +kernel
theorem dX7_purse_31 : decode cX7_purse 31 = .ok (.istore 4, 2) := by decide +kernel
theorem dX7_purse_33 : decode cX7_purse 33 = .ok (.iload 4, 2) := by decide +kernel
theorem dX7_purse_35 : decode cX7_purse 35 = .ok (.aload_n 0, 1) := by decide +kernel
theorem dX7_purse_36 : decode cX7_purse 36 = .ok (.getfield 55, 3) := by decide +kernel
theorem dX7_purse_39 : decode cX7_purse 39 = .ok (.getfield 100, 3) := by decide +kernel
theorem dX7_purse_42 : decode cX7_purse 42 = .ok (.if_icmp .ge 59, 3) := by decide +kernel
theorem dX7_purse_45 : decode cX7_purse 45 = .ok (.aload_n 0, 1) := by decide +kernel
theorem dX7_purse_46 : decode cX7_purse 46 = .ok (.getfield 55, 3) := by decide +kernel
theorem dX7_purse_49 : decode cX7_purse 49 = .ok (.getfield 251, 3) := by decide +kernel
theorem dX7_purse_52 : decode cX7_purse 52 = .ok (.iload 4, 2) := by decide +kernel
theorem dX7_purse_54 : decode cX7_purse 54 = .ok (.iaload, 1) := by decide +kernel
theorem dX7_purse_55 : decode cX7_purse 55 = .ok (.iload_n 1, 1) := by decide +kernel
theorem dX7_purse_56 : decode cX7_purse 56 = .ok (.if_icmp .ge 39, 3) := by decide +kernel
theorem dX7_purse_59 : decode cX7_purse 59 = .ok (.aload_n 0, 1) := by decide +kernel
theorem dX7_purse_60 : decode cX7_purse 60 = .ok (.getfield 55, 3) := by decide +kernel
theorem dX7_purse_63 : decode cX7_purse 63 = .ok (.iload 4, 2) := by decide +kernel
theorem dX7_purse_65 : decode cX7_purse 65 = .ok (.invokevirtual 254, 3) := by decide +kernel
theorem dX7_purse_68 : decode cX7_purse 68 = .ok (.istore 5, 2) := by decide +kernel
theorem dX7_purse_70 : decode cX7_purse 70 = .ok (.iload_n 3, 1) := by decide +kernel
theorem dX7_purse_71 : decode cX7_purse 71 = .ok (.iload_n 2, 1) := by decide +kernel
theorem dX7_purse_72 : decode cX7_purse 72 = .ok (.ifCond .ne 8, 3) := by decide +kernel
theorem dX7_purse_75 : decode cX7_purse 75 = .ok (.iload 5, 2) := by decide +kernel
theorem dX7_purse_77 : decode cX7_purse 77 = .ok (.goto 16, 3) := by decide +kernel
theorem dX7_purse_80 : decode cX7_purse 80 = .ok (.iload 5, 2) := by decide +kernel
theorem dX7_purse_82 : decode cX7_purse 82 = .ok (.aload_n 0, 1) := by decide +kernel
theorem dX7_purse_83 : decode cX7_purse 83 = .ok (.iload 4, 2) := by decide +kernel
theorem dX7_purse_85 : decode cX7_purse 85 = .ok (.invokevirtual 258, 3) := by decide +kernel
theorem dX7_purse_88 : decode cX7_purse 88 = .ok (.imul, 1) := by decide +kernel
theorem dX7_purse_89 : decode cX7_purse 89 = .ok (.sipush 1000, 3) := by decide +kernel
theorem dX7_purse_92 : decode cX7_purse 92 = .ok (.idiv, 1) := by decide +kernel
theorem dX7_purse_93 : decode cX7_purse 93 = .ok (.iadd, 1) := by decide +kernel
theorem dX7_purse_94 : decode cX7_purse 94 = .ok (.istore_n 3, 1) := by decide +kernel
theorem dX7_purse_95 : decode cX7_purse 95 = .ok (.iinc 4 1, 3) := by decide +kernel
theorem dX7_purse_98 : decode cX7_purse 98 = .ok (.goto (-65), 3) := by decide +kernel
theorem dX7_purse_101 : decode cX7_purse 101 = .ok (.iload_n 3, 1) := by decide +kernel
theorem dX7_purse_102 : decode cX7_purse 102 = .ok (.ireturn, 1) := by decide +kernel
set_option maxRecDepth 20000 in
theorem ggX7_part_X7_isIn : GoodIn wsX7_part wsX7_isIn := goodIn_sub (List.forall_mem_cons.mpr ⟨List.mem_cons_of_mem _ (List.mem_of_getElem? (i := 4) rfl), (fun _ h => absurd h List.not_mem_nil)⟩) (by decide +kernel)
set_option maxRecDepth 20000 in
theorem gX7_part_X7_isIn : GoodIn wsX7_part (va_wsS RX7 146 yX7_isIn wsX7_isIn) := goodIn_app (goodIn_of _ (by decide +kernel)) ggX7_part_X7_isIn
set_option maxRecDepth 20000 in
theorem ggX7_part_X7_asked : GoodIn wsX7_part wsX7_asked := goodIn_sub (List.forall_mem_cons.mpr ⟨List.mem_cons_of_mem _ (List.mem_of_getElem? (i := 7) rfl), (fun _ h => absurd h List.not_mem_nil)⟩) (by decide +kernel)
set_option maxRecDepth 20000 in
theorem gX7_part_X7_asked : GoodIn wsX7_part (va_wsS RX7 262 yX7_asked wsX7_asked) := goodIn_app (goodIn_of _ (by decide +kernel)) ggX7_part_X7_asked
theorem dX7_part_0 : decode cX7_part 0 = .ok (.iload_n 1, 1) := by decide +kernel
theorem dX7_part_1 : decode cX7_part 1 = .ok (.iconst 0, 1) := by decide +kernel
theorem dX7_part_2 : decode cX7_part 2 = .ok (.ldc_w 261, 3) := by decide +kernel
theorem dX7_part_5 : decode cX7_part 5 = .ok (.invokestatic 146, 3) := by decide +kernel
theorem dX7_part_8 : decode cX7_part 8 = .ok (.ifCond .eq 24, 3) := by decide +kernel
theorem dX7_part_11 : decode cX7_part 11 = .ok (.iload_n 2, 1) := by decide +kernel
theorem dX7_part_12 : decode cX7_part 12 = .ok (.iconst 1, 1) := by decide +kernel
theorem dX7_part_13 : decode cX7_part 13 = .ok (.bipush 20, 2) := by decide +kernel
theorem dX7_part_15 : decode cX7_part 15 = .ok (.invokestatic 146, 3) := by decide +kernel
theorem dX7_part_18 : decode cX7_part 18 = .ok (.ifCond .eq 14, 3) := by decide +kernel
theorem dX7_part_21 : decode cX7_part 21 = .ok (.iload_n 3, 1) := by decide +kernel
theorem dX7_part_22 : decode cX7_part 22 = .ok (.iconst 0, 1) := by decide +kernel
theorem dX7_part_23 : decode cX7_part 23 = .ok (.iload_n 2, 1) := by decide +kernel
theorem dX7_part_24 : decode cX7_part 24 = .ok (.iconst 1, 1) := by decide +kernel
theorem dX7_part_25 : decode cX7_part 25 = .ok (.isub, 1) := by decide +kernel
theorem dX7_part_26 : decode cX7_part 26 = .ok (.invokestatic 146, 3) := by decide +kernel
theorem dX7_part_29 : decode cX7_part 29 = .ok (.ifCond .ne 5, 3) := by decide +kernel
theorem dX7_part_32 : decode cX7_part 32 = .ok (.iconst (-1), 1) := by decide +kernel
theorem dX7_part_33 : decode cX7_part 33 = .ok (.ireturn, 1) := by decide +kernel
theorem dX7_part_34 : decode cX7_part 34 = .ok (.iload_n 1, 1) := by decide +kernel
theorem dX7_part_35 : decode cX7_part 35 = .ok (.iload_n 2, 1) := by decide +kernel
theorem dX7_part_36 : decode cX7_part 36 = .ok (.iload_n 3, 1) := by decide +kernel
theorem dX7_part_37 : decode cX7_part 37 = .ok (.invokestatic 262, 3) := by decide +kernel
theorem dX7_part_40 : decode cX7_part 40 = .ok (.ireturn, 1) := by decide +kernel
set_option maxRecDepth 20000 in
theorem ggX7_shrunk_X7_isIn : GoodIn wsX7_shrunk wsX7_isIn := goodIn_sub (List.forall_mem_cons.mpr ⟨List.mem_cons_of_mem _ (List.mem_of_getElem? (i := 4) rfl), (fun _ h => absurd h List.not_mem_nil)⟩) (by decide +kernel)
set_option maxRecDepth 20000 in
theorem gX7_shrunk_X7_isIn : GoodIn wsX7_shrunk (va_wsS RX7 146 yX7_isIn wsX7_isIn) := goodIn_app (goodIn_of _ (by decide +kernel)) ggX7_shrunk_X7_isIn
set_option maxRecDepth 20000 in
theorem ggX7_shrunk_X7_asked : GoodIn wsX7_shrunk wsX7_asked := goodIn_sub (List.forall_mem_cons.mpr ⟨List.mem_cons_of_mem _ (List.mem_of_getElem? (i := 7) rfl), (fun _ h => absurd h List.not_mem_nil)⟩) (by decide +kernel)
set_option maxRecDepth 20000 in
theorem gX7_shrunk_X7_asked : GoodIn wsX7_shrunk (va_wsS RX7 262 yX7_asked wsX7_asked) := goodIn_app (goodIn_of _ (by decide +kernel)) ggX7_shrunk_X7_asked
theorem dX7_shrunk_0 : decode cX7_shrunk 0 = .ok (.iload_n 1, 1) := by decide +kernel
theorem dX7_shrunk_1 : decode cX7_shrunk 1 = .ok (.iconst 0, 1) := by decide +kernel
theorem dX7_shrunk_2 : decode cX7_shrunk 2 = .ok (.ldc_w 261, 3) := by decide +kernel
theorem dX7_shrunk_5 : decode cX7_shrunk 5 = .ok (.invokestatic 146, 3) := by decide +kernel
theorem dX7_shrunk_8 : decode cX7_shrunk 8 = .ok (.ifCond .eq 28, 3) := by decide +kernel
theorem dX7_shrunk_11 : decode cX7_shrunk 11 = .ok (.iload_n 2, 1) := by decide +kernel
theorem dX7_shrunk_12 : decode cX7_shrunk 12 = .ok (.ifCond .lt 24, 3) := by decide +kernel
theorem dX7_shrunk_15 : decode cX7_shrunk 15 = .ok (.iload_n 3, 1) := by decide +kernel
theorem dX7_shrunk_16 : decode cX7_shrunk 16 = .ok (.iconst 0, 1) := by decide +kernel
theorem dX7_shrunk_17 : decode cX7_shrunk 17 = .ok (.bipush 16, 2) := by decide +kernel
theorem dX7_shrunk_19 : decode cX7_shrunk 19 = .ok (.invokestatic 146, 3) := by decide +kernel
theorem dX7_shrunk_22 : decode cX7_shrunk 22 = .ok (.ifCond .eq 14, 3) := by decide +kernel
theorem dX7_shrunk_25 : decode cX7_shrunk 25 = .ok (.iload 4, 2) := by decide +kernel
theorem dX7_shrunk_27 : decode cX7_shrunk 27 = .ok (.iconst 1, 1) := by decide +kernel
theorem dX7_shrunk_28 : decode cX7_shrunk 28 = .ok (.bipush 40, 2) := by decide +kernel
theorem dX7_shrunk_30 : decode cX7_shrunk 30 = .ok (.invokestatic 146, 3) := by decide +kernel
theorem dX7_shrunk_33 : decode cX7_shrunk 33 = .ok (.ifCond .ne 5, 3) := by decide +kernel
theorem dX7_shrunk_36 : decode cX7_shrunk 36 = .ok (.iconst (-1), 1) := by decide +kernel
theorem dX7_shrunk_37 : decode cX7_shrunk 37 = .ok (.ireturn, 1) := by decide +kernel
theorem dX7_shrunk_38 : decode cX7_shrunk 38 = .ok (.iload_n 2, 1) := by decide +kernel
theorem dX7_shrunk_39 : decode cX7_shrunk 39 = .ok (.bipush 100, 2) := by decide +kernel
theorem dX7_shrunk_41 : decode cX7_shrunk 41 = .ok (.idiv, 1) := by decide +kernel
theorem dX7_shrunk_42 : decode cX7_shrunk 42 = .ok (.istore 5, 2) := by decide +kernel
theorem dX7_shrunk_44 : decode cX7_shrunk 44 = .ok (.iload_n 2, 1) := by decide +kernel
theorem dX7_shrunk_45 : decode cX7_shrunk 45 = .ok (.bipush 100, 2) := by decide +kernel
theorem dX7_shrunk_47 : decode cX7_shrunk 47 = .ok (.irem, 1) := by decide +kernel
theorem dX7_shrunk_48 : decode cX7_shrunk 48 = .ok (.istore 6, 2) := by decide +kernel
theorem dX7_shrunk_50 : decode cX7_shrunk 50 = .ok (.iload 5, 2) := by decide +kernel
theorem dX7_shrunk_52 : decode cX7_shrunk 52 = .ok (.iconst 1, 1) := by decide +kernel
theorem dX7_shrunk_53 : decode cX7_shrunk 53 = .ok (.bipush 20, 2) := by decide +kernel
theorem dX7_shrunk_55 : decode cX7_shrunk 55 = .ok (.invokestatic 146, 3) := by decide +kernel
theorem dX7_shrunk_58 : decode cX7_shrunk 58 = .ok (.ifCond .eq 10, 3) := by decide +kernel
theorem dX7_shrunk_61 : decode cX7_shrunk 61 = .ok (.iload 6, 2) := by decide +kernel
theorem dX7_shrunk_63 : decode cX7_shrunk 63 = .ok (.iload 5, 2) := by decide +kernel
theorem dX7_shrunk_65 : decode cX7_shrunk 65 = .ok (.if_icmp .lt 5, 3) := by decide +kernel
theorem dX7_shrunk_68 : decode cX7_shrunk 68 = .ok (.iconst (-1), 1) := by decide +kernel
theorem dX7_shrunk_69 : decode cX7_shrunk 69 = .ok (.ireturn, 1) := by decide +kernel
theorem dX7_shrunk_70 : decode cX7_shrunk 70 = .ok (.iload_n 1, 1) := by decide +kernel
theorem dX7_shrunk_71 : decode cX7_shrunk 71 = .ok (.istore 7, 2) := by decide +kernel
theorem dX7_shrunk_73 : decode cX7_shrunk 73 = .ok (.iconst 0, 1) := by decide +kernel
theorem dX7_shrunk_74 : decode cX7_shrunk 74 = .ok (.istore 8, 2) := by decide +kernel
theorem dX7_shrunk_76 : decode cX7_shrunk 76 = .ok (.iload 8, 2) := by decide +kernel
theorem dX7_shrunk_78 : decode cX7_shrunk 78 = .ok (.iload 4, 2) := by decide +kernel
theorem dX7_shrunk_80 : decode cX7_shrunk 80 = .ok (.if_icmp .ge 44, 3) := by decide +kernel
theorem dX7_shrunk_83 : decode cX7_shrunk 83 = .ok (.iload 7, 2) := by decide +kernel
theorem dX7_shrunk_85 : decode cX7_shrunk 85 = .ok (.iload 7, 2) := by decide +kernel
theorem dX7_shrunk_87 : decode cX7_shrunk 87 = .ok (.iload 5, 2) := by decide +kernel
theorem dX7_shrunk_89 : decode cX7_shrunk 89 = .ok (.iload 6, 2) := by decide +kernel
theorem dX7_shrunk_91 : decode cX7_shrunk 91 = .ok (.invokestatic 262, 3) := by decide +kernel
theorem dX7_shrunk_94 : decode cX7_shrunk 94 = .ok (.iload_n 3, 1) := by decide +kernel
theorem dX7_shrunk_95 : decode cX7_shrunk 95 = .ok (.imul, 1) := by decide +kernel
theorem dX7_shrunk_96 : decode cX7_shrunk 96 = .ok (.bipush 16, 2) := by decide +kernel
theorem dX7_shrunk_98 : decode cX7_shrunk 98 = .ok (.idiv, 1) := by decide +kernel
theorem dX7_shrunk_99 : decode cX7_shrunk 99 = .ok (.isub, 1) := by decide +kernel
theorem dX7_shrunk_100 : decode cX7_shrunk 100 = .ok (.istore 7, 2) := by decide +kernel
theorem dX7_shrunk_102 : decode cX7_shrunk 102 = .ok (.iinc 6 1, 3) := by decide +kernel
theorem dX7_shrunk_105 : decode cX7_shrunk 105 = .ok (.iload 6, 2) := by decide +kernel
theorem dX7_shrunk_107 : decode cX7_shrunk 107 = .ok (.iload 5, 2) := by decide +kernel
theorem dX7_shrunk_109 : decode cX7_shrunk 109 = .ok (.if_icmp .ne 9, 3) := by decide +kernel
theorem dX7_shrunk_112 : decode cX7_shrunk 112 = .ok (.iconst 0, 1) := by decide +kernel
theorem dX7_shrunk_113 : decode cX7_shrunk 113 = .ok (.istore 7, 2) := by decide +kernel
theorem dX7_shrunk_115 : decode cX7_shrunk 115 = .ok (.iconst 0, 1) := by decide +kernel
theorem dX7_shrunk_116 : decode cX7_shrunk 116 = .ok (.istore 6, 2) := by decide +kernel
theorem dX7_shrunk_118 : decode cX7_shrunk 118 = .ok (.iinc 8 1, 3) := by decide +kernel
theorem dX7_shrunk_121 : decode cX7_shrunk 121 = .ok (.goto (-45), 3) := by decide +kernel
theorem dX7_shrunk_124 : decode cX7_shrunk 124 = .ok (.iload 7, 2) := by decide +kernel
theorem dX7_shrunk_126 : decode cX7_shrunk 126 = .ok (.ireturn, 1) := by decide +kernel
theorem ilX7_cloudy_wsX70 : ∀ w ∈ wsX70, w ∈ wsX7_cloudy := fun _ h => List.mem_cons_of_mem _ (List.mem_append_left _ (List.mem_append_right _ (h)))
theorem ilX7_cloudy_wsX10 : ∀ w ∈ wsX10, w ∈ wsX7_cloudy := fun _ h => List.mem_cons_of_mem _ (List.mem_append_right _ (h))
set_option maxRecDepth 20000 in
theorem ggX7_cloudy_X7_isIn : GoodIn wsX7_cloudy wsX7_isIn := goodIn_sub (List.forall_mem_cons.mpr ⟨List.mem_cons_of_mem _ (List.mem_append_left _ (List.mem_append_left _ (List.mem_of_getElem? (i := 7) rfl))), (fun _ h => absurd h List.not_mem_nil)⟩) (by decide +kernel)
set_option maxRecDepth 20000 in
theorem gX7_cloudy_X7_isIn : GoodIn wsX7_cloudy (va_wsS RX7 146 yX7_isIn wsX7_isIn) := goodIn_app (goodIn_of _ (by decide +kernel)) ggX7_cloudy_X7_isIn
set_option maxRecDepth 20000 in
theorem ggX7_cloudy_X7_choices : GoodIn wsX7_cloudy wsX7_choices := goodIn_sub (List.forall_mem_cons.mpr ⟨List.mem_cons_of_mem _ (List.mem_append_left _ (List.mem_append_left _ (List.mem_of_getElem? (i := 10) rfl))), (fun _ h => absurd h List.not_mem_nil)⟩) (by decide +kernel)
set_option maxRecDepth 20000 in
theorem gX7_cloudy_X7_choices : GoodIn wsX7_cloudy (va_wsS RX7 266 yX7_choices wsX7_choices) := goodIn_app (goodIn_of _ (by decide +kernel)) ggX7_cloudy_X7_choices
set_option maxRecDepth 20000 in
theorem ggX7_cloudy_X7_power : GoodIn wsX7_cloudy wsX7_power := goodIn_sub (List.forall_mem_cons.mpr ⟨List.mem_cons_of_mem _ (List.mem_append_left _ (List.mem_append_left _ (List.mem_of_getElem? (i := 13) rfl))), (fun _ h => absurd h List.not_mem_nil)⟩) (by decide +kernel)
set_option maxRecDepth 20000 in
theorem gX7_cloudy_X7_power : GoodIn wsX7_cloudy (va_wsS RX7 273 yX7_power wsX7_power) := goodIn_app (goodIn_of _ (by decide +kernel)) ggX7_cloudy_X7_power
theorem dX7_cloudy_0 : decode cX7_cloudy 0 = .ok (.aload_n 0, 1) := by decide +kernel
theorem dX7_cloudy_1 : decode cX7_cloudy 1 = .ok (.getfield 71, 3) := by decide +kernel
theorem dX7_cloudy_4 : decode cX7_cloudy 4 = .ok (.ifCond .eq 22, 3) := by decide +kernel
theorem dX7_cloudy_7 : decode cX7_cloudy 7 = .ok (.iload_n 1, 1) := by decide +kernel
theorem dX7_cloudy_8 : decode cX7_cloudy 8 = .ok (.iconst 1, 1) := by decide +kernel
theorem dX7_cloudy_9 : decode cX7_cloudy 9 = .ok (.bipush 12, 2) := by decide +kernel
theorem dX7_cloudy_11 : decode cX7_cloudy 11 = .ok (.invokestatic 146, 3) := by decide +kernel
theorem dX7_cloudy_14 : decode cX7_cloudy 14 = .ok (.ifCond .eq 12, 3) := by decide +kernel
theorem dX7_cloudy_17 : decode cX7_cloudy 17 = .ok (.iload_n 2, 1) := by decide +kernel
theorem dX7_cloudy_18 : decode cX7_cloudy 18 = .ok (.iconst 0, 1) := by decide +kernel
theorem dX7_cloudy_19 : decode cX7_cloudy 19 = .ok (.iload_n 1, 1) := by decide +kernel
theorem dX7_cloudy_20 : decode cX7_cloudy 20 = .ok (.invokestatic 146, 3) := by decide +kernel
theorem dX7_cloudy_23 : decode cX7_cloudy 23 = .ok (.ifCond .ne 5, 3) := by decide +kernel
theorem dX7_cloudy_26 : decode cX7_cloudy 26 = .ok (.iconst (-1), 1) := by decide +kernel
theorem dX7_cloudy_27 : decode cX7_cloudy 27 = .ok (.ireturn, 1) := by decide +kernel
theorem dX7_cloudy_28 : decode cX7_cloudy 28 = .ok (.lconst 0, 1) := by decide +kernel
theorem dX7_cloudy_29 : decode cX7_cloudy 29 = .ok (.lstore_n 3, 1) := by decide +kernel
theorem dX7_cloudy_30 : decode cX7_cloudy 30 = .ok (.iload_n 2, 1) := by decide +kernel
theorem dX7_cloudy_31 : decode cX7_cloudy 31 = .ok (.istore 5, 2) := by decide +kernel
theorem dX7_cloudy_33 : decode cX7_cloudy 33 = .ok (.iload 5, 2) := by decide +kernel
theorem dX7_cloudy_35 : decode cX7_cloudy 35 = .ok (.iload_n 1, 1) := by decide +kernel
theorem dX7_cloudy_36 : decode cX7_cloudy 36 = .ok (.if_icmp .gt 49, 3) := by decide +kernel
theorem dX7_cloudy_39 : decode cX7_cloudy 39 = .ok (.lload_n 3, 1) := by decide +kernel
theorem dX7_cloudy_40 : decode cX7_cloudy 40 = .ok (.iload_n 1, 1) := by decide +kernel
theorem dX7_cloudy_41 : decode cX7_cloudy 41 = .ok (.iload 5, 2) := by decide +kernel
theorem dX7_cloudy_43 : decode cX7_cloudy 43 = .ok (.invokestatic 266, 3) := by decide +kernel
theorem dX7_cloudy_46 : decode cX7_cloudy 46 = .ok (.aload_n 0, 1) := by decide +kernel
theorem dX7_cloudy_47 : decode cX7_cloudy 47 = .ok (.getfield 55, 3) := by decide +kernel
theorem dX7_cloudy_50 : decode cX7_cloudy 50 = .ok (.getfield 270, 3) := by decide +kernel
theorem dX7_cloudy_53 : decode cX7_cloudy 53 = .ok (.iload 5, 2) := by decide +kernel
theorem dX7_cloudy_55 : decode cX7_cloudy 55 = .ok (.invokestatic 273, 3) := by decide +kernel
theorem dX7_cloudy_58 : decode cX7_cloudy 58 = .ok (.lmul, 1) := by decide +kernel
theorem dX7_cloudy_59 : decode cX7_cloudy 59 = .ok (.bipush 16, 2) := by decide +kernel
theorem dX7_cloudy_61 : decode cX7_cloudy 61 = .ok (.aload_n 0, 1) := by decide +kernel
theorem dX7_cloudy_62 : decode cX7_cloudy 62 = .ok (.getfield 55, 3) := by decide +kernel
theorem dX7_cloudy_65 : decode cX7_cloudy 65 = .ok (.getfield 270, 3) := by decide +kernel
theorem dX7_cloudy_68 : decode cX7_cloudy 68 = .ok (.isub, 1) := by decide +kernel
theorem dX7_cloudy_69 : decode cX7_cloudy 69 = .ok (.iload_n 1, 1) := by decide +kernel
theorem dX7_cloudy_70 : decode cX7_cloudy 70 = .ok (.iload 5, 2) := by decide +kernel
theorem dX7_cloudy_72 : decode cX7_cloudy 72 = .ok (.isub, 1) := by decide +kernel
theorem dX7_cloudy_73 : decode cX7_cloudy 73 = .ok (.invokestatic 273, 3) := by decide +kernel
theorem dX7_cloudy_76 : decode cX7_cloudy 76 = .ok (.lmul, 1) := by decide +kernel
theorem dX7_cloudy_77 : decode cX7_cloudy 77 = .ok (.ladd, 1) := by decide +kernel
theorem dX7_cloudy_78 : decode cX7_cloudy 78 = .ok (.lstore_n 3, 1) := by decide +kernel
theorem dX7_cloudy_79 : decode cX7_cloudy 79 = .ok (.iinc 5 1, 3) := by decide +kernel
theorem dX7_cloudy_82 : decode cX7_cloudy 82 = .ok (.goto (-49), 3) := by decide +kernel
theorem dX7_cloudy_85 : decode cX7_cloudy 85 = .ok (.lload_n 3, 1) := by decide +kernel
theorem dX7_cloudy_86 : decode cX7_cloudy 86 = .ok (.ldc2_w 276, 3) := by decide +kernel
theorem dX7_cloudy_89 : decode cX7_cloudy 89 = .ok (.lmul, 1) := by decide +kernel
theorem dX7_cloudy_90 : decode cX7_cloudy 90 = .ok (.iconst 4, 1) := by decide +kernel
theorem dX7_cloudy_91 : decode cX7_cloudy 91 = .ok (.iload_n 1, 1) := by decide +kernel
theorem dX7_cloudy_92 : decode cX7_cloudy 92 = .ok (.imul, 1) := by decide +kernel
theorem dX7_cloudy_93 : decode cX7_cloudy 93 = .ok (.lshr, 1) := by decide +kernel
theorem dX7_cloudy_94 : decode cX7_cloudy 94 = .ok (.l2i, 1) := by decide +kernel
theorem dX7_cloudy_95 : decode cX7_cloudy 95 = .ok (.ireturn, 1) := by decide +kernel
theorem ilX7_image_wsX7_image_r1 : ∀ w ∈ wsX7_image_r1, w ∈ wsX7_image := fun _ h => List.mem_cons_of_mem _ (List.mem_append_left _ (List.mem_append_left _ (List.mem_append_left _ (h))))
theorem ilX7_image_wsX7_image_r2 : ∀ w ∈ wsX7_image_r2, w ∈ wsX7_image := fun _ h => List.mem_cons_of_mem _ (List.mem_append_left _ (List.mem_append_left _ (List.mem_append_right _ (h))))
theorem ilX7_image_wsX70 : ∀ w ∈ wsX70, w ∈ wsX7_image := fun _ h => List.mem_cons_of_mem _ (List.mem_append_left _ (List.mem_append_right _ (h)))
theorem ilX7_image_wsX20 : ∀ w ∈ wsX20, w ∈ wsX7_image := fun _ h => List.mem_cons_of_mem _ (List.mem_append_right _ (h))
set_option maxRecDepth 20000 in
theorem ggX7_image_X7_isIn : GoodIn wsX7_image wsX7_isIn := goodIn_sub (List.forall_mem_cons.mpr ⟨ilX7_image_wsX7_image_r1 _ (List.mem_of_getElem? (i := 7) rfl), (fun _ h => absurd h List.not_mem_nil)⟩) (by decide +kernel)
set_option maxRecDepth 20000 in
theorem gX7_image_X7_isIn : GoodIn wsX7_image (va_wsS RX7 146 yX7_isIn wsX7_isIn) := goodIn_app (goodIn_of _ (by decide +kernel)) ggX7_image_X7_isIn
set_option maxRecDepth 20000 in
theorem ggX7_image_X2_copyFrom : GoodIn wsX7_image wsX2_copyFrom := goodIn_sub (List.forall_mem_cons.mpr ⟨ilX7_image_wsX7_image_r1 _ (List.mem_of_getElem? (i := 12) rfl), (List.forall_mem_append.mpr ⟨(List.forall_mem_cons.mpr ⟨ilX7_image_wsX7_image_r1 _ (List.mem_of_getElem? (i := 13) rfl), (List.forall_mem_cons.mpr ⟨ilX7_image_wsX7_image_r1 _ (List.mem_of_getElem? (i := 14) rfl), (List.forall_mem_cons.mpr ⟨ilX7_image_wsX7_image_r1 _ (List.mem_of_getElem? (i := 15) rfl), (List.forall_mem_cons.mpr ⟨ilX7_image_wsX7_image_r1 _ (List.mem_of_getElem? (i := 16) rfl), (List.forall_mem_cons.mpr ⟨ilX7_image_wsX7_image_r1 _ (List.mem_of_getElem? (i := 17) rfl), (List.forall_mem_cons.mpr ⟨ilX7_image_wsX7_image_r1 _ (List.mem_of_getElem? (i := 18) rfl), (List.forall_mem_cons.mpr ⟨ilX7_image_wsX7_image_r1 _ (List.mem_of_getElem? (i := 19) rfl), (List.forall_mem_cons.mpr ⟨ilX7_image_wsX7_image_r1 _ (List.mem_of_getElem? (i := 20) rfl), (List.forall_mem_cons.mpr ⟨ilX7_image_wsX7_image_r1 _ (List.mem_of_getElem? (i := 21) rfl), (List.forall_mem_cons.mpr ⟨ilX7_image_wsX7_image_r1 _ (List.mem_of_getElem? (i := 22) rfl), (List.forall_mem_cons.mpr ⟨ilX7_image_wsX7_image_r1 _ (List.mem_of_getElem? (i := 23) rfl), (List.forall_mem_cons.mpr ⟨ilX7_image_wsX7_image_r2 _ (List.mem_of_getElem? (i := 0) rfl), (List.forall_mem_cons.mpr ⟨ilX7_image_wsX7_image_r2 _ (List.mem_of_getElem? (i := 1) rfl), (List.forall_mem_cons.mpr ⟨ilX7_image_wsX7_image_r2 _ (List.mem_of_getElem? (i := 2) rfl), (fun _ h => absurd h List.not_mem_nil)⟩)⟩)⟩)⟩)⟩)⟩)⟩)⟩)⟩)⟩)⟩)⟩)⟩)⟩), ilX7_image_wsX20⟩)⟩) (by decide +kernel)
set_option maxRecDepth 20000 in
theorem gX7_image_X2_copyFrom : GoodIn wsX7_image (wsV RX7 278 RX2 yX2_copyFrom wsX2_copyFrom) := goodIn_app (goodIn_sub (List.forall_mem_cons.mpr ⟨ilX7_image_wsX7_image_r1 _ (List.mem_of_getElem? (i := 8) rfl), (List.forall_mem_cons.mpr ⟨ilX7_image_wsX7_image_r1 _ (List.mem_of_getElem? (i := 9) rfl), (List.forall_mem_cons.mpr ⟨ilX7_image_wsX7_image_r1 _ (List.mem_of_getElem? (i := 10) rfl), (List.forall_mem_cons.mpr ⟨ilX7_image_wsX7_image_r1 _ (List.mem_of_getElem? (i := 11) rfl), (fun _ h => absurd h List.not_mem_nil)⟩)⟩)⟩)⟩) (by decide +kernel)) ggX7_image_X2_copyFrom
theorem dX7_image_0 : decode cX7_image 0 = .ok (.aload_n 0, 1) := by decide +kernel
theorem dX7_image_1 : decode cX7_image 1 = .ok (.getfield 71, 3) := by decide +kernel
theorem dX7_image_4 : decode cX7_image 4 = .ok (.ifCond .eq 12, 3) := by decide +kernel
theorem dX7_image_7 : decode cX7_image 7 = .ok (.iload_n 1, 1) := by decide +kernel
theorem dX7_image_8 : decode cX7_image 8 = .ok (.iconst 0, 1) := by decide +kernel
theorem dX7_image_9 : decode cX7_image 9 = .ok (.iconst 2, 1) := by decide +kernel
theorem dX7_image_10 : decode cX7_image 10 = .ok (.invokestatic 146, 3) := by decide +kernel
theorem dX7_image_13 : decode cX7_image 13 = .ok (.ifCond .ne 5, 3) := by decide +kernel
theorem dX7_image_16 : decode cX7_image 16 = .ok (.iconst 0, 1) := by decide +kernel
theorem dX7_image_17 : decode cX7_image 17 = .ok (.ireturn, 1) := by decide +kernel
theorem dX7_image_18 : decode cX7_image 18 = .ok (.aload_n 0, 1) := by decide +kernel
theorem dX7_image_19 : decode cX7_image 19 = .ok (.getfield 44, 3) := by decide +kernel
theorem dX7_image_22 : decode cX7_image 22 = .ok (.iload_n 1, 1) := by decide +kernel
theorem dX7_image_23 : decode cX7_image 23 = .ok (.aaload, 1) := by decide +kernel
theorem dX7_image_24 : decode cX7_image 24 = .ok (.aload_n 0, 1) := by decide +kernel
theorem dX7_image_25 : decode cX7_image 25 = .ok (.getfield 26, 3) := by decide +kernel
theorem dX7_image_28 : decode cX7_image 28 = .ok (.invokevirtual 278, 3) := by decide +kernel
theorem dX7_image_31 : decode cX7_image 31 = .ok (.aload_n 0, 1) := by decide +kernel
theorem dX7_image_32 : decode cX7_image 32 = .ok (.getfield 48, 3) := by decide +kernel
theorem dX7_image_35 : decode cX7_image 35 = .ok (.iload_n 1, 1) := by decide +kernel
theorem dX7_image_36 : decode cX7_image 36 = .ok (.iconst 1, 1) := by decide +kernel
theorem dX7_image_37 : decode cX7_image 37 = .ok (.bastore, 1) := by decide +kernel
theorem dX7_image_38 : decode cX7_image 38 = .ok (.iconst 1, 1) := by decide +kernel
theorem dX7_image_39 : decode cX7_image 39 = .ok (.ireturn, 1) := by decide +kernel
theorem ilX7_on_wsX7_on_r1 : ∀ w ∈ wsX7_on_r1, w ∈ wsX7_on := fun _ h => List.mem_cons_of_mem _ (List.mem_append_left _ (List.mem_append_left _ (List.mem_append_left _ (h))))
theorem ilX7_on_wsX7_on_r2 : ∀ w ∈ wsX7_on_r2, w ∈ wsX7_on := fun _ h => List.mem_cons_of_mem _ (List.mem_append_left _ (List.mem_append_left _ (List.mem_append_right _ (h))))
theorem ilX7_on_wsX70 : ∀ w ∈ wsX70, w ∈ wsX7_on := fun _ h => List.mem_cons_of_mem _ (List.mem_append_left _ (List.mem_append_right _ (h)))
theorem ilX7_on_wsX20 : ∀ w ∈ wsX20, w ∈ wsX7_on := fun _ h => List.mem_cons_of_mem _ (List.mem_append_right _ (h))
set_option maxRecDepth 20000 in
theorem ggX7_on_X7_isIn : GoodIn wsX7_on wsX7_isIn := goodIn_sub (List.forall_mem_cons.mpr ⟨ilX7_on_wsX7_on_r1 _ (List.mem_of_getElem? (i := 6) rfl), (fun _ h => absurd h List.not_mem_nil)⟩) (by decide +kernel)
set_option maxRecDepth 20000 in
theorem gX7_on_X7_isIn : GoodIn wsX7_on (va_wsS RX7 146 yX7_isIn wsX7_isIn) := goodIn_app (goodIn_of _ (by decide +kernel)) ggX7_on_X7_isIn
set_option maxRecDepth 20000 in
theorem ggX7_on_X2_copyFrom : GoodIn wsX7_on wsX2_copyFrom := goodIn_sub (List.forall_mem_cons.mpr ⟨ilX7_on_wsX7_on_r1 _ (List.mem_of_getElem? (i := 11) rfl), (List.forall_mem_append.mpr ⟨(List.forall_mem_cons.mpr ⟨ilX7_on_wsX7_on_r1 _ (List.mem_of_getElem? (i := 12) rfl), (List.forall_mem_cons.mpr ⟨ilX7_on_wsX7_on_r1 _ (List.mem_of_getElem? (i := 13) rfl), (List.forall_mem_cons.mpr ⟨ilX7_on_wsX7_on_r1 _ (List.mem_of_getElem? (i := 14) rfl), (List.forall_mem_cons.mpr ⟨ilX7_on_wsX7_on_r1 _ (List.mem_of_getElem? (i := 15) rfl), (List.forall_mem_cons.mpr ⟨ilX7_on_wsX7_on_r1 _ (List.mem_of_getElem? (i := 16) rfl), (List.forall_mem_cons.mpr ⟨ilX7_on_wsX7_on_r1 _ (List.mem_of_getElem? (i := 17) rfl), (List.forall_mem_cons.mpr ⟨ilX7_on_wsX7_on_r1 _ (List.mem_of_getElem? (i := 18) rfl), (List.forall_mem_cons.mpr ⟨ilX7_on_wsX7_on_r1 _ (List.mem_of_getElem? (i := 19) rfl), (List.forall_mem_cons.mpr ⟨ilX7_on_wsX7_on_r1 _ (List.mem_of_getElem? (i := 20) rfl), (List.forall_mem_cons.mpr ⟨ilX7_on_wsX7_on_r1 _ (List.mem_of_getElem? (i := 21) rfl), (List.forall_mem_cons.mpr ⟨ilX7_on_wsX7_on_r1 _ (List.mem_of_getElem? (i := 22) rfl), (List.forall_mem_cons.mpr ⟨ilX7_on_wsX7_on_r1 _ (List.mem_of_getElem? (i := 23) rfl), (List.forall_mem_cons.mpr ⟨ilX7_on_wsX7_on_r2 _ (List.mem_of_getElem? (i := 0) rfl), (List.forall_mem_cons.mpr ⟨ilX7_on_wsX7_on_r2 _ (List.mem_of_getElem? (i := 1) rfl), (fun _ h => absurd h List.not_mem_nil)⟩)⟩)⟩)⟩)⟩)⟩)⟩)⟩)⟩)⟩)⟩)⟩)⟩)⟩), ilX7_on_wsX20⟩)⟩) (by decide +kernel)
set_option maxRecDepth 20000 in
theorem gX7_on_X2_copyFrom : GoodIn wsX7_on (wsV RX7 278 RX2 yX2_copyFrom wsX2_copyFrom) := goodIn_app (goodIn_sub (List.forall_mem_cons.mpr ⟨ilX7_on_wsX7_on_r1 _ (List.mem_of_getElem? (i := 7) rfl), (List.forall_mem_cons.mpr ⟨ilX7_on_wsX7_on_r1 _ (List.mem_of_getElem? (i := 8) rfl), (List.forall_mem_cons.mpr ⟨ilX7_on_wsX7_on_r1 _ (List.mem_of_getElem? (i := 9) rfl), (List.forall_mem_cons.mpr ⟨ilX7_on_wsX7_on_r1 _ (List.mem_of_getElem? (i := 10) rfl), (fun _ h => absurd h List.not_mem_nil)⟩)⟩)⟩)⟩) (by decide +kernel)) ggX7_on_X2_copyFrom
theorem dX7_on_0 : decode cX7_on 0 = .ok (.iload_n 1, 1) := by decide +kernel
theorem dX7_on_1 : decode cX7_on 1 = .ok (.iconst 0, 1) := by decide +kernel
theorem dX7_on_2 : decode cX7_on 2 = .ok (.iconst 2, 1) := by decide +kernel
theorem dX7_on_3 : decode cX7_on 3 = .ok (.invokestatic 146, 3) := by decide +kernel
theorem dX7_on_6 : decode cX7_on 6 = .ok (.ifCond .eq 12, 3) := by decide +kernel
theorem dX7_on_9 : decode cX7_on 9 = .ok (.aload_n 0, 1) := by decide +kernel
theorem dX7_on_10 : decode cX7_on 10 = .ok (.getfield 48, 3) := by decide +kernel
theorem dX7_on_13 : decode cX7_on 13 = .ok (.iload_n 1, 1) := by decide +kernel
theorem dX7_on_14 : decode cX7_on 14 = .ok (.baload, 1) := by decide +kernel
theorem dX7_on_15 : decode cX7_on 15 = .ok (.ifCond .ne 5, 3) := by decide +kernel
theorem dX7_on_18 : decode cX7_on 18 = .ok (.iconst 0, 1) := by decide +kernel
theorem dX7_on_19 : decode cX7_on 19 = .ok (.ireturn, 1) := by decide +kernel
theorem dX7_on_20 : decode cX7_on 20 = .ok (.aload_n 0, 1) := by decide +kernel
theorem dX7_on_21 : decode cX7_on 21 = .ok (.getfield 26, 3) := by decide +kernel
theorem dX7_on_24 : decode cX7_on 24 = .ok (.aload_n 0, 1) := by decide +kernel
theorem dX7_on_25 : decode cX7_on 25 = .ok (.getfield 44, 3) := by decide +kernel
theorem dX7_on_28 : decode cX7_on 28 = .ok (.iload_n 1, 1) := by decide +kernel
theorem dX7_on_29 : decode cX7_on 29 = .ok (.aaload, 1) := by decide +kernel
theorem dX7_on_30 : decode cX7_on 30 = .ok (.invokevirtual 278, 3) := by decide +kernel
theorem dX7_on_33 : decode cX7_on 33 = .ok (.iconst 1, 1) := by decide +kernel
theorem dX7_on_34 : decode cX7_on 34 = .ok (.ireturn, 1) := by decide +kernel
theorem ilX7_count_wsX70 : ∀ w ∈ wsX70, w ∈ wsX7_count := fun _ h => List.mem_cons_of_mem _ (List.mem_append_left _ (List.mem_append_left _ (List.mem_append_left _ (List.mem_append_right _ (h)))))
theorem ilX7_count_wsX00 : ∀ w ∈ wsX00, w ∈ wsX7_count := fun _ h => List.mem_cons_of_mem _ (List.mem_append_left _ (List.mem_append_left _ (List.mem_append_right _ (h))))
theorem ilX7_count_wsX50 : ∀ w ∈ wsX50, w ∈ wsX7_count := fun _ h => List.mem_cons_of_mem _ (List.mem_append_left _ (List.mem_append_right _ (h)))
theorem ilX7_count_wsX10 : ∀ w ∈ wsX10, w ∈ wsX7_count := fun _ h => List.mem_cons_of_mem _ (List.mem_append_right _ (h))
set_option maxRecDepth 20000 in
theorem ggX7_count_X7_isIn : GoodIn wsX7_count wsX7_isIn := goodIn_sub (List.forall_mem_cons.mpr ⟨List.mem_cons_of_mem _ (List.mem_append_left _ (List.mem_append_left _ (List.mem_append_left _ (List.mem_append_left _ (List.mem_of_getElem? (i := 9) rfl))))), (fun _ h => absurd h List.not_mem_nil)⟩) (by decide +kernel)
set_option maxRecDepth 20000 in
theorem gX7_count_X7_isIn : GoodIn wsX7_count (va_wsS RX7 146 yX7_isIn wsX7_isIn) := goodIn_app (goodIn_of _ (by decide +kernel)) ggX7_count_X7_isIn
set_option maxRecDepth 20000 in
theorem ggX7_count_X1_countOf : GoodIn wsX7_count wsX1_countOf := goodIn_sub (List.forall_mem_cons.mpr ⟨List.mem_cons_of_mem _ (List.mem_append_left _ (List.mem_append_left _ (List.mem_append_left _ (List.mem_append_left _ (List.mem_of_getElem? (i := 14) rfl))))), (List.forall_mem_append.mpr ⟨(List.forall_mem_cons.mpr ⟨List.mem_cons_of_mem _ (List.mem_append_left _ (List.mem_append_left _ (List.mem_append_left _ (List.mem_append_left _ (List.mem_of_getElem? (i := 15) rfl))))), (List.forall_mem_cons.mpr ⟨List.mem_cons_of_mem _ (List.mem_append_left _ (List.mem_append_left _ (List.mem_append_left _ (List.mem_append_left _ (List.mem_of_getElem? (i := 16) rfl))))), (List.forall_mem_cons.mpr ⟨List.mem_cons_of_mem _ (List.mem_append_left _ (List.mem_append_left _ (List.mem_append_left _ (List.mem_append_left _ (List.mem_of_getElem? (i := 17) rfl))))), (List.forall_mem_cons.mpr ⟨List.mem_cons_of_mem _ (List.mem_append_left _ (List.mem_append_left _ (List.mem_append_left _ (List.mem_append_left _ (List.mem_of_getElem? (i := 18) rfl))))), (List.forall_mem_cons.mpr ⟨List.mem_cons_of_mem _ (List.mem_append_left _ (List.mem_append_left _ (List.mem_append_left _ (List.mem_append_left _ (List.mem_of_getElem? (i := 19) rfl))))), (List.forall_mem_cons.mpr ⟨List.mem_cons_of_mem _ (List.mem_append_left _ (List.mem_append_left _ (List.mem_append_left _ (List.mem_append_left _ (List.mem_of_getElem? (i := 20) rfl))))), (List.forall_mem_cons.mpr ⟨List.mem_cons_of_mem _ (List.mem_append_left _ (List.mem_append_left _ (List.mem_append_left _ (List.mem_append_left _ (List.mem_of_getElem? (i := 21) rfl))))), (fun _ h => absurd h List.not_mem_nil)⟩)⟩)⟩)⟩)⟩)⟩)⟩), ilX7_count_wsX10⟩)⟩) (by decide +kernel)
set_option maxRecDepth 20000 in
theorem gX7_count_X1_countOf : GoodIn wsX7_count (wsV RX7 282 RX1 yX1_countOf wsX1_countOf) := goodIn_app (goodIn_sub (List.forall_mem_cons.mpr ⟨List.mem_cons_of_mem _ (List.mem_append_left _ (List.mem_append_left _ (List.mem_append_left _ (List.mem_append_left _ (List.mem_of_getElem? (i := 10) rfl))))), (List.forall_mem_cons.mpr ⟨List.mem_cons_of_mem _ (List.mem_append_left _ (List.mem_append_left _ (List.mem_append_left _ (List.mem_append_left _ (List.mem_of_getElem? (i := 11) rfl))))), (List.forall_mem_cons.mpr ⟨List.mem_cons_of_mem _ (List.mem_append_left _ (List.mem_append_left _ (List.mem_append_left _ (List.mem_append_left _ (List.mem_of_getElem? (i := 12) rfl))))), (List.forall_mem_cons.mpr ⟨List.mem_cons_of_mem _ (List.mem_append_left _ (List.mem_append_left _ (List.mem_append_left _ (List.mem_append_left _ (List.mem_of_getElem? (i := 13) rfl))))), (fun _ h => absurd h List.not_mem_nil)⟩)⟩)⟩)⟩) (by decide +kernel)) ggX7_count_X1_countOf
theorem dX7_count_0 : decode cX7_count 0 = .ok (.iload_n 1, 1) := by decide +kernel
theorem dX7_count_1 : decode cX7_count 1 = .ok (.bipush 7, 2) := by decide +kernel
theorem dX7_count_3 : decode cX7_count 3 = .ok (.if_icmp .ne 11, 3) := by decide +kernel
theorem dX7_count_6 : decode cX7_count 6 = .ok (.aload_n 0, 1) := by decide +kernel
theorem dX7_count_7 : decode cX7_count 7 = .ok (.getfield 33, 3) := by decide +kernel
theorem dX7_count_10 : decode cX7_count 10 = .ok (.getfield 94, 3) := by decide +kernel
theorem dX7_count_13 : decode cX7_count 13 = .ok (.ireturn, 1) := by decide +kernel
theorem dX7_count_14 : decode cX7_count 14 = .ok (.iload_n 1, 1) := by decide +kernel
theorem dX7_count_15 : decode cX7_count 15 = .ok (.bipush 8, 2) := by decide +kernel
theorem dX7_count_17 : decode cX7_count 17 = .ok (.if_icmp .ne 11, 3) := by decide +kernel
theorem dX7_count_20 : decode cX7_count 20 = .ok (.aload_n 0, 1) := by decide +kernel
theorem dX7_count_21 : decode cX7_count 21 = .ok (.getfield 10, 3) := by decide +kernel
theorem dX7_count_24 : decode cX7_count 24 = .ok (.getfield 75, 3) := by decide +kernel
theorem dX7_count_27 : decode cX7_count 27 = .ok (.ireturn, 1) := by decide +kernel
theorem dX7_count_28 : decode cX7_count 28 = .ok (.iload_n 1, 1) := by decide +kernel
theorem dX7_count_29 : decode cX7_count 29 = .ok (.iconst 0, 1) := by decide +kernel
theorem dX7_count_30 : decode cX7_count 30 = .ok (.bipush 6, 2) := by decide +kernel
theorem dX7_count_32 : decode cX7_count 32 = .ok (.invokestatic 146, 3) := by decide +kernel
theorem dX7_count_35 : decode cX7_count 35 = .ok (.ifCond .ne 5, 3) := by decide +kernel
theorem dX7_count_38 : decode cX7_count 38 = .ok (.iconst (-1), 1) := by decide +kernel
theorem dX7_count_39 : decode cX7_count 39 = .ok (.ireturn, 1) := by decide +kernel
theorem dX7_count_40 : decode cX7_count 40 = .ok (.aload_n 0, 1) := by decide +kernel
theorem dX7_count_41 : decode cX7_count 41 = .ok (.getfield 71, 3) := by decide +kernel
theorem dX7_count_44 : decode cX7_count 44 = .ok (.ifCond .eq 14, 3) := by decide +kernel
theorem dX7_count_47 : decode cX7_count 47 = .ok (.aload_n 0, 1) := by decide +kernel
theorem dX7_count_48 : decode cX7_count 48 = .ok (.getfield 55, 3) := by decide +kernel
theorem dX7_count_51 : decode cX7_count 51 = .ok (.iload_n 1, 1) := by decide +kernel
theorem dX7_count_52 : decode cX7_count 52 = .ok (.invokevirtual 282, 3) := by decide +kernel
theorem dX7_count_55 : decode cX7_count 55 = .ok (.goto 4, 3) := by decide +kernel
theorem dX7_count_58 : decode cX7_count 58 = .ok (.iconst 0, 1) := by decide +kernel
theorem dX7_count_59 : decode cX7_count 59 = .ok (.ireturn, 1) := by decide +kernel
theorem dX7_isIn_0 : decode cX7_isIn 0 = .ok (.iload_n 0, 1) := by decide +kernel
theorem dX7_isIn_1 : decode cX7_isIn 1 = .ok (.iload_n 1, 1) := by decide +kernel
theorem dX7_isIn_2 : decode cX7_isIn 2 = .ok (.if_icmp .lt 12, 3) := by decide +kernel
theorem dX7_isIn_5 : decode cX7_isIn 5 = .ok (.iload_n 0, 1) := by decide +kernel
theorem dX7_isIn_6 : decode cX7_isIn 6 = .ok (.iload_n 2, 1) := by decide +kernel
theorem dX7_isIn_7 : decode cX7_isIn 7 = .ok (.if_icmp .gt 7, 3) := by decide +kernel
theorem dX7_isIn_10 : decode cX7_isIn 10 = .ok (.iconst 1, 1) := by decide +kernel
theorem dX7_isIn_11 : decode cX7_isIn 11 = .ok (.goto 4, 3) := by decide +kernel
theorem dX7_isIn_14 : decode cX7_isIn 14 = .ok (.iconst 0, 1) := by decide +kernel
theorem dX7_isIn_15 : decode cX7_isIn 15 = .ok (.ireturn, 1) := by decide +kernel
set_option maxRecDepth 20000 in
theorem ggX7_isNight_X7_isIn : GoodIn wsX7_isNight wsX7_isIn := goodIn_sub (List.forall_mem_cons.mpr ⟨List.mem_cons_of_mem _ (List.mem_of_getElem? (i := 3) rfl), (fun _ h => absurd h List.not_mem_nil)⟩) (by decide +kernel)
set_option maxRecDepth 20000 in
theorem gX7_isNight_X7_isIn : GoodIn wsX7_isNight (va_wsS RX7 146 yX7_isIn wsX7_isIn) := goodIn_app (goodIn_of _ (by decide +kernel)) ggX7_isNight_X7_isIn
theorem dX7_isNight_0 : decode cX7_isNight 0 = .ok (.iload_n 0, 1) := by decide +kernel
theorem dX7_isNight_1 : decode cX7_isNight 1 = .ok (.iconst 0, 1) := by decide +kernel
theorem dX7_isNight_2 : decode cX7_isNight 2 = .ok (.sipush 500, 3) := by decide +kernel
theorem dX7_isNight_5 : decode cX7_isNight 5 = .ok (.invokestatic 146, 3) := by decide +kernel
theorem dX7_isNight_8 : decode cX7_isNight 8 = .ok (.ireturn, 1) := by decide +kernel
theorem ilX7_isSort_wsX70 : ∀ w ∈ wsX70, w ∈ wsX7_isSort := fun _ h => List.mem_cons_of_mem _ (List.mem_append_left _ (List.mem_append_right _ (h)))
theorem ilX7_isSort_wsX10 : ∀ w ∈ wsX10, w ∈ wsX7_isSort := fun _ h => List.mem_cons_of_mem _ (List.mem_append_right _ (h))
set_option maxRecDepth 20000 in
theorem ggX7_isSort_X1_hasSort : GoodIn wsX7_isSort wsX1_hasSort := goodIn_sub (List.forall_mem_cons.mpr ⟨List.mem_cons_of_mem _ (List.mem_append_left _ (List.mem_append_left _ (List.mem_of_getElem? (i := 6) rfl))), (List.forall_mem_append.mpr ⟨(List.forall_mem_cons.mpr ⟨List.mem_cons_of_mem _ (List.mem_append_left _ (List.mem_append_left _ (List.mem_of_getElem? (i := 7) rfl))), (fun _ h => absurd h List.not_mem_nil)⟩), ilX7_isSort_wsX10⟩)⟩) (by decide +kernel)
set_option maxRecDepth 20000 in
theorem gX7_isSort_X1_hasSort : GoodIn wsX7_isSort (wsV RX7 285 RX1 yX1_hasSort wsX1_hasSort) := goodIn_app (goodIn_sub (List.forall_mem_cons.mpr ⟨List.mem_cons_of_mem _ (List.mem_append_left _ (List.mem_append_left _ (List.mem_of_getElem? (i := 2) rfl))), (List.forall_mem_cons.mpr ⟨List.mem_cons_of_mem _ (List.mem_append_left _ (List.mem_append_left _ (List.mem_of_getElem? (i := 3) rfl))), (List.forall_mem_cons.mpr ⟨List.mem_cons_of_mem _ (List.mem_append_left _ (List.mem_append_left _ (List.mem_of_getElem? (i := 4) rfl))), (List.forall_mem_cons.mpr ⟨List.mem_cons_of_mem _ (List.mem_append_left _ (List.mem_append_left _ (List.mem_of_getElem? (i := 5) rfl))), (fun _ h => absurd h List.not_mem_nil)⟩)⟩)⟩)⟩) (by decide +kernel)) ggX7_isSort_X1_hasSort
theorem dX7_isSort_0 : decode cX7_isSort 0 = .ok (.aload_n 0, 1) := by decide +kernel
theorem dX7_isSort_1 : decode cX7_isSort 1 = .ok (.getfield 71, 3) := by decide +kernel
theorem dX7_isSort_4 : decode cX7_isSort 4 = .ok (.ifCond .eq 18, 3) := by decide +kernel
theorem dX7_isSort_7 : decode cX7_isSort 7 = .ok (.aload_n 0, 1) := by decide +kernel
theorem dX7_isSort_8 : decode cX7_isSort 8 = .ok (.getfield 55, 3) := by decide +kernel
theorem dX7_isSort_11 : decode cX7_isSort 11 = .ok (.iload_n 1, 1) := by decide +kernel
theorem dX7_isSort_12 : decode cX7_isSort 12 = .ok (.invokevirtual 285, 3) := by decide +kernel
theorem dX7_isSort_15 : decode cX7_isSort 15 = .ok (.ifCond .eq 7, 3) := by decide +kernel
theorem dX7_isSort_18 : decode cX7_isSort 18 = .ok (.iconst 1, 1) := by decide +kernel
theorem dX7_isSort_19 : decode cX7_isSort 19 = .ok (.goto 4, 3) := by decide +kernel
theorem dX7_isSort_22 : decode cX7_isSort 22 = .ok (.iconst 0, 1) := by decide +kernel
theorem dX7_isSort_23 : decode cX7_isSort 23 = .ok (.ireturn, 1) := by decide +kernel
theorem ilX7_canBeLoan_wsX70 : ∀ w ∈ wsX70, w ∈ wsX7_canBeLoan := fun _ h => List.mem_cons_of_mem _ (List.mem_append_left _ (List.mem_append_right _ (h)))
theorem ilX7_canBeLoan_wsX10 : ∀ w ∈ wsX10, w ∈ wsX7_canBeLoan := fun _ h => List.mem_cons_of_mem _ (List.mem_append_right _ (h))
set_option maxRecDepth 20000 in
theorem ggX7_canBeLoan_X7_isSort : GoodIn wsX7_canBeLoan wsX7_isSort := goodIn_sub (List.forall_mem_cons.mpr ⟨List.mem_cons_of_mem _ (List.mem_append_left _ (List.mem_append_left _ (List.mem_of_getElem? (i := 4) rfl))), (List.forall_mem_append.mpr ⟨(List.forall_mem_append.mpr ⟨(List.forall_mem_cons.mpr ⟨List.mem_cons_of_mem _ (List.mem_append_left _ (List.mem_append_left _ (List.mem_of_getElem? (i := 5) rfl))), (List.forall_mem_cons.mpr ⟨List.mem_cons_of_mem _ (List.mem_append_left _ (List.mem_append_left _ (List.mem_of_getElem? (i := 6) rfl))), (List.forall_mem_cons.mpr ⟨List.mem_cons_of_mem _ (List.mem_append_left _ (List.mem_append_left _ (List.mem_of_getElem? (i := 7) rfl))), (List.forall_mem_cons.mpr ⟨List.mem_cons_of_mem _ (List.mem_append_left _ (List.mem_append_left _ (List.mem_of_getElem? (i := 8) rfl))), (List.forall_mem_cons.mpr ⟨List.mem_cons_of_mem _ (List.mem_append_left _ (List.mem_append_left _ (List.mem_of_getElem? (i := 9) rfl))), (List.forall_mem_cons.mpr ⟨List.mem_cons_of_mem _ (List.mem_append_left _ (List.mem_append_left _ (List.mem_of_getElem? (i := 10) rfl))), (List.forall_mem_cons.mpr ⟨List.mem_cons_of_mem _ (List.mem_append_left _ (List.mem_append_left _ (List.mem_of_getElem? (i := 11) rfl))), (List.forall_mem_cons.mpr ⟨List.mem_cons_of_mem _ (List.mem_append_left _ (List.mem_append_left _ (List.mem_of_getElem? (i := 12) rfl))), (fun _ h => absurd h List.not_mem_nil)⟩)⟩)⟩)⟩)⟩)⟩)⟩)⟩), ilX7_canBeLoan_wsX70⟩), ilX7_canBeLoan_wsX10⟩)⟩) (by decide +kernel)
set_option maxRecDepth 20000 in
theorem gX7_canBeLoan_X7_isSort : GoodIn wsX7_canBeLoan (wsV RX7 103 RX7 yX7_isSort wsX7_isSort) := goodIn_app (goodIn_sub (List.forall_mem_cons.mpr ⟨List.mem_cons_of_mem _ (List.mem_append_left _ (List.mem_append_left _ (List.mem_of_getElem? (i := 0) rfl))), (List.forall_mem_cons.mpr ⟨List.mem_cons_of_mem _ (List.mem_append_left _ (List.mem_append_left _ (List.mem_of_getElem? (i := 1) rfl))), (List.forall_mem_cons.mpr ⟨List.mem_cons_of_mem _ (List.mem_append_left _ (List.mem_append_left _ (List.mem_of_getElem? (i := 2) rfl))), (List.forall_mem_cons.mpr ⟨List.mem_cons_of_mem _ (List.mem_append_left _ (List.mem_append_left _ (List.mem_of_getElem? (i := 3) rfl))), (fun _ h => absurd h List.not_mem_nil)⟩)⟩)⟩)⟩) (by decide +kernel)) ggX7_canBeLoan_X7_isSort
set_option maxRecDepth 20000 in
theorem ggX7_canBeLoan_X7_isIn : GoodIn wsX7_canBeLoan wsX7_isIn := goodIn_sub (List.forall_mem_cons.mpr ⟨List.mem_cons_of_mem _ (List.mem_append_left _ (List.mem_append_left _ (List.mem_of_getElem? (i := 15) rfl))), (fun _ h => absurd h List.not_mem_nil)⟩) (by decide +kernel)
set_option maxRecDepth 20000 in
theorem gX7_canBeLoan_X7_isIn : GoodIn wsX7_canBeLoan (va_wsS RX7 146 yX7_isIn wsX7_isIn) := goodIn_app (goodIn_of _ (by decide +kernel)) ggX7_canBeLoan_X7_isIn
theorem dX7_canBeLoan_0 : decode cX7_canBeLoan 0 = .ok (.iload_n 1, 1) := by decide +kernel
theorem dX7_canBeLoan_1 : decode cX7_canBeLoan 1 = .ok (.ifCond .lt 36, 3) := by decide +kernel
theorem dX7_canBeLoan_4 : decode cX7_canBeLoan 4 = .ok (.aload_n 0, 1) := by decide +kernel
theorem dX7_canBeLoan_5 : decode cX7_canBeLoan 5 = .ok (.iload_n 1, 1) := by decide +kernel
theorem dX7_canBeLoan_6 : decode cX7_canBeLoan 6 = .ok (.bipush 10, 2) := by decide +kernel
theorem dX7_canBeLoan_8 : decode cX7_canBeLoan 8 = .ok (.idiv, 1) := by decide +kernel
theorem dX7_canBeLoan_9 : decode cX7_canBeLoan 9 = .ok (.invokevirtual 103, 3) := by decide +kernel
theorem dX7_canBeLoan_12 : decode cX7_canBeLoan 12 = .ok (.ifCond .eq 25, 3) := by decide +kernel
theorem dX7_canBeLoan_15 : decode cX7_canBeLoan 15 = .ok (.aload_n 0, 1) := by decide +kernel
theorem dX7_canBeLoan_16 : decode cX7_canBeLoan 16 = .ok (.iload_n 1, 1) := by decide +kernel
theorem dX7_canBeLoan_17 : decode cX7_canBeLoan 17 = .ok (.bipush 10, 2) := by decide +kernel
theorem dX7_canBeLoan_19 : decode cX7_canBeLoan 19 = .ok (.irem, 1) := by decide +kernel
theorem dX7_canBeLoan_20 : decode cX7_canBeLoan 20 = .ok (.invokevirtual 103, 3) := by decide +kernel
theorem dX7_canBeLoan_23 : decode cX7_canBeLoan 23 = .ok (.ifCond .eq 14, 3) := by decide +kernel
theorem dX7_canBeLoan_26 : decode cX7_canBeLoan 26 = .ok (.iload_n 1, 1) := by decide +kernel
theorem dX7_canBeLoan_27 : decode cX7_canBeLoan 27 = .ok (.bipush 10, 2) := by decide +kernel
theorem dX7_canBeLoan_29 : decode cX7_canBeLoan 29 = .ok (.idiv, 1) := by decide +kernel
theorem dX7_canBeLoan_30 : decode cX7_canBeLoan 30 = .ok (.iload_n 1, 1) := by decide +kernel
theorem dX7_canBeLoan_31 : decode cX7_canBeLoan 31 = .ok (.bipush 10, 2) := by decide +kernel
theorem dX7_canBeLoan_33 : decode cX7_canBeLoan 33 = .ok (.irem, 1) := by decide +kernel
theorem dX7_canBeLoan_34 : decode cX7_canBeLoan 34 = .ok (.if_icmp .ne 5, 3) := by decide +kernel
theorem dX7_canBeLoan_37 : decode cX7_canBeLoan 37 = .ok (.iconst 0, 1) := by decide +kernel
theorem dX7_canBeLoan_38 : decode cX7_canBeLoan 38 = .ok (.ireturn, 1) := by decide +kernel
theorem dX7_canBeLoan_39 : decode cX7_canBeLoan 39 = .ok (.iload_n 2, 1) := by decide +kernel
theorem dX7_canBeLoan_40 : decode cX7_canBeLoan 40 = .ok (.iconst 0, 1) := by decide +kernel
theorem dX7_canBeLoan_41 : decode cX7_canBeLoan 41 = .ok (.iconst 4, 1) := by decide +kernel
theorem dX7_canBeLoan_42 : decode cX7_canBeLoan 42 = .ok (.invokestatic 146, 3) := by decide +kernel
theorem dX7_canBeLoan_45 : decode cX7_canBeLoan 45 = .ok (.ifCond .eq 30, 3) := by decide +kernel
theorem dX7_canBeLoan_48 : decode cX7_canBeLoan 48 = .ok (.iload_n 3, 1) := by decide +kernel
theorem dX7_canBeLoan_49 : decode cX7_canBeLoan 49 = .ok (.iconst 1, 1) := by decide +kernel
theorem dX7_canBeLoan_50 : decode cX7_canBeLoan 50 = .ok (.sipush 9999, 3) := by decide +kernel
theorem dX7_canBeLoan_53 : decode cX7_canBeLoan 53 = .ok (.invokestatic 146, 3) := by decide +kernel
theorem dX7_canBeLoan_56 : decode cX7_canBeLoan 56 = .ok (.ifCond .eq 19, 3) := by decide +kernel
theorem dX7_canBeLoan_59 : decode cX7_canBeLoan 59 = .ok (.iload 4, 2) := by decide +kernel
theorem dX7_canBeLoan_61 : decode cX7_canBeLoan 61 = .ok (.iconst 0, 1) := by decide +kernel
theorem dX7_canBeLoan_62 : decode cX7_canBeLoan 62 = .ok (.sipush 400, 3) := by decide +kernel
theorem dX7_canBeLoan_65 : decode cX7_canBeLoan 65 = .ok (.invokestatic 146, 3) := by decide +kernel
theorem dX7_canBeLoan_68 : decode cX7_canBeLoan 68 = .ok (.ifCond .eq 7, 3) := by decide +kernel
theorem dX7_canBeLoan_71 : decode cX7_canBeLoan 71 = .ok (.iconst 1, 1) := by decide +kernel
theorem dX7_canBeLoan_72 : decode cX7_canBeLoan 72 = .ok (.goto 4, 3) := by decide +kernel
theorem dX7_canBeLoan_75 : decode cX7_canBeLoan 75 = .ok (.iconst 0, 1) := by decide +kernel
theorem dX7_canBeLoan_76 : decode cX7_canBeLoan 76 = .ok (.ireturn, 1) := by decide +kernel
theorem ilX7_lastNightBack_wsX70 : ∀ w ∈ wsX70, w ∈ wsX7_lastNightBack := fun _ h => List.mem_cons_of_mem _ (List.mem_append_left _ (List.mem_append_right _ (h)))
theorem ilX7_lastNightBack_wsX10 : ∀ w ∈ wsX10, w ∈ wsX7_lastNightBack := fun _ h => List.mem_cons_of_mem _ (List.mem_append_right _ (h))
set_option maxRecDepth 20000 in
theorem ggX7_lastNightBack_X4_backOf : GoodIn wsX7_lastNightBack wsX4_backOf := goodIn_sub (List.forall_mem_cons.mpr ⟨List.mem_cons_of_mem _ (List.mem_append_left _ (List.mem_append_left _ (List.mem_of_getElem? (i := 7) rfl))), (List.forall_mem_append.mpr ⟨(List.forall_mem_cons.mpr ⟨List.mem_cons_of_mem _ (List.mem_append_left _ (List.mem_append_left _ (List.mem_of_getElem? (i := 8) rfl))), (List.forall_mem_cons.mpr ⟨List.mem_cons_of_mem _ (List.mem_append_left _ (List.mem_append_left _ (List.mem_of_getElem? (i := 9) rfl))), (List.forall_mem_cons.mpr ⟨List.mem_cons_of_mem _ (List.mem_append_left _ (List.mem_append_left _ (List.mem_of_getElem? (i := 10) rfl))), (List.forall_mem_cons.mpr ⟨List.mem_cons_of_mem _ (List.mem_append_left _ (List.mem_append_left _ (List.mem_of_getElem? (i := 11) rfl))), (fun _ h => absurd h List.not_mem_nil)⟩)⟩)⟩)⟩), ilX7_lastNightBack_wsX10⟩)⟩) (by decide +kernel)
set_option maxRecDepth 20000 in
theorem gX7_lastNightBack_X4_backOf : GoodIn wsX7_lastNightBack (va_wsS RX7 120 yX4_backOf wsX4_backOf) := goodIn_app (goodIn_of _ (by decide +kernel)) ggX7_lastNightBack_X4_backOf
theorem dX7_lastNightBack_0 : decode cX7_lastNightBack 0 = .ok (.aload_n 0, 1) := by decide +kernel
theorem dX7_lastNightBack_1 : decode cX7_lastNightBack 1 = .ok (.getfield 55, 3) := by decide +kernel
theorem dX7_lastNightBack_4 : decode cX7_lastNightBack 4 = .ok (.iload_n 1, 1) := by decide +kernel
theorem dX7_lastNightBack_5 : decode cX7_lastNightBack 5 = .ok (.aload_n 0, 1) := by decide +kernel
theorem dX7_lastNightBack_6 : decode cX7_lastNightBack 6 = .ok (.getfield 55, 3) := by decide +kernel
theorem dX7_lastNightBack_9 : decode cX7_lastNightBack 9 = .ok (.getfield 288, 3) := by decide +kernel
theorem dX7_lastNightBack_12 : decode cX7_lastNightBack 12 = .ok (.iconst 1, 1) := by decide +kernel
theorem dX7_lastNightBack_13 : decode cX7_lastNightBack 13 = .ok (.isub, 1) := by decide +kernel
theorem dX7_lastNightBack_14 : decode cX7_lastNightBack 14 = .ok (.aload_n 0, 1) := by decide +kernel
theorem dX7_lastNightBack_15 : decode cX7_lastNightBack 15 = .ok (.getfield 55, 3) := by decide +kernel
theorem dX7_lastNightBack_18 : decode cX7_lastNightBack 18 = .ok (.getfield 114, 3) := by decide +kernel
theorem dX7_lastNightBack_21 : decode cX7_lastNightBack 21 = .ok (.aload_n 0, 1) := by decide +kernel
theorem dX7_lastNightBack_22 : decode cX7_lastNightBack 22 = .ok (.getfield 55, 3) := by decide +kernel
theorem dX7_lastNightBack_25 : decode cX7_lastNightBack 25 = .ok (.getfield 117, 3) := by decide +kernel
theorem dX7_lastNightBack_28 : decode cX7_lastNightBack 28 = .ok (.invokestatic 120, 3) := by decide +kernel
theorem dX7_lastNightBack_31 : decode cX7_lastNightBack 31 = .ok (.ireturn, 1) := by decide +kernel
theorem dX7_asked_0 : decode cX7_asked 0 = .ok (.iload_n 1, 1) := by decide +kernel
theorem dX7_asked_1 : decode cX7_asked 1 = .ok (.iconst 1, 1) := by decide +kernel
theorem dX7_asked_2 : decode cX7_asked 2 = .ok (.if_icmp .ge 7, 3) := by decide +kernel
theorem dX7_asked_5 : decode cX7_asked 5 = .ok (.iconst 0, 1) := by decide +kernel
theorem dX7_asked_6 : decode cX7_asked 6 = .ok (.goto 10, 3) := by decide +kernel
theorem dX7_asked_9 : decode cX7_asked 9 = .ok (.iload_n 0, 1) := by decide +kernel
theorem dX7_asked_10 : decode cX7_asked 10 = .ok (.iload_n 1, 1) := by decide +kernel
theorem dX7_asked_11 : decode cX7_asked 11 = .ok (.iload_n 2, 1) := by decide +kernel
theorem dX7_asked_12 : decode cX7_asked 12 = .ok (.isub, 1) := by decide +kernel
theorem dX7_asked_13 : decode cX7_asked 13 = .ok (.imul, 1) := by decide +kernel
theorem dX7_asked_14 : decode cX7_asked 14 = .ok (.iload_n 1, 1) := by decide +kernel
theorem dX7_asked_15 : decode cX7_asked 15 = .ok (.idiv, 1) := by decide +kernel
theorem dX7_asked_16 : decode cX7_asked 16 = .ok (.ireturn, 1) := by decide +kernel
theorem dX7_power_0 : decode cX7_power 0 = .ok (.lconst 1, 1) := by decide +kernel
theorem dX7_power_1 : decode cX7_power 1 = .ok (.lstore_n 2, 1) := by decide +kernel
theorem dX7_power_2 : decode cX7_power 2 = .ok (.iconst 0, 1) := by decide +kernel
theorem dX7_power_3 : decode cX7_power 3 = .ok (.istore 4, 2) := by decide +kernel
theorem dX7_power_5 : decode cX7_power 5 = .ok (.iload 4, 2) := by decide +kernel
theorem dX7_power_7 : decode cX7_power 7 = .ok (.iload_n 1, 1) := by decide +kernel
theorem dX7_power_8 : decode cX7_power 8 = .ok (.if_icmp .ge 14, 3) := by decide +kernel
theorem dX7_power_11 : decode cX7_power 11 = .ok (.lload_n 2, 1) := by decide +kernel
theorem dX7_power_12 : decode cX7_power 12 = .ok (.iload_n 0, 1) := by decide +kernel
theorem dX7_power_13 : decode cX7_power 13 = .ok (.i2l, 1) := by decide +kernel
theorem dX7_power_14 : decode cX7_power 14 = .ok (.lmul, 1) := by decide +kernel
theorem dX7_power_15 : decode cX7_power 15 = .ok (.lstore_n 2, 1) := by decide +kernel
theorem dX7_power_16 : decode cX7_power 16 = .ok (.iinc 4 1, 3) := by decide +kernel
theorem dX7_power_19 : decode cX7_power 19 = .ok (.goto (-14), 3) := by decide +kernel
theorem dX7_power_22 : decode cX7_power 22 = .ok (.lload_n 2, 1) := by decide +kernel
theorem dX7_power_23 : decode cX7_power 23 = .ok (.lreturn, 1) := by decide +kernel
theorem dX7_choices_0 : decode cX7_choices 0 = .ok (.lconst 1, 1) := by decide +kernel
theorem dX7_choices_1 : decode cX7_choices 1 = .ok (.lstore_n 2, 1) := by decide +kernel
theorem dX7_choices_2 : decode cX7_choices 2 = .ok (.iconst 1, 1) := by decide +kernel
theorem dX7_choices_3 : decode cX7_choices 3 = .ok (.istore 4, 2) := by decide +kernel
theorem dX7_choices_5 : decode cX7_choices 5 = .ok (.iload 4, 2) := by decide +kernel
theorem dX7_choices_7 : decode cX7_choices 7 = .ok (.iload_n 1, 1) := by decide +kernel
theorem dX7_choices_8 : decode cX7_choices 8 = .ok (.if_icmp .gt 23, 3) := by decide +kernel
theorem dX7_choices_11 : decode cX7_choices 11 = .ok (.lload_n 2, 1) := by decide +kernel
theorem dX7_choices_12 : decode cX7_choices 12 = .ok (.iload_n 0, 1) := by decide +kernel
theorem dX7_choices_13 : decode cX7_choices 13 = .ok (.iload_n 1, 1) := by decide +kernel
theorem dX7_choices_14 : decode cX7_choices 14 = .ok (.isub, 1) := by decide +kernel
theorem dX7_choices_15 : decode cX7_choices 15 = .ok (.iload 4, 2) := by decide +kernel
theorem dX7_choices_17 : decode cX7_choices 17 = .ok (.iadd, 1) := by decide +kernel
theorem dX7_choices_18 : decode cX7_choices 18 = .ok (.i2l, 1) := by decide +kernel
theorem dX7_choices_19 : decode cX7_choices 19 = .ok (.lmul, 1) := by decide +kernel
theorem dX7_choices_20 : decode cX7_choices 20 = .ok (.iload 4, 2) := by decide +kernel
theorem dX7_choices_22 : decode cX7_choices 22 = .ok (.i2l, 1) := by decide +kernel
theorem dX7_choices_23 : decode cX7_choices 23 = .ok (.ldiv, 1) := by decide +kernel
theorem dX7_choices_24 : decode cX7_choices 24 = .ok (.lstore_n 2, 1) := by decide +kernel
theorem dX7_choices_25 : decode cX7_choices 25 = .ok (.iinc 4 1, 3) := by decide +kernel
theorem dX7_choices_28 : decode cX7_choices 28 = .ok (.goto (-23), 3) := by decide +kernel
theorem dX7_choices_31 : decode cX7_choices 31 = .ok (.lload_n 2, 1) := by decide +kernel
theorem dX7_choices_32 : decode cX7_choices 32 = .ok (.lreturn, 1) := by decide +kernel
theorem dX8_init_0 : decode cX8_init 0 = .ok (.aload_n 0, 1) := by decide +kernel
theorem dX8_init_1 : decode cX8_init 1 = .ok (.invokespecial 1, 3) := by decide +kernel
theorem dX8_init_4 : decode cX8_init 4 = .ok (.aload_n 0, 1) := by decide +kernel
theorem dX8_init_5 : decode cX8_init 5 = .ok (.sipush 500, 3) := by decide +kernel
theorem dX8_init_8 : decode cX8_init 8 = .ok (.newarray .byte, 2) := by decide +kernel
theorem dX8_init_10 : decode cX8_init 10 = .ok (.putfield 9, 3) := by decide +kernel
theorem dX8_init_13 : decode cX8_init 13 = .ok (.aload_n 0, 1) := by decide +kernel
theorem dX8_init_14 : decode cX8_init 14 = .ok (.iconst 5, 1) := by decide +kernel
theorem dX8_init_15 : decode cX8_init 15 = .ok (.newarray .int, 2) := by decide +kernel
theorem dX8_init_17 : decode cX8_init 17 = .ok (.putfield 13, 3) := by decide +kernel
theorem dX8_init_20 : decode cX8_init 20 = .ok (.aload_n 0, 1) := by decide +kernel
theorem dX8_init_21 : decode cX8_init 21 = .ok (.bipush 6, 2) := by decide +kernel
theorem dX8_init_23 : decode cX8_init 23 = .ok (.newarray .long, 2) := by decide +kernel
theorem dX8_init_25 : decode cX8_init 25 = .ok (.putfield 17, 3) := by decide +kernel
theorem dX8_init_28 : decode cX8_init 28 = .ok (.aload_n 0, 1) := by decide +kernel
theorem dX8_init_29 : decode cX8_init 29 = .ok (.bipush 36, 2) := by decide +kernel
theorem dX8_init_31 : decode cX8_init 31 = .ok (.newarray .int, 2) := by decide +kernel
theorem dX8_init_33 : decode cX8_init 33 = .ok (.putfield 21, 3) := by decide +kernel
theorem dX8_init_36 : decode cX8_init 36 = .ok (.aload_n 0, 1) := by decide +kernel
theorem dX8_init_37 : decode cX8_init 37 = .ok (.bipush 36, 2) := by decide +kernel
theorem dX8_init_39 : decode cX8_init 39 = .ok (.newarray .int, 2) := by decide +kernel
theorem dX8_init_41 : decode cX8_init 41 = .ok (.putfield 24, 3) := by decide +kernel
theorem dX8_init_44 : decode cX8_init 44 = .ok (.aload_n 0, 1) := by decide +kernel
theorem dX8_init_45 : decode cX8_init 45 = .ok (.bipush 36, 2) := by decide +kernel
theorem dX8_init_47 : decode cX8_init 47 = .ok (.newarray .int, 2) := by decide +kernel
theorem dX8_init_49 : decode cX8_init 49 = .ok (.putfield 27, 3) := by decide +kernel
theorem dX8_init_52 : decode cX8_init 52 = .ok (.aload_n 0, 1) := by decide +kernel
theorem dX8_init_53 : decode cX8_init 53 = .ok (.bipush 36, 2) := by decide +kernel
theorem dX8_init_55 : decode cX8_init 55 = .ok (.newarray .int, 2) := by decide +kernel
theorem dX8_init_57 : decode cX8_init 57 = .ok (.putfield 30, 3) := by decide +kernel
theorem dX8_init_60 : decode cX8_init 60 = .ok (.aload_n 0, 1) := by decide +kernel
theorem dX8_init_61 : decode cX8_init 61 = .ok (.bipush 6, 2) := by decide +kernel
theorem dX8_init_63 : decode cX8_init 63 = .ok (.newarray .int, 2) := by decide +kernel
theorem dX8_init_65 : decode cX8_init 65 = .ok (.putfield 33, 3) := by decide +kernel
theorem dX8_init_68 : decode cX8_init 68 = .ok (.aload_n 0, 1) := by decide +kernel
theorem dX8_init_69 : decode cX8_init 69 = .ok (.bipush 6, 2) := by decide +kernel
theorem dX8_init_71 : decode cX8_init 71 = .ok (.newarray .int, 2) := by decide +kernel
theorem dX8_init_73 : decode cX8_init 73 = .ok (.putfield 36, 3) := by decide +kernel
theorem dX8_init_76 : decode cX8_init 76 = .ok (.aload_n 0, 1) := by decide +kernel
theorem dX8_init_77 : decode cX8_init 77 = .ok (.sipush 240, 3) := by decide +kernel
theorem dX8_init_80 : decode cX8_init 80 = .ok (.newarray .int, 2) := by decide +kernel
theorem dX8_init_82 : decode cX8_init 82 = .ok (.putfield 39, 3) := by decide +kernel
theorem dX8_init_85 : decode cX8_init 85 = .ok (.aload_n 0, 1) := by decide +kernel
theorem dX8_init_86 : decode cX8_init 86 = .ok (.bipush 120, 2) := by decide +kernel
theorem dX8_init_88 : decode cX8_init 88 = .ok (.newarray .int, 2) := by decide +kernel
theorem dX8_init_90 : decode cX8_init 90 = .ok (.putfield 42, 3) := by decide +kernel
theorem dX8_init_93 : decode cX8_init 93 = .ok (.aload_n 0, 1) := by decide +kernel
theorem dX8_init_94 : decode cX8_init 94 = .ok (.iconst 3, 1) := by decide +kernel
theorem dX8_init_95 : decode cX8_init 95 = .ok (.newarray .boolean, 2) := by decide +kernel
theorem dX8_init_97 : decode cX8_init 97 = .ok (.putfield 45, 3) := by decide +kernel
