theorem dX8_init_100 : decode cX8_init 100 = .ok (.aload_n 0, 1) := by decide +kernel
theorem dX8_init_101 : decode cX8_init 101 = .ok (.iconst 3, 1) := by decide +kernel
theorem dX8_init_102 : decode cX8_init 102 = .ok (.newarray .int, 2) := by decide +kernel
theorem dX8_init_104 : decode cX8_init 104 = .ok (.putfield 49, 3) := by decide +kernel
theorem dX8_init_107 : decode cX8_init 107 = .ok (.aload_n 0, 1) := by decide +kernel
theorem dX8_init_108 : decode cX8_init 108 = .ok (.bipush 18, 2) := by decide +kernel
theorem dX8_init_110 : decode cX8_init 110 = .ok (.newarray .int, 2) := by decide +kernel
theorem dX8_init_112 : decode cX8_init 112 = .ok (.putfield 52, 3) := by decide +kernel
theorem dX8_init_115 : decode cX8_init 115 = .ok (.aload_n 0, 1) := by decide +kernel
theorem dX8_init_116 : decode cX8_init 116 = .ok (.bipush 18, 2) := by decide +kernel
theorem dX8_init_118 : decode cX8_init 118 = .ok (.newarray .int, 2) := by decide +kernel
theorem dX8_init_120 : decode cX8_init 120 = .ok (.putfield 55, 3) := by decide +kernel
theorem dX8_init_123 : decode cX8_init 123 = .ok (.aload_n 0, 1) := by decide +kernel
theorem dX8_init_124 : decode cX8_init 124 = .ok (.sipush 720, 3) := by decide +kernel
theorem dX8_init_127 : decode cX8_init 127 = .ok (.newarray .int, 2) := by decide +kernel
theorem dX8_init_129 : decode cX8_init 129 = .ok (.putfield 58, 3) := by decide +kernel
theorem dX8_init_132 : decode cX8_init 132 = .ok (.aload_n 0, 1) := by decide +kernel
theorem dX8_init_133 : decode cX8_init 133 = .ok (.iconst 3, 1) := by decide +kernel
theorem dX8_init_134 : decode cX8_init 134 = .ok (.newarray .long, 2) := by decide +kernel
theorem dX8_init_136 : decode cX8_init 136 = .ok (.putfield 61, 3) := by decide +kernel
theorem dX8_init_139 : decode cX8_init 139 = .ok (.aload_n 0, 1) := by decide +kernel
theorem dX8_init_140 : decode cX8_init 140 = .ok (.bipush 6, 2) := by decide +kernel
theorem dX8_init_142 : decode cX8_init 142 = .ok (.newarray .int, 2) := by decide +kernel
theorem dX8_init_144 : decode cX8_init 144 = .ok (.putfield 64, 3) := by decide +kernel
theorem dX8_init_147 : decode cX8_init 147 = .ok (.aload_n 0, 1) := by decide +kernel
theorem dX8_init_148 : decode cX8_init 148 = .ok (.bipush 6, 2) := by decide +kernel
theorem dX8_init_150 : decode cX8_init 150 = .ok (.newarray .int, 2) := by decide +kernel
theorem dX8_init_152 : decode cX8_init 152 = .ok (.putfield 67, 3) := by decide +kernel
theorem dX8_init_155 : decode cX8_init 155 = .ok (.aload_n 0, 1) := by decide +kernel
theorem dX8_init_156 : decode cX8_init 156 = .ok (.bipush 40, 2) := by decide +kernel
theorem dX8_init_158 : decode cX8_init 158 = .ok (.newarray .int, 2) := by decide +kernel
theorem dX8_init_160 : decode cX8_init 160 = .ok (.putfield 70, 3) := by decide +kernel
theorem dX8_init_163 : decode cX8_init 163 = .ok (.aload_n 0, 1) := by decide +kernel
theorem dX8_init_164 : decode cX8_init 164 = .ok (.bipush 20, 2) := by decide +kernel
theorem dX8_init_166 : decode cX8_init 166 = .ok (.newarray .int, 2) := by decide +kernel
theorem dX8_init_168 : decode cX8_init 168 = .ok (.putfield 73, 3) := by decide +kernel
theorem dX8_init_171 : decode cX8_init 171 = .ok (.aload_n 0, 1) := by decide +kernel
theorem dX8_init_172 : decode cX8_init 172 = .ok (.bipush 6, 2) := by decide +kernel
theorem dX8_init_174 : decode cX8_init 174 = .ok (.newarray .int, 2) := by decide +kernel
theorem dX8_init_176 : decode cX8_init 176 = .ok (.putfield 76, 3) := by decide +kernel
theorem dX8_init_179 : decode cX8_init 179 = .ok (.aload_n 0, 1) := by decide +kernel
theorem dX8_init_180 : decode cX8_init 180 = .ok (.bipush 6, 2) := by decide +kernel
theorem dX8_init_182 : decode cX8_init 182 = .ok (.newarray .int, 2) := by decide +kernel
theorem dX8_init_184 : decode cX8_init 184 = .ok (.putfield 79, 3) := by decide +kernel
theorem dX8_init_187 : decode cX8_init 187 = .ok (.aload_n 0, 1) := by decide +kernel
theorem dX8_init_188 : decode cX8_init 188 = .ok (.sipush 240, 3) := by decide +kernel
theorem dX8_init_191 : decode cX8_init 191 = .ok (.newarray .int, 2) := by decide +kernel
theorem dX8_init_193 : decode cX8_init 193 = .ok (.putfield 82, 3) := by decide +kernel
theorem dX8_init_196 : decode cX8_init 196 = .ok (.aload_n 0, 1) := by decide +kernel
theorem dX8_init_197 : decode cX8_init 197 = .ok (.iconst 5, 1) := by decide +kernel
theorem dX8_init_198 : decode cX8_init 198 = .ok (.newarray .int, 2) := by decide +kernel
theorem dX8_init_200 : decode cX8_init 200 = .ok (.putfield 85, 3) := by decide +kernel
theorem dX8_init_203 : decode cX8_init 203 = .ok (.return_, 1) := by decide +kernel
theorem dX8_in_0 : decode cX8_in 0 = .ok (.iload_n 0, 1) := by decide +kernel
theorem dX8_in_1 : decode cX8_in 1 = .ok (.iload_n 1, 1) := by decide +kernel
theorem dX8_in_2 : decode cX8_in 2 = .ok (.if_icmp .lt 12, 3) := by decide +kernel
theorem dX8_in_5 : decode cX8_in 5 = .ok (.iload_n 0, 1) := by decide +kernel
theorem dX8_in_6 : decode cX8_in 6 = .ok (.iload_n 2, 1) := by decide +kernel
theorem dX8_in_7 : decode cX8_in 7 = .ok (.if_icmp .gt 7, 3) := by decide +kernel
theorem dX8_in_10 : decode cX8_in 10 = .ok (.iconst 1, 1) := by decide +kernel
theorem dX8_in_11 : decode cX8_in 11 = .ok (.goto 4, 3) := by decide +kernel
theorem dX8_in_14 : decode cX8_in 14 = .ok (.iconst 0, 1) := by decide +kernel
theorem dX8_in_15 : decode cX8_in 15 = .ok (.ireturn, 1) := by decide +kernel
theorem dX8_feed_0 : decode cX8_feed 0 = .ok (.aload_n 0, 1) := by decide +kernel
theorem dX8_feed_1 : decode cX8_feed 1 = .ok (.getfield 88, 3) := by decide +kernel
theorem dX8_feed_4 : decode cX8_feed 4 = .ok (.bipush 20, 2) := by decide +kernel
theorem dX8_feed_6 : decode cX8_feed 6 = .ok (.iadd, 1) := by decide +kernel
theorem dX8_feed_7 : decode cX8_feed 7 = .ok (.sipush 500, 3) := by decide +kernel
theorem dX8_feed_10 : decode cX8_feed 10 = .ok (.if_icmp .le 5, 3) := by decide +kernel
theorem dX8_feed_13 : decode cX8_feed 13 = .ok (.iconst (-1), 1) := by decide +kernel
theorem dX8_feed_14 : decode cX8_feed 14 = .ok (.ireturn, 1) := by decide +kernel
theorem dX8_feed_15 : decode cX8_feed 15 = .ok (.iconst 0, 1) := by decide +kernel
theorem dX8_feed_16 : decode cX8_feed 16 = .ok (.istore 6, 2) := by decide +kernel
theorem dX8_feed_18 : decode cX8_feed 18 = .ok (.iload 6, 2) := by decide +kernel
theorem dX8_feed_20 : decode cX8_feed 20 = .ok (.bipush 20, 2) := by decide +kernel
theorem dX8_feed_22 : decode cX8_feed 22 = .ok (.if_icmp .ge 90, 3) := by decide +kernel
theorem dX8_feed_25 : decode cX8_feed 25 = .ok (.iload 6, 2) := by decide +kernel
theorem dX8_feed_27 : decode cX8_feed 27 = .ok (.iconst 4, 1) := by decide +kernel
theorem dX8_feed_28 : decode cX8_feed 28 = .ok (.if_icmp .ge 7, 3) := by decide +kernel
theorem dX8_feed_31 : decode cX8_feed 31 = .ok (.iload_n 1, 1) := by decide +kernel
theorem dX8_feed_32 : decode cX8_feed 32 = .ok (.goto 39, 3) := by decide +kernel
theorem dX8_feed_35 : decode cX8_feed 35 = .ok (.iload 6, 2) := by decide +kernel
theorem dX8_feed_37 : decode cX8_feed 37 = .ok (.bipush 8, 2) := by decide +kernel
theorem dX8_feed_39 : decode cX8_feed 39 = .ok (.if_icmp .ge 7, 3) := by decide +kernel
theorem dX8_feed_42 : decode cX8_feed 42 = .ok (.iload_n 2, 1) := by decide +kernel
theorem dX8_feed_43 : decode cX8_feed 43 = .ok (.goto 28, 3) := by decide +kernel
theorem dX8_feed_46 : decode cX8_feed 46 = .ok (.iload 6, 2) := by decide +kernel
theorem dX8_feed_48 : decode cX8_feed 48 = .ok (.bipush 12, 2) := by decide +kernel
theorem dX8_feed_50 : decode cX8_feed 50 = .ok (.if_icmp .ge 7, 3) := by decide +kernel
theorem dX8_feed_53 : decode cX8_feed 53 = .ok (.iload_n 3, 1) := by decide +kernel
theorem dX8_feed_54 : decode cX8_feed 54 = .ok (.goto 17, 3) := by decide +kernel
theorem dX8_feed_57 : decode cX8_feed 57 = .ok (.iload 6, 2) := by decide +kernel
theorem dX8_feed_59 : decode cX8_feed 59 = .ok (.bipush 16, 2) := by decide +kernel
theorem dX8_feed_61 : decode cX8_feed 61 = .ok (.if_icmp .ge 8, 3) := by decide +kernel
theorem dX8_feed_64 : decode cX8_feed 64 = .ok (.iload 4, 2) := by decide +kernel
theorem dX8_feed_66 : decode cX8_feed 66 = .ok (.goto 5, 3) := by decide +kernel
theorem dX8_feed_69 : decode cX8_feed 69 = .ok (.iload 5, 2) := by decide +kernel
theorem dX8_feed_71 : decode cX8_feed 71 = .ok (.istore 7, 2) := by decide +kernel
theorem dX8_feed_73 : decode cX8_feed 73 = .ok (.aload_n 0, 1) := by decide +kernel
theorem dX8_feed_74 : decode cX8_feed 74 = .ok (.getfield 9, 3) := by decide +kernel
theorem dX8_feed_77 : decode cX8_feed 77 = .ok (.aload_n 0, 1) := by decide +kernel
theorem dX8_feed_78 : decode cX8_feed 78 = .ok (.getfield 88, 3) := by decide +kernel
theorem dX8_feed_81 : decode cX8_feed 81 = .ok (.iload 7, 2) := by decide +kernel
theorem dX8_feed_83 : decode cX8_feed 83 = .ok (.bipush 24, 2) := by decide +kernel
theorem dX8_feed_85 : decode cX8_feed 85 = .ok (.bipush 8, 2) := by decide +kernel
theorem dX8_feed_87 : decode cX8_feed 87 = .ok (.iload 6, 2) := by decide +kernel
theorem dX8_feed_89 : decode cX8_feed 89 = .ok (.iconst 4, 1) := by decide +kernel
theorem dX8_feed_90 : decode cX8_feed 90 = .ok (.irem, 1) := by decide +kernel
theorem dX8_feed_91 : decode cX8_feed 91 = .ok (.imul, 1) := by decide +kernel
theorem dX8_feed_92 : decode cX8_feed 92 = .ok (.isub, 1) := by decide +kernel
theorem dX8_feed_93 : decode cX8_feed 93 = .ok (.ishr, 1) := by decide +kernel
theorem dX8_feed_94 : decode cX8_feed 94 = .ok (.i2b, 1) := by decide +kernel
theorem dX8_feed_95 : decode cX8_feed 95 = .ok (.bastore, 1) := by decide +kernel
theorem dX8_feed_96 : decode cX8_feed 96 = .ok (.aload_n 0, 1) := by decide +kernel
theorem dX8_feed_97 : decode cX8_feed 97 = .ok (.dup, 1) := by decide +kernel
theorem dX8_feed_98 : decode cX8_feed 98 = .ok (.getfield 88, 3) := by decide +kernel
theorem dX8_feed_101 : decode cX8_feed 101 = .ok (.iconst 1, 1) := by decide +kernel
theorem dX8_feed_102 : decode cX8_feed 102 = .ok (.iadd, 1) := by decide +kernel
theorem dX8_feed_103 : decode cX8_feed 103 = .ok (.putfield 88, 3) := by decide +kernel
theorem dX8_feed_106 : decode cX8_feed 106 = .ok (.iinc 6 1, 3) := by decide +kernel
theorem dX8_feed_109 : decode cX8_feed 109 = .ok (.goto (-91), 3) := by decide +kernel
theorem dX8_feed_112 : decode cX8_feed 112 = .ok (.aload_n 0, 1) := by decide +kernel
theorem dX8_feed_113 : decode cX8_feed 113 = .ok (.getfield 88, 3) := by decide +kernel
theorem dX8_feed_116 : decode cX8_feed 116 = .ok (.ireturn, 1) := by decide +kernel
theorem ilX8_end_wsX80 : ∀ w ∈ wsX80, w ∈ wsX8_end := fun _ h => List.mem_cons_of_mem _ (List.mem_append_right _ (h))
set_option maxRecDepth 20000 in
theorem ggX8_end_X8_in : GoodIn wsX8_end wsX8_in := goodIn_sub (List.forall_mem_cons.mpr ⟨List.mem_cons_of_mem _ (List.mem_append_left _ (List.mem_of_getElem? (i := 4) rfl)), (fun _ h => absurd h List.not_mem_nil)⟩) (by decide +kernel)
set_option maxRecDepth 20000 in
theorem gX8_end_X8_in : GoodIn wsX8_end (va_wsS RX8 92 yX8_in wsX8_in) := goodIn_app (goodIn_of _ (by decide +kernel)) ggX8_end_X8_in
theorem dX8_end_0 : decode cX8_end 0 = .ok (.iload_n 1, 1) := by decide +kernel
theorem dX8_end_1 : decode cX8_end 1 = .ok (.iconst 0, 1) := by decide +kernel
theorem dX8_end_2 : decode cX8_end 2 = .ok (.aload_n 0, 1) := by decide +kernel
theorem dX8_end_3 : decode cX8_end 3 = .ok (.getfield 88, 3) := by decide +kernel
theorem dX8_end_6 : decode cX8_end 6 = .ok (.invokestatic 92, 3) := by decide +kernel
theorem dX8_end_9 : decode cX8_end 9 = .ok (.ifCond .ne 5, 3) := by decide +kernel
theorem dX8_end_12 : decode cX8_end 12 = .ok (.iconst 0, 1) := by decide +kernel
theorem dX8_end_13 : decode cX8_end 13 = .ok (.ireturn, 1) := by decide +kernel
theorem dX8_end_14 : decode cX8_end 14 = .ok (.aload_n 0, 1) := by decide +kernel
theorem dX8_end_15 : decode cX8_end 15 = .ok (.iload_n 1, 1) := by decide +kernel
theorem dX8_end_16 : decode cX8_end 16 = .ok (.putfield 88, 3) := by decide +kernel
theorem dX8_end_19 : decode cX8_end 19 = .ok (.iconst 1, 1) := by decide +kernel
theorem dX8_end_20 : decode cX8_end 20 = .ok (.ireturn, 1) := by decide +kernel
theorem dX8_isLetter_0 : decode cX8_isLetter 0 = .ok (.iload_n 0, 1) := by decide +kernel
theorem dX8_isLetter_1 : decode cX8_isLetter 1 = .ok (.bipush 97, 2) := by decide +kernel
theorem dX8_isLetter_3 : decode cX8_isLetter 3 = .ok (.if_icmp .lt 13, 3) := by decide +kernel
theorem dX8_isLetter_6 : decode cX8_isLetter 6 = .ok (.iload_n 0, 1) := by decide +kernel
theorem dX8_isLetter_7 : decode cX8_isLetter 7 = .ok (.bipush 122, 2) := by decide +kernel
theorem dX8_isLetter_9 : decode cX8_isLetter 9 = .ok (.if_icmp .gt 7, 3) := by decide +kernel
theorem dX8_isLetter_12 : decode cX8_isLetter 12 = .ok (.iconst 1, 1) := by decide +kernel
theorem dX8_isLetter_13 : decode cX8_isLetter 13 = .ok (.goto 4, 3) := by decide +kernel
theorem dX8_isLetter_16 : decode cX8_isLetter 16 = .ok (.iconst 0, 1) := by decide +kernel
theorem dX8_isLetter_17 : decode cX8_isLetter 17 = .ok (.ireturn, 1) := by decide +kernel
theorem dX8_isDigit_0 : decode cX8_isDigit 0 = .ok (.iload_n 0, 1) := by decide +kernel
theorem dX8_isDigit_1 : decode cX8_isDigit 1 = .ok (.bipush 48, 2) := by decide +kernel
theorem dX8_isDigit_3 : decode cX8_isDigit 3 = .ok (.if_icmp .lt 13, 3) := by decide +kernel
theorem dX8_isDigit_6 : decode cX8_isDigit 6 = .ok (.iload_n 0, 1) := by decide +kernel
theorem dX8_isDigit_7 : decode cX8_isDigit 7 = .ok (.bipush 57, 2) := by decide +kernel
theorem dX8_isDigit_9 : decode cX8_isDigit 9 = .ok (.if_icmp .gt 7, 3) := by decide +kernel
theorem dX8_isDigit_12 : decode cX8_isDigit 12 = .ok (.iconst 1, 1) := by decide +kernel
theorem dX8_isDigit_13 : decode cX8_isDigit 13 = .ok (.goto 4, 3) := by decide +kernel
theorem dX8_isDigit_16 : decode cX8_isDigit 16 = .ok (.iconst 0, 1) := by decide +kernel
theorem dX8_isDigit_17 : decode cX8_isDigit 17 = .ok (.ireturn, 1) := by decide +kernel
theorem ilX8_leads_wsX80 : ∀ w ∈ wsX80, w ∈ wsX8_leads := fun _ h => List.mem_cons_of_mem _ (List.mem_append_right _ (h))
set_option maxRecDepth 20000 in
theorem ggX8_leads_X8_isLetter : GoodIn wsX8_leads wsX8_isLetter := goodIn_sub (List.forall_mem_cons.mpr ⟨List.mem_cons_of_mem _ (List.mem_append_left _ (List.mem_of_getElem? (i := 12) rfl)), (fun _ h => absurd h List.not_mem_nil)⟩) (by decide +kernel)
set_option maxRecDepth 20000 in
theorem gX8_leads_X8_isLetter : GoodIn wsX8_leads (va_wsS RX8 109 yX8_isLetter wsX8_isLetter) := goodIn_app (goodIn_of _ (by decide +kernel)) ggX8_leads_X8_isLetter
set_option maxRecDepth 20000 in
theorem ggX8_leads_X8_isDigit : GoodIn wsX8_leads wsX8_isDigit := goodIn_sub (List.forall_mem_cons.mpr ⟨List.mem_cons_of_mem _ (List.mem_append_left _ (List.mem_of_getElem? (i := 15) rfl)), (fun _ h => absurd h List.not_mem_nil)⟩) (by decide +kernel)
set_option maxRecDepth 20000 in
theorem gX8_leads_X8_isDigit : GoodIn wsX8_leads (va_wsS RX8 113 yX8_isDigit wsX8_isDigit) := goodIn_app (goodIn_of _ (by decide +kernel)) ggX8_leads_X8_isDigit
theorem dX8_leads_0 : decode cX8_leads 0 = .ok (.aload_n 0, 1) := by decide +kernel
theorem dX8_leads_1 : decode cX8_leads 1 = .ok (.getfield 96, 3) := by decide +kernel
theorem dX8_leads_4 : decode cX8_leads 4 = .ok (.aload_n 0, 1) := by decide +kernel
theorem dX8_leads_5 : decode cX8_leads 5 = .ok (.getfield 88, 3) := by decide +kernel
theorem dX8_leads_8 : decode cX8_leads 8 = .ok (.if_icmp .ge 44, 3) := by decide +kernel
theorem dX8_leads_11 : decode cX8_leads 11 = .ok (.aload_n 0, 1) := by decide +kernel
theorem dX8_leads_12 : decode cX8_leads 12 = .ok (.getfield 9, 3) := by decide +kernel
theorem dX8_leads_15 : decode cX8_leads 15 = .ok (.aload_n 0, 1) := by decide +kernel
theorem dX8_leads_16 : decode cX8_leads 16 = .ok (.getfield 96, 3) := by decide +kernel
theorem dX8_leads_19 : decode cX8_leads 19 = .ok (.baload, 1) := by decide +kernel
theorem dX8_leads_20 : decode cX8_leads 20 = .ok (.bipush 32, 2) := by decide +kernel
theorem dX8_leads_22 : decode cX8_leads 22 = .ok (.if_icmp .eq 17, 3) := by decide +kernel
theorem dX8_leads_25 : decode cX8_leads 25 = .ok (.aload_n 0, 1) := by decide +kernel
theorem dX8_leads_26 : decode cX8_leads 26 = .ok (.getfield 9, 3) := by decide +kernel
theorem dX8_leads_29 : decode cX8_leads 29 = .ok (.aload_n 0, 1) := by decide +kernel
theorem dX8_leads_30 : decode cX8_leads 30 = .ok (.getfield 96, 3) := by decide +kernel
theorem dX8_leads_33 : decode cX8_leads 33 = .ok (.baload, 1) := by decide +kernel
theorem dX8_leads_34 : decode cX8_leads 34 = .ok (.bipush 10, 2) := by decide +kernel
theorem dX8_leads_36 : decode cX8_leads 36 = .ok (.if_icmp .ne 16, 3) := by decide +kernel
theorem dX8_leads_39 : decode cX8_leads 39 = .ok (.aload_n 0, 1) := by decide +kernel
theorem dX8_leads_40 : decode cX8_leads 40 = .ok (.dup, 1) := by decide +kernel
theorem dX8_leads_41 : decode cX8_leads 41 = .ok (.getfield 96, 3) := by decide +kernel
theorem dX8_leads_44 : decode cX8_leads 44 = .ok (.iconst 1, 1) := by decide +kernel
theorem dX8_leads_45 : decode cX8_leads 45 = .ok (.iadd, 1) := by decide +kernel
theorem dX8_leads_46 : decode cX8_leads 46 = .ok (.putfield 96, 3) := by decide +kernel
theorem dX8_leads_49 : decode cX8_leads 49 = .ok (.goto (-49), 3) := by decide +kernel
theorem dX8_leads_52 : decode cX8_leads 52 = .ok (.aload_n 0, 1) := by decide +kernel
theorem dX8_leads_53 : decode cX8_leads 53 = .ok (.aload_n 0, 1) := by decide +kernel
theorem dX8_leads_54 : decode cX8_leads 54 = .ok (.getfield 96, 3) := by decide +kernel
theorem dX8_leads_57 : decode cX8_leads 57 = .ok (.putfield 99, 3) := by decide +kernel
theorem dX8_leads_60 : decode cX8_leads 60 = .ok (.aload_n 0, 1) := by decide +kernel
theorem dX8_leads_61 : decode cX8_leads 61 = .ok (.lconst 0, 1) := by decide +kernel
theorem dX8_leads_62 : decode cX8_leads 62 = .ok (.putfield 102, 3) := by decide +kernel
theorem dX8_leads_65 : decode cX8_leads 65 = .ok (.aload_n 0, 1) := by decide +kernel
theorem dX8_leads_66 : decode cX8_leads 66 = .ok (.iconst 0, 1) := by decide +kernel
theorem dX8_leads_67 : decode cX8_leads 67 = .ok (.putfield 106, 3) := by decide +kernel
theorem dX8_leads_70 : decode cX8_leads 70 = .ok (.aload_n 0, 1) := by decide +kernel
theorem dX8_leads_71 : decode cX8_leads 71 = .ok (.getfield 96, 3) := by decide +kernel
theorem dX8_leads_74 : decode cX8_leads 74 = .ok (.aload_n 0, 1) := by decide +kernel
theorem dX8_leads_75 : decode cX8_leads 75 = .ok (.getfield 88, 3) := by decide +kernel
theorem dX8_leads_78 : decode cX8_leads 78 = .ok (.if_icmp .ne 4, 3) := by decide +kernel
theorem dX8_leads_81 : decode cX8_leads 81 = .ok (.return_, 1) := by decide +kernel
theorem dX8_leads_82 : decode cX8_leads 82 = .ok (.aload_n 0, 1) := by decide +kernel
theorem dX8_leads_83 : decode cX8_leads 83 = .ok (.getfield 9, 3) := by decide +kernel
theorem dX8_leads_86 : decode cX8_leads 86 = .ok (.aload_n 0, 1) := by decide +kernel
theorem dX8_leads_87 : decode cX8_leads 87 = .ok (.getfield 96, 3) := by decide +kernel
theorem dX8_leads_90 : decode cX8_leads 90 = .ok (.baload, 1) := by decide +kernel
theorem dX8_leads_91 : decode cX8_leads 91 = .ok (.istore_n 1, 1) := by decide +kernel
theorem dX8_leads_92 : decode cX8_leads 92 = .ok (.iload_n 1, 1) := by decide +kernel
theorem dX8_leads_93 : decode cX8_leads 93 = .ok (.invokestatic 109, 3) := by decide +kernel
theorem dX8_leads_96 : decode cX8_leads 96 = .ok (.ifCond .eq 105, 3) := by decide +kernel
theorem dX8_leads_99 : decode cX8_leads 99 = .ok (.aload_n 0, 1) := by decide +kernel
theorem dX8_leads_100 : decode cX8_leads 100 = .ok (.getfield 96, 3) := by decide +kernel
theorem dX8_leads_103 : decode cX8_leads 103 = .ok (.aload_n 0, 1) := by decide +kernel
theorem dX8_leads_104 : decode cX8_leads 104 = .ok (.getfield 88, 3) := by decide +kernel
theorem dX8_leads_107 : decode cX8_leads 107 = .ok (.if_icmp .ge 67, 3) := by decide +kernel
theorem dX8_leads_110 : decode cX8_leads 110 = .ok (.aload_n 0, 1) := by decide +kernel
theorem dX8_leads_111 : decode cX8_leads 111 = .ok (.getfield 9, 3) := by decide +kernel
theorem dX8_leads_114 : decode cX8_leads 114 = .ok (.aload_n 0, 1) := by decide +kernel
theorem dX8_leads_115 : decode cX8_leads 115 = .ok (.getfield 96, 3) := by decide +kernel
theorem dX8_leads_118 : decode cX8_leads 118 = .ok (.baload, 1) := by decide +kernel
theorem dX8_leads_119 : decode cX8_leads 119 = .ok (.invokestatic 109, 3) := by decide +kernel
theorem dX8_leads_122 : decode cX8_leads 122 = .ok (.ifCond .eq 52, 3) := by decide +kernel
theorem dX8_leads_125 : decode cX8_leads 125 = .ok (.aload_n 0, 1) := by decide +kernel
theorem dX8_leads_126 : decode cX8_leads 126 = .ok (.getfield 96, 3) := by decide +kernel
theorem dX8_leads_129 : decode cX8_leads 129 = .ok (.aload_n 0, 1) := by decide +kernel
theorem dX8_leads_130 : decode cX8_leads 130 = .ok (.getfield 99, 3) := by decide +kernel
theorem dX8_leads_133 : decode cX8_leads 133 = .ok (.isub, 1) := by decide +kernel
theorem dX8_leads_134 : decode cX8_leads 134 = .ok (.bipush 8, 2) := by decide +kernel
theorem dX8_leads_136 : decode cX8_leads 136 = .ok (.if_icmp .ge 25, 3) := by decide +kernel
theorem dX8_leads_139 : decode cX8_leads 139 = .ok (.aload_n 0, 1) := by decide +kernel
theorem dX8_leads_140 : decode cX8_leads 140 = .ok (.aload_n 0, 1) := by decide +kernel
theorem dX8_leads_141 : decode cX8_leads 141 = .ok (.getfield 102, 3) := by decide +kernel
theorem dX8_leads_144 : decode cX8_leads 144 = .ok (.bipush 8, 2) := by decide +kernel
theorem dX8_leads_146 : decode cX8_leads 146 = .ok (.lshl, 1) := by decide +kernel
theorem dX8_leads_147 : decode cX8_leads 147 = .ok (.aload_n 0, 1) := by decide +kernel
theorem dX8_leads_148 : decode cX8_leads 148 = .ok (.getfield 9, 3) := by decide +kernel
theorem dX8_leads_151 : decode cX8_leads 151 = .ok (.aload_n 0, 1) := by decide +kernel
theorem dX8_leads_152 : decode cX8_leads 152 = .ok (.getfield 96, 3) := by decide +kernel
theorem dX8_leads_155 : decode cX8_leads 155 = .ok (.baload, 1) := by decide +kernel
theorem dX8_leads_156 : decode cX8_leads 156 = .ok (.i2l, 1) := by decide +kernel
theorem dX8_leads_157 : decode cX8_leads 157 = .ok (.lor, 1) := by decide +kernel
theorem dX8_leads_158 : decode cX8_leads 158 = .ok (.putfield 102, 3) := by decide +kernel
theorem dX8_leads_161 : decode cX8_leads 161 = .ok (.aload_n 0, 1) := by decide +kernel
theorem dX8_leads_162 : decode cX8_leads 162 = .ok (.dup, 1) := by decide +kernel
theorem dX8_leads_163 : decode cX8_leads 163 = .ok (.getfield 96, 3) := by decide +kernel
theorem dX8_leads_166 : decode cX8_leads 166 = .ok (.iconst 1, 1) := by decide +kernel
theorem dX8_leads_167 : decode cX8_leads 167 = .ok (.iadd, 1) := by decide +kernel
theorem dX8_leads_168 : decode cX8_leads 168 = .ok (.putfield 96, 3) := by decide +kernel
theorem dX8_leads_171 : decode cX8_leads 171 = .ok (.goto (-72), 3) := by decide +kernel
theorem dX8_leads_174 : decode cX8_leads 174 = .ok (.aload_n 0, 1) := by decide +kernel
theorem dX8_leads_175 : decode cX8_leads 175 = .ok (.getfield 96, 3) := by decide +kernel
theorem dX8_leads_178 : decode cX8_leads 178 = .ok (.aload_n 0, 1) := by decide +kernel
theorem dX8_leads_179 : decode cX8_leads 179 = .ok (.getfield 99, 3) := by decide +kernel
theorem dX8_leads_182 : decode cX8_leads 182 = .ok (.isub, 1) := by decide +kernel
theorem dX8_leads_183 : decode cX8_leads 183 = .ok (.bipush 8, 2) := by decide +kernel
theorem dX8_leads_185 : decode cX8_leads 185 = .ok (.if_icmp .le 8, 3) := by decide +kernel
theorem dX8_leads_188 : decode cX8_leads 188 = .ok (.aload_n 0, 1) := by decide +kernel
theorem dX8_leads_189 : decode cX8_leads 189 = .ok (.lconst 0, 1) := by decide +kernel
theorem dX8_leads_190 : decode cX8_leads 190 = .ok (.putfield 102, 3) := by decide +kernel
theorem dX8_leads_193 : decode cX8_leads 193 = .ok (.aload_n 0, 1) := by decide +kernel
theorem dX8_leads_194 : decode cX8_leads 194 = .ok (.iconst 1, 1) := by decide +kernel
theorem dX8_leads_195 : decode cX8_leads 195 = .ok (.putfield 106, 3) := by decide +kernel
theorem dX8_leads_198 : decode cX8_leads 198 = .ok (.goto 127, 3) := by decide +kernel
theorem dX8_leads_201 : decode cX8_leads 201 = .ok (.iload_n 1, 1) := by decide +kernel
theorem dX8_leads_202 : decode cX8_leads 202 = .ok (.invokestatic 113, 3) := by decide +kernel
theorem dX8_leads_205 : decode cX8_leads 205 = .ok (.ifCond .eq 95, 3) := by decide +kernel
theorem dX8_leads_208 : decode cX8_leads 208 = .ok (.aload_n 0, 1) := by decide +kernel
theorem dX8_leads_209 : decode cX8_leads 209 = .ok (.getfield 96, 3) := by decide +kernel
theorem dX8_leads_212 : decode cX8_leads 212 = .ok (.aload_n 0, 1) := by decide +kernel
theorem dX8_leads_213 : decode cX8_leads 213 = .ok (.getfield 88, 3) := by decide +kernel
theorem dX8_leads_216 : decode cX8_leads 216 = .ok (.if_icmp .ge 76, 3) := by decide +kernel
theorem dX8_leads_219 : decode cX8_leads 219 = .ok (.aload_n 0, 1) := by decide +kernel
theorem dX8_leads_220 : decode cX8_leads 220 = .ok (.getfield 9, 3) := by decide +kernel
theorem dX8_leads_223 : decode cX8_leads 223 = .ok (.aload_n 0, 1) := by decide +kernel
theorem dX8_leads_224 : decode cX8_leads 224 = .ok (.getfield 96, 3) := by decide +kernel
theorem dX8_leads_227 : decode cX8_leads 227 = .ok (.baload, 1) := by decide +kernel
theorem dX8_leads_228 : decode cX8_leads 228 = .ok (.invokestatic 113, 3) := by decide +kernel
theorem dX8_leads_231 : decode cX8_leads 231 = .ok (.ifCond .eq 61, 3) := by decide +kernel
theorem dX8_leads_234 : decode cX8_leads 234 = .ok (.aload_n 0, 1) := by decide +kernel
theorem dX8_leads_235 : decode cX8_leads 235 = .ok (.aload_n 0, 1) := by decide +kernel
theorem dX8_leads_236 : decode cX8_leads 236 = .ok (.getfield 102, 3) := by decide +kernel
theorem dX8_leads_239 : decode cX8_leads 239 = .ok (.ldc2_w 116, 3) := by decide +kernel
theorem dX8_leads_242 : decode cX8_leads 242 = .ok (.lcmp, 1) := by decide +kernel
theorem dX8_leads_243 : decode cX8_leads 243 = .ok (.ifCond .le 10, 3) := by decide +kernel
theorem dX8_leads_246 : decode cX8_leads 246 = .ok (.aload_n 0, 1) := by decide +kernel
theorem dX8_leads_247 : decode cX8_leads 247 = .ok (.getfield 102, 3) := by decide +kernel
theorem dX8_leads_250 : decode cX8_leads 250 = .ok (.goto 26, 3) := by decide +kernel
theorem dX8_leads_253 : decode cX8_leads 253 = .ok (.ldc2_w 118, 3) := by decide +kernel
theorem dX8_leads_256 : decode cX8_leads 256 = .ok (.aload_n 0, 1) := by decide +kernel
theorem dX8_leads_257 : decode cX8_leads 257 = .ok (.getfield 102, 3) := by decide +kernel
theorem dX8_leads_260 : decode cX8_leads 260 = .ok (.lmul, 1) := by decide +kernel
theorem dX8_leads_261 : decode cX8_leads 261 = .ok (.aload_n 0, 1) := by decide +kernel
theorem dX8_leads_262 : decode cX8_leads 262 = .ok (.getfield 9, 3) := by decide +kernel
theorem dX8_leads_265 : decode cX8_leads 265 = .ok (.aload_n 0, 1) := by decide +kernel
theorem dX8_leads_266 : decode cX8_leads 266 = .ok (.getfield 96, 3) := by decide +kernel
theorem dX8_leads_269 : decode cX8_leads 269 = .ok (.baload, 1) := by decide +kernel
theorem dX8_leads_270 : decode cX8_leads 270 = .ok (.i2l, 1) := by decide +kernel
theorem dX8_leads_271 : decode cX8_leads 271 = .ok (.ladd, 1) := by decide +kernel
theorem dX8_leads_272 : decode cX8_leads 272 = .ok (.ldc2_w 120, 3) := by decide +kernel
theorem dX8_leads_275 : decode cX8_leads 275 = .ok (.lsub, 1) := by decide +kernel
theorem dX8_leads_276 : decode cX8_leads 276 = .ok (.putfield 102, 3) := by decide +kernel
theorem dX8_leads_279 : decode cX8_leads 279 = .ok (.aload_n 0, 1) := by decide +kernel
theorem dX8_leads_280 : decode cX8_leads 280 = .ok (.dup, 1) := by decide +kernel
theorem dX8_leads_281 : decode cX8_leads 281 = .ok (.getfield 96, 3) := by decide +kernel
theorem dX8_leads_284 : decode cX8_leads 284 = .ok (.iconst 1, 1) := by decide +kernel
theorem dX8_leads_285 : decode cX8_leads 285 = .ok (.iadd, 1) := by decide +kernel
theorem dX8_leads_286 : decode cX8_leads 286 = .ok (.putfield 96, 3) := by decide +kernel
theorem dX8_leads_289 : decode cX8_leads 289 = .ok (.goto (-81), 3) := by decide +kernel
theorem dX8_leads_292 : decode cX8_leads 292 = .ok (.aload_n 0, 1) := by decide +kernel
theorem dX8_leads_293 : decode cX8_leads 293 = .ok (.iconst 2, 1) := by decide +kernel
theorem dX8_leads_294 : decode cX8_leads 294 = .ok (.putfield 106, 3) := by decide +kernel
theorem dX8_leads_297 : decode cX8_leads 297 = .ok (.goto 28, 3) := by decide +kernel
theorem dX8_leads_300 : decode cX8_leads 300 = .ok (.aload_n 0, 1) := by decide +kernel
theorem dX8_leads_301 : decode cX8_leads 301 = .ok (.iload_n 1, 1) := by decide +kernel
theorem dX8_leads_302 : decode cX8_leads 302 = .ok (.bipush 59, 2) := by decide +kernel
theorem dX8_leads_304 : decode cX8_leads 304 = .ok (.if_icmp .ne 7, 3) := by decide +kernel
theorem dX8_leads_307 : decode cX8_leads 307 = .ok (.iconst 3, 1) := by decide +kernel
theorem dX8_leads_308 : decode cX8_leads 308 = .ok (.goto 4, 3) := by decide +kernel
theorem dX8_leads_311 : decode cX8_leads 311 = .ok (.iconst 4, 1) := by decide +kernel
theorem dX8_leads_312 : decode cX8_leads 312 = .ok (.putfield 106, 3) := by decide +kernel
theorem dX8_leads_315 : decode cX8_leads 315 = .ok (.aload_n 0, 1) := by decide +kernel
theorem dX8_leads_316 : decode cX8_leads 316 = .ok (.dup, 1) := by decide +kernel
theorem dX8_leads_317 : decode cX8_leads 317 = .ok (.getfield 96, 3) := by decide +kernel
theorem dX8_leads_320 : decode cX8_leads 320 = .ok (.iconst 1, 1) := by decide +kernel
theorem dX8_leads_321 : decode cX8_leads 321 = .ok (.iadd, 1) := by decide +kernel
theorem dX8_leads_322 : decode cX8_leads 322 = .ok (.putfield 96, 3) := by decide +kernel
theorem dX8_leads_325 : decode cX8_leads 325 = .ok (.return_, 1) := by decide +kernel
theorem ilX8_packed_wsX8_packed_r1 : ∀ w ∈ wsX8_packed_r1, w ∈ wsX8_packed := fun _ h => List.mem_cons_of_mem _ (List.mem_append_left _ (h))
theorem ilX8_packed_wsX8_packed_r2 : ∀ w ∈ wsX8_packed_r2, w ∈ wsX8_packed := fun _ h => List.mem_cons_of_mem _ (List.mem_append_right _ (List.mem_append_left _ (h)))
theorem ilX8_packed_wsX8_packed_r3 : ∀ w ∈ wsX8_packed_r3, w ∈ wsX8_packed := fun _ h => List.mem_cons_of_mem _ (List.mem_append_right _ (List.mem_append_right _ (h)))
set_option maxRecDepth 20000 in
theorem ggX8_packed_J0_length_8abf5 : GoodIn wsX8_packed wsJ0_length_8abf5 := goodIn_sub (List.forall_mem_cons.mpr ⟨ilX8_packed_wsX8_packed_r1 _ (List.mem_of_getElem? (i := 4) rfl), (List.forall_mem_cons.mpr ⟨ilX8_packed_wsX8_packed_r1 _ (List.mem_of_getElem? (i := 5) rfl), (List.forall_mem_cons.mpr ⟨ilX8_packed_wsX8_packed_r1 _ (List.mem_of_getElem? (i := 6) rfl), (List.forall_mem_cons.mpr ⟨ilX8_packed_wsX8_packed_r1 _ (List.mem_of_getElem? (i := 7) rfl), (List.forall_mem_cons.mpr ⟨ilX8_packed_wsX8_packed_r1 _ (List.mem_of_getElem? (i := 8) rfl), (List.forall_mem_cons.mpr ⟨ilX8_packed_wsX8_packed_r1 _ (List.mem_of_getElem? (i := 3) rfl), (List.forall_mem_cons.mpr ⟨ilX8_packed_wsX8_packed_r1 _ (List.mem_of_getElem? (i := 9) rfl), (List.forall_mem_cons.mpr ⟨ilX8_packed_wsX8_packed_r1 _ (List.mem_of_getElem? (i := 10) rfl), (List.forall_mem_cons.mpr ⟨ilX8_packed_wsX8_packed_r1 _ (List.mem_of_getElem? (i := 11) rfl), (fun _ h => absurd h List.not_mem_nil)⟩)⟩)⟩)⟩)⟩)⟩)⟩)⟩)⟩) (by decide +kernel)
set_option maxRecDepth 20000 in
theorem gX8_packed_J0_length_8abf5 : GoodIn wsX8_packed (wsV RX8 122 RJ0 yJ0_length_8abf5 wsJ0_length_8abf5) := goodIn_app (goodIn_sub (List.forall_mem_cons.mpr ⟨ilX8_packed_wsX8_packed_r1 _ (List.mem_of_getElem? (i := 0) rfl), (List.forall_mem_cons.mpr ⟨ilX8_packed_wsX8_packed_r1 _ (List.mem_of_getElem? (i := 1) rfl), (List.forall_mem_cons.mpr ⟨ilX8_packed_wsX8_packed_r1 _ (List.mem_of_getElem? (i := 2) rfl), (List.forall_mem_cons.mpr ⟨ilX8_packed_wsX8_packed_r1 _ (List.mem_of_getElem? (i := 3) rfl), (fun _ h => absurd h List.not_mem_nil)⟩)⟩)⟩)⟩) (by decide +kernel)) ggX8_packed_J0_length_8abf5
set_option maxRecDepth 20000 in
theorem ggX8_packed_J0_charAt_5068e : GoodIn wsX8_packed wsJ0_charAt_5068e := goodIn_sub (List.forall_mem_cons.mpr ⟨ilX8_packed_wsX8_packed_r1 _ (List.mem_of_getElem? (i := 15) rfl), (List.forall_mem_append.mpr ⟨(List.forall_mem_cons.mpr ⟨ilX8_packed_wsX8_packed_r1 _ (List.mem_of_getElem? (i := 5) rfl), (List.forall_mem_cons.mpr ⟨ilX8_packed_wsX8_packed_r1 _ (List.mem_of_getElem? (i := 16) rfl), (List.forall_mem_cons.mpr ⟨ilX8_packed_wsX8_packed_r1 _ (List.mem_of_getElem? (i := 17) rfl), (List.forall_mem_cons.mpr ⟨ilX8_packed_wsX8_packed_r1 _ (List.mem_of_getElem? (i := 18) rfl), (List.forall_mem_cons.mpr ⟨ilX8_packed_wsX8_packed_r1 _ (List.mem_of_getElem? (i := 3) rfl), (List.forall_mem_cons.mpr ⟨ilX8_packed_wsX8_packed_r1 _ (List.mem_of_getElem? (i := 19) rfl), (List.forall_mem_cons.mpr ⟨ilX8_packed_wsX8_packed_r1 _ (List.mem_of_getElem? (i := 10) rfl), (List.forall_mem_cons.mpr ⟨ilX8_packed_wsX8_packed_r1 _ (List.mem_of_getElem? (i := 11) rfl), (List.forall_mem_cons.mpr ⟨ilX8_packed_wsX8_packed_r1 _ (List.mem_of_getElem? (i := 20) rfl), (List.forall_mem_cons.mpr ⟨ilX8_packed_wsX8_packed_r1 _ (List.mem_of_getElem? (i := 21) rfl), (List.forall_mem_cons.mpr ⟨ilX8_packed_wsX8_packed_r1 _ (List.mem_of_getElem? (i := 22) rfl), (List.forall_mem_cons.mpr ⟨ilX8_packed_wsX8_packed_r1 _ (List.mem_of_getElem? (i := 23) rfl), (List.forall_mem_cons.mpr ⟨ilX8_packed_wsX8_packed_r2 _ (List.mem_of_getElem? (i := 0) rfl), (List.forall_mem_cons.mpr ⟨ilX8_packed_wsX8_packed_r2 _ (List.mem_of_getElem? (i := 1) rfl), (List.forall_mem_cons.mpr ⟨ilX8_packed_wsX8_packed_r2 _ (List.mem_of_getElem? (i := 2) rfl), (List.forall_mem_cons.mpr ⟨ilX8_packed_wsX8_packed_r2 _ (List.mem_of_getElem? (i := 3) rfl), (List.forall_mem_cons.mpr ⟨ilX8_packed_wsX8_packed_r2 _ (List.mem_of_getElem? (i := 4) rfl), (List.forall_mem_cons.mpr ⟨ilX8_packed_wsX8_packed_r2 _ (List.mem_of_getElem? (i := 5) rfl), (List.forall_mem_cons.mpr ⟨ilX8_packed_wsX8_packed_r2 _ (List.mem_of_getElem? (i := 6) rfl), (List.forall_mem_cons.mpr ⟨ilX8_packed_wsX8_packed_r2 _ (List.mem_of_getElem? (i := 7) rfl), (List.forall_mem_cons.mpr ⟨ilX8_packed_wsX8_packed_r2 _ (List.mem_of_getElem? (i := 8) rfl), (List.forall_mem_cons.mpr ⟨ilX8_packed_wsX8_packed_r2 _ (List.mem_of_getElem? (i := 9) rfl), (List.forall_mem_cons.mpr ⟨ilX8_packed_wsX8_packed_r2 _ (List.mem_of_getElem? (i := 10) rfl), (List.forall_mem_cons.mpr ⟨ilX8_packed_wsX8_packed_r2 _ (List.mem_of_getElem? (i := 11) rfl), (fun _ h => absurd h List.not_mem_nil)⟩)⟩)⟩)⟩)⟩)⟩)⟩)⟩)⟩)⟩)⟩)⟩)⟩)⟩)⟩)⟩)⟩)⟩)⟩)⟩)⟩)⟩)⟩)⟩), (List.forall_mem_cons.mpr ⟨ilX8_packed_wsX8_packed_r2 _ (List.mem_of_getElem? (i := 12) rfl), (List.forall_mem_cons.mpr ⟨ilX8_packed_wsX8_packed_r2 _ (List.mem_of_getElem? (i := 13) rfl), (List.forall_mem_cons.mpr ⟨ilX8_packed_wsX8_packed_r2 _ (List.mem_of_getElem? (i := 14) rfl), (List.forall_mem_cons.mpr ⟨ilX8_packed_wsX8_packed_r2 _ (List.mem_of_getElem? (i := 15) rfl), (List.forall_mem_cons.mpr ⟨ilX8_packed_wsX8_packed_r2 _ (List.mem_of_getElem? (i := 16) rfl), (List.forall_mem_cons.mpr ⟨ilX8_packed_wsX8_packed_r2 _ (List.mem_of_getElem? (i := 17) rfl), (List.forall_mem_cons.mpr ⟨ilX8_packed_wsX8_packed_r2 _ (List.mem_of_getElem? (i := 18) rfl), (List.forall_mem_cons.mpr ⟨ilX8_packed_wsX8_packed_r2 _ (List.mem_of_getElem? (i := 19) rfl), (List.forall_mem_cons.mpr ⟨ilX8_packed_wsX8_packed_r2 _ (List.mem_of_getElem? (i := 20) rfl), (List.forall_mem_cons.mpr ⟨ilX8_packed_wsX8_packed_r2 _ (List.mem_of_getElem? (i := 21) rfl), (List.forall_mem_cons.mpr ⟨ilX8_packed_wsX8_packed_r2 _ (List.mem_of_getElem? (i := 22) rfl), (List.forall_mem_cons.mpr ⟨ilX8_packed_wsX8_packed_r2 _ (List.mem_of_getElem? (i := 23) rfl), (List.forall_mem_cons.mpr ⟨ilX8_packed_wsX8_packed_r3 _ (List.mem_of_getElem? (i := 0) rfl), (fun _ h => absurd h List.not_mem_nil)⟩)⟩)⟩)⟩)⟩)⟩)⟩)⟩)⟩)⟩)⟩)⟩)⟩)⟩)⟩) (by decide +kernel)
set_option maxRecDepth 20000 in
theorem gX8_packed_J0_charAt_5068e : GoodIn wsX8_packed (wsV RX8 128 RJ0 yJ0_charAt_5068e wsJ0_charAt_5068e) := goodIn_app (goodIn_sub (List.forall_mem_cons.mpr ⟨ilX8_packed_wsX8_packed_r1 _ (List.mem_of_getElem? (i := 12) rfl), (List.forall_mem_cons.mpr ⟨ilX8_packed_wsX8_packed_r1 _ (List.mem_of_getElem? (i := 13) rfl), (List.forall_mem_cons.mpr ⟨ilX8_packed_wsX8_packed_r1 _ (List.mem_of_getElem? (i := 14) rfl), (List.forall_mem_cons.mpr ⟨ilX8_packed_wsX8_packed_r1 _ (List.mem_of_getElem? (i := 3) rfl), (fun _ h => absurd h List.not_mem_nil)⟩)⟩)⟩)⟩) (by decide +kernel)) ggX8_packed_J0_charAt_5068e
theorem dX8_packed_0 : decode cX8_packed 0 = .ok (.lconst 0, 1) := by decide +kernel
theorem dX8_packed_1 : decode cX8_packed 1 = .ok (.lstore_n 1, 1) := by decide +kernel
theorem dX8_packed_2 : decode cX8_packed 2 = .ok (.iconst 0, 1) := by decide +kernel
theorem dX8_packed_3 : decode cX8_packed 3 = .ok (.istore_n 3, 1) := by decide +kernel
theorem dX8_packed_4 : decode cX8_packed 4 = .ok (.iload_n 3, 1) := by decide +kernel
theorem dX8_packed_5 : decode cX8_packed 5 = .ok (.aload_n 0, 1) := by decide +kernel
theorem dX8_packed_6 : decode cX8_packed 6 = .ok (.invokevirtual 122, 3) := by decide +kernel
theorem dX8_packed_9 : decode cX8_packed 9 = .ok (.if_icmp .ge 21, 3) := by decide +kernel
theorem dX8_packed_12 : decode cX8_packed 12 = .ok (.lload_n 1, 1) := by decide +kernel
theorem dX8_packed_13 : decode cX8_packed 13 = .ok (.bipush 8, 2) := by decide +kernel
theorem dX8_packed_15 : decode cX8_packed 15 = .ok (.lshl, 1) := by decide +kernel
theorem dX8_packed_16 : decode cX8_packed 16 = .ok (.aload_n 0, 1) := by decide +kernel
theorem dX8_packed_17 : decode cX8_packed 17 = .ok (.iload_n 3, 1) := by decide +kernel
theorem dX8_packed_18 : decode cX8_packed 18 = .ok (.invokevirtual 128, 3) := by decide +kernel
theorem dX8_packed_21 : decode cX8_packed 21 = .ok (.i2l, 1) := by decide +kernel
theorem dX8_packed_22 : decode cX8_packed 22 = .ok (.lor, 1) := by decide +kernel
theorem dX8_packed_23 : decode cX8_packed 23 = .ok (.lstore_n 1, 1) := by decide +kernel
theorem dX8_packed_24 : decode cX8_packed 24 = .ok (.iinc 3 1, 3) := by decide +kernel
theorem dX8_packed_27 : decode cX8_packed 27 = .ok (.goto (-23), 3) := by decide +kernel
theorem dX8_packed_30 : decode cX8_packed 30 = .ok (.lload_n 1, 1) := by decide +kernel
theorem dX8_packed_31 : decode cX8_packed 31 = .ok (.lreturn, 1) := by decide +kernel
theorem ilX8_isWord_wsX8_isWord_r1 : ∀ w ∈ wsX8_isWord_r1, w ∈ wsX8_isWord := fun _ h => List.mem_cons_of_mem _ (List.mem_append_left _ (List.mem_append_left _ (h)))
theorem ilX8_isWord_wsX8_isWord_r2 : ∀ w ∈ wsX8_isWord_r2, w ∈ wsX8_isWord := fun _ h => List.mem_cons_of_mem _ (List.mem_append_left _ (List.mem_append_right _ (List.mem_append_left _ (h))))
theorem ilX8_isWord_wsX8_isWord_r3 : ∀ w ∈ wsX8_isWord_r3, w ∈ wsX8_isWord := fun _ h => List.mem_cons_of_mem _ (List.mem_append_left _ (List.mem_append_right _ (List.mem_append_right _ (h))))
theorem ilX8_isWord_wsX80 : ∀ w ∈ wsX80, w ∈ wsX8_isWord := fun _ h => List.mem_cons_of_mem _ (List.mem_append_right _ (h))
set_option maxRecDepth 20000 in
theorem ggX8_isWord_X8_packed : GoodIn wsX8_isWord wsX8_packed := goodIn_sub (List.forall_mem_cons.mpr ⟨ilX8_isWord_wsX8_isWord_r1 _ (List.mem_of_getElem? (i := 5) rfl), (List.forall_mem_append.mpr ⟨(List.forall_mem_cons.mpr ⟨ilX8_isWord_wsX8_isWord_r1 _ (List.mem_of_getElem? (i := 6) rfl), (List.forall_mem_cons.mpr ⟨ilX8_isWord_wsX8_isWord_r1 _ (List.mem_of_getElem? (i := 7) rfl), (List.forall_mem_cons.mpr ⟨ilX8_isWord_wsX8_isWord_r1 _ (List.mem_of_getElem? (i := 8) rfl), (List.forall_mem_cons.mpr ⟨ilX8_isWord_wsX8_isWord_r1 _ (List.mem_of_getElem? (i := 9) rfl), (List.forall_mem_cons.mpr ⟨ilX8_isWord_wsX8_isWord_r1 _ (List.mem_of_getElem? (i := 10) rfl), (List.forall_mem_cons.mpr ⟨ilX8_isWord_wsX8_isWord_r1 _ (List.mem_of_getElem? (i := 11) rfl), (List.forall_mem_cons.mpr ⟨ilX8_isWord_wsX8_isWord_r1 _ (List.mem_of_getElem? (i := 12) rfl), (List.forall_mem_cons.mpr ⟨ilX8_isWord_wsX8_isWord_r1 _ (List.mem_of_getElem? (i := 13) rfl), (List.forall_mem_cons.mpr ⟨ilX8_isWord_wsX8_isWord_r1 _ (List.mem_of_getElem? (i := 14) rfl), (List.forall_mem_cons.mpr ⟨ilX8_isWord_wsX8_isWord_r1 _ (List.mem_of_getElem? (i := 15) rfl), (List.forall_mem_cons.mpr ⟨ilX8_isWord_wsX8_isWord_r1 _ (List.mem_of_getElem? (i := 16) rfl), (List.forall_mem_cons.mpr ⟨ilX8_isWord_wsX8_isWord_r1 _ (List.mem_of_getElem? (i := 17) rfl), (List.forall_mem_cons.mpr ⟨ilX8_isWord_wsX8_isWord_r1 _ (List.mem_of_getElem? (i := 18) rfl), (List.forall_mem_cons.mpr ⟨ilX8_isWord_wsX8_isWord_r1 _ (List.mem_of_getElem? (i := 19) rfl), (List.forall_mem_cons.mpr ⟨ilX8_isWord_wsX8_isWord_r1 _ (List.mem_of_getElem? (i := 20) rfl), (List.forall_mem_cons.mpr ⟨ilX8_isWord_wsX8_isWord_r1 _ (List.mem_of_getElem? (i := 21) rfl), (List.forall_mem_cons.mpr ⟨ilX8_isWord_wsX8_isWord_r1 _ (List.mem_of_getElem? (i := 22) rfl), (List.forall_mem_cons.mpr ⟨ilX8_isWord_wsX8_isWord_r1 _ (List.mem_of_getElem? (i := 23) rfl), (List.forall_mem_cons.mpr ⟨ilX8_isWord_wsX8_isWord_r2 _ (List.mem_of_getElem? (i := 0) rfl), (List.forall_mem_cons.mpr ⟨ilX8_isWord_wsX8_isWord_r2 _ (List.mem_of_getElem? (i := 1) rfl), (List.forall_mem_cons.mpr ⟨ilX8_isWord_wsX8_isWord_r2 _ (List.mem_of_getElem? (i := 2) rfl), (List.forall_mem_cons.mpr ⟨ilX8_isWord_wsX8_isWord_r2 _ (List.mem_of_getElem? (i := 3) rfl), (List.forall_mem_cons.mpr ⟨ilX8_isWord_wsX8_isWord_r2 _ (List.mem_of_getElem? (i := 4) rfl), (List.forall_mem_cons.mpr ⟨ilX8_isWord_wsX8_isWord_r2 _ (List.mem_of_getElem? (i := 5) rfl), (fun _ h => absurd h List.not_mem_nil)⟩)⟩)⟩)⟩)⟩)⟩)⟩)⟩)⟩)⟩)⟩)⟩)⟩)⟩)⟩)⟩)⟩)⟩)⟩)⟩)⟩)⟩)⟩)⟩), (List.forall_mem_append.mpr ⟨(List.forall_mem_cons.mpr ⟨ilX8_isWord_wsX8_isWord_r2 _ (List.mem_of_getElem? (i := 6) rfl), (List.forall_mem_cons.mpr ⟨ilX8_isWord_wsX8_isWord_r2 _ (List.mem_of_getElem? (i := 7) rfl), (List.forall_mem_cons.mpr ⟨ilX8_isWord_wsX8_isWord_r2 _ (List.mem_of_getElem? (i := 8) rfl), (List.forall_mem_cons.mpr ⟨ilX8_isWord_wsX8_isWord_r2 _ (List.mem_of_getElem? (i := 9) rfl), (List.forall_mem_cons.mpr ⟨ilX8_isWord_wsX8_isWord_r2 _ (List.mem_of_getElem? (i := 10) rfl), (List.forall_mem_cons.mpr ⟨ilX8_isWord_wsX8_isWord_r2 _ (List.mem_of_getElem? (i := 11) rfl), (List.forall_mem_cons.mpr ⟨ilX8_isWord_wsX8_isWord_r2 _ (List.mem_of_getElem? (i := 12) rfl), (List.forall_mem_cons.mpr ⟨ilX8_isWord_wsX8_isWord_r2 _ (List.mem_of_getElem? (i := 13) rfl), (List.forall_mem_cons.mpr ⟨ilX8_isWord_wsX8_isWord_r2 _ (List.mem_of_getElem? (i := 14) rfl), (List.forall_mem_cons.mpr ⟨ilX8_isWord_wsX8_isWord_r2 _ (List.mem_of_getElem? (i := 15) rfl), (List.forall_mem_cons.mpr ⟨ilX8_isWord_wsX8_isWord_r2 _ (List.mem_of_getElem? (i := 16) rfl), (List.forall_mem_cons.mpr ⟨ilX8_isWord_wsX8_isWord_r2 _ (List.mem_of_getElem? (i := 17) rfl), (List.forall_mem_cons.mpr ⟨ilX8_isWord_wsX8_isWord_r2 _ (List.mem_of_getElem? (i := 18) rfl), (List.forall_mem_cons.mpr ⟨ilX8_isWord_wsX8_isWord_r2 _ (List.mem_of_getElem? (i := 19) rfl), (List.forall_mem_cons.mpr ⟨ilX8_isWord_wsX8_isWord_r2 _ (List.mem_of_getElem? (i := 20) rfl), (List.forall_mem_cons.mpr ⟨ilX8_isWord_wsX8_isWord_r2 _ (List.mem_of_getElem? (i := 21) rfl), (List.forall_mem_cons.mpr ⟨ilX8_isWord_wsX8_isWord_r2 _ (List.mem_of_getElem? (i := 22) rfl), (List.forall_mem_cons.mpr ⟨ilX8_isWord_wsX8_isWord_r2 _ (List.mem_of_getElem? (i := 23) rfl), (List.forall_mem_cons.mpr ⟨ilX8_isWord_wsX8_isWord_r3 _ (List.mem_of_getElem? (i := 0) rfl), (List.forall_mem_cons.mpr ⟨ilX8_isWord_wsX8_isWord_r3 _ (List.mem_of_getElem? (i := 1) rfl), (List.forall_mem_cons.mpr ⟨ilX8_isWord_wsX8_isWord_r3 _ (List.mem_of_getElem? (i := 2) rfl), (List.forall_mem_cons.mpr ⟨ilX8_isWord_wsX8_isWord_r3 _ (List.mem_of_getElem? (i := 3) rfl), (List.forall_mem_cons.mpr ⟨ilX8_isWord_wsX8_isWord_r3 _ (List.mem_of_getElem? (i := 4) rfl), (List.forall_mem_cons.mpr ⟨ilX8_isWord_wsX8_isWord_r3 _ (List.mem_of_getElem? (i := 5) rfl), (fun _ h => absurd h List.not_mem_nil)⟩)⟩)⟩)⟩)⟩)⟩)⟩)⟩)⟩)⟩)⟩)⟩)⟩)⟩)⟩)⟩)⟩)⟩)⟩)⟩)⟩)⟩)⟩)⟩), (List.forall_mem_cons.mpr ⟨ilX8_isWord_wsX8_isWord_r3 _ (List.mem_of_getElem? (i := 6) rfl), (fun _ h => absurd h List.not_mem_nil)⟩)⟩)⟩)⟩) (by decide +kernel)
set_option maxRecDepth 20000 in
theorem gX8_isWord_X8_packed : GoodIn wsX8_isWord (va_wsS RX8 132 yX8_packed wsX8_packed) := goodIn_app (goodIn_of _ (by decide +kernel)) ggX8_isWord_X8_packed
theorem dX8_isWord_0 : decode cX8_isWord 0 = .ok (.aload_n 0, 1) := by decide +kernel
theorem dX8_isWord_1 : decode cX8_isWord 1 = .ok (.getfield 106, 3) := by decide +kernel
theorem dX8_isWord_4 : decode cX8_isWord 4 = .ok (.iconst 1, 1) := by decide +kernel
theorem dX8_isWord_5 : decode cX8_isWord 5 = .ok (.if_icmp .ne 19, 3) := by decide +kernel
theorem dX8_isWord_8 : decode cX8_isWord 8 = .ok (.aload_n 0, 1) := by decide +kernel
theorem dX8_isWord_9 : decode cX8_isWord 9 = .ok (.getfield 102, 3) := by decide +kernel
theorem dX8_isWord_12 : decode cX8_isWord 12 = .ok (.aload_n 1, 1) := by decide +kernel
theorem dX8_isWord_13 : decode cX8_isWord 13 = .ok (.invokestatic 132, 3) := by decide +kernel
theorem dX8_isWord_16 : decode cX8_isWord 16 = .ok (.lcmp, 1) := by decide +kernel
theorem dX8_isWord_17 : decode cX8_isWord 17 = .ok (.ifCond .ne 7, 3) := by decide +kernel
theorem dX8_isWord_20 : decode cX8_isWord 20 = .ok (.iconst 1, 1) := by decide +kernel
theorem dX8_isWord_21 : decode cX8_isWord 21 = .ok (.goto 4, 3) := by decide +kernel
theorem dX8_isWord_24 : decode cX8_isWord 24 = .ok (.iconst 0, 1) := by decide +kernel
theorem dX8_isWord_25 : decode cX8_isWord 25 = .ok (.ireturn, 1) := by decide +kernel
theorem ilX8_kindHere_wsX8_kindHere_r1 : ∀ w ∈ wsX8_kindHere_r1, w ∈ wsX8_kindHere := fun _ h => List.mem_cons_of_mem _ (List.mem_append_left _ (List.mem_append_left _ (h)))
theorem ilX8_kindHere_wsX8_kindHere_r2 : ∀ w ∈ wsX8_kindHere_r2, w ∈ wsX8_kindHere := fun _ h => List.mem_cons_of_mem _ (List.mem_append_left _ (List.mem_append_right _ (List.mem_append_left _ (h))))
theorem ilX8_kindHere_wsX8_kindHere_r3 : ∀ w ∈ wsX8_kindHere_r3, w ∈ wsX8_kindHere := fun _ h => List.mem_cons_of_mem _ (List.mem_append_left _ (List.mem_append_right _ (List.mem_append_right _ (h))))
theorem ilX8_kindHere_wsX80 : ∀ w ∈ wsX80, w ∈ wsX8_kindHere := fun _ h => List.mem_cons_of_mem _ (List.mem_append_right _ (h))
set_option maxRecDepth 20000 in
theorem ggX8_kindHere_X8_isWord : GoodIn wsX8_kindHere wsX8_isWord := goodIn_sub (List.forall_mem_cons.mpr ⟨ilX8_kindHere_wsX8_kindHere_r1 _ (List.mem_of_getElem? (i := 4) rfl), (List.forall_mem_append.mpr ⟨(List.forall_mem_append.mpr ⟨(List.forall_mem_cons.mpr ⟨ilX8_kindHere_wsX8_kindHere_r1 _ (List.mem_of_getElem? (i := 5) rfl), (List.forall_mem_cons.mpr ⟨ilX8_kindHere_wsX8_kindHere_r1 _ (List.mem_of_getElem? (i := 6) rfl), (List.forall_mem_cons.mpr ⟨ilX8_kindHere_wsX8_kindHere_r1 _ (List.mem_of_getElem? (i := 7) rfl), (List.forall_mem_cons.mpr ⟨ilX8_kindHere_wsX8_kindHere_r1 _ (List.mem_of_getElem? (i := 8) rfl), (List.forall_mem_cons.mpr ⟨ilX8_kindHere_wsX8_kindHere_r1 _ (List.mem_of_getElem? (i := 3) rfl), (List.forall_mem_cons.mpr ⟨ilX8_kindHere_wsX8_kindHere_r1 _ (List.mem_of_getElem? (i := 9) rfl), (List.forall_mem_cons.mpr ⟨ilX8_kindHere_wsX8_kindHere_r1 _ (List.mem_of_getElem? (i := 10) rfl), (List.forall_mem_cons.mpr ⟨ilX8_kindHere_wsX8_kindHere_r1 _ (List.mem_of_getElem? (i := 11) rfl), (List.forall_mem_cons.mpr ⟨ilX8_kindHere_wsX8_kindHere_r1 _ (List.mem_of_getElem? (i := 12) rfl), (List.forall_mem_cons.mpr ⟨ilX8_kindHere_wsX8_kindHere_r1 _ (List.mem_of_getElem? (i := 13) rfl), (List.forall_mem_cons.mpr ⟨ilX8_kindHere_wsX8_kindHere_r1 _ (List.mem_of_getElem? (i := 14) rfl), (List.forall_mem_cons.mpr ⟨ilX8_kindHere_wsX8_kindHere_r1 _ (List.mem_of_getElem? (i := 15) rfl), (List.forall_mem_cons.mpr ⟨ilX8_kindHere_wsX8_kindHere_r1 _ (List.mem_of_getElem? (i := 16) rfl), (List.forall_mem_cons.mpr ⟨ilX8_kindHere_wsX8_kindHere_r1 _ (List.mem_of_getElem? (i := 17) rfl), (List.forall_mem_cons.mpr ⟨ilX8_kindHere_wsX8_kindHere_r1 _ (List.mem_of_getElem? (i := 18) rfl), (List.forall_mem_cons.mpr ⟨ilX8_kindHere_wsX8_kindHere_r1 _ (List.mem_of_getElem? (i := 19) rfl), (List.forall_mem_cons.mpr ⟨ilX8_kindHere_wsX8_kindHere_r1 _ (List.mem_of_getElem? (i := 20) rfl), (List.forall_mem_cons.mpr ⟨ilX8_kindHere_wsX8_kindHere_r1 _ (List.mem_of_getElem? (i := 21) rfl), (List.forall_mem_cons.mpr ⟨ilX8_kindHere_wsX8_kindHere_r1 _ (List.mem_of_getElem? (i := 22) rfl), (List.forall_mem_cons.mpr ⟨ilX8_kindHere_wsX8_kindHere_r1 _ (List.mem_of_getElem? (i := 23) rfl), (List.forall_mem_cons.mpr ⟨ilX8_kindHere_wsX8_kindHere_r2 _ (List.mem_of_getElem? (i := 0) rfl), (List.forall_mem_cons.mpr ⟨ilX8_kindHere_wsX8_kindHere_r2 _ (List.mem_of_getElem? (i := 1) rfl), (List.forall_mem_cons.mpr ⟨ilX8_kindHere_wsX8_kindHere_r2 _ (List.mem_of_getElem? (i := 2) rfl), (List.forall_mem_cons.mpr ⟨ilX8_kindHere_wsX8_kindHere_r2 _ (List.mem_of_getElem? (i := 3) rfl), (fun _ h => absurd h List.not_mem_nil)⟩)⟩)⟩)⟩)⟩)⟩)⟩)⟩)⟩)⟩)⟩)⟩)⟩)⟩)⟩)⟩)⟩)⟩)⟩)⟩)⟩)⟩)⟩)⟩), (List.forall_mem_append.mpr ⟨(List.forall_mem_cons.mpr ⟨ilX8_kindHere_wsX8_kindHere_r2 _ (List.mem_of_getElem? (i := 4) rfl), (List.forall_mem_cons.mpr ⟨ilX8_kindHere_wsX8_kindHere_r2 _ (List.mem_of_getElem? (i := 5) rfl), (List.forall_mem_cons.mpr ⟨ilX8_kindHere_wsX8_kindHere_r2 _ (List.mem_of_getElem? (i := 6) rfl), (List.forall_mem_cons.mpr ⟨ilX8_kindHere_wsX8_kindHere_r2 _ (List.mem_of_getElem? (i := 7) rfl), (List.forall_mem_cons.mpr ⟨ilX8_kindHere_wsX8_kindHere_r2 _ (List.mem_of_getElem? (i := 8) rfl), (List.forall_mem_cons.mpr ⟨ilX8_kindHere_wsX8_kindHere_r2 _ (List.mem_of_getElem? (i := 9) rfl), (List.forall_mem_cons.mpr ⟨ilX8_kindHere_wsX8_kindHere_r2 _ (List.mem_of_getElem? (i := 10) rfl), (List.forall_mem_cons.mpr ⟨ilX8_kindHere_wsX8_kindHere_r2 _ (List.mem_of_getElem? (i := 11) rfl), (List.forall_mem_cons.mpr ⟨ilX8_kindHere_wsX8_kindHere_r2 _ (List.mem_of_getElem? (i := 12) rfl), (List.forall_mem_cons.mpr ⟨ilX8_kindHere_wsX8_kindHere_r2 _ (List.mem_of_getElem? (i := 13) rfl), (List.forall_mem_cons.mpr ⟨ilX8_kindHere_wsX8_kindHere_r2 _ (List.mem_of_getElem? (i := 14) rfl), (List.forall_mem_cons.mpr ⟨ilX8_kindHere_wsX8_kindHere_r2 _ (List.mem_of_getElem? (i := 15) rfl), (List.forall_mem_cons.mpr ⟨ilX8_kindHere_wsX8_kindHere_r2 _ (List.mem_of_getElem? (i := 16) rfl), (List.forall_mem_cons.mpr ⟨ilX8_kindHere_wsX8_kindHere_r2 _ (List.mem_of_getElem? (i := 17) rfl), (List.forall_mem_cons.mpr ⟨ilX8_kindHere_wsX8_kindHere_r2 _ (List.mem_of_getElem? (i := 18) rfl), (List.forall_mem_cons.mpr ⟨ilX8_kindHere_wsX8_kindHere_r2 _ (List.mem_of_getElem? (i := 19) rfl), (List.forall_mem_cons.mpr ⟨ilX8_kindHere_wsX8_kindHere_r2 _ (List.mem_of_getElem? (i := 20) rfl), (List.forall_mem_cons.mpr ⟨ilX8_kindHere_wsX8_kindHere_r2 _ (List.mem_of_getElem? (i := 21) rfl), (List.forall_mem_cons.mpr ⟨ilX8_kindHere_wsX8_kindHere_r2 _ (List.mem_of_getElem? (i := 22) rfl), (List.forall_mem_cons.mpr ⟨ilX8_kindHere_wsX8_kindHere_r2 _ (List.mem_of_getElem? (i := 23) rfl), (List.forall_mem_cons.mpr ⟨ilX8_kindHere_wsX8_kindHere_r3 _ (List.mem_of_getElem? (i := 0) rfl), (List.forall_mem_cons.mpr ⟨ilX8_kindHere_wsX8_kindHere_r3 _ (List.mem_of_getElem? (i := 1) rfl), (List.forall_mem_cons.mpr ⟨ilX8_kindHere_wsX8_kindHere_r3 _ (List.mem_of_getElem? (i := 2) rfl), (List.forall_mem_cons.mpr ⟨ilX8_kindHere_wsX8_kindHere_r3 _ (List.mem_of_getElem? (i := 3) rfl), (fun _ h => absurd h List.not_mem_nil)⟩)⟩)⟩)⟩)⟩)⟩)⟩)⟩)⟩)⟩)⟩)⟩)⟩)⟩)⟩)⟩)⟩)⟩)⟩)⟩)⟩)⟩)⟩)⟩), (List.forall_mem_cons.mpr ⟨ilX8_kindHere_wsX8_kindHere_r3 _ (List.mem_of_getElem? (i := 4) rfl), (List.forall_mem_cons.mpr ⟨ilX8_kindHere_wsX8_kindHere_r3 _ (List.mem_of_getElem? (i := 5) rfl), (List.forall_mem_cons.mpr ⟨ilX8_kindHere_wsX8_kindHere_r3 _ (List.mem_of_getElem? (i := 6) rfl), (List.forall_mem_cons.mpr ⟨ilX8_kindHere_wsX8_kindHere_r3 _ (List.mem_of_getElem? (i := 7) rfl), (List.forall_mem_cons.mpr ⟨ilX8_kindHere_wsX8_kindHere_r3 _ (List.mem_of_getElem? (i := 8) rfl), (List.forall_mem_cons.mpr ⟨ilX8_kindHere_wsX8_kindHere_r3 _ (List.mem_of_getElem? (i := 9) rfl), (List.forall_mem_cons.mpr ⟨ilX8_kindHere_wsX8_kindHere_r3 _ (List.mem_of_getElem? (i := 10) rfl), (fun _ h => absurd h List.not_mem_nil)⟩)⟩)⟩)⟩)⟩)⟩)⟩)⟩)⟩), ilX8_kindHere_wsX80⟩)⟩) (by decide +kernel)
set_option maxRecDepth 20000 in
theorem gX8_kindHere_X8_isWord : GoodIn wsX8_kindHere (wsV RX8 138 RX8 yX8_isWord wsX8_isWord) := goodIn_app (goodIn_sub (List.forall_mem_cons.mpr ⟨ilX8_kindHere_wsX8_kindHere_r1 _ (List.mem_of_getElem? (i := 0) rfl), (List.forall_mem_cons.mpr ⟨ilX8_kindHere_wsX8_kindHere_r1 _ (List.mem_of_getElem? (i := 1) rfl), (List.forall_mem_cons.mpr ⟨ilX8_kindHere_wsX8_kindHere_r1 _ (List.mem_of_getElem? (i := 2) rfl), (List.forall_mem_cons.mpr ⟨ilX8_kindHere_wsX8_kindHere_r1 _ (List.mem_of_getElem? (i := 3) rfl), (fun _ h => absurd h List.not_mem_nil)⟩)⟩)⟩)⟩) (by decide +kernel)) ggX8_kindHere_X8_isWord
theorem dX8_kindHere_0 : decode cX8_kindHere 0 = .ok (.aload_n 0, 1) := by decide +kernel
theorem dX8_kindHere_1 : decode cX8_kindHere 1 = .ok (.ldc 136, 2) := by decide +kernel
theorem dX8_kindHere_3 : decode cX8_kindHere 3 = .ok (.invokevirtual 138, 3) := by decide +kernel
theorem dX8_kindHere_6 : decode cX8_kindHere 6 = .ok (.ifCond .eq 7, 3) := by decide +kernel
theorem dX8_kindHere_9 : decode cX8_kindHere 9 = .ok (.iconst 0, 1) := by decide +kernel
theorem dX8_kindHere_10 : decode cX8_kindHere 10 = .ok (.goto 56, 3) := by decide +kernel
theorem dX8_kindHere_13 : decode cX8_kindHere 13 = .ok (.aload_n 0, 1) := by decide +kernel
theorem dX8_kindHere_14 : decode cX8_kindHere 14 = .ok (.ldc 142, 2) := by decide +kernel
theorem dX8_kindHere_16 : decode cX8_kindHere 16 = .ok (.invokevirtual 138, 3) := by decide +kernel
theorem dX8_kindHere_19 : decode cX8_kindHere 19 = .ok (.ifCond .eq 7, 3) := by decide +kernel
theorem dX8_kindHere_22 : decode cX8_kindHere 22 = .ok (.iconst 1, 1) := by decide +kernel
theorem dX8_kindHere_23 : decode cX8_kindHere 23 = .ok (.goto 43, 3) := by decide +kernel
theorem dX8_kindHere_26 : decode cX8_kindHere 26 = .ok (.aload_n 0, 1) := by decide +kernel
theorem dX8_kindHere_27 : decode cX8_kindHere 27 = .ok (.ldc 144, 2) := by decide +kernel
theorem dX8_kindHere_29 : decode cX8_kindHere 29 = .ok (.invokevirtual 138, 3) := by decide +kernel
theorem dX8_kindHere_32 : decode cX8_kindHere 32 = .ok (.ifCond .eq 7, 3) := by decide +kernel
theorem dX8_kindHere_35 : decode cX8_kindHere 35 = .ok (.iconst 2, 1) := by decide +kernel
theorem dX8_kindHere_36 : decode cX8_kindHere 36 = .ok (.goto 30, 3) := by decide +kernel
theorem dX8_kindHere_39 : decode cX8_kindHere 39 = .ok (.aload_n 0, 1) := by decide +kernel
theorem dX8_kindHere_40 : decode cX8_kindHere 40 = .ok (.ldc 146, 2) := by decide +kernel
theorem dX8_kindHere_42 : decode cX8_kindHere 42 = .ok (.invokevirtual 138, 3) := by decide +kernel
theorem dX8_kindHere_45 : decode cX8_kindHere 45 = .ok (.ifCond .eq 7, 3) := by decide +kernel
theorem dX8_kindHere_48 : decode cX8_kindHere 48 = .ok (.iconst 3, 1) := by decide +kernel
theorem dX8_kindHere_49 : decode cX8_kindHere 49 = .ok (.goto 17, 3) := by decide +kernel
theorem dX8_kindHere_52 : decode cX8_kindHere 52 = .ok (.aload_n 0, 1) := by decide +kernel
theorem dX8_kindHere_53 : decode cX8_kindHere 53 = .ok (.ldc 148, 2) := by decide +kernel
theorem dX8_kindHere_55 : decode cX8_kindHere 55 = .ok (.invokevirtual 138, 3) := by decide +kernel
theorem dX8_kindHere_58 : decode cX8_kindHere 58 = .ok (.ifCond .eq 7, 3) := by decide +kernel
theorem dX8_kindHere_61 : decode cX8_kindHere 61 = .ok (.iconst 4, 1) := by decide +kernel
theorem dX8_kindHere_62 : decode cX8_kindHere 62 = .ok (.goto 4, 3) := by decide +kernel
theorem dX8_kindHere_65 : decode cX8_kindHere 65 = .ok (.iconst (-1), 1) := by decide +kernel
theorem dX8_kindHere_66 : decode cX8_kindHere 66 = .ok (.ireturn, 1) := by decide +kernel
theorem ilX8_isName_wsX8_isName_r1 : ∀ w ∈ wsX8_isName_r1, w ∈ wsX8_isName := fun _ h => List.mem_cons_of_mem _ (List.mem_append_left _ (List.mem_append_left _ (h)))
theorem ilX8_isName_wsX8_isName_r2 : ∀ w ∈ wsX8_isName_r2, w ∈ wsX8_isName := fun _ h => List.mem_cons_of_mem _ (List.mem_append_left _ (List.mem_append_right _ (List.mem_append_left _ (h))))
theorem ilX8_isName_wsX8_isName_r3 : ∀ w ∈ wsX8_isName_r3, w ∈ wsX8_isName := fun _ h => List.mem_cons_of_mem _ (List.mem_append_left _ (List.mem_append_right _ (List.mem_append_right _ (h))))
theorem ilX8_isName_wsX80 : ∀ w ∈ wsX80, w ∈ wsX8_isName := fun _ h => List.mem_cons_of_mem _ (List.mem_append_right _ (h))
set_option maxRecDepth 20000 in
theorem ggX8_isName_X8_kindHere : GoodIn wsX8_isName wsX8_kindHere := goodIn_sub (List.forall_mem_cons.mpr ⟨ilX8_isName_wsX8_isName_r1 _ (List.mem_of_getElem? (i := 6) rfl), (List.forall_mem_append.mpr ⟨(List.forall_mem_append.mpr ⟨(List.forall_mem_cons.mpr ⟨ilX8_isName_wsX8_isName_r1 _ (List.mem_of_getElem? (i := 7) rfl), (List.forall_mem_cons.mpr ⟨ilX8_isName_wsX8_isName_r1 _ (List.mem_of_getElem? (i := 8) rfl), (List.forall_mem_cons.mpr ⟨ilX8_isName_wsX8_isName_r1 _ (List.mem_of_getElem? (i := 9) rfl), (List.forall_mem_cons.mpr ⟨ilX8_isName_wsX8_isName_r1 _ (List.mem_of_getElem? (i := 5) rfl), (List.forall_mem_cons.mpr ⟨ilX8_isName_wsX8_isName_r1 _ (List.mem_of_getElem? (i := 10) rfl), (List.forall_mem_cons.mpr ⟨ilX8_isName_wsX8_isName_r1 _ (List.mem_of_getElem? (i := 0) rfl), (List.forall_mem_cons.mpr ⟨ilX8_isName_wsX8_isName_r1 _ (List.mem_of_getElem? (i := 1) rfl), (List.forall_mem_cons.mpr ⟨ilX8_isName_wsX8_isName_r1 _ (List.mem_of_getElem? (i := 11) rfl), (List.forall_mem_cons.mpr ⟨ilX8_isName_wsX8_isName_r1 _ (List.mem_of_getElem? (i := 12) rfl), (List.forall_mem_cons.mpr ⟨ilX8_isName_wsX8_isName_r1 _ (List.mem_of_getElem? (i := 13) rfl), (List.forall_mem_cons.mpr ⟨ilX8_isName_wsX8_isName_r1 _ (List.mem_of_getElem? (i := 14) rfl), (List.forall_mem_cons.mpr ⟨ilX8_isName_wsX8_isName_r1 _ (List.mem_of_getElem? (i := 15) rfl), (List.forall_mem_cons.mpr ⟨ilX8_isName_wsX8_isName_r1 _ (List.mem_of_getElem? (i := 16) rfl), (List.forall_mem_cons.mpr ⟨ilX8_isName_wsX8_isName_r1 _ (List.mem_of_getElem? (i := 17) rfl), (List.forall_mem_cons.mpr ⟨ilX8_isName_wsX8_isName_r1 _ (List.mem_of_getElem? (i := 18) rfl), (List.forall_mem_cons.mpr ⟨ilX8_isName_wsX8_isName_r1 _ (List.mem_of_getElem? (i := 19) rfl), (List.forall_mem_cons.mpr ⟨ilX8_isName_wsX8_isName_r1 _ (List.mem_of_getElem? (i := 20) rfl), (List.forall_mem_cons.mpr ⟨ilX8_isName_wsX8_isName_r1 _ (List.mem_of_getElem? (i := 21) rfl), (List.forall_mem_cons.mpr ⟨ilX8_isName_wsX8_isName_r1 _ (List.mem_of_getElem? (i := 22) rfl), (List.forall_mem_cons.mpr ⟨ilX8_isName_wsX8_isName_r1 _ (List.mem_of_getElem? (i := 23) rfl), (List.forall_mem_cons.mpr ⟨ilX8_isName_wsX8_isName_r2 _ (List.mem_of_getElem? (i := 0) rfl), (List.forall_mem_cons.mpr ⟨ilX8_isName_wsX8_isName_r2 _ (List.mem_of_getElem? (i := 1) rfl), (List.forall_mem_cons.mpr ⟨ilX8_isName_wsX8_isName_r2 _ (List.mem_of_getElem? (i := 2) rfl), (List.forall_mem_cons.mpr ⟨ilX8_isName_wsX8_isName_r2 _ (List.mem_of_getElem? (i := 3) rfl), (fun _ h => absurd h List.not_mem_nil)⟩)⟩)⟩)⟩)⟩)⟩)⟩)⟩)⟩)⟩)⟩)⟩)⟩)⟩)⟩)⟩)⟩)⟩)⟩)⟩)⟩)⟩)⟩)⟩), (List.forall_mem_append.mpr ⟨(List.forall_mem_cons.mpr ⟨ilX8_isName_wsX8_isName_r2 _ (List.mem_of_getElem? (i := 4) rfl), (List.forall_mem_cons.mpr ⟨ilX8_isName_wsX8_isName_r2 _ (List.mem_of_getElem? (i := 5) rfl), (List.forall_mem_cons.mpr ⟨ilX8_isName_wsX8_isName_r2 _ (List.mem_of_getElem? (i := 6) rfl), (List.forall_mem_cons.mpr ⟨ilX8_isName_wsX8_isName_r2 _ (List.mem_of_getElem? (i := 7) rfl), (List.forall_mem_cons.mpr ⟨ilX8_isName_wsX8_isName_r2 _ (List.mem_of_getElem? (i := 8) rfl), (List.forall_mem_cons.mpr ⟨ilX8_isName_wsX8_isName_r2 _ (List.mem_of_getElem? (i := 9) rfl), (List.forall_mem_cons.mpr ⟨ilX8_isName_wsX8_isName_r2 _ (List.mem_of_getElem? (i := 10) rfl), (List.forall_mem_cons.mpr ⟨ilX8_isName_wsX8_isName_r2 _ (List.mem_of_getElem? (i := 11) rfl), (List.forall_mem_cons.mpr ⟨ilX8_isName_wsX8_isName_r2 _ (List.mem_of_getElem? (i := 12) rfl), (List.forall_mem_cons.mpr ⟨ilX8_isName_wsX8_isName_r2 _ (List.mem_of_getElem? (i := 13) rfl), (List.forall_mem_cons.mpr ⟨ilX8_isName_wsX8_isName_r2 _ (List.mem_of_getElem? (i := 14) rfl), (List.forall_mem_cons.mpr ⟨ilX8_isName_wsX8_isName_r2 _ (List.mem_of_getElem? (i := 15) rfl), (List.forall_mem_cons.mpr ⟨ilX8_isName_wsX8_isName_r2 _ (List.mem_of_getElem? (i := 16) rfl), (List.forall_mem_cons.mpr ⟨ilX8_isName_wsX8_isName_r2 _ (List.mem_of_getElem? (i := 17) rfl), (List.forall_mem_cons.mpr ⟨ilX8_isName_wsX8_isName_r2 _ (List.mem_of_getElem? (i := 18) rfl), (List.forall_mem_cons.mpr ⟨ilX8_isName_wsX8_isName_r2 _ (List.mem_of_getElem? (i := 19) rfl), (List.forall_mem_cons.mpr ⟨ilX8_isName_wsX8_isName_r2 _ (List.mem_of_getElem? (i := 20) rfl), (List.forall_mem_cons.mpr ⟨ilX8_isName_wsX8_isName_r2 _ (List.mem_of_getElem? (i := 21) rfl), (List.forall_mem_cons.mpr ⟨ilX8_isName_wsX8_isName_r2 _ (List.mem_of_getElem? (i := 22) rfl), (List.forall_mem_cons.mpr ⟨ilX8_isName_wsX8_isName_r2 _ (List.mem_of_getElem? (i := 23) rfl), (List.forall_mem_cons.mpr ⟨ilX8_isName_wsX8_isName_r3 _ (List.mem_of_getElem? (i := 0) rfl), (List.forall_mem_cons.mpr ⟨ilX8_isName_wsX8_isName_r3 _ (List.mem_of_getElem? (i := 1) rfl), (List.forall_mem_cons.mpr ⟨ilX8_isName_wsX8_isName_r3 _ (List.mem_of_getElem? (i := 2) rfl), (List.forall_mem_cons.mpr ⟨ilX8_isName_wsX8_isName_r3 _ (List.mem_of_getElem? (i := 3) rfl), (fun _ h => absurd h List.not_mem_nil)⟩)⟩)⟩)⟩)⟩)⟩)⟩)⟩)⟩)⟩)⟩)⟩)⟩)⟩)⟩)⟩)⟩)⟩)⟩)⟩)⟩)⟩)⟩)⟩), (List.forall_mem_cons.mpr ⟨ilX8_isName_wsX8_isName_r3 _ (List.mem_of_getElem? (i := 4) rfl), (List.forall_mem_cons.mpr ⟨ilX8_isName_wsX8_isName_r3 _ (List.mem_of_getElem? (i := 5) rfl), (List.forall_mem_cons.mpr ⟨ilX8_isName_wsX8_isName_r3 _ (List.mem_of_getElem? (i := 6) rfl), (List.forall_mem_cons.mpr ⟨ilX8_isName_wsX8_isName_r3 _ (List.mem_of_getElem? (i := 7) rfl), (List.forall_mem_cons.mpr ⟨ilX8_isName_wsX8_isName_r3 _ (List.mem_of_getElem? (i := 8) rfl), (List.forall_mem_cons.mpr ⟨ilX8_isName_wsX8_isName_r3 _ (List.mem_of_getElem? (i := 9) rfl), (List.forall_mem_cons.mpr ⟨ilX8_isName_wsX8_isName_r3 _ (List.mem_of_getElem? (i := 10) rfl), (List.forall_mem_cons.mpr ⟨ilX8_isName_wsX8_isName_r3 _ (List.mem_of_getElem? (i := 11) rfl), (List.forall_mem_cons.mpr ⟨ilX8_isName_wsX8_isName_r3 _ (List.mem_of_getElem? (i := 12) rfl), (List.forall_mem_cons.mpr ⟨ilX8_isName_wsX8_isName_r3 _ (List.mem_of_getElem? (i := 13) rfl), (List.forall_mem_cons.mpr ⟨ilX8_isName_wsX8_isName_r3 _ (List.mem_of_getElem? (i := 14) rfl), (fun _ h => absurd h List.not_mem_nil)⟩)⟩)⟩)⟩)⟩)⟩)⟩)⟩)⟩)⟩)⟩)⟩)⟩), ilX8_isName_wsX80⟩)⟩) (by decide +kernel)
set_option maxRecDepth 20000 in
theorem gX8_isName_X8_kindHere : GoodIn wsX8_isName (wsV RX8 150 RX8 yX8_kindHere wsX8_kindHere) := goodIn_app (goodIn_sub (List.forall_mem_cons.mpr ⟨ilX8_isName_wsX8_isName_r1 _ (List.mem_of_getElem? (i := 2) rfl), (List.forall_mem_cons.mpr ⟨ilX8_isName_wsX8_isName_r1 _ (List.mem_of_getElem? (i := 3) rfl), (List.forall_mem_cons.mpr ⟨ilX8_isName_wsX8_isName_r1 _ (List.mem_of_getElem? (i := 4) rfl), (List.forall_mem_cons.mpr ⟨ilX8_isName_wsX8_isName_r1 _ (List.mem_of_getElem? (i := 5) rfl), (fun _ h => absurd h List.not_mem_nil)⟩)⟩)⟩)⟩) (by decide +kernel)) ggX8_isName_X8_kindHere
set_option maxRecDepth 20000 in
theorem ggX8_isName_X8_isWord : GoodIn wsX8_isName wsX8_isWord := goodIn_sub (List.forall_mem_cons.mpr ⟨ilX8_isName_wsX8_isName_r1 _ (List.mem_of_getElem? (i := 10) rfl), (List.forall_mem_append.mpr ⟨(List.forall_mem_append.mpr ⟨(List.forall_mem_cons.mpr ⟨ilX8_isName_wsX8_isName_r1 _ (List.mem_of_getElem? (i := 0) rfl), (List.forall_mem_cons.mpr ⟨ilX8_isName_wsX8_isName_r1 _ (List.mem_of_getElem? (i := 1) rfl), (List.forall_mem_cons.mpr ⟨ilX8_isName_wsX8_isName_r1 _ (List.mem_of_getElem? (i := 11) rfl), (List.forall_mem_cons.mpr ⟨ilX8_isName_wsX8_isName_r1 _ (List.mem_of_getElem? (i := 12) rfl), (List.forall_mem_cons.mpr ⟨ilX8_isName_wsX8_isName_r1 _ (List.mem_of_getElem? (i := 5) rfl), (List.forall_mem_cons.mpr ⟨ilX8_isName_wsX8_isName_r1 _ (List.mem_of_getElem? (i := 13) rfl), (List.forall_mem_cons.mpr ⟨ilX8_isName_wsX8_isName_r1 _ (List.mem_of_getElem? (i := 14) rfl), (List.forall_mem_cons.mpr ⟨ilX8_isName_wsX8_isName_r1 _ (List.mem_of_getElem? (i := 15) rfl), (List.forall_mem_cons.mpr ⟨ilX8_isName_wsX8_isName_r1 _ (List.mem_of_getElem? (i := 16) rfl), (List.forall_mem_cons.mpr ⟨ilX8_isName_wsX8_isName_r1 _ (List.mem_of_getElem? (i := 17) rfl), (List.forall_mem_cons.mpr ⟨ilX8_isName_wsX8_isName_r1 _ (List.mem_of_getElem? (i := 18) rfl), (List.forall_mem_cons.mpr ⟨ilX8_isName_wsX8_isName_r1 _ (List.mem_of_getElem? (i := 19) rfl), (List.forall_mem_cons.mpr ⟨ilX8_isName_wsX8_isName_r1 _ (List.mem_of_getElem? (i := 20) rfl), (List.forall_mem_cons.mpr ⟨ilX8_isName_wsX8_isName_r1 _ (List.mem_of_getElem? (i := 21) rfl), (List.forall_mem_cons.mpr ⟨ilX8_isName_wsX8_isName_r1 _ (List.mem_of_getElem? (i := 22) rfl), (List.forall_mem_cons.mpr ⟨ilX8_isName_wsX8_isName_r1 _ (List.mem_of_getElem? (i := 23) rfl), (List.forall_mem_cons.mpr ⟨ilX8_isName_wsX8_isName_r2 _ (List.mem_of_getElem? (i := 0) rfl), (List.forall_mem_cons.mpr ⟨ilX8_isName_wsX8_isName_r2 _ (List.mem_of_getElem? (i := 1) rfl), (List.forall_mem_cons.mpr ⟨ilX8_isName_wsX8_isName_r2 _ (List.mem_of_getElem? (i := 2) rfl), (List.forall_mem_cons.mpr ⟨ilX8_isName_wsX8_isName_r2 _ (List.mem_of_getElem? (i := 3) rfl), (List.forall_mem_cons.mpr ⟨ilX8_isName_wsX8_isName_r2 _ (List.mem_of_getElem? (i := 4) rfl), (List.forall_mem_cons.mpr ⟨ilX8_isName_wsX8_isName_r2 _ (List.mem_of_getElem? (i := 5) rfl), (List.forall_mem_cons.mpr ⟨ilX8_isName_wsX8_isName_r2 _ (List.mem_of_getElem? (i := 6) rfl), (List.forall_mem_cons.mpr ⟨ilX8_isName_wsX8_isName_r2 _ (List.mem_of_getElem? (i := 7) rfl), (fun _ h => absurd h List.not_mem_nil)⟩)⟩)⟩)⟩)⟩)⟩)⟩)⟩)⟩)⟩)⟩)⟩)⟩)⟩)⟩)⟩)⟩)⟩)⟩)⟩)⟩)⟩)⟩)⟩), (List.forall_mem_append.mpr ⟨(List.forall_mem_cons.mpr ⟨ilX8_isName_wsX8_isName_r2 _ (List.mem_of_getElem? (i := 8) rfl), (List.forall_mem_cons.mpr ⟨ilX8_isName_wsX8_isName_r2 _ (List.mem_of_getElem? (i := 9) rfl), (List.forall_mem_cons.mpr ⟨ilX8_isName_wsX8_isName_r2 _ (List.mem_of_getElem? (i := 10) rfl), (List.forall_mem_cons.mpr ⟨ilX8_isName_wsX8_isName_r2 _ (List.mem_of_getElem? (i := 11) rfl), (List.forall_mem_cons.mpr ⟨ilX8_isName_wsX8_isName_r2 _ (List.mem_of_getElem? (i := 12) rfl), (List.forall_mem_cons.mpr ⟨ilX8_isName_wsX8_isName_r2 _ (List.mem_of_getElem? (i := 13) rfl), (List.forall_mem_cons.mpr ⟨ilX8_isName_wsX8_isName_r2 _ (List.mem_of_getElem? (i := 14) rfl), (List.forall_mem_cons.mpr ⟨ilX8_isName_wsX8_isName_r2 _ (List.mem_of_getElem? (i := 15) rfl), (List.forall_mem_cons.mpr ⟨ilX8_isName_wsX8_isName_r2 _ (List.mem_of_getElem? (i := 16) rfl), (List.forall_mem_cons.mpr ⟨ilX8_isName_wsX8_isName_r2 _ (List.mem_of_getElem? (i := 17) rfl), (List.forall_mem_cons.mpr ⟨ilX8_isName_wsX8_isName_r2 _ (List.mem_of_getElem? (i := 18) rfl), (List.forall_mem_cons.mpr ⟨ilX8_isName_wsX8_isName_r2 _ (List.mem_of_getElem? (i := 19) rfl), (List.forall_mem_cons.mpr ⟨ilX8_isName_wsX8_isName_r2 _ (List.mem_of_getElem? (i := 20) rfl), (List.forall_mem_cons.mpr ⟨ilX8_isName_wsX8_isName_r2 _ (List.mem_of_getElem? (i := 21) rfl), (List.forall_mem_cons.mpr ⟨ilX8_isName_wsX8_isName_r2 _ (List.mem_of_getElem? (i := 22) rfl), (List.forall_mem_cons.mpr ⟨ilX8_isName_wsX8_isName_r2 _ (List.mem_of_getElem? (i := 23) rfl), (List.forall_mem_cons.mpr ⟨ilX8_isName_wsX8_isName_r3 _ (List.mem_of_getElem? (i := 0) rfl), (List.forall_mem_cons.mpr ⟨ilX8_isName_wsX8_isName_r3 _ (List.mem_of_getElem? (i := 1) rfl), (List.forall_mem_cons.mpr ⟨ilX8_isName_wsX8_isName_r3 _ (List.mem_of_getElem? (i := 2) rfl), (List.forall_mem_cons.mpr ⟨ilX8_isName_wsX8_isName_r3 _ (List.mem_of_getElem? (i := 3) rfl), (List.forall_mem_cons.mpr ⟨ilX8_isName_wsX8_isName_r3 _ (List.mem_of_getElem? (i := 4) rfl), (List.forall_mem_cons.mpr ⟨ilX8_isName_wsX8_isName_r3 _ (List.mem_of_getElem? (i := 5) rfl), (List.forall_mem_cons.mpr ⟨ilX8_isName_wsX8_isName_r3 _ (List.mem_of_getElem? (i := 6) rfl), (List.forall_mem_cons.mpr ⟨ilX8_isName_wsX8_isName_r3 _ (List.mem_of_getElem? (i := 7) rfl), (fun _ h => absurd h List.not_mem_nil)⟩)⟩)⟩)⟩)⟩)⟩)⟩)⟩)⟩)⟩)⟩)⟩)⟩)⟩)⟩)⟩)⟩)⟩)⟩)⟩)⟩)⟩)⟩)⟩), (List.forall_mem_cons.mpr ⟨ilX8_isName_wsX8_isName_r3 _ (List.mem_of_getElem? (i := 8) rfl), (List.forall_mem_cons.mpr ⟨ilX8_isName_wsX8_isName_r3 _ (List.mem_of_getElem? (i := 9) rfl), (List.forall_mem_cons.mpr ⟨ilX8_isName_wsX8_isName_r3 _ (List.mem_of_getElem? (i := 10) rfl), (List.forall_mem_cons.mpr ⟨ilX8_isName_wsX8_isName_r3 _ (List.mem_of_getElem? (i := 11) rfl), (List.forall_mem_cons.mpr ⟨ilX8_isName_wsX8_isName_r3 _ (List.mem_of_getElem? (i := 12) rfl), (List.forall_mem_cons.mpr ⟨ilX8_isName_wsX8_isName_r3 _ (List.mem_of_getElem? (i := 13) rfl), (List.forall_mem_cons.mpr ⟨ilX8_isName_wsX8_isName_r3 _ (List.mem_of_getElem? (i := 14) rfl), (fun _ h => absurd h List.not_mem_nil)⟩)⟩)⟩)⟩)⟩)⟩)⟩)⟩)⟩), ilX8_isName_wsX80⟩)⟩) (by decide +kernel)
set_option maxRecDepth 20000 in
theorem gX8_isName_X8_isWord : GoodIn wsX8_isName (wsV RX8 138 RX8 yX8_isWord wsX8_isWord) := goodIn_app (goodIn_sub (List.forall_mem_cons.mpr ⟨ilX8_isName_wsX8_isName_r1 _ (List.mem_of_getElem? (i := 7) rfl), (List.forall_mem_cons.mpr ⟨ilX8_isName_wsX8_isName_r1 _ (List.mem_of_getElem? (i := 8) rfl), (List.forall_mem_cons.mpr ⟨ilX8_isName_wsX8_isName_r1 _ (List.mem_of_getElem? (i := 9) rfl), (List.forall_mem_cons.mpr ⟨ilX8_isName_wsX8_isName_r1 _ (List.mem_of_getElem? (i := 5) rfl), (fun _ h => absurd h List.not_mem_nil)⟩)⟩)⟩)⟩) (by decide +kernel)) ggX8_isName_X8_isWord
theorem dX8_isName_0 : decode cX8_isName 0 = .ok (.aload_n 0, 1) := by decide +kernel
theorem dX8_isName_1 : decode cX8_isName 1 = .ok (.getfield 106, 3) := by decide +kernel
theorem dX8_isName_4 : decode cX8_isName 4 = .ok (.iconst 1, 1) := by decide +kernel
theorem dX8_isName_5 : decode cX8_isName 5 = .ok (.if_icmp .ne 47, 3) := by decide +kernel
theorem dX8_isName_8 : decode cX8_isName 8 = .ok (.aload_n 0, 1) := by decide +kernel
theorem dX8_isName_9 : decode cX8_isName 9 = .ok (.getfield 102, 3) := by decide +kernel
theorem dX8_isName_12 : decode cX8_isName 12 = .ok (.lconst 0, 1) := by decide +kernel
theorem dX8_isName_13 : decode cX8_isName 13 = .ok (.lcmp, 1) := by decide +kernel
theorem dX8_isName_14 : decode cX8_isName 14 = .ok (.ifCond .eq 38, 3) := by decide +kernel
theorem dX8_isName_17 : decode cX8_isName 17 = .ok (.aload_n 0, 1) := by decide +kernel
theorem dX8_isName_18 : decode cX8_isName 18 = .ok (.invokevirtual 150, 3) := by decide +kernel
theorem dX8_isName_21 : decode cX8_isName 21 = .ok (.iconst (-1), 1) := by decide +kernel
theorem dX8_isName_22 : decode cX8_isName 22 = .ok (.if_icmp .ne 30, 3) := by decide +kernel
theorem dX8_isName_25 : decode cX8_isName 25 = .ok (.aload_n 0, 1) := by decide +kernel
theorem dX8_isName_26 : decode cX8_isName 26 = .ok (.ldc 153, 2) := by decide +kernel
theorem dX8_isName_28 : decode cX8_isName 28 = .ok (.invokevirtual 138, 3) := by decide +kernel
theorem dX8_isName_31 : decode cX8_isName 31 = .ok (.ifCond .ne 21, 3) := by decide +kernel
theorem dX8_isName_34 : decode cX8_isName 34 = .ok (.aload_n 0, 1) := by decide +kernel
theorem dX8_isName_35 : decode cX8_isName 35 = .ok (.ldc 155, 2) := by decide +kernel
theorem dX8_isName_37 : decode cX8_isName 37 = .ok (.invokevirtual 138, 3) := by decide +kernel
theorem dX8_isName_40 : decode cX8_isName 40 = .ok (.ifCond .ne 12, 3) := by decide +kernel
theorem dX8_isName_43 : decode cX8_isName 43 = .ok (.aload_n 0, 1) := by decide +kernel
theorem dX8_isName_44 : decode cX8_isName 44 = .ok (.ldc 157, 2) := by decide +kernel
theorem dX8_isName_46 : decode cX8_isName 46 = .ok (.invokevirtual 138, 3) := by decide +kernel
theorem dX8_isName_49 : decode cX8_isName 49 = .ok (.ifCond .eq 5, 3) := by decide +kernel
theorem dX8_isName_52 : decode cX8_isName 52 = .ok (.iconst 0, 1) := by decide +kernel
theorem dX8_isName_53 : decode cX8_isName 53 = .ok (.ireturn, 1) := by decide +kernel
theorem dX8_isName_54 : decode cX8_isName 54 = .ok (.aload_n 0, 1) := by decide +kernel
theorem dX8_isName_55 : decode cX8_isName 55 = .ok (.ldc 159, 2) := by decide +kernel
theorem dX8_isName_57 : decode cX8_isName 57 = .ok (.invokevirtual 138, 3) := by decide +kernel
theorem dX8_isName_60 : decode cX8_isName 60 = .ok (.ifCond .ne 25, 3) := by decide +kernel
theorem dX8_isName_63 : decode cX8_isName 63 = .ok (.aload_n 0, 1) := by decide +kernel
theorem dX8_isName_64 : decode cX8_isName 64 = .ok (.ldc 161, 2) := by decide +kernel
theorem dX8_isName_66 : decode cX8_isName 66 = .ok (.invokevirtual 138, 3) := by decide +kernel
theorem dX8_isName_69 : decode cX8_isName 69 = .ok (.ifCond .ne 16, 3) := by decide +kernel
theorem dX8_isName_72 : decode cX8_isName 72 = .ok (.aload_n 0, 1) := by decide +kernel
theorem dX8_isName_73 : decode cX8_isName 73 = .ok (.ldc 163, 2) := by decide +kernel
theorem dX8_isName_75 : decode cX8_isName 75 = .ok (.invokevirtual 138, 3) := by decide +kernel
theorem dX8_isName_78 : decode cX8_isName 78 = .ok (.ifCond .ne 7, 3) := by decide +kernel
theorem dX8_isName_81 : decode cX8_isName 81 = .ok (.iconst 1, 1) := by decide +kernel
theorem dX8_isName_82 : decode cX8_isName 82 = .ok (.goto 4, 3) := by decide +kernel
theorem dX8_isName_85 : decode cX8_isName 85 = .ok (.iconst 0, 1) := by decide +kernel
theorem dX8_isName_86 : decode cX8_isName 86 = .ok (.ireturn, 1) := by decide +kernel
theorem ilX8_number_wsX80 : ∀ w ∈ wsX80, w ∈ wsX8_number := fun _ h => List.mem_cons_of_mem _ (List.mem_append_right _ (h))
set_option maxRecDepth 20000 in
theorem ggX8_number_X8_leads : GoodIn wsX8_number wsX8_leads := goodIn_sub (List.forall_mem_cons.mpr ⟨List.mem_cons_of_mem _ (List.mem_append_left _ (List.mem_of_getElem? (i := 7) rfl)), (List.forall_mem_append.mpr ⟨(List.forall_mem_cons.mpr ⟨List.mem_cons_of_mem _ (List.mem_append_left _ (List.mem_of_getElem? (i := 8) rfl)), (List.forall_mem_cons.mpr ⟨List.mem_cons_of_mem _ (List.mem_append_left _ (List.mem_of_getElem? (i := 9) rfl)), (List.forall_mem_cons.mpr ⟨List.mem_cons_of_mem _ (List.mem_append_left _ (List.mem_of_getElem? (i := 10) rfl)), (List.forall_mem_cons.mpr ⟨List.mem_cons_of_mem _ (List.mem_append_left _ (List.mem_of_getElem? (i := 11) rfl)), (List.forall_mem_cons.mpr ⟨List.mem_cons_of_mem _ (List.mem_append_left _ (List.mem_of_getElem? (i := 1) rfl)), (List.forall_mem_cons.mpr ⟨List.mem_cons_of_mem _ (List.mem_append_left _ (List.mem_of_getElem? (i := 0) rfl)), (List.forall_mem_cons.mpr ⟨List.mem_cons_of_mem _ (List.mem_append_left _ (List.mem_of_getElem? (i := 12) rfl)), (List.forall_mem_cons.mpr ⟨List.mem_cons_of_mem _ (List.mem_append_left _ (List.mem_of_getElem? (i := 13) rfl)), (List.forall_mem_cons.mpr ⟨List.mem_cons_of_mem _ (List.mem_append_left _ (List.mem_of_getElem? (i := 14) rfl)), (List.forall_mem_cons.mpr ⟨List.mem_cons_of_mem _ (List.mem_append_left _ (List.mem_of_getElem? (i := 15) rfl)), (List.forall_mem_cons.mpr ⟨List.mem_cons_of_mem _ (List.mem_append_left _ (List.mem_of_getElem? (i := 16) rfl)), (List.forall_mem_cons.mpr ⟨List.mem_cons_of_mem _ (List.mem_append_left _ (List.mem_of_getElem? (i := 6) rfl)), (List.forall_mem_cons.mpr ⟨List.mem_cons_of_mem _ (List.mem_append_left _ (List.mem_of_getElem? (i := 17) rfl)), (List.forall_mem_cons.mpr ⟨List.mem_cons_of_mem _ (List.mem_append_left _ (List.mem_of_getElem? (i := 18) rfl)), (List.forall_mem_cons.mpr ⟨List.mem_cons_of_mem _ (List.mem_append_left _ (List.mem_of_getElem? (i := 19) rfl)), (List.forall_mem_cons.mpr ⟨List.mem_cons_of_mem _ (List.mem_append_left _ (List.mem_of_getElem? (i := 20) rfl)), (fun _ h => absurd h List.not_mem_nil)⟩)⟩)⟩)⟩)⟩)⟩)⟩)⟩)⟩)⟩)⟩)⟩)⟩)⟩)⟩)⟩), ilX8_number_wsX80⟩)⟩) (by decide +kernel)
set_option maxRecDepth 20000 in
theorem gX8_number_X8_leads : GoodIn wsX8_number (wsV RX8 168 RX8 yX8_leads wsX8_leads) := goodIn_app (goodIn_sub (List.forall_mem_cons.mpr ⟨List.mem_cons_of_mem _ (List.mem_append_left _ (List.mem_of_getElem? (i := 3) rfl)), (List.forall_mem_cons.mpr ⟨List.mem_cons_of_mem _ (List.mem_append_left _ (List.mem_of_getElem? (i := 4) rfl)), (List.forall_mem_cons.mpr ⟨List.mem_cons_of_mem _ (List.mem_append_left _ (List.mem_of_getElem? (i := 5) rfl)), (List.forall_mem_cons.mpr ⟨List.mem_cons_of_mem _ (List.mem_append_left _ (List.mem_of_getElem? (i := 6) rfl)), (fun _ h => absurd h List.not_mem_nil)⟩)⟩)⟩)⟩) (by decide +kernel)) ggX8_number_X8_leads
theorem dX8_number_0 : decode cX8_number 0 = .ok (.aload_n 0, 1) := by decide +kernel
theorem dX8_number_1 : decode cX8_number 1 = .ok (.getfield 106, 3) := by decide +kernel
theorem dX8_number_4 : decode cX8_number 4 = .ok (.iconst 2, 1) := by decide +kernel
theorem dX8_number_5 : decode cX8_number 5 = .ok (.if_icmp .ne 23, 3) := by decide +kernel
theorem dX8_number_8 : decode cX8_number 8 = .ok (.aload_n 0, 1) := by decide +kernel
theorem dX8_number_9 : decode cX8_number 9 = .ok (.getfield 102, 3) := by decide +kernel
theorem dX8_number_12 : decode cX8_number 12 = .ok (.iload_n 1, 1) := by decide +kernel
theorem dX8_number_13 : decode cX8_number 13 = .ok (.i2l, 1) := by decide +kernel
theorem dX8_number_14 : decode cX8_number 14 = .ok (.lcmp, 1) := by decide +kernel
theorem dX8_number_15 : decode cX8_number 15 = .ok (.ifCond .lt 13, 3) := by decide +kernel
theorem dX8_number_18 : decode cX8_number 18 = .ok (.aload_n 0, 1) := by decide +kernel
theorem dX8_number_19 : decode cX8_number 19 = .ok (.getfield 102, 3) := by decide +kernel
theorem dX8_number_22 : decode cX8_number 22 = .ok (.iload_n 2, 1) := by decide +kernel
theorem dX8_number_23 : decode cX8_number 23 = .ok (.i2l, 1) := by decide +kernel
theorem dX8_number_24 : decode cX8_number 24 = .ok (.lcmp, 1) := by decide +kernel
theorem dX8_number_25 : decode cX8_number 25 = .ok (.ifCond .le 5, 3) := by decide +kernel
theorem dX8_number_28 : decode cX8_number 28 = .ok (.iconst 0, 1) := by decide +kernel
theorem dX8_number_29 : decode cX8_number 29 = .ok (.ireturn, 1) := by decide +kernel
theorem dX8_number_30 : decode cX8_number 30 = .ok (.aload_n 0, 1) := by decide +kernel
theorem dX8_number_31 : decode cX8_number 31 = .ok (.aload_n 0, 1) := by decide +kernel
theorem dX8_number_32 : decode cX8_number 32 = .ok (.getfield 102, 3) := by decide +kernel
theorem dX8_number_35 : decode cX8_number 35 = .ok (.l2i, 1) := by decide +kernel
theorem dX8_number_36 : decode cX8_number 36 = .ok (.putfield 165, 3) := by decide +kernel
theorem dX8_number_39 : decode cX8_number 39 = .ok (.aload_n 0, 1) := by decide +kernel
theorem dX8_number_40 : decode cX8_number 40 = .ok (.invokevirtual 168, 3) := by decide +kernel
theorem dX8_number_43 : decode cX8_number 43 = .ok (.iconst 1, 1) := by decide +kernel
theorem dX8_number_44 : decode cX8_number 44 = .ok (.ireturn, 1) := by decide +kernel
theorem ilX8_closes_wsX80 : ∀ w ∈ wsX80, w ∈ wsX8_closes := fun _ h => List.mem_cons_of_mem _ (List.mem_append_right _ (h))
set_option maxRecDepth 20000 in
theorem ggX8_closes_X8_leads : GoodIn wsX8_closes wsX8_leads := goodIn_sub (List.forall_mem_cons.mpr ⟨List.mem_cons_of_mem _ (List.mem_append_left _ (List.mem_of_getElem? (i := 5) rfl)), (List.forall_mem_append.mpr ⟨(List.forall_mem_cons.mpr ⟨List.mem_cons_of_mem _ (List.mem_append_left _ (List.mem_of_getElem? (i := 6) rfl)), (List.forall_mem_cons.mpr ⟨List.mem_cons_of_mem _ (List.mem_append_left _ (List.mem_of_getElem? (i := 7) rfl)), (List.forall_mem_cons.mpr ⟨List.mem_cons_of_mem _ (List.mem_append_left _ (List.mem_of_getElem? (i := 8) rfl)), (List.forall_mem_cons.mpr ⟨List.mem_cons_of_mem _ (List.mem_append_left _ (List.mem_of_getElem? (i := 9) rfl)), (List.forall_mem_cons.mpr ⟨List.mem_cons_of_mem _ (List.mem_append_left _ (List.mem_of_getElem? (i := 10) rfl)), (List.forall_mem_cons.mpr ⟨List.mem_cons_of_mem _ (List.mem_append_left _ (List.mem_of_getElem? (i := 0) rfl)), (List.forall_mem_cons.mpr ⟨List.mem_cons_of_mem _ (List.mem_append_left _ (List.mem_of_getElem? (i := 11) rfl)), (List.forall_mem_cons.mpr ⟨List.mem_cons_of_mem _ (List.mem_append_left _ (List.mem_of_getElem? (i := 12) rfl)), (List.forall_mem_cons.mpr ⟨List.mem_cons_of_mem _ (List.mem_append_left _ (List.mem_of_getElem? (i := 13) rfl)), (List.forall_mem_cons.mpr ⟨List.mem_cons_of_mem _ (List.mem_append_left _ (List.mem_of_getElem? (i := 14) rfl)), (List.forall_mem_cons.mpr ⟨List.mem_cons_of_mem _ (List.mem_append_left _ (List.mem_of_getElem? (i := 15) rfl)), (List.forall_mem_cons.mpr ⟨List.mem_cons_of_mem _ (List.mem_append_left _ (List.mem_of_getElem? (i := 4) rfl)), (List.forall_mem_cons.mpr ⟨List.mem_cons_of_mem _ (List.mem_append_left _ (List.mem_of_getElem? (i := 16) rfl)), (List.forall_mem_cons.mpr ⟨List.mem_cons_of_mem _ (List.mem_append_left _ (List.mem_of_getElem? (i := 17) rfl)), (List.forall_mem_cons.mpr ⟨List.mem_cons_of_mem _ (List.mem_append_left _ (List.mem_of_getElem? (i := 18) rfl)), (List.forall_mem_cons.mpr ⟨List.mem_cons_of_mem _ (List.mem_append_left _ (List.mem_of_getElem? (i := 19) rfl)), (fun _ h => absurd h List.not_mem_nil)⟩)⟩)⟩)⟩)⟩)⟩)⟩)⟩)⟩)⟩)⟩)⟩)⟩)⟩)⟩)⟩), ilX8_closes_wsX80⟩)⟩) (by decide +kernel)
set_option maxRecDepth 20000 in
theorem gX8_closes_X8_leads : GoodIn wsX8_closes (wsV RX8 168 RX8 yX8_leads wsX8_leads) := goodIn_app (goodIn_sub (List.forall_mem_cons.mpr ⟨List.mem_cons_of_mem _ (List.mem_append_left _ (List.mem_of_getElem? (i := 1) rfl)), (List.forall_mem_cons.mpr ⟨List.mem_cons_of_mem _ (List.mem_append_left _ (List.mem_of_getElem? (i := 2) rfl)), (List.forall_mem_cons.mpr ⟨List.mem_cons_of_mem _ (List.mem_append_left _ (List.mem_of_getElem? (i := 3) rfl)), (List.forall_mem_cons.mpr ⟨List.mem_cons_of_mem _ (List.mem_append_left _ (List.mem_of_getElem? (i := 4) rfl)), (fun _ h => absurd h List.not_mem_nil)⟩)⟩)⟩)⟩) (by decide +kernel)) ggX8_closes_X8_leads
theorem dX8_closes_0 : decode cX8_closes 0 = .ok (.aload_n 0, 1) := by decide +kernel
theorem dX8_closes_1 : decode cX8_closes 1 = .ok (.getfield 106, 3) := by decide +kernel
theorem dX8_closes_4 : decode cX8_closes 4 = .ok (.iconst 3, 1) := by decide +kernel
theorem dX8_closes_5 : decode cX8_closes 5 = .ok (.if_icmp .eq 5, 3) := by decide +kernel
theorem dX8_closes_8 : decode cX8_closes 8 = .ok (.iconst 0, 1) := by decide +kernel
theorem dX8_closes_9 : decode cX8_closes 9 = .ok (.ireturn, 1) := by decide +kernel
theorem dX8_closes_10 : decode cX8_closes 10 = .ok (.aload_n 0, 1) := by decide +kernel
theorem dX8_closes_11 : decode cX8_closes 11 = .ok (.invokevirtual 168, 3) := by decide +kernel
theorem dX8_closes_14 : decode cX8_closes 14 = .ok (.iconst 1, 1) := by decide +kernel
theorem dX8_closes_15 : decode cX8_closes 15 = .ok (.ireturn, 1) := by decide +kernel
theorem ilX8_onceLine_wsX8_onceLine_r1 : ∀ w ∈ wsX8_onceLine_r1, w ∈ wsX8_onceLine := fun _ h => List.mem_cons_of_mem _ (List.mem_append_left _ (List.mem_append_left _ (h)))
theorem ilX8_onceLine_wsX8_onceLine_r2 : ∀ w ∈ wsX8_onceLine_r2, w ∈ wsX8_onceLine := fun _ h => List.mem_cons_of_mem _ (List.mem_append_left _ (List.mem_append_right _ (h)))
theorem ilX8_onceLine_wsX80 : ∀ w ∈ wsX80, w ∈ wsX8_onceLine := fun _ h => List.mem_cons_of_mem _ (List.mem_append_right _ (h))
set_option maxRecDepth 20000 in
theorem ggX8_onceLine_X8_leads : GoodIn wsX8_onceLine wsX8_leads := goodIn_sub (List.forall_mem_cons.mpr ⟨ilX8_onceLine_wsX8_onceLine_r1 _ (List.mem_of_getElem? (i := 6) rfl), (List.forall_mem_append.mpr ⟨(List.forall_mem_cons.mpr ⟨ilX8_onceLine_wsX8_onceLine_r1 _ (List.mem_of_getElem? (i := 7) rfl), (List.forall_mem_cons.mpr ⟨ilX8_onceLine_wsX8_onceLine_r1 _ (List.mem_of_getElem? (i := 8) rfl), (List.forall_mem_cons.mpr ⟨ilX8_onceLine_wsX8_onceLine_r1 _ (List.mem_of_getElem? (i := 9) rfl), (List.forall_mem_cons.mpr ⟨ilX8_onceLine_wsX8_onceLine_r1 _ (List.mem_of_getElem? (i := 10) rfl), (List.forall_mem_cons.mpr ⟨ilX8_onceLine_wsX8_onceLine_r1 _ (List.mem_of_getElem? (i := 11) rfl), (List.forall_mem_cons.mpr ⟨ilX8_onceLine_wsX8_onceLine_r1 _ (List.mem_of_getElem? (i := 12) rfl), (List.forall_mem_cons.mpr ⟨ilX8_onceLine_wsX8_onceLine_r1 _ (List.mem_of_getElem? (i := 13) rfl), (List.forall_mem_cons.mpr ⟨ilX8_onceLine_wsX8_onceLine_r1 _ (List.mem_of_getElem? (i := 14) rfl), (List.forall_mem_cons.mpr ⟨ilX8_onceLine_wsX8_onceLine_r1 _ (List.mem_of_getElem? (i := 15) rfl), (List.forall_mem_cons.mpr ⟨ilX8_onceLine_wsX8_onceLine_r1 _ (List.mem_of_getElem? (i := 16) rfl), (List.forall_mem_cons.mpr ⟨ilX8_onceLine_wsX8_onceLine_r1 _ (List.mem_of_getElem? (i := 17) rfl), (List.forall_mem_cons.mpr ⟨ilX8_onceLine_wsX8_onceLine_r1 _ (List.mem_of_getElem? (i := 5) rfl), (List.forall_mem_cons.mpr ⟨ilX8_onceLine_wsX8_onceLine_r1 _ (List.mem_of_getElem? (i := 18) rfl), (List.forall_mem_cons.mpr ⟨ilX8_onceLine_wsX8_onceLine_r1 _ (List.mem_of_getElem? (i := 19) rfl), (List.forall_mem_cons.mpr ⟨ilX8_onceLine_wsX8_onceLine_r1 _ (List.mem_of_getElem? (i := 20) rfl), (List.forall_mem_cons.mpr ⟨ilX8_onceLine_wsX8_onceLine_r1 _ (List.mem_of_getElem? (i := 21) rfl), (fun _ h => absurd h List.not_mem_nil)⟩)⟩)⟩)⟩)⟩)⟩)⟩)⟩)⟩)⟩)⟩)⟩)⟩)⟩)⟩)⟩), ilX8_onceLine_wsX80⟩)⟩) (by decide +kernel)
set_option maxRecDepth 20000 in
theorem gX8_onceLine_X8_leads : GoodIn wsX8_onceLine (wsV RX8 168 RX8 yX8_leads wsX8_leads) := goodIn_app (goodIn_sub (List.forall_mem_cons.mpr ⟨ilX8_onceLine_wsX8_onceLine_r1 _ (List.mem_of_getElem? (i := 2) rfl), (List.forall_mem_cons.mpr ⟨ilX8_onceLine_wsX8_onceLine_r1 _ (List.mem_of_getElem? (i := 3) rfl), (List.forall_mem_cons.mpr ⟨ilX8_onceLine_wsX8_onceLine_r1 _ (List.mem_of_getElem? (i := 4) rfl), (List.forall_mem_cons.mpr ⟨ilX8_onceLine_wsX8_onceLine_r1 _ (List.mem_of_getElem? (i := 5) rfl), (fun _ h => absurd h List.not_mem_nil)⟩)⟩)⟩)⟩) (by decide +kernel)) ggX8_onceLine_X8_leads
set_option maxRecDepth 20000 in
theorem ggX8_onceLine_X8_number : GoodIn wsX8_onceLine wsX8_number := goodIn_sub (List.forall_mem_cons.mpr ⟨ilX8_onceLine_wsX8_onceLine_r2 _ (List.mem_of_getElem? (i := 1) rfl), (List.forall_mem_append.mpr ⟨(List.forall_mem_cons.mpr ⟨ilX8_onceLine_wsX8_onceLine_r1 _ (List.mem_of_getElem? (i := 12) rfl), (List.forall_mem_cons.mpr ⟨ilX8_onceLine_wsX8_onceLine_r1 _ (List.mem_of_getElem? (i := 11) rfl), (List.forall_mem_cons.mpr ⟨ilX8_onceLine_wsX8_onceLine_r1 _ (List.mem_of_getElem? (i := 1) rfl), (List.forall_mem_cons.mpr ⟨ilX8_onceLine_wsX8_onceLine_r1 _ (List.mem_of_getElem? (i := 2) rfl), (List.forall_mem_cons.mpr ⟨ilX8_onceLine_wsX8_onceLine_r1 _ (List.mem_of_getElem? (i := 3) rfl), (List.forall_mem_cons.mpr ⟨ilX8_onceLine_wsX8_onceLine_r1 _ (List.mem_of_getElem? (i := 4) rfl), (List.forall_mem_cons.mpr ⟨ilX8_onceLine_wsX8_onceLine_r1 _ (List.mem_of_getElem? (i := 5) rfl), (List.forall_mem_cons.mpr ⟨ilX8_onceLine_wsX8_onceLine_r1 _ (List.mem_of_getElem? (i := 6) rfl), (List.forall_mem_cons.mpr ⟨ilX8_onceLine_wsX8_onceLine_r1 _ (List.mem_of_getElem? (i := 7) rfl), (List.forall_mem_cons.mpr ⟨ilX8_onceLine_wsX8_onceLine_r1 _ (List.mem_of_getElem? (i := 8) rfl), (List.forall_mem_cons.mpr ⟨ilX8_onceLine_wsX8_onceLine_r1 _ (List.mem_of_getElem? (i := 9) rfl), (List.forall_mem_cons.mpr ⟨ilX8_onceLine_wsX8_onceLine_r1 _ (List.mem_of_getElem? (i := 10) rfl), (List.forall_mem_cons.mpr ⟨ilX8_onceLine_wsX8_onceLine_r1 _ (List.mem_of_getElem? (i := 13) rfl), (List.forall_mem_cons.mpr ⟨ilX8_onceLine_wsX8_onceLine_r1 _ (List.mem_of_getElem? (i := 14) rfl), (List.forall_mem_cons.mpr ⟨ilX8_onceLine_wsX8_onceLine_r1 _ (List.mem_of_getElem? (i := 15) rfl), (List.forall_mem_cons.mpr ⟨ilX8_onceLine_wsX8_onceLine_r1 _ (List.mem_of_getElem? (i := 16) rfl), (List.forall_mem_cons.mpr ⟨ilX8_onceLine_wsX8_onceLine_r1 _ (List.mem_of_getElem? (i := 17) rfl), (List.forall_mem_cons.mpr ⟨ilX8_onceLine_wsX8_onceLine_r1 _ (List.mem_of_getElem? (i := 18) rfl), (List.forall_mem_cons.mpr ⟨ilX8_onceLine_wsX8_onceLine_r1 _ (List.mem_of_getElem? (i := 19) rfl), (List.forall_mem_cons.mpr ⟨ilX8_onceLine_wsX8_onceLine_r1 _ (List.mem_of_getElem? (i := 20) rfl), (List.forall_mem_cons.mpr ⟨ilX8_onceLine_wsX8_onceLine_r1 _ (List.mem_of_getElem? (i := 21) rfl), (fun _ h => absurd h List.not_mem_nil)⟩)⟩)⟩)⟩)⟩)⟩)⟩)⟩)⟩)⟩)⟩)⟩)⟩)⟩)⟩)⟩)⟩)⟩)⟩)⟩)⟩), ilX8_onceLine_wsX80⟩)⟩) (by decide +kernel)
set_option maxRecDepth 20000 in
theorem gX8_onceLine_X8_number : GoodIn wsX8_onceLine (wsV RX8 171 RX8 yX8_number wsX8_number) := goodIn_app (goodIn_sub (List.forall_mem_cons.mpr ⟨ilX8_onceLine_wsX8_onceLine_r1 _ (List.mem_of_getElem? (i := 22) rfl), (List.forall_mem_cons.mpr ⟨ilX8_onceLine_wsX8_onceLine_r1 _ (List.mem_of_getElem? (i := 23) rfl), (List.forall_mem_cons.mpr ⟨ilX8_onceLine_wsX8_onceLine_r2 _ (List.mem_of_getElem? (i := 0) rfl), (List.forall_mem_cons.mpr ⟨ilX8_onceLine_wsX8_onceLine_r1 _ (List.mem_of_getElem? (i := 5) rfl), (fun _ h => absurd h List.not_mem_nil)⟩)⟩)⟩)⟩) (by decide +kernel)) ggX8_onceLine_X8_number
set_option maxRecDepth 20000 in
theorem ggX8_onceLine_X8_closes : GoodIn wsX8_onceLine wsX8_closes := goodIn_sub (List.forall_mem_cons.mpr ⟨ilX8_onceLine_wsX8_onceLine_r2 _ (List.mem_of_getElem? (i := 5) rfl), (List.forall_mem_append.mpr ⟨(List.forall_mem_cons.mpr ⟨ilX8_onceLine_wsX8_onceLine_r1 _ (List.mem_of_getElem? (i := 12) rfl), (List.forall_mem_cons.mpr ⟨ilX8_onceLine_wsX8_onceLine_r1 _ (List.mem_of_getElem? (i := 2) rfl), (List.forall_mem_cons.mpr ⟨ilX8_onceLine_wsX8_onceLine_r1 _ (List.mem_of_getElem? (i := 3) rfl), (List.forall_mem_cons.mpr ⟨ilX8_onceLine_wsX8_onceLine_r1 _ (List.mem_of_getElem? (i := 4) rfl), (List.forall_mem_cons.mpr ⟨ilX8_onceLine_wsX8_onceLine_r1 _ (List.mem_of_getElem? (i := 5) rfl), (List.forall_mem_cons.mpr ⟨ilX8_onceLine_wsX8_onceLine_r1 _ (List.mem_of_getElem? (i := 6) rfl), (List.forall_mem_cons.mpr ⟨ilX8_onceLine_wsX8_onceLine_r1 _ (List.mem_of_getElem? (i := 7) rfl), (List.forall_mem_cons.mpr ⟨ilX8_onceLine_wsX8_onceLine_r1 _ (List.mem_of_getElem? (i := 8) rfl), (List.forall_mem_cons.mpr ⟨ilX8_onceLine_wsX8_onceLine_r1 _ (List.mem_of_getElem? (i := 9) rfl), (List.forall_mem_cons.mpr ⟨ilX8_onceLine_wsX8_onceLine_r1 _ (List.mem_of_getElem? (i := 10) rfl), (List.forall_mem_cons.mpr ⟨ilX8_onceLine_wsX8_onceLine_r1 _ (List.mem_of_getElem? (i := 11) rfl), (List.forall_mem_cons.mpr ⟨ilX8_onceLine_wsX8_onceLine_r1 _ (List.mem_of_getElem? (i := 13) rfl), (List.forall_mem_cons.mpr ⟨ilX8_onceLine_wsX8_onceLine_r1 _ (List.mem_of_getElem? (i := 14) rfl), (List.forall_mem_cons.mpr ⟨ilX8_onceLine_wsX8_onceLine_r1 _ (List.mem_of_getElem? (i := 15) rfl), (List.forall_mem_cons.mpr ⟨ilX8_onceLine_wsX8_onceLine_r1 _ (List.mem_of_getElem? (i := 16) rfl), (List.forall_mem_cons.mpr ⟨ilX8_onceLine_wsX8_onceLine_r1 _ (List.mem_of_getElem? (i := 17) rfl), (List.forall_mem_cons.mpr ⟨ilX8_onceLine_wsX8_onceLine_r1 _ (List.mem_of_getElem? (i := 18) rfl), (List.forall_mem_cons.mpr ⟨ilX8_onceLine_wsX8_onceLine_r1 _ (List.mem_of_getElem? (i := 19) rfl), (List.forall_mem_cons.mpr ⟨ilX8_onceLine_wsX8_onceLine_r1 _ (List.mem_of_getElem? (i := 20) rfl), (List.forall_mem_cons.mpr ⟨ilX8_onceLine_wsX8_onceLine_r1 _ (List.mem_of_getElem? (i := 21) rfl), (fun _ h => absurd h List.not_mem_nil)⟩)⟩)⟩)⟩)⟩)⟩)⟩)⟩)⟩)⟩)⟩)⟩)⟩)⟩)⟩)⟩)⟩)⟩)⟩)⟩), ilX8_onceLine_wsX80⟩)⟩) (by decide +kernel)
set_option maxRecDepth 20000 in
theorem gX8_onceLine_X8_closes : GoodIn wsX8_onceLine (wsV RX8 175 RX8 yX8_closes wsX8_closes) := goodIn_app (goodIn_sub (List.forall_mem_cons.mpr ⟨ilX8_onceLine_wsX8_onceLine_r2 _ (List.mem_of_getElem? (i := 2) rfl), (List.forall_mem_cons.mpr ⟨ilX8_onceLine_wsX8_onceLine_r2 _ (List.mem_of_getElem? (i := 3) rfl), (List.forall_mem_cons.mpr ⟨ilX8_onceLine_wsX8_onceLine_r2 _ (List.mem_of_getElem? (i := 4) rfl), (List.forall_mem_cons.mpr ⟨ilX8_onceLine_wsX8_onceLine_r1 _ (List.mem_of_getElem? (i := 5) rfl), (fun _ h => absurd h List.not_mem_nil)⟩)⟩)⟩)⟩) (by decide +kernel)) ggX8_onceLine_X8_closes
theorem dX8_onceLine_0 : decode cX8_onceLine 0 = .ok (.aload_n 0, 1) := by decide +kernel
theorem dX8_onceLine_1 : decode cX8_onceLine 1 = .ok (.getfield 13, 3) := by decide +kernel
theorem dX8_onceLine_4 : decode cX8_onceLine 4 = .ok (.iload_n 1, 1) := by decide +kernel
theorem dX8_onceLine_5 : decode cX8_onceLine 5 = .ok (.iaload, 1) := by decide +kernel
theorem dX8_onceLine_6 : decode cX8_onceLine 6 = .ok (.iconst (-1), 1) := by decide +kernel
theorem dX8_onceLine_7 : decode cX8_onceLine 7 = .ok (.if_icmp .eq 5, 3) := by decide +kernel
theorem dX8_onceLine_10 : decode cX8_onceLine 10 = .ok (.iconst 0, 1) := by decide +kernel
theorem dX8_onceLine_11 : decode cX8_onceLine 11 = .ok (.ireturn, 1) := by decide +kernel
theorem dX8_onceLine_12 : decode cX8_onceLine 12 = .ok (.aload_n 0, 1) := by decide +kernel
theorem dX8_onceLine_13 : decode cX8_onceLine 13 = .ok (.invokevirtual 168, 3) := by decide +kernel
theorem dX8_onceLine_16 : decode cX8_onceLine 16 = .ok (.aload_n 0, 1) := by decide +kernel
theorem dX8_onceLine_17 : decode cX8_onceLine 17 = .ok (.iload_n 2, 1) := by decide +kernel
theorem dX8_onceLine_18 : decode cX8_onceLine 18 = .ok (.iload_n 3, 1) := by decide +kernel
theorem dX8_onceLine_19 : decode cX8_onceLine 19 = .ok (.invokevirtual 171, 3) := by decide +kernel
theorem dX8_onceLine_22 : decode cX8_onceLine 22 = .ok (.ifCond .ne 5, 3) := by decide +kernel
theorem dX8_onceLine_25 : decode cX8_onceLine 25 = .ok (.iconst 0, 1) := by decide +kernel
theorem dX8_onceLine_26 : decode cX8_onceLine 26 = .ok (.ireturn, 1) := by decide +kernel
theorem dX8_onceLine_27 : decode cX8_onceLine 27 = .ok (.aload_n 0, 1) := by decide +kernel
theorem dX8_onceLine_28 : decode cX8_onceLine 28 = .ok (.getfield 165, 3) := by decide +kernel
theorem dX8_onceLine_31 : decode cX8_onceLine 31 = .ok (.istore 6, 2) := by decide +kernel
theorem dX8_onceLine_33 : decode cX8_onceLine 33 = .ok (.iload 4, 2) := by decide +kernel
theorem dX8_onceLine_35 : decode cX8_onceLine 35 = .ok (.iconst (-1), 1) := by decide +kernel
theorem dX8_onceLine_36 : decode cX8_onceLine 36 = .ok (.if_icmp .eq 28, 3) := by decide +kernel
theorem dX8_onceLine_39 : decode cX8_onceLine 39 = .ok (.aload_n 0, 1) := by decide +kernel
theorem dX8_onceLine_40 : decode cX8_onceLine 40 = .ok (.iload 4, 2) := by decide +kernel
theorem dX8_onceLine_42 : decode cX8_onceLine 42 = .ok (.iload 5, 2) := by decide +kernel
theorem dX8_onceLine_44 : decode cX8_onceLine 44 = .ok (.invokevirtual 171, 3) := by decide +kernel
theorem dX8_onceLine_47 : decode cX8_onceLine 47 = .ok (.ifCond .ne 5, 3) := by decide +kernel
theorem dX8_onceLine_50 : decode cX8_onceLine 50 = .ok (.iconst 0, 1) := by decide +kernel
theorem dX8_onceLine_51 : decode cX8_onceLine 51 = .ok (.ireturn, 1) := by decide +kernel
theorem dX8_onceLine_52 : decode cX8_onceLine 52 = .ok (.aload_n 0, 1) := by decide +kernel
theorem dX8_onceLine_53 : decode cX8_onceLine 53 = .ok (.getfield 13, 3) := by decide +kernel
theorem dX8_onceLine_56 : decode cX8_onceLine 56 = .ok (.iload_n 1, 1) := by decide +kernel
theorem dX8_onceLine_57 : decode cX8_onceLine 57 = .ok (.iconst 1, 1) := by decide +kernel
theorem dX8_onceLine_58 : decode cX8_onceLine 58 = .ok (.iadd, 1) := by decide +kernel
theorem dX8_onceLine_59 : decode cX8_onceLine 59 = .ok (.aload_n 0, 1) := by decide +kernel
theorem dX8_onceLine_60 : decode cX8_onceLine 60 = .ok (.getfield 165, 3) := by decide +kernel
theorem dX8_onceLine_63 : decode cX8_onceLine 63 = .ok (.iastore, 1) := by decide +kernel
theorem dX8_onceLine_64 : decode cX8_onceLine 64 = .ok (.aload_n 0, 1) := by decide +kernel
theorem dX8_onceLine_65 : decode cX8_onceLine 65 = .ok (.getfield 13, 3) := by decide +kernel
theorem dX8_onceLine_68 : decode cX8_onceLine 68 = .ok (.iload_n 1, 1) := by decide +kernel
theorem dX8_onceLine_69 : decode cX8_onceLine 69 = .ok (.iload 6, 2) := by decide +kernel
theorem dX8_onceLine_71 : decode cX8_onceLine 71 = .ok (.iastore, 1) := by decide +kernel
theorem dX8_onceLine_72 : decode cX8_onceLine 72 = .ok (.aload_n 0, 1) := by decide +kernel
theorem dX8_onceLine_73 : decode cX8_onceLine 73 = .ok (.invokevirtual 175, 3) := by decide +kernel
theorem dX8_onceLine_76 : decode cX8_onceLine 76 = .ok (.ireturn, 1) := by decide +kernel
theorem dX8_mostOf_0 : decode cX8_mostOf 0 = .ok (.iload_n 0, 1) := by decide +kernel
theorem dX8_mostOf_1 : decode cX8_mostOf 1 = .ok (.ifCond .ne 8, 3) := by decide +kernel
theorem dX8_mostOf_4 : decode cX8_mostOf 4 = .ok (.bipush 50, 2) := by decide +kernel
theorem dX8_mostOf_6 : decode cX8_mostOf 6 = .ok (.goto 25, 3) := by decide +kernel
theorem dX8_mostOf_9 : decode cX8_mostOf 9 = .ok (.iload_n 0, 1) := by decide +kernel
theorem dX8_mostOf_10 : decode cX8_mostOf 10 = .ok (.iconst 3, 1) := by decide +kernel
theorem dX8_mostOf_11 : decode cX8_mostOf 11 = .ok (.if_icmp .ne 8, 3) := by decide +kernel
theorem dX8_mostOf_14 : decode cX8_mostOf 14 = .ok (.bipush 60, 2) := by decide +kernel
theorem dX8_mostOf_16 : decode cX8_mostOf 16 = .ok (.goto 15, 3) := by decide +kernel
theorem dX8_mostOf_19 : decode cX8_mostOf 19 = .ok (.iload_n 0, 1) := by decide +kernel
theorem dX8_mostOf_20 : decode cX8_mostOf 20 = .ok (.iconst 5, 1) := by decide +kernel
theorem dX8_mostOf_21 : decode cX8_mostOf 21 = .ok (.if_icmp .ne 8, 3) := by decide +kernel
theorem dX8_mostOf_24 : decode cX8_mostOf 24 = .ok (.bipush 16, 2) := by decide +kernel
theorem dX8_mostOf_26 : decode cX8_mostOf 26 = .ok (.goto 5, 3) := by decide +kernel
theorem dX8_mostOf_29 : decode cX8_mostOf 29 = .ok (.bipush 99, 2) := by decide +kernel
theorem dX8_mostOf_31 : decode cX8_mostOf 31 = .ok (.ireturn, 1) := by decide +kernel
theorem ilX8_sortLine_wsX8_sortLine_r1 : ∀ w ∈ wsX8_sortLine_r1, w ∈ wsX8_sortLine := fun _ h => List.mem_cons_of_mem _ (List.mem_append_left _ (List.mem_append_left _ (h)))
theorem ilX8_sortLine_wsX8_sortLine_r2 : ∀ w ∈ wsX8_sortLine_r2, w ∈ wsX8_sortLine := fun _ h => List.mem_cons_of_mem _ (List.mem_append_left _ (List.mem_append_right _ (List.mem_append_left _ (h))))
theorem ilX8_sortLine_wsX8_sortLine_r3 : ∀ w ∈ wsX8_sortLine_r3, w ∈ wsX8_sortLine := fun _ h => List.mem_cons_of_mem _ (List.mem_append_left _ (List.mem_append_right _ (List.mem_append_right _ (List.mem_append_left _ (h)))))
theorem ilX8_sortLine_wsX8_sortLine_r4 : ∀ w ∈ wsX8_sortLine_r4, w ∈ wsX8_sortLine := fun _ h => List.mem_cons_of_mem _ (List.mem_append_left _ (List.mem_append_right _ (List.mem_append_right _ (List.mem_append_right _ (List.mem_append_left _ (h))))))
theorem ilX8_sortLine_wsX8_sortLine_r5 : ∀ w ∈ wsX8_sortLine_r5, w ∈ wsX8_sortLine := fun _ h => List.mem_cons_of_mem _ (List.mem_append_left _ (List.mem_append_right _ (List.mem_append_right _ (List.mem_append_right _ (List.mem_append_right _ (h))))))
theorem ilX8_sortLine_wsX80 : ∀ w ∈ wsX80, w ∈ wsX8_sortLine := fun _ h => List.mem_cons_of_mem _ (List.mem_append_right _ (h))
set_option maxRecDepth 20000 in
theorem ggX8_sortLine_X8_leads : GoodIn wsX8_sortLine wsX8_leads := goodIn_sub (List.forall_mem_cons.mpr ⟨ilX8_sortLine_wsX8_sortLine_r1 _ (List.mem_of_getElem? (i := 9) rfl), (List.forall_mem_append.mpr ⟨(List.forall_mem_cons.mpr ⟨ilX8_sortLine_wsX8_sortLine_r1 _ (List.mem_of_getElem? (i := 10) rfl), (List.forall_mem_cons.mpr ⟨ilX8_sortLine_wsX8_sortLine_r1 _ (List.mem_of_getElem? (i := 11) rfl), (List.forall_mem_cons.mpr ⟨ilX8_sortLine_wsX8_sortLine_r1 _ (List.mem_of_getElem? (i := 12) rfl), (List.forall_mem_cons.mpr ⟨ilX8_sortLine_wsX8_sortLine_r1 _ (List.mem_of_getElem? (i := 13) rfl), (List.forall_mem_cons.mpr ⟨ilX8_sortLine_wsX8_sortLine_r1 _ (List.mem_of_getElem? (i := 2) rfl), (List.forall_mem_cons.mpr ⟨ilX8_sortLine_wsX8_sortLine_r1 _ (List.mem_of_getElem? (i := 14) rfl), (List.forall_mem_cons.mpr ⟨ilX8_sortLine_wsX8_sortLine_r1 _ (List.mem_of_getElem? (i := 15) rfl), (List.forall_mem_cons.mpr ⟨ilX8_sortLine_wsX8_sortLine_r1 _ (List.mem_of_getElem? (i := 16) rfl), (List.forall_mem_cons.mpr ⟨ilX8_sortLine_wsX8_sortLine_r1 _ (List.mem_of_getElem? (i := 17) rfl), (List.forall_mem_cons.mpr ⟨ilX8_sortLine_wsX8_sortLine_r1 _ (List.mem_of_getElem? (i := 18) rfl), (List.forall_mem_cons.mpr ⟨ilX8_sortLine_wsX8_sortLine_r1 _ (List.mem_of_getElem? (i := 19) rfl), (List.forall_mem_cons.mpr ⟨ilX8_sortLine_wsX8_sortLine_r1 _ (List.mem_of_getElem? (i := 8) rfl), (List.forall_mem_cons.mpr ⟨ilX8_sortLine_wsX8_sortLine_r1 _ (List.mem_of_getElem? (i := 20) rfl), (List.forall_mem_cons.mpr ⟨ilX8_sortLine_wsX8_sortLine_r1 _ (List.mem_of_getElem? (i := 21) rfl), (List.forall_mem_cons.mpr ⟨ilX8_sortLine_wsX8_sortLine_r1 _ (List.mem_of_getElem? (i := 22) rfl), (List.forall_mem_cons.mpr ⟨ilX8_sortLine_wsX8_sortLine_r1 _ (List.mem_of_getElem? (i := 23) rfl), (fun _ h => absurd h List.not_mem_nil)⟩)⟩)⟩)⟩)⟩)⟩)⟩)⟩)⟩)⟩)⟩)⟩)⟩)⟩)⟩)⟩), ilX8_sortLine_wsX80⟩)⟩) (by decide +kernel)
set_option maxRecDepth 20000 in
theorem gX8_sortLine_X8_leads : GoodIn wsX8_sortLine (wsV RX8 168 RX8 yX8_leads wsX8_leads) := goodIn_app (goodIn_sub (List.forall_mem_cons.mpr ⟨ilX8_sortLine_wsX8_sortLine_r1 _ (List.mem_of_getElem? (i := 5) rfl), (List.forall_mem_cons.mpr ⟨ilX8_sortLine_wsX8_sortLine_r1 _ (List.mem_of_getElem? (i := 6) rfl), (List.forall_mem_cons.mpr ⟨ilX8_sortLine_wsX8_sortLine_r1 _ (List.mem_of_getElem? (i := 7) rfl), (List.forall_mem_cons.mpr ⟨ilX8_sortLine_wsX8_sortLine_r1 _ (List.mem_of_getElem? (i := 8) rfl), (fun _ h => absurd h List.not_mem_nil)⟩)⟩)⟩)⟩) (by decide +kernel)) ggX8_sortLine_X8_leads
set_option maxRecDepth 20000 in
theorem ggX8_sortLine_X8_isName : GoodIn wsX8_sortLine wsX8_isName := goodIn_sub (List.forall_mem_cons.mpr ⟨ilX8_sortLine_wsX8_sortLine_r2 _ (List.mem_of_getElem? (i := 3) rfl), (List.forall_mem_append.mpr ⟨(List.forall_mem_append.mpr ⟨(List.forall_mem_cons.mpr ⟨ilX8_sortLine_wsX8_sortLine_r1 _ (List.mem_of_getElem? (i := 14) rfl), (List.forall_mem_cons.mpr ⟨ilX8_sortLine_wsX8_sortLine_r1 _ (List.mem_of_getElem? (i := 2) rfl), (List.forall_mem_cons.mpr ⟨ilX8_sortLine_wsX8_sortLine_r2 _ (List.mem_of_getElem? (i := 4) rfl), (List.forall_mem_cons.mpr ⟨ilX8_sortLine_wsX8_sortLine_r2 _ (List.mem_of_getElem? (i := 5) rfl), (List.forall_mem_cons.mpr ⟨ilX8_sortLine_wsX8_sortLine_r2 _ (List.mem_of_getElem? (i := 6) rfl), (List.forall_mem_cons.mpr ⟨ilX8_sortLine_wsX8_sortLine_r1 _ (List.mem_of_getElem? (i := 8) rfl), (List.forall_mem_cons.mpr ⟨ilX8_sortLine_wsX8_sortLine_r2 _ (List.mem_of_getElem? (i := 7) rfl), (List.forall_mem_cons.mpr ⟨ilX8_sortLine_wsX8_sortLine_r2 _ (List.mem_of_getElem? (i := 8) rfl), (List.forall_mem_cons.mpr ⟨ilX8_sortLine_wsX8_sortLine_r2 _ (List.mem_of_getElem? (i := 9) rfl), (List.forall_mem_cons.mpr ⟨ilX8_sortLine_wsX8_sortLine_r2 _ (List.mem_of_getElem? (i := 10) rfl), (List.forall_mem_cons.mpr ⟨ilX8_sortLine_wsX8_sortLine_r2 _ (List.mem_of_getElem? (i := 11) rfl), (List.forall_mem_cons.mpr ⟨ilX8_sortLine_wsX8_sortLine_r2 _ (List.mem_of_getElem? (i := 12) rfl), (List.forall_mem_cons.mpr ⟨ilX8_sortLine_wsX8_sortLine_r2 _ (List.mem_of_getElem? (i := 13) rfl), (List.forall_mem_cons.mpr ⟨ilX8_sortLine_wsX8_sortLine_r2 _ (List.mem_of_getElem? (i := 14) rfl), (List.forall_mem_cons.mpr ⟨ilX8_sortLine_wsX8_sortLine_r2 _ (List.mem_of_getElem? (i := 15) rfl), (List.forall_mem_cons.mpr ⟨ilX8_sortLine_wsX8_sortLine_r2 _ (List.mem_of_getElem? (i := 16) rfl), (List.forall_mem_cons.mpr ⟨ilX8_sortLine_wsX8_sortLine_r2 _ (List.mem_of_getElem? (i := 17) rfl), (List.forall_mem_cons.mpr ⟨ilX8_sortLine_wsX8_sortLine_r2 _ (List.mem_of_getElem? (i := 18) rfl), (List.forall_mem_cons.mpr ⟨ilX8_sortLine_wsX8_sortLine_r2 _ (List.mem_of_getElem? (i := 19) rfl), (List.forall_mem_cons.mpr ⟨ilX8_sortLine_wsX8_sortLine_r2 _ (List.mem_of_getElem? (i := 20) rfl), (List.forall_mem_cons.mpr ⟨ilX8_sortLine_wsX8_sortLine_r2 _ (List.mem_of_getElem? (i := 21) rfl), (List.forall_mem_cons.mpr ⟨ilX8_sortLine_wsX8_sortLine_r2 _ (List.mem_of_getElem? (i := 22) rfl), (List.forall_mem_cons.mpr ⟨ilX8_sortLine_wsX8_sortLine_r2 _ (List.mem_of_getElem? (i := 23) rfl), (List.forall_mem_cons.mpr ⟨ilX8_sortLine_wsX8_sortLine_r3 _ (List.mem_of_getElem? (i := 0) rfl), (fun _ h => absurd h List.not_mem_nil)⟩)⟩)⟩)⟩)⟩)⟩)⟩)⟩)⟩)⟩)⟩)⟩)⟩)⟩)⟩)⟩)⟩)⟩)⟩)⟩)⟩)⟩)⟩)⟩), (List.forall_mem_append.mpr ⟨(List.forall_mem_cons.mpr ⟨ilX8_sortLine_wsX8_sortLine_r3 _ (List.mem_of_getElem? (i := 1) rfl), (List.forall_mem_cons.mpr ⟨ilX8_sortLine_wsX8_sortLine_r3 _ (List.mem_of_getElem? (i := 2) rfl), (List.forall_mem_cons.mpr ⟨ilX8_sortLine_wsX8_sortLine_r3 _ (List.mem_of_getElem? (i := 3) rfl), (List.forall_mem_cons.mpr ⟨ilX8_sortLine_wsX8_sortLine_r3 _ (List.mem_of_getElem? (i := 4) rfl), (List.forall_mem_cons.mpr ⟨ilX8_sortLine_wsX8_sortLine_r3 _ (List.mem_of_getElem? (i := 5) rfl), (List.forall_mem_cons.mpr ⟨ilX8_sortLine_wsX8_sortLine_r3 _ (List.mem_of_getElem? (i := 6) rfl), (List.forall_mem_cons.mpr ⟨ilX8_sortLine_wsX8_sortLine_r3 _ (List.mem_of_getElem? (i := 7) rfl), (List.forall_mem_cons.mpr ⟨ilX8_sortLine_wsX8_sortLine_r3 _ (List.mem_of_getElem? (i := 8) rfl), (List.forall_mem_cons.mpr ⟨ilX8_sortLine_wsX8_sortLine_r3 _ (List.mem_of_getElem? (i := 9) rfl), (List.forall_mem_cons.mpr ⟨ilX8_sortLine_wsX8_sortLine_r3 _ (List.mem_of_getElem? (i := 10) rfl), (List.forall_mem_cons.mpr ⟨ilX8_sortLine_wsX8_sortLine_r3 _ (List.mem_of_getElem? (i := 11) rfl), (List.forall_mem_cons.mpr ⟨ilX8_sortLine_wsX8_sortLine_r3 _ (List.mem_of_getElem? (i := 12) rfl), (List.forall_mem_cons.mpr ⟨ilX8_sortLine_wsX8_sortLine_r3 _ (List.mem_of_getElem? (i := 13) rfl), (List.forall_mem_cons.mpr ⟨ilX8_sortLine_wsX8_sortLine_r3 _ (List.mem_of_getElem? (i := 14) rfl), (List.forall_mem_cons.mpr ⟨ilX8_sortLine_wsX8_sortLine_r3 _ (List.mem_of_getElem? (i := 15) rfl), (List.forall_mem_cons.mpr ⟨ilX8_sortLine_wsX8_sortLine_r3 _ (List.mem_of_getElem? (i := 16) rfl), (List.forall_mem_cons.mpr ⟨ilX8_sortLine_wsX8_sortLine_r3 _ (List.mem_of_getElem? (i := 17) rfl), (List.forall_mem_cons.mpr ⟨ilX8_sortLine_wsX8_sortLine_r3 _ (List.mem_of_getElem? (i := 18) rfl), (List.forall_mem_cons.mpr ⟨ilX8_sortLine_wsX8_sortLine_r3 _ (List.mem_of_getElem? (i := 19) rfl), (List.forall_mem_cons.mpr ⟨ilX8_sortLine_wsX8_sortLine_r3 _ (List.mem_of_getElem? (i := 20) rfl), (List.forall_mem_cons.mpr ⟨ilX8_sortLine_wsX8_sortLine_r3 _ (List.mem_of_getElem? (i := 21) rfl), (List.forall_mem_cons.mpr ⟨ilX8_sortLine_wsX8_sortLine_r3 _ (List.mem_of_getElem? (i := 22) rfl), (List.forall_mem_cons.mpr ⟨ilX8_sortLine_wsX8_sortLine_r3 _ (List.mem_of_getElem? (i := 23) rfl), (List.forall_mem_cons.mpr ⟨ilX8_sortLine_wsX8_sortLine_r4 _ (List.mem_of_getElem? (i := 0) rfl), (fun _ h => absurd h List.not_mem_nil)⟩)⟩)⟩)⟩)⟩)⟩)⟩)⟩)⟩)⟩)⟩)⟩)⟩)⟩)⟩)⟩)⟩)⟩)⟩)⟩)⟩)⟩)⟩)⟩), (List.forall_mem_cons.mpr ⟨ilX8_sortLine_wsX8_sortLine_r4 _ (List.mem_of_getElem? (i := 1) rfl), (List.forall_mem_cons.mpr ⟨ilX8_sortLine_wsX8_sortLine_r4 _ (List.mem_of_getElem? (i := 2) rfl), (List.forall_mem_cons.mpr ⟨ilX8_sortLine_wsX8_sortLine_r4 _ (List.mem_of_getElem? (i := 3) rfl), (List.forall_mem_cons.mpr ⟨ilX8_sortLine_wsX8_sortLine_r4 _ (List.mem_of_getElem? (i := 4) rfl), (List.forall_mem_cons.mpr ⟨ilX8_sortLine_wsX8_sortLine_r4 _ (List.mem_of_getElem? (i := 5) rfl), (List.forall_mem_cons.mpr ⟨ilX8_sortLine_wsX8_sortLine_r4 _ (List.mem_of_getElem? (i := 6) rfl), (List.forall_mem_cons.mpr ⟨ilX8_sortLine_wsX8_sortLine_r4 _ (List.mem_of_getElem? (i := 7) rfl), (List.forall_mem_cons.mpr ⟨ilX8_sortLine_wsX8_sortLine_r4 _ (List.mem_of_getElem? (i := 8) rfl), (List.forall_mem_cons.mpr ⟨ilX8_sortLine_wsX8_sortLine_r4 _ (List.mem_of_getElem? (i := 9) rfl), (List.forall_mem_cons.mpr ⟨ilX8_sortLine_wsX8_sortLine_r4 _ (List.mem_of_getElem? (i := 10) rfl), (List.forall_mem_cons.mpr ⟨ilX8_sortLine_wsX8_sortLine_r4 _ (List.mem_of_getElem? (i := 11) rfl), (List.forall_mem_cons.mpr ⟨ilX8_sortLine_wsX8_sortLine_r4 _ (List.mem_of_getElem? (i := 12) rfl), (List.forall_mem_cons.mpr ⟨ilX8_sortLine_wsX8_sortLine_r4 _ (List.mem_of_getElem? (i := 13) rfl), (List.forall_mem_cons.mpr ⟨ilX8_sortLine_wsX8_sortLine_r4 _ (List.mem_of_getElem? (i := 14) rfl), (List.forall_mem_cons.mpr ⟨ilX8_sortLine_wsX8_sortLine_r4 _ (List.mem_of_getElem? (i := 15) rfl), (fun _ h => absurd h List.not_mem_nil)⟩)⟩)⟩)⟩)⟩)⟩)⟩)⟩)⟩)⟩)⟩)⟩)⟩)⟩)⟩)⟩)⟩), ilX8_sortLine_wsX80⟩)⟩) (by decide +kernel)
set_option maxRecDepth 20000 in
theorem gX8_sortLine_X8_isName : GoodIn wsX8_sortLine (wsV RX8 182 RX8 yX8_isName wsX8_isName) := goodIn_app (goodIn_sub (List.forall_mem_cons.mpr ⟨ilX8_sortLine_wsX8_sortLine_r2 _ (List.mem_of_getElem? (i := 0) rfl), (List.forall_mem_cons.mpr ⟨ilX8_sortLine_wsX8_sortLine_r2 _ (List.mem_of_getElem? (i := 1) rfl), (List.forall_mem_cons.mpr ⟨ilX8_sortLine_wsX8_sortLine_r2 _ (List.mem_of_getElem? (i := 2) rfl), (List.forall_mem_cons.mpr ⟨ilX8_sortLine_wsX8_sortLine_r1 _ (List.mem_of_getElem? (i := 8) rfl), (fun _ h => absurd h List.not_mem_nil)⟩)⟩)⟩)⟩) (by decide +kernel)) ggX8_sortLine_X8_isName
set_option maxRecDepth 20000 in
theorem ggX8_sortLine_X8_mostOf : GoodIn wsX8_sortLine wsX8_mostOf := goodIn_sub (List.forall_mem_cons.mpr ⟨ilX8_sortLine_wsX8_sortLine_r4 _ (List.mem_of_getElem? (i := 18) rfl), (fun _ h => absurd h List.not_mem_nil)⟩) (by decide +kernel)
set_option maxRecDepth 20000 in
theorem gX8_sortLine_X8_mostOf : GoodIn wsX8_sortLine (va_wsS RX8 185 yX8_mostOf wsX8_mostOf) := goodIn_app (goodIn_of _ (by decide +kernel)) ggX8_sortLine_X8_mostOf
set_option maxRecDepth 20000 in
theorem ggX8_sortLine_X8_number : GoodIn wsX8_sortLine wsX8_number := goodIn_sub (List.forall_mem_cons.mpr ⟨ilX8_sortLine_wsX8_sortLine_r4 _ (List.mem_of_getElem? (i := 22) rfl), (List.forall_mem_append.mpr ⟨(List.forall_mem_cons.mpr ⟨ilX8_sortLine_wsX8_sortLine_r1 _ (List.mem_of_getElem? (i := 14) rfl), (List.forall_mem_cons.mpr ⟨ilX8_sortLine_wsX8_sortLine_r1 _ (List.mem_of_getElem? (i := 2) rfl), (List.forall_mem_cons.mpr ⟨ilX8_sortLine_wsX8_sortLine_r1 _ (List.mem_of_getElem? (i := 4) rfl), (List.forall_mem_cons.mpr ⟨ilX8_sortLine_wsX8_sortLine_r1 _ (List.mem_of_getElem? (i := 5) rfl), (List.forall_mem_cons.mpr ⟨ilX8_sortLine_wsX8_sortLine_r1 _ (List.mem_of_getElem? (i := 6) rfl), (List.forall_mem_cons.mpr ⟨ilX8_sortLine_wsX8_sortLine_r1 _ (List.mem_of_getElem? (i := 7) rfl), (List.forall_mem_cons.mpr ⟨ilX8_sortLine_wsX8_sortLine_r1 _ (List.mem_of_getElem? (i := 8) rfl), (List.forall_mem_cons.mpr ⟨ilX8_sortLine_wsX8_sortLine_r1 _ (List.mem_of_getElem? (i := 9) rfl), (List.forall_mem_cons.mpr ⟨ilX8_sortLine_wsX8_sortLine_r1 _ (List.mem_of_getElem? (i := 10) rfl), (List.forall_mem_cons.mpr ⟨ilX8_sortLine_wsX8_sortLine_r1 _ (List.mem_of_getElem? (i := 11) rfl), (List.forall_mem_cons.mpr ⟨ilX8_sortLine_wsX8_sortLine_r1 _ (List.mem_of_getElem? (i := 12) rfl), (List.forall_mem_cons.mpr ⟨ilX8_sortLine_wsX8_sortLine_r1 _ (List.mem_of_getElem? (i := 13) rfl), (List.forall_mem_cons.mpr ⟨ilX8_sortLine_wsX8_sortLine_r1 _ (List.mem_of_getElem? (i := 15) rfl), (List.forall_mem_cons.mpr ⟨ilX8_sortLine_wsX8_sortLine_r1 _ (List.mem_of_getElem? (i := 16) rfl), (List.forall_mem_cons.mpr ⟨ilX8_sortLine_wsX8_sortLine_r1 _ (List.mem_of_getElem? (i := 17) rfl), (List.forall_mem_cons.mpr ⟨ilX8_sortLine_wsX8_sortLine_r1 _ (List.mem_of_getElem? (i := 18) rfl), (List.forall_mem_cons.mpr ⟨ilX8_sortLine_wsX8_sortLine_r1 _ (List.mem_of_getElem? (i := 19) rfl), (List.forall_mem_cons.mpr ⟨ilX8_sortLine_wsX8_sortLine_r1 _ (List.mem_of_getElem? (i := 20) rfl), (List.forall_mem_cons.mpr ⟨ilX8_sortLine_wsX8_sortLine_r1 _ (List.mem_of_getElem? (i := 21) rfl), (List.forall_mem_cons.mpr ⟨ilX8_sortLine_wsX8_sortLine_r1 _ (List.mem_of_getElem? (i := 22) rfl), (List.forall_mem_cons.mpr ⟨ilX8_sortLine_wsX8_sortLine_r1 _ (List.mem_of_getElem? (i := 23) rfl), (fun _ h => absurd h List.not_mem_nil)⟩)⟩)⟩)⟩)⟩)⟩)⟩)⟩)⟩)⟩)⟩)⟩)⟩)⟩)⟩)⟩)⟩)⟩)⟩)⟩)⟩), ilX8_sortLine_wsX80⟩)⟩) (by decide +kernel)
set_option maxRecDepth 20000 in
theorem gX8_sortLine_X8_number : GoodIn wsX8_sortLine (wsV RX8 171 RX8 yX8_number wsX8_number) := goodIn_app (goodIn_sub (List.forall_mem_cons.mpr ⟨ilX8_sortLine_wsX8_sortLine_r4 _ (List.mem_of_getElem? (i := 19) rfl), (List.forall_mem_cons.mpr ⟨ilX8_sortLine_wsX8_sortLine_r4 _ (List.mem_of_getElem? (i := 20) rfl), (List.forall_mem_cons.mpr ⟨ilX8_sortLine_wsX8_sortLine_r4 _ (List.mem_of_getElem? (i := 21) rfl), (List.forall_mem_cons.mpr ⟨ilX8_sortLine_wsX8_sortLine_r1 _ (List.mem_of_getElem? (i := 8) rfl), (fun _ h => absurd h List.not_mem_nil)⟩)⟩)⟩)⟩) (by decide +kernel)) ggX8_sortLine_X8_number
set_option maxRecDepth 20000 in
theorem ggX8_sortLine_X8_closes : GoodIn wsX8_sortLine wsX8_closes := goodIn_sub (List.forall_mem_cons.mpr ⟨ilX8_sortLine_wsX8_sortLine_r5 _ (List.mem_of_getElem? (i := 2) rfl), (List.forall_mem_append.mpr ⟨(List.forall_mem_cons.mpr ⟨ilX8_sortLine_wsX8_sortLine_r1 _ (List.mem_of_getElem? (i := 14) rfl), (List.forall_mem_cons.mpr ⟨ilX8_sortLine_wsX8_sortLine_r1 _ (List.mem_of_getElem? (i := 5) rfl), (List.forall_mem_cons.mpr ⟨ilX8_sortLine_wsX8_sortLine_r1 _ (List.mem_of_getElem? (i := 6) rfl), (List.forall_mem_cons.mpr ⟨ilX8_sortLine_wsX8_sortLine_r1 _ (List.mem_of_getElem? (i := 7) rfl), (List.forall_mem_cons.mpr ⟨ilX8_sortLine_wsX8_sortLine_r1 _ (List.mem_of_getElem? (i := 8) rfl), (List.forall_mem_cons.mpr ⟨ilX8_sortLine_wsX8_sortLine_r1 _ (List.mem_of_getElem? (i := 9) rfl), (List.forall_mem_cons.mpr ⟨ilX8_sortLine_wsX8_sortLine_r1 _ (List.mem_of_getElem? (i := 10) rfl), (List.forall_mem_cons.mpr ⟨ilX8_sortLine_wsX8_sortLine_r1 _ (List.mem_of_getElem? (i := 11) rfl), (List.forall_mem_cons.mpr ⟨ilX8_sortLine_wsX8_sortLine_r1 _ (List.mem_of_getElem? (i := 12) rfl), (List.forall_mem_cons.mpr ⟨ilX8_sortLine_wsX8_sortLine_r1 _ (List.mem_of_getElem? (i := 13) rfl), (List.forall_mem_cons.mpr ⟨ilX8_sortLine_wsX8_sortLine_r1 _ (List.mem_of_getElem? (i := 2) rfl), (List.forall_mem_cons.mpr ⟨ilX8_sortLine_wsX8_sortLine_r1 _ (List.mem_of_getElem? (i := 15) rfl), (List.forall_mem_cons.mpr ⟨ilX8_sortLine_wsX8_sortLine_r1 _ (List.mem_of_getElem? (i := 16) rfl), (List.forall_mem_cons.mpr ⟨ilX8_sortLine_wsX8_sortLine_r1 _ (List.mem_of_getElem? (i := 17) rfl), (List.forall_mem_cons.mpr ⟨ilX8_sortLine_wsX8_sortLine_r1 _ (List.mem_of_getElem? (i := 18) rfl), (List.forall_mem_cons.mpr ⟨ilX8_sortLine_wsX8_sortLine_r1 _ (List.mem_of_getElem? (i := 19) rfl), (List.forall_mem_cons.mpr ⟨ilX8_sortLine_wsX8_sortLine_r1 _ (List.mem_of_getElem? (i := 20) rfl), (List.forall_mem_cons.mpr ⟨ilX8_sortLine_wsX8_sortLine_r1 _ (List.mem_of_getElem? (i := 21) rfl), (List.forall_mem_cons.mpr ⟨ilX8_sortLine_wsX8_sortLine_r1 _ (List.mem_of_getElem? (i := 22) rfl), (List.forall_mem_cons.mpr ⟨ilX8_sortLine_wsX8_sortLine_r1 _ (List.mem_of_getElem? (i := 23) rfl), (fun _ h => absurd h List.not_mem_nil)⟩)⟩)⟩)⟩)⟩)⟩)⟩)⟩)⟩)⟩)⟩)⟩)⟩)⟩)⟩)⟩)⟩)⟩)⟩)⟩), ilX8_sortLine_wsX80⟩)⟩) (by decide +kernel)
set_option maxRecDepth 20000 in
theorem gX8_sortLine_X8_closes : GoodIn wsX8_sortLine (wsV RX8 175 RX8 yX8_closes wsX8_closes) := goodIn_app (goodIn_sub (List.forall_mem_cons.mpr ⟨ilX8_sortLine_wsX8_sortLine_r4 _ (List.mem_of_getElem? (i := 23) rfl), (List.forall_mem_cons.mpr ⟨ilX8_sortLine_wsX8_sortLine_r5 _ (List.mem_of_getElem? (i := 0) rfl), (List.forall_mem_cons.mpr ⟨ilX8_sortLine_wsX8_sortLine_r5 _ (List.mem_of_getElem? (i := 1) rfl), (List.forall_mem_cons.mpr ⟨ilX8_sortLine_wsX8_sortLine_r1 _ (List.mem_of_getElem? (i := 8) rfl), (fun _ h => absurd h List.not_mem_nil)⟩)⟩)⟩)⟩) (by decide +kernel)) ggX8_sortLine_X8_closes
theorem dX8_sortLine_0 : decode cX8_sortLine 0 = .ok (.aload_n 0, 1) := by decide +kernel
theorem dX8_sortLine_1 : decode cX8_sortLine 1 = .ok (.getfield 179, 3) := by decide +kernel
theorem dX8_sortLine_4 : decode cX8_sortLine 4 = .ok (.bipush 6, 2) := by decide +kernel
theorem dX8_sortLine_6 : decode cX8_sortLine 6 = .ok (.if_icmp .ne 5, 3) := by decide +kernel
theorem dX8_sortLine_9 : decode cX8_sortLine 9 = .ok (.iconst 0, 1) := by decide +kernel
theorem dX8_sortLine_10 : decode cX8_sortLine 10 = .ok (.ireturn, 1) := by decide +kernel
theorem dX8_sortLine_11 : decode cX8_sortLine 11 = .ok (.aload_n 0, 1) := by decide +kernel
theorem dX8_sortLine_12 : decode cX8_sortLine 12 = .ok (.invokevirtual 168, 3) := by decide +kernel
theorem dX8_sortLine_15 : decode cX8_sortLine 15 = .ok (.aload_n 0, 1) := by decide +kernel
theorem dX8_sortLine_16 : decode cX8_sortLine 16 = .ok (.invokevirtual 182, 3) := by decide +kernel
theorem dX8_sortLine_19 : decode cX8_sortLine 19 = .ok (.ifCond .ne 5, 3) := by decide +kernel
theorem dX8_sortLine_22 : decode cX8_sortLine 22 = .ok (.iconst 0, 1) := by decide +kernel
theorem dX8_sortLine_23 : decode cX8_sortLine 23 = .ok (.ireturn, 1) := by decide +kernel
theorem dX8_sortLine_24 : decode cX8_sortLine 24 = .ok (.iconst 0, 1) := by decide +kernel
theorem dX8_sortLine_25 : decode cX8_sortLine 25 = .ok (.istore_n 1, 1) := by decide +kernel
theorem dX8_sortLine_26 : decode cX8_sortLine 26 = .ok (.iload_n 1, 1) := by decide +kernel
theorem dX8_sortLine_27 : decode cX8_sortLine 27 = .ok (.aload_n 0, 1) := by decide +kernel
theorem dX8_sortLine_28 : decode cX8_sortLine 28 = .ok (.getfield 179, 3) := by decide +kernel
theorem dX8_sortLine_31 : decode cX8_sortLine 31 = .ok (.if_icmp .ge 25, 3) := by decide +kernel
theorem dX8_sortLine_34 : decode cX8_sortLine 34 = .ok (.aload_n 0, 1) := by decide +kernel
theorem dX8_sortLine_35 : decode cX8_sortLine 35 = .ok (.getfield 17, 3) := by decide +kernel
theorem dX8_sortLine_38 : decode cX8_sortLine 38 = .ok (.iload_n 1, 1) := by decide +kernel
theorem dX8_sortLine_39 : decode cX8_sortLine 39 = .ok (.laload, 1) := by decide +kernel
theorem dX8_sortLine_40 : decode cX8_sortLine 40 = .ok (.aload_n 0, 1) := by decide +kernel
theorem dX8_sortLine_41 : decode cX8_sortLine 41 = .ok (.getfield 102, 3) := by decide +kernel
theorem dX8_sortLine_44 : decode cX8_sortLine 44 = .ok (.lcmp, 1) := by decide +kernel
theorem dX8_sortLine_45 : decode cX8_sortLine 45 = .ok (.ifCond .ne 5, 3) := by decide +kernel
theorem dX8_sortLine_48 : decode cX8_sortLine 48 = .ok (.iconst 0, 1) := by decide +kernel
theorem dX8_sortLine_49 : decode cX8_sortLine 49 = .ok (.ireturn, 1) := by decide +kernel
theorem dX8_sortLine_50 : decode cX8_sortLine 50 = .ok (.iinc 1 1, 3) := by decide +kernel
theorem dX8_sortLine_53 : decode cX8_sortLine 53 = .ok (.goto (-27), 3) := by decide +kernel
theorem dX8_sortLine_56 : decode cX8_sortLine 56 = .ok (.aload_n 0, 1) := by decide +kernel
theorem dX8_sortLine_57 : decode cX8_sortLine 57 = .ok (.getfield 17, 3) := by decide +kernel
theorem dX8_sortLine_60 : decode cX8_sortLine 60 = .ok (.aload_n 0, 1) := by decide +kernel
theorem dX8_sortLine_61 : decode cX8_sortLine 61 = .ok (.getfield 179, 3) := by decide +kernel
theorem dX8_sortLine_64 : decode cX8_sortLine 64 = .ok (.aload_n 0, 1) := by decide +kernel
theorem dX8_sortLine_65 : decode cX8_sortLine 65 = .ok (.getfield 102, 3) := by decide +kernel
theorem dX8_sortLine_68 : decode cX8_sortLine 68 = .ok (.lastore, 1) := by decide +kernel
theorem dX8_sortLine_69 : decode cX8_sortLine 69 = .ok (.aload_n 0, 1) := by decide +kernel
theorem dX8_sortLine_70 : decode cX8_sortLine 70 = .ok (.invokevirtual 168, 3) := by decide +kernel
theorem dX8_sortLine_73 : decode cX8_sortLine 73 = .ok (.iconst 0, 1) := by decide +kernel
theorem dX8_sortLine_74 : decode cX8_sortLine 74 = .ok (.istore_n 1, 1) := by decide +kernel
theorem dX8_sortLine_75 : decode cX8_sortLine 75 = .ok (.iload_n 1, 1) := by decide +kernel
theorem dX8_sortLine_76 : decode cX8_sortLine 76 = .ok (.bipush 6, 2) := by decide +kernel
theorem dX8_sortLine_78 : decode cX8_sortLine 78 = .ok (.if_icmp .ge 54, 3) := by decide +kernel
theorem dX8_sortLine_81 : decode cX8_sortLine 81 = .ok (.aload_n 0, 1) := by decide +kernel
theorem dX8_sortLine_82 : decode cX8_sortLine 82 = .ok (.iload_n 1, 1) := by decide +kernel
theorem dX8_sortLine_83 : decode cX8_sortLine 83 = .ok (.ifCond .eq 8, 3) := by decide +kernel
theorem dX8_sortLine_86 : decode cX8_sortLine 86 = .ok (.iload_n 1, 1) := by decide +kernel
theorem dX8_sortLine_87 : decode cX8_sortLine 87 = .ok (.iconst 3, 1) := by decide +kernel
theorem dX8_sortLine_88 : decode cX8_sortLine 88 = .ok (.if_icmp .ne 7, 3) := by decide +kernel
theorem dX8_sortLine_91 : decode cX8_sortLine 91 = .ok (.iconst 1, 1) := by decide +kernel
theorem dX8_sortLine_92 : decode cX8_sortLine 92 = .ok (.goto 4, 3) := by decide +kernel
theorem dX8_sortLine_95 : decode cX8_sortLine 95 = .ok (.iconst 0, 1) := by decide +kernel
theorem dX8_sortLine_96 : decode cX8_sortLine 96 = .ok (.iload_n 1, 1) := by decide +kernel
theorem dX8_sortLine_97 : decode cX8_sortLine 97 = .ok (.invokestatic 185, 3) := by decide +kernel
theorem dX8_sortLine_100 : decode cX8_sortLine 100 = .ok (.invokevirtual 171, 3) := by decide +kernel
theorem dX8_sortLine_103 : decode cX8_sortLine 103 = .ok (.ifCond .ne 5, 3) := by decide +kernel
theorem dX8_sortLine_106 : decode cX8_sortLine 106 = .ok (.iconst 0, 1) := by decide +kernel
theorem dX8_sortLine_107 : decode cX8_sortLine 107 = .ok (.ireturn, 1) := by decide +kernel
theorem dX8_sortLine_108 : decode cX8_sortLine 108 = .ok (.aload_n 0, 1) := by decide +kernel
theorem dX8_sortLine_109 : decode cX8_sortLine 109 = .ok (.getfield 21, 3) := by decide +kernel
theorem dX8_sortLine_112 : decode cX8_sortLine 112 = .ok (.bipush 6, 2) := by decide +kernel
theorem dX8_sortLine_114 : decode cX8_sortLine 114 = .ok (.aload_n 0, 1) := by decide +kernel
theorem dX8_sortLine_115 : decode cX8_sortLine 115 = .ok (.getfield 179, 3) := by decide +kernel
theorem dX8_sortLine_118 : decode cX8_sortLine 118 = .ok (.imul, 1) := by decide +kernel
theorem dX8_sortLine_119 : decode cX8_sortLine 119 = .ok (.iload_n 1, 1) := by decide +kernel
theorem dX8_sortLine_120 : decode cX8_sortLine 120 = .ok (.iadd, 1) := by decide +kernel
theorem dX8_sortLine_121 : decode cX8_sortLine 121 = .ok (.aload_n 0, 1) := by decide +kernel
theorem dX8_sortLine_122 : decode cX8_sortLine 122 = .ok (.getfield 165, 3) := by decide +kernel
theorem dX8_sortLine_125 : decode cX8_sortLine 125 = .ok (.iastore, 1) := by decide +kernel
theorem dX8_sortLine_126 : decode cX8_sortLine 126 = .ok (.iinc 1 1, 3) := by decide +kernel
theorem dX8_sortLine_129 : decode cX8_sortLine 129 = .ok (.goto (-54), 3) := by decide +kernel
theorem dX8_sortLine_132 : decode cX8_sortLine 132 = .ok (.aload_n 0, 1) := by decide +kernel
theorem dX8_sortLine_133 : decode cX8_sortLine 133 = .ok (.dup, 1) := by decide +kernel
theorem dX8_sortLine_134 : decode cX8_sortLine 134 = .ok (.getfield 179, 3) := by decide +kernel
theorem dX8_sortLine_137 : decode cX8_sortLine 137 = .ok (.iconst 1, 1) := by decide +kernel
theorem dX8_sortLine_138 : decode cX8_sortLine 138 = .ok (.iadd, 1) := by decide +kernel
theorem dX8_sortLine_139 : decode cX8_sortLine 139 = .ok (.putfield 179, 3) := by decide +kernel
theorem dX8_sortLine_142 : decode cX8_sortLine 142 = .ok (.aload_n 0, 1) := by decide +kernel
theorem dX8_sortLine_143 : decode cX8_sortLine 143 = .ok (.invokevirtual 175, 3) := by decide +kernel
theorem dX8_sortLine_146 : decode cX8_sortLine 146 = .ok (.ireturn, 1) := by decide +kernel
theorem ilX8_spareLine_wsX8_spareLine_r1 : ∀ w ∈ wsX8_spareLine_r1, w ∈ wsX8_spareLine := fun _ h => List.mem_cons_of_mem _ (List.mem_append_left _ (List.mem_append_left _ (h)))
theorem ilX8_spareLine_wsX8_spareLine_r2 : ∀ w ∈ wsX8_spareLine_r2, w ∈ wsX8_spareLine := fun _ h => List.mem_cons_of_mem _ (List.mem_append_left _ (List.mem_append_right _ (List.mem_append_left _ (h))))
theorem ilX8_spareLine_wsX8_spareLine_r3 : ∀ w ∈ wsX8_spareLine_r3, w ∈ wsX8_spareLine := fun _ h => List.mem_cons_of_mem _ (List.mem_append_left _ (List.mem_append_right _ (List.mem_append_right _ (List.mem_append_left _ (h)))))
theorem ilX8_spareLine_wsX8_spareLine_r4 : ∀ w ∈ wsX8_spareLine_r4, w ∈ wsX8_spareLine := fun _ h => List.mem_cons_of_mem _ (List.mem_append_left _ (List.mem_append_right _ (List.mem_append_right _ (List.mem_append_right _ (h)))))
theorem ilX8_spareLine_wsX80 : ∀ w ∈ wsX80, w ∈ wsX8_spareLine := fun _ h => List.mem_cons_of_mem _ (List.mem_append_right _ (h))
set_option maxRecDepth 20000 in
theorem ggX8_spareLine_X8_leads : GoodIn wsX8_spareLine wsX8_leads := goodIn_sub (List.forall_mem_cons.mpr ⟨ilX8_spareLine_wsX8_spareLine_r1 _ (List.mem_of_getElem? (i := 5) rfl), (List.forall_mem_append.mpr ⟨(List.forall_mem_cons.mpr ⟨ilX8_spareLine_wsX8_spareLine_r1 _ (List.mem_of_getElem? (i := 6) rfl), (List.forall_mem_cons.mpr ⟨ilX8_spareLine_wsX8_spareLine_r1 _ (List.mem_of_getElem? (i := 7) rfl), (List.forall_mem_cons.mpr ⟨ilX8_spareLine_wsX8_spareLine_r1 _ (List.mem_of_getElem? (i := 8) rfl), (List.forall_mem_cons.mpr ⟨ilX8_spareLine_wsX8_spareLine_r1 _ (List.mem_of_getElem? (i := 9) rfl), (List.forall_mem_cons.mpr ⟨ilX8_spareLine_wsX8_spareLine_r1 _ (List.mem_of_getElem? (i := 10) rfl), (List.forall_mem_cons.mpr ⟨ilX8_spareLine_wsX8_spareLine_r1 _ (List.mem_of_getElem? (i := 11) rfl), (List.forall_mem_cons.mpr ⟨ilX8_spareLine_wsX8_spareLine_r1 _ (List.mem_of_getElem? (i := 12) rfl), (List.forall_mem_cons.mpr ⟨ilX8_spareLine_wsX8_spareLine_r1 _ (List.mem_of_getElem? (i := 13) rfl), (List.forall_mem_cons.mpr ⟨ilX8_spareLine_wsX8_spareLine_r1 _ (List.mem_of_getElem? (i := 14) rfl), (List.forall_mem_cons.mpr ⟨ilX8_spareLine_wsX8_spareLine_r1 _ (List.mem_of_getElem? (i := 15) rfl), (List.forall_mem_cons.mpr ⟨ilX8_spareLine_wsX8_spareLine_r1 _ (List.mem_of_getElem? (i := 16) rfl), (List.forall_mem_cons.mpr ⟨ilX8_spareLine_wsX8_spareLine_r1 _ (List.mem_of_getElem? (i := 4) rfl), (List.forall_mem_cons.mpr ⟨ilX8_spareLine_wsX8_spareLine_r1 _ (List.mem_of_getElem? (i := 17) rfl), (List.forall_mem_cons.mpr ⟨ilX8_spareLine_wsX8_spareLine_r1 _ (List.mem_of_getElem? (i := 18) rfl), (List.forall_mem_cons.mpr ⟨ilX8_spareLine_wsX8_spareLine_r1 _ (List.mem_of_getElem? (i := 19) rfl), (List.forall_mem_cons.mpr ⟨ilX8_spareLine_wsX8_spareLine_r1 _ (List.mem_of_getElem? (i := 20) rfl), (fun _ h => absurd h List.not_mem_nil)⟩)⟩)⟩)⟩)⟩)⟩)⟩)⟩)⟩)⟩)⟩)⟩)⟩)⟩)⟩)⟩), ilX8_spareLine_wsX80⟩)⟩) (by decide +kernel)
set_option maxRecDepth 20000 in
theorem gX8_spareLine_X8_leads : GoodIn wsX8_spareLine (wsV RX8 168 RX8 yX8_leads wsX8_leads) := goodIn_app (goodIn_sub (List.forall_mem_cons.mpr ⟨ilX8_spareLine_wsX8_spareLine_r1 _ (List.mem_of_getElem? (i := 1) rfl), (List.forall_mem_cons.mpr ⟨ilX8_spareLine_wsX8_spareLine_r1 _ (List.mem_of_getElem? (i := 2) rfl), (List.forall_mem_cons.mpr ⟨ilX8_spareLine_wsX8_spareLine_r1 _ (List.mem_of_getElem? (i := 3) rfl), (List.forall_mem_cons.mpr ⟨ilX8_spareLine_wsX8_spareLine_r1 _ (List.mem_of_getElem? (i := 4) rfl), (fun _ h => absurd h List.not_mem_nil)⟩)⟩)⟩)⟩) (by decide +kernel)) ggX8_spareLine_X8_leads
set_option maxRecDepth 20000 in
theorem ggX8_spareLine_X8_kindHere : GoodIn wsX8_spareLine wsX8_kindHere := goodIn_sub (List.forall_mem_cons.mpr ⟨ilX8_spareLine_wsX8_spareLine_r2 _ (List.mem_of_getElem? (i := 0) rfl), (List.forall_mem_append.mpr ⟨(List.forall_mem_append.mpr ⟨(List.forall_mem_cons.mpr ⟨ilX8_spareLine_wsX8_spareLine_r2 _ (List.mem_of_getElem? (i := 1) rfl), (List.forall_mem_cons.mpr ⟨ilX8_spareLine_wsX8_spareLine_r2 _ (List.mem_of_getElem? (i := 2) rfl), (List.forall_mem_cons.mpr ⟨ilX8_spareLine_wsX8_spareLine_r2 _ (List.mem_of_getElem? (i := 3) rfl), (List.forall_mem_cons.mpr ⟨ilX8_spareLine_wsX8_spareLine_r1 _ (List.mem_of_getElem? (i := 4) rfl), (List.forall_mem_cons.mpr ⟨ilX8_spareLine_wsX8_spareLine_r2 _ (List.mem_of_getElem? (i := 4) rfl), (List.forall_mem_cons.mpr ⟨ilX8_spareLine_wsX8_spareLine_r1 _ (List.mem_of_getElem? (i := 11) rfl), (List.forall_mem_cons.mpr ⟨ilX8_spareLine_wsX8_spareLine_r1 _ (List.mem_of_getElem? (i := 10) rfl), (List.forall_mem_cons.mpr ⟨ilX8_spareLine_wsX8_spareLine_r2 _ (List.mem_of_getElem? (i := 5) rfl), (List.forall_mem_cons.mpr ⟨ilX8_spareLine_wsX8_spareLine_r2 _ (List.mem_of_getElem? (i := 6) rfl), (List.forall_mem_cons.mpr ⟨ilX8_spareLine_wsX8_spareLine_r2 _ (List.mem_of_getElem? (i := 7) rfl), (List.forall_mem_cons.mpr ⟨ilX8_spareLine_wsX8_spareLine_r2 _ (List.mem_of_getElem? (i := 8) rfl), (List.forall_mem_cons.mpr ⟨ilX8_spareLine_wsX8_spareLine_r2 _ (List.mem_of_getElem? (i := 9) rfl), (List.forall_mem_cons.mpr ⟨ilX8_spareLine_wsX8_spareLine_r2 _ (List.mem_of_getElem? (i := 10) rfl), (List.forall_mem_cons.mpr ⟨ilX8_spareLine_wsX8_spareLine_r2 _ (List.mem_of_getElem? (i := 11) rfl), (List.forall_mem_cons.mpr ⟨ilX8_spareLine_wsX8_spareLine_r2 _ (List.mem_of_getElem? (i := 12) rfl), (List.forall_mem_cons.mpr ⟨ilX8_spareLine_wsX8_spareLine_r2 _ (List.mem_of_getElem? (i := 13) rfl), (List.forall_mem_cons.mpr ⟨ilX8_spareLine_wsX8_spareLine_r2 _ (List.mem_of_getElem? (i := 14) rfl), (List.forall_mem_cons.mpr ⟨ilX8_spareLine_wsX8_spareLine_r2 _ (List.mem_of_getElem? (i := 15) rfl), (List.forall_mem_cons.mpr ⟨ilX8_spareLine_wsX8_spareLine_r2 _ (List.mem_of_getElem? (i := 16) rfl), (List.forall_mem_cons.mpr ⟨ilX8_spareLine_wsX8_spareLine_r2 _ (List.mem_of_getElem? (i := 17) rfl), (List.forall_mem_cons.mpr ⟨ilX8_spareLine_wsX8_spareLine_r2 _ (List.mem_of_getElem? (i := 18) rfl), (List.forall_mem_cons.mpr ⟨ilX8_spareLine_wsX8_spareLine_r2 _ (List.mem_of_getElem? (i := 19) rfl), (List.forall_mem_cons.mpr ⟨ilX8_spareLine_wsX8_spareLine_r2 _ (List.mem_of_getElem? (i := 20) rfl), (List.forall_mem_cons.mpr ⟨ilX8_spareLine_wsX8_spareLine_r2 _ (List.mem_of_getElem? (i := 21) rfl), (fun _ h => absurd h List.not_mem_nil)⟩)⟩)⟩)⟩)⟩)⟩)⟩)⟩)⟩)⟩)⟩)⟩)⟩)⟩)⟩)⟩)⟩)⟩)⟩)⟩)⟩)⟩)⟩)⟩), (List.forall_mem_append.mpr ⟨(List.forall_mem_cons.mpr ⟨ilX8_spareLine_wsX8_spareLine_r2 _ (List.mem_of_getElem? (i := 22) rfl), (List.forall_mem_cons.mpr ⟨ilX8_spareLine_wsX8_spareLine_r2 _ (List.mem_of_getElem? (i := 23) rfl), (List.forall_mem_cons.mpr ⟨ilX8_spareLine_wsX8_spareLine_r3 _ (List.mem_of_getElem? (i := 0) rfl), (List.forall_mem_cons.mpr ⟨ilX8_spareLine_wsX8_spareLine_r3 _ (List.mem_of_getElem? (i := 1) rfl), (List.forall_mem_cons.mpr ⟨ilX8_spareLine_wsX8_spareLine_r3 _ (List.mem_of_getElem? (i := 2) rfl), (List.forall_mem_cons.mpr ⟨ilX8_spareLine_wsX8_spareLine_r3 _ (List.mem_of_getElem? (i := 3) rfl), (List.forall_mem_cons.mpr ⟨ilX8_spareLine_wsX8_spareLine_r3 _ (List.mem_of_getElem? (i := 4) rfl), (List.forall_mem_cons.mpr ⟨ilX8_spareLine_wsX8_spareLine_r3 _ (List.mem_of_getElem? (i := 5) rfl), (List.forall_mem_cons.mpr ⟨ilX8_spareLine_wsX8_spareLine_r3 _ (List.mem_of_getElem? (i := 6) rfl), (List.forall_mem_cons.mpr ⟨ilX8_spareLine_wsX8_spareLine_r3 _ (List.mem_of_getElem? (i := 7) rfl), (List.forall_mem_cons.mpr ⟨ilX8_spareLine_wsX8_spareLine_r3 _ (List.mem_of_getElem? (i := 8) rfl), (List.forall_mem_cons.mpr ⟨ilX8_spareLine_wsX8_spareLine_r3 _ (List.mem_of_getElem? (i := 9) rfl), (List.forall_mem_cons.mpr ⟨ilX8_spareLine_wsX8_spareLine_r3 _ (List.mem_of_getElem? (i := 10) rfl), (List.forall_mem_cons.mpr ⟨ilX8_spareLine_wsX8_spareLine_r3 _ (List.mem_of_getElem? (i := 11) rfl), (List.forall_mem_cons.mpr ⟨ilX8_spareLine_wsX8_spareLine_r3 _ (List.mem_of_getElem? (i := 12) rfl), (List.forall_mem_cons.mpr ⟨ilX8_spareLine_wsX8_spareLine_r3 _ (List.mem_of_getElem? (i := 13) rfl), (List.forall_mem_cons.mpr ⟨ilX8_spareLine_wsX8_spareLine_r3 _ (List.mem_of_getElem? (i := 14) rfl), (List.forall_mem_cons.mpr ⟨ilX8_spareLine_wsX8_spareLine_r3 _ (List.mem_of_getElem? (i := 15) rfl), (List.forall_mem_cons.mpr ⟨ilX8_spareLine_wsX8_spareLine_r3 _ (List.mem_of_getElem? (i := 16) rfl), (List.forall_mem_cons.mpr ⟨ilX8_spareLine_wsX8_spareLine_r3 _ (List.mem_of_getElem? (i := 17) rfl), (List.forall_mem_cons.mpr ⟨ilX8_spareLine_wsX8_spareLine_r3 _ (List.mem_of_getElem? (i := 18) rfl), (List.forall_mem_cons.mpr ⟨ilX8_spareLine_wsX8_spareLine_r3 _ (List.mem_of_getElem? (i := 19) rfl), (List.forall_mem_cons.mpr ⟨ilX8_spareLine_wsX8_spareLine_r3 _ (List.mem_of_getElem? (i := 20) rfl), (List.forall_mem_cons.mpr ⟨ilX8_spareLine_wsX8_spareLine_r3 _ (List.mem_of_getElem? (i := 21) rfl), (fun _ h => absurd h List.not_mem_nil)⟩)⟩)⟩)⟩)⟩)⟩)⟩)⟩)⟩)⟩)⟩)⟩)⟩)⟩)⟩)⟩)⟩)⟩)⟩)⟩)⟩)⟩)⟩)⟩), (List.forall_mem_cons.mpr ⟨ilX8_spareLine_wsX8_spareLine_r3 _ (List.mem_of_getElem? (i := 22) rfl), (List.forall_mem_cons.mpr ⟨ilX8_spareLine_wsX8_spareLine_r3 _ (List.mem_of_getElem? (i := 23) rfl), (List.forall_mem_cons.mpr ⟨ilX8_spareLine_wsX8_spareLine_r4 _ (List.mem_of_getElem? (i := 0) rfl), (List.forall_mem_cons.mpr ⟨ilX8_spareLine_wsX8_spareLine_r4 _ (List.mem_of_getElem? (i := 1) rfl), (List.forall_mem_cons.mpr ⟨ilX8_spareLine_wsX8_spareLine_r4 _ (List.mem_of_getElem? (i := 2) rfl), (List.forall_mem_cons.mpr ⟨ilX8_spareLine_wsX8_spareLine_r4 _ (List.mem_of_getElem? (i := 3) rfl), (List.forall_mem_cons.mpr ⟨ilX8_spareLine_wsX8_spareLine_r4 _ (List.mem_of_getElem? (i := 4) rfl), (List.forall_mem_cons.mpr ⟨ilX8_spareLine_wsX8_spareLine_r4 _ (List.mem_of_getElem? (i := 5) rfl), (List.forall_mem_cons.mpr ⟨ilX8_spareLine_wsX8_spareLine_r4 _ (List.mem_of_getElem? (i := 6) rfl), (List.forall_mem_cons.mpr ⟨ilX8_spareLine_wsX8_spareLine_r4 _ (List.mem_of_getElem? (i := 7) rfl), (List.forall_mem_cons.mpr ⟨ilX8_spareLine_wsX8_spareLine_r4 _ (List.mem_of_getElem? (i := 8) rfl), (fun _ h => absurd h List.not_mem_nil)⟩)⟩)⟩)⟩)⟩)⟩)⟩)⟩)⟩)⟩)⟩)⟩)⟩), ilX8_spareLine_wsX80⟩)⟩) (by decide +kernel)
set_option maxRecDepth 20000 in
theorem gX8_spareLine_X8_kindHere : GoodIn wsX8_spareLine (wsV RX8 150 RX8 yX8_kindHere wsX8_kindHere) := goodIn_app (goodIn_sub (List.forall_mem_cons.mpr ⟨ilX8_spareLine_wsX8_spareLine_r1 _ (List.mem_of_getElem? (i := 21) rfl), (List.forall_mem_cons.mpr ⟨ilX8_spareLine_wsX8_spareLine_r1 _ (List.mem_of_getElem? (i := 22) rfl), (List.forall_mem_cons.mpr ⟨ilX8_spareLine_wsX8_spareLine_r1 _ (List.mem_of_getElem? (i := 23) rfl), (List.forall_mem_cons.mpr ⟨ilX8_spareLine_wsX8_spareLine_r1 _ (List.mem_of_getElem? (i := 4) rfl), (fun _ h => absurd h List.not_mem_nil)⟩)⟩)⟩)⟩) (by decide +kernel)) ggX8_spareLine_X8_kindHere
set_option maxRecDepth 20000 in
theorem ggX8_spareLine_X8_closes : GoodIn wsX8_spareLine wsX8_closes := goodIn_sub (List.forall_mem_cons.mpr ⟨ilX8_spareLine_wsX8_spareLine_r4 _ (List.mem_of_getElem? (i := 12) rfl), (List.forall_mem_append.mpr ⟨(List.forall_mem_cons.mpr ⟨ilX8_spareLine_wsX8_spareLine_r1 _ (List.mem_of_getElem? (i := 11) rfl), (List.forall_mem_cons.mpr ⟨ilX8_spareLine_wsX8_spareLine_r1 _ (List.mem_of_getElem? (i := 1) rfl), (List.forall_mem_cons.mpr ⟨ilX8_spareLine_wsX8_spareLine_r1 _ (List.mem_of_getElem? (i := 2) rfl), (List.forall_mem_cons.mpr ⟨ilX8_spareLine_wsX8_spareLine_r1 _ (List.mem_of_getElem? (i := 3) rfl), (List.forall_mem_cons.mpr ⟨ilX8_spareLine_wsX8_spareLine_r1 _ (List.mem_of_getElem? (i := 4) rfl), (List.forall_mem_cons.mpr ⟨ilX8_spareLine_wsX8_spareLine_r1 _ (List.mem_of_getElem? (i := 5) rfl), (List.forall_mem_cons.mpr ⟨ilX8_spareLine_wsX8_spareLine_r1 _ (List.mem_of_getElem? (i := 6) rfl), (List.forall_mem_cons.mpr ⟨ilX8_spareLine_wsX8_spareLine_r1 _ (List.mem_of_getElem? (i := 7) rfl), (List.forall_mem_cons.mpr ⟨ilX8_spareLine_wsX8_spareLine_r1 _ (List.mem_of_getElem? (i := 8) rfl), (List.forall_mem_cons.mpr ⟨ilX8_spareLine_wsX8_spareLine_r1 _ (List.mem_of_getElem? (i := 9) rfl), (List.forall_mem_cons.mpr ⟨ilX8_spareLine_wsX8_spareLine_r1 _ (List.mem_of_getElem? (i := 10) rfl), (List.forall_mem_cons.mpr ⟨ilX8_spareLine_wsX8_spareLine_r1 _ (List.mem_of_getElem? (i := 12) rfl), (List.forall_mem_cons.mpr ⟨ilX8_spareLine_wsX8_spareLine_r1 _ (List.mem_of_getElem? (i := 13) rfl), (List.forall_mem_cons.mpr ⟨ilX8_spareLine_wsX8_spareLine_r1 _ (List.mem_of_getElem? (i := 14) rfl), (List.forall_mem_cons.mpr ⟨ilX8_spareLine_wsX8_spareLine_r1 _ (List.mem_of_getElem? (i := 15) rfl), (List.forall_mem_cons.mpr ⟨ilX8_spareLine_wsX8_spareLine_r1 _ (List.mem_of_getElem? (i := 16) rfl), (List.forall_mem_cons.mpr ⟨ilX8_spareLine_wsX8_spareLine_r1 _ (List.mem_of_getElem? (i := 17) rfl), (List.forall_mem_cons.mpr ⟨ilX8_spareLine_wsX8_spareLine_r1 _ (List.mem_of_getElem? (i := 18) rfl), (List.forall_mem_cons.mpr ⟨ilX8_spareLine_wsX8_spareLine_r1 _ (List.mem_of_getElem? (i := 19) rfl), (List.forall_mem_cons.mpr ⟨ilX8_spareLine_wsX8_spareLine_r1 _ (List.mem_of_getElem? (i := 20) rfl), (fun _ h => absurd h List.not_mem_nil)⟩)⟩)⟩)⟩)⟩)⟩)⟩)⟩)⟩)⟩)⟩)⟩)⟩)⟩)⟩)⟩)⟩)⟩)⟩)⟩), ilX8_spareLine_wsX80⟩)⟩) (by decide +kernel)
set_option maxRecDepth 20000 in
theorem gX8_spareLine_X8_closes : GoodIn wsX8_spareLine (wsV RX8 175 RX8 yX8_closes wsX8_closes) := goodIn_app (goodIn_sub (List.forall_mem_cons.mpr ⟨ilX8_spareLine_wsX8_spareLine_r4 _ (List.mem_of_getElem? (i := 9) rfl), (List.forall_mem_cons.mpr ⟨ilX8_spareLine_wsX8_spareLine_r4 _ (List.mem_of_getElem? (i := 10) rfl), (List.forall_mem_cons.mpr ⟨ilX8_spareLine_wsX8_spareLine_r4 _ (List.mem_of_getElem? (i := 11) rfl), (List.forall_mem_cons.mpr ⟨ilX8_spareLine_wsX8_spareLine_r1 _ (List.mem_of_getElem? (i := 4) rfl), (fun _ h => absurd h List.not_mem_nil)⟩)⟩)⟩)⟩) (by decide +kernel)) ggX8_spareLine_X8_closes
theorem dX8_spareLine_0 : decode cX8_spareLine 0 = .ok (.aload_n 0, 1) := by decide +kernel
theorem dX8_spareLine_1 : decode cX8_spareLine 1 = .ok (.invokevirtual 168, 3) := by decide +kernel
theorem dX8_spareLine_4 : decode cX8_spareLine 4 = .ok (.aload_n 0, 1) := by decide +kernel
theorem dX8_spareLine_5 : decode cX8_spareLine 5 = .ok (.invokevirtual 150, 3) := by decide +kernel
theorem dX8_spareLine_8 : decode cX8_spareLine 8 = .ok (.istore_n 1, 1) := by decide +kernel
theorem dX8_spareLine_9 : decode cX8_spareLine 9 = .ok (.iload_n 1, 1) := by decide +kernel
theorem dX8_spareLine_10 : decode cX8_spareLine 10 = .ok (.iconst (-1), 1) := by decide +kernel
theorem dX8_spareLine_11 : decode cX8_spareLine 11 = .ok (.if_icmp .eq 15, 3) := by decide +kernel
theorem dX8_spareLine_14 : decode cX8_spareLine 14 = .ok (.aload_n 0, 1) := by decide +kernel
theorem dX8_spareLine_15 : decode cX8_spareLine 15 = .ok (.getfield 189, 3) := by decide +kernel
theorem dX8_spareLine_18 : decode cX8_spareLine 18 = .ok (.iload_n 1, 1) := by decide +kernel
theorem dX8_spareLine_19 : decode cX8_spareLine 19 = .ok (.ishr, 1) := by decide +kernel
theorem dX8_spareLine_20 : decode cX8_spareLine 20 = .ok (.iconst 1, 1) := by decide +kernel
theorem dX8_spareLine_21 : decode cX8_spareLine 21 = .ok (.iand, 1) := by decide +kernel
theorem dX8_spareLine_22 : decode cX8_spareLine 22 = .ok (.iconst 1, 1) := by decide +kernel
theorem dX8_spareLine_23 : decode cX8_spareLine 23 = .ok (.if_icmp .ne 5, 3) := by decide +kernel
theorem dX8_spareLine_26 : decode cX8_spareLine 26 = .ok (.iconst 0, 1) := by decide +kernel
theorem dX8_spareLine_27 : decode cX8_spareLine 27 = .ok (.ireturn, 1) := by decide +kernel
theorem dX8_spareLine_28 : decode cX8_spareLine 28 = .ok (.aload_n 0, 1) := by decide +kernel
theorem dX8_spareLine_29 : decode cX8_spareLine 29 = .ok (.dup, 1) := by decide +kernel
theorem dX8_spareLine_30 : decode cX8_spareLine 30 = .ok (.getfield 189, 3) := by decide +kernel
theorem dX8_spareLine_33 : decode cX8_spareLine 33 = .ok (.iconst 1, 1) := by decide +kernel
theorem dX8_spareLine_34 : decode cX8_spareLine 34 = .ok (.iload_n 1, 1) := by decide +kernel
theorem dX8_spareLine_35 : decode cX8_spareLine 35 = .ok (.ishl, 1) := by decide +kernel
theorem dX8_spareLine_36 : decode cX8_spareLine 36 = .ok (.ior, 1) := by decide +kernel
theorem dX8_spareLine_37 : decode cX8_spareLine 37 = .ok (.putfield 189, 3) := by decide +kernel
theorem dX8_spareLine_40 : decode cX8_spareLine 40 = .ok (.aload_n 0, 1) := by decide +kernel
theorem dX8_spareLine_41 : decode cX8_spareLine 41 = .ok (.invokevirtual 168, 3) := by decide +kernel
theorem dX8_spareLine_44 : decode cX8_spareLine 44 = .ok (.aload_n 0, 1) := by decide +kernel
theorem dX8_spareLine_45 : decode cX8_spareLine 45 = .ok (.invokevirtual 175, 3) := by decide +kernel
theorem dX8_spareLine_48 : decode cX8_spareLine 48 = .ok (.ireturn, 1) := by decide +kernel
theorem ilX8_turnLine_wsX8_turnLine_r1 : ∀ w ∈ wsX8_turnLine_r1, w ∈ wsX8_turnLine := fun _ h => List.mem_cons_of_mem _ (List.mem_append_left _ (List.mem_append_left _ (h)))
theorem ilX8_turnLine_wsX8_turnLine_r2 : ∀ w ∈ wsX8_turnLine_r2, w ∈ wsX8_turnLine := fun _ h => List.mem_cons_of_mem _ (List.mem_append_left _ (List.mem_append_right _ (List.mem_append_left _ (h))))
theorem ilX8_turnLine_wsX8_turnLine_r3 : ∀ w ∈ wsX8_turnLine_r3, w ∈ wsX8_turnLine := fun _ h => List.mem_cons_of_mem _ (List.mem_append_left _ (List.mem_append_right _ (List.mem_append_right _ (List.mem_append_left _ (h)))))
theorem ilX8_turnLine_wsX8_turnLine_r4 : ∀ w ∈ wsX8_turnLine_r4, w ∈ wsX8_turnLine := fun _ h => List.mem_cons_of_mem _ (List.mem_append_left _ (List.mem_append_right _ (List.mem_append_right _ (List.mem_append_right _ (h)))))
theorem ilX8_turnLine_wsX80 : ∀ w ∈ wsX80, w ∈ wsX8_turnLine := fun _ h => List.mem_cons_of_mem _ (List.mem_append_right _ (h))
set_option maxRecDepth 20000 in
theorem ggX8_turnLine_X8_leads : GoodIn wsX8_turnLine wsX8_leads := goodIn_sub (List.forall_mem_cons.mpr ⟨ilX8_turnLine_wsX8_turnLine_r1 _ (List.mem_of_getElem? (i := 7) rfl), (List.forall_mem_append.mpr ⟨(List.forall_mem_cons.mpr ⟨ilX8_turnLine_wsX8_turnLine_r1 _ (List.mem_of_getElem? (i := 8) rfl), (List.forall_mem_cons.mpr ⟨ilX8_turnLine_wsX8_turnLine_r1 _ (List.mem_of_getElem? (i := 9) rfl), (List.forall_mem_cons.mpr ⟨ilX8_turnLine_wsX8_turnLine_r1 _ (List.mem_of_getElem? (i := 10) rfl), (List.forall_mem_cons.mpr ⟨ilX8_turnLine_wsX8_turnLine_r1 _ (List.mem_of_getElem? (i := 11) rfl), (List.forall_mem_cons.mpr ⟨ilX8_turnLine_wsX8_turnLine_r1 _ (List.mem_of_getElem? (i := 12) rfl), (List.forall_mem_cons.mpr ⟨ilX8_turnLine_wsX8_turnLine_r1 _ (List.mem_of_getElem? (i := 13) rfl), (List.forall_mem_cons.mpr ⟨ilX8_turnLine_wsX8_turnLine_r1 _ (List.mem_of_getElem? (i := 14) rfl), (List.forall_mem_cons.mpr ⟨ilX8_turnLine_wsX8_turnLine_r1 _ (List.mem_of_getElem? (i := 15) rfl), (List.forall_mem_cons.mpr ⟨ilX8_turnLine_wsX8_turnLine_r1 _ (List.mem_of_getElem? (i := 16) rfl), (List.forall_mem_cons.mpr ⟨ilX8_turnLine_wsX8_turnLine_r1 _ (List.mem_of_getElem? (i := 17) rfl), (List.forall_mem_cons.mpr ⟨ilX8_turnLine_wsX8_turnLine_r1 _ (List.mem_of_getElem? (i := 18) rfl), (List.forall_mem_cons.mpr ⟨ilX8_turnLine_wsX8_turnLine_r1 _ (List.mem_of_getElem? (i := 6) rfl), (List.forall_mem_cons.mpr ⟨ilX8_turnLine_wsX8_turnLine_r1 _ (List.mem_of_getElem? (i := 19) rfl), (List.forall_mem_cons.mpr ⟨ilX8_turnLine_wsX8_turnLine_r1 _ (List.mem_of_getElem? (i := 20) rfl), (List.forall_mem_cons.mpr ⟨ilX8_turnLine_wsX8_turnLine_r1 _ (List.mem_of_getElem? (i := 21) rfl), (List.forall_mem_cons.mpr ⟨ilX8_turnLine_wsX8_turnLine_r1 _ (List.mem_of_getElem? (i := 22) rfl), (fun _ h => absurd h List.not_mem_nil)⟩)⟩)⟩)⟩)⟩)⟩)⟩)⟩)⟩)⟩)⟩)⟩)⟩)⟩)⟩)⟩), ilX8_turnLine_wsX80⟩)⟩) (by decide +kernel)
set_option maxRecDepth 20000 in
theorem gX8_turnLine_X8_leads : GoodIn wsX8_turnLine (wsV RX8 168 RX8 yX8_leads wsX8_leads) := goodIn_app (goodIn_sub (List.forall_mem_cons.mpr ⟨ilX8_turnLine_wsX8_turnLine_r1 _ (List.mem_of_getElem? (i := 3) rfl), (List.forall_mem_cons.mpr ⟨ilX8_turnLine_wsX8_turnLine_r1 _ (List.mem_of_getElem? (i := 4) rfl), (List.forall_mem_cons.mpr ⟨ilX8_turnLine_wsX8_turnLine_r1 _ (List.mem_of_getElem? (i := 5) rfl), (List.forall_mem_cons.mpr ⟨ilX8_turnLine_wsX8_turnLine_r1 _ (List.mem_of_getElem? (i := 6) rfl), (fun _ h => absurd h List.not_mem_nil)⟩)⟩)⟩)⟩) (by decide +kernel)) ggX8_turnLine_X8_leads
set_option maxRecDepth 20000 in
theorem ggX8_turnLine_X8_kindHere : GoodIn wsX8_turnLine wsX8_kindHere := goodIn_sub (List.forall_mem_cons.mpr ⟨ilX8_turnLine_wsX8_turnLine_r2 _ (List.mem_of_getElem? (i := 2) rfl), (List.forall_mem_append.mpr ⟨(List.forall_mem_append.mpr ⟨(List.forall_mem_cons.mpr ⟨ilX8_turnLine_wsX8_turnLine_r2 _ (List.mem_of_getElem? (i := 3) rfl), (List.forall_mem_cons.mpr ⟨ilX8_turnLine_wsX8_turnLine_r2 _ (List.mem_of_getElem? (i := 4) rfl), (List.forall_mem_cons.mpr ⟨ilX8_turnLine_wsX8_turnLine_r2 _ (List.mem_of_getElem? (i := 5) rfl), (List.forall_mem_cons.mpr ⟨ilX8_turnLine_wsX8_turnLine_r1 _ (List.mem_of_getElem? (i := 6) rfl), (List.forall_mem_cons.mpr ⟨ilX8_turnLine_wsX8_turnLine_r2 _ (List.mem_of_getElem? (i := 6) rfl), (List.forall_mem_cons.mpr ⟨ilX8_turnLine_wsX8_turnLine_r1 _ (List.mem_of_getElem? (i := 13) rfl), (List.forall_mem_cons.mpr ⟨ilX8_turnLine_wsX8_turnLine_r1 _ (List.mem_of_getElem? (i := 12) rfl), (List.forall_mem_cons.mpr ⟨ilX8_turnLine_wsX8_turnLine_r2 _ (List.mem_of_getElem? (i := 7) rfl), (List.forall_mem_cons.mpr ⟨ilX8_turnLine_wsX8_turnLine_r2 _ (List.mem_of_getElem? (i := 8) rfl), (List.forall_mem_cons.mpr ⟨ilX8_turnLine_wsX8_turnLine_r2 _ (List.mem_of_getElem? (i := 9) rfl), (List.forall_mem_cons.mpr ⟨ilX8_turnLine_wsX8_turnLine_r2 _ (List.mem_of_getElem? (i := 10) rfl), (List.forall_mem_cons.mpr ⟨ilX8_turnLine_wsX8_turnLine_r2 _ (List.mem_of_getElem? (i := 11) rfl), (List.forall_mem_cons.mpr ⟨ilX8_turnLine_wsX8_turnLine_r2 _ (List.mem_of_getElem? (i := 12) rfl), (List.forall_mem_cons.mpr ⟨ilX8_turnLine_wsX8_turnLine_r2 _ (List.mem_of_getElem? (i := 13) rfl), (List.forall_mem_cons.mpr ⟨ilX8_turnLine_wsX8_turnLine_r2 _ (List.mem_of_getElem? (i := 14) rfl), (List.forall_mem_cons.mpr ⟨ilX8_turnLine_wsX8_turnLine_r2 _ (List.mem_of_getElem? (i := 15) rfl), (List.forall_mem_cons.mpr ⟨ilX8_turnLine_wsX8_turnLine_r2 _ (List.mem_of_getElem? (i := 16) rfl), (List.forall_mem_cons.mpr ⟨ilX8_turnLine_wsX8_turnLine_r2 _ (List.mem_of_getElem? (i := 17) rfl), (List.forall_mem_cons.mpr ⟨ilX8_turnLine_wsX8_turnLine_r2 _ (List.mem_of_getElem? (i := 18) rfl), (List.forall_mem_cons.mpr ⟨ilX8_turnLine_wsX8_turnLine_r2 _ (List.mem_of_getElem? (i := 19) rfl), (List.forall_mem_cons.mpr ⟨ilX8_turnLine_wsX8_turnLine_r2 _ (List.mem_of_getElem? (i := 20) rfl), (List.forall_mem_cons.mpr ⟨ilX8_turnLine_wsX8_turnLine_r2 _ (List.mem_of_getElem? (i := 21) rfl), (List.forall_mem_cons.mpr ⟨ilX8_turnLine_wsX8_turnLine_r2 _ (List.mem_of_getElem? (i := 22) rfl), (List.forall_mem_cons.mpr ⟨ilX8_turnLine_wsX8_turnLine_r2 _ (List.mem_of_getElem? (i := 23) rfl), (fun _ h => absurd h List.not_mem_nil)⟩)⟩)⟩)⟩)⟩)⟩)⟩)⟩)⟩)⟩)⟩)⟩)⟩)⟩)⟩)⟩)⟩)⟩)⟩)⟩)⟩)⟩)⟩)⟩), (List.forall_mem_append.mpr ⟨(List.forall_mem_cons.mpr ⟨ilX8_turnLine_wsX8_turnLine_r3 _ (List.mem_of_getElem? (i := 0) rfl), (List.forall_mem_cons.mpr ⟨ilX8_turnLine_wsX8_turnLine_r3 _ (List.mem_of_getElem? (i := 1) rfl), (List.forall_mem_cons.mpr ⟨ilX8_turnLine_wsX8_turnLine_r3 _ (List.mem_of_getElem? (i := 2) rfl), (List.forall_mem_cons.mpr ⟨ilX8_turnLine_wsX8_turnLine_r3 _ (List.mem_of_getElem? (i := 3) rfl), (List.forall_mem_cons.mpr ⟨ilX8_turnLine_wsX8_turnLine_r3 _ (List.mem_of_getElem? (i := 4) rfl), (List.forall_mem_cons.mpr ⟨ilX8_turnLine_wsX8_turnLine_r3 _ (List.mem_of_getElem? (i := 5) rfl), (List.forall_mem_cons.mpr ⟨ilX8_turnLine_wsX8_turnLine_r3 _ (List.mem_of_getElem? (i := 6) rfl), (List.forall_mem_cons.mpr ⟨ilX8_turnLine_wsX8_turnLine_r3 _ (List.mem_of_getElem? (i := 7) rfl), (List.forall_mem_cons.mpr ⟨ilX8_turnLine_wsX8_turnLine_r3 _ (List.mem_of_getElem? (i := 8) rfl), (List.forall_mem_cons.mpr ⟨ilX8_turnLine_wsX8_turnLine_r3 _ (List.mem_of_getElem? (i := 9) rfl), (List.forall_mem_cons.mpr ⟨ilX8_turnLine_wsX8_turnLine_r3 _ (List.mem_of_getElem? (i := 10) rfl), (List.forall_mem_cons.mpr ⟨ilX8_turnLine_wsX8_turnLine_r3 _ (List.mem_of_getElem? (i := 11) rfl), (List.forall_mem_cons.mpr ⟨ilX8_turnLine_wsX8_turnLine_r3 _ (List.mem_of_getElem? (i := 12) rfl), (List.forall_mem_cons.mpr ⟨ilX8_turnLine_wsX8_turnLine_r3 _ (List.mem_of_getElem? (i := 13) rfl), (List.forall_mem_cons.mpr ⟨ilX8_turnLine_wsX8_turnLine_r3 _ (List.mem_of_getElem? (i := 14) rfl), (List.forall_mem_cons.mpr ⟨ilX8_turnLine_wsX8_turnLine_r3 _ (List.mem_of_getElem? (i := 15) rfl), (List.forall_mem_cons.mpr ⟨ilX8_turnLine_wsX8_turnLine_r3 _ (List.mem_of_getElem? (i := 16) rfl), (List.forall_mem_cons.mpr ⟨ilX8_turnLine_wsX8_turnLine_r3 _ (List.mem_of_getElem? (i := 17) rfl), (List.forall_mem_cons.mpr ⟨ilX8_turnLine_wsX8_turnLine_r3 _ (List.mem_of_getElem? (i := 18) rfl), (List.forall_mem_cons.mpr ⟨ilX8_turnLine_wsX8_turnLine_r3 _ (List.mem_of_getElem? (i := 19) rfl), (List.forall_mem_cons.mpr ⟨ilX8_turnLine_wsX8_turnLine_r3 _ (List.mem_of_getElem? (i := 20) rfl), (List.forall_mem_cons.mpr ⟨ilX8_turnLine_wsX8_turnLine_r3 _ (List.mem_of_getElem? (i := 21) rfl), (List.forall_mem_cons.mpr ⟨ilX8_turnLine_wsX8_turnLine_r3 _ (List.mem_of_getElem? (i := 22) rfl), (List.forall_mem_cons.mpr ⟨ilX8_turnLine_wsX8_turnLine_r3 _ (List.mem_of_getElem? (i := 23) rfl), (fun _ h => absurd h List.not_mem_nil)⟩)⟩)⟩)⟩)⟩)⟩)⟩)⟩)⟩)⟩)⟩)⟩)⟩)⟩)⟩)⟩)⟩)⟩)⟩)⟩)⟩)⟩)⟩)⟩), (List.forall_mem_cons.mpr ⟨ilX8_turnLine_wsX8_turnLine_r4 _ (List.mem_of_getElem? (i := 0) rfl), (List.forall_mem_cons.mpr ⟨ilX8_turnLine_wsX8_turnLine_r4 _ (List.mem_of_getElem? (i := 1) rfl), (List.forall_mem_cons.mpr ⟨ilX8_turnLine_wsX8_turnLine_r4 _ (List.mem_of_getElem? (i := 2) rfl), (List.forall_mem_cons.mpr ⟨ilX8_turnLine_wsX8_turnLine_r4 _ (List.mem_of_getElem? (i := 3) rfl), (List.forall_mem_cons.mpr ⟨ilX8_turnLine_wsX8_turnLine_r4 _ (List.mem_of_getElem? (i := 4) rfl), (List.forall_mem_cons.mpr ⟨ilX8_turnLine_wsX8_turnLine_r4 _ (List.mem_of_getElem? (i := 5) rfl), (List.forall_mem_cons.mpr ⟨ilX8_turnLine_wsX8_turnLine_r4 _ (List.mem_of_getElem? (i := 6) rfl), (List.forall_mem_cons.mpr ⟨ilX8_turnLine_wsX8_turnLine_r4 _ (List.mem_of_getElem? (i := 7) rfl), (List.forall_mem_cons.mpr ⟨ilX8_turnLine_wsX8_turnLine_r4 _ (List.mem_of_getElem? (i := 8) rfl), (List.forall_mem_cons.mpr ⟨ilX8_turnLine_wsX8_turnLine_r4 _ (List.mem_of_getElem? (i := 9) rfl), (List.forall_mem_cons.mpr ⟨ilX8_turnLine_wsX8_turnLine_r4 _ (List.mem_of_getElem? (i := 10) rfl), (fun _ h => absurd h List.not_mem_nil)⟩)⟩)⟩)⟩)⟩)⟩)⟩)⟩)⟩)⟩)⟩)⟩)⟩), ilX8_turnLine_wsX80⟩)⟩) (by decide +kernel)
set_option maxRecDepth 20000 in
theorem gX8_turnLine_X8_kindHere : GoodIn wsX8_turnLine (wsV RX8 150 RX8 yX8_kindHere wsX8_kindHere) := goodIn_app (goodIn_sub (List.forall_mem_cons.mpr ⟨ilX8_turnLine_wsX8_turnLine_r1 _ (List.mem_of_getElem? (i := 23) rfl), (List.forall_mem_cons.mpr ⟨ilX8_turnLine_wsX8_turnLine_r2 _ (List.mem_of_getElem? (i := 0) rfl), (List.forall_mem_cons.mpr ⟨ilX8_turnLine_wsX8_turnLine_r2 _ (List.mem_of_getElem? (i := 1) rfl), (List.forall_mem_cons.mpr ⟨ilX8_turnLine_wsX8_turnLine_r1 _ (List.mem_of_getElem? (i := 6) rfl), (fun _ h => absurd h List.not_mem_nil)⟩)⟩)⟩)⟩) (by decide +kernel)) ggX8_turnLine_X8_kindHere
set_option maxRecDepth 20000 in
theorem ggX8_turnLine_X8_number : GoodIn wsX8_turnLine wsX8_number := goodIn_sub (List.forall_mem_cons.mpr ⟨ilX8_turnLine_wsX8_turnLine_r4 _ (List.mem_of_getElem? (i := 14) rfl), (List.forall_mem_append.mpr ⟨(List.forall_mem_cons.mpr ⟨ilX8_turnLine_wsX8_turnLine_r1 _ (List.mem_of_getElem? (i := 13) rfl), (List.forall_mem_cons.mpr ⟨ilX8_turnLine_wsX8_turnLine_r1 _ (List.mem_of_getElem? (i := 12) rfl), (List.forall_mem_cons.mpr ⟨ilX8_turnLine_wsX8_turnLine_r1 _ (List.mem_of_getElem? (i := 2) rfl), (List.forall_mem_cons.mpr ⟨ilX8_turnLine_wsX8_turnLine_r1 _ (List.mem_of_getElem? (i := 3) rfl), (List.forall_mem_cons.mpr ⟨ilX8_turnLine_wsX8_turnLine_r1 _ (List.mem_of_getElem? (i := 4) rfl), (List.forall_mem_cons.mpr ⟨ilX8_turnLine_wsX8_turnLine_r1 _ (List.mem_of_getElem? (i := 5) rfl), (List.forall_mem_cons.mpr ⟨ilX8_turnLine_wsX8_turnLine_r1 _ (List.mem_of_getElem? (i := 6) rfl), (List.forall_mem_cons.mpr ⟨ilX8_turnLine_wsX8_turnLine_r1 _ (List.mem_of_getElem? (i := 7) rfl), (List.forall_mem_cons.mpr ⟨ilX8_turnLine_wsX8_turnLine_r1 _ (List.mem_of_getElem? (i := 8) rfl), (List.forall_mem_cons.mpr ⟨ilX8_turnLine_wsX8_turnLine_r1 _ (List.mem_of_getElem? (i := 9) rfl), (List.forall_mem_cons.mpr ⟨ilX8_turnLine_wsX8_turnLine_r1 _ (List.mem_of_getElem? (i := 10) rfl), (List.forall_mem_cons.mpr ⟨ilX8_turnLine_wsX8_turnLine_r1 _ (List.mem_of_getElem? (i := 11) rfl), (List.forall_mem_cons.mpr ⟨ilX8_turnLine_wsX8_turnLine_r1 _ (List.mem_of_getElem? (i := 14) rfl), (List.forall_mem_cons.mpr ⟨ilX8_turnLine_wsX8_turnLine_r1 _ (List.mem_of_getElem? (i := 15) rfl), (List.forall_mem_cons.mpr ⟨ilX8_turnLine_wsX8_turnLine_r1 _ (List.mem_of_getElem? (i := 16) rfl), (List.forall_mem_cons.mpr ⟨ilX8_turnLine_wsX8_turnLine_r1 _ (List.mem_of_getElem? (i := 17) rfl), (List.forall_mem_cons.mpr ⟨ilX8_turnLine_wsX8_turnLine_r1 _ (List.mem_of_getElem? (i := 18) rfl), (List.forall_mem_cons.mpr ⟨ilX8_turnLine_wsX8_turnLine_r1 _ (List.mem_of_getElem? (i := 19) rfl), (List.forall_mem_cons.mpr ⟨ilX8_turnLine_wsX8_turnLine_r1 _ (List.mem_of_getElem? (i := 20) rfl), (List.forall_mem_cons.mpr ⟨ilX8_turnLine_wsX8_turnLine_r1 _ (List.mem_of_getElem? (i := 21) rfl), (List.forall_mem_cons.mpr ⟨ilX8_turnLine_wsX8_turnLine_r1 _ (List.mem_of_getElem? (i := 22) rfl), (fun _ h => absurd h List.not_mem_nil)⟩)⟩)⟩)⟩)⟩)⟩)⟩)⟩)⟩)⟩)⟩)⟩)⟩)⟩)⟩)⟩)⟩)⟩)⟩)⟩)⟩), ilX8_turnLine_wsX80⟩)⟩) (by decide +kernel)
set_option maxRecDepth 20000 in
theorem gX8_turnLine_X8_number : GoodIn wsX8_turnLine (wsV RX8 171 RX8 yX8_number wsX8_number) := goodIn_app (goodIn_sub (List.forall_mem_cons.mpr ⟨ilX8_turnLine_wsX8_turnLine_r4 _ (List.mem_of_getElem? (i := 11) rfl), (List.forall_mem_cons.mpr ⟨ilX8_turnLine_wsX8_turnLine_r4 _ (List.mem_of_getElem? (i := 12) rfl), (List.forall_mem_cons.mpr ⟨ilX8_turnLine_wsX8_turnLine_r4 _ (List.mem_of_getElem? (i := 13) rfl), (List.forall_mem_cons.mpr ⟨ilX8_turnLine_wsX8_turnLine_r1 _ (List.mem_of_getElem? (i := 6) rfl), (fun _ h => absurd h List.not_mem_nil)⟩)⟩)⟩)⟩) (by decide +kernel)) ggX8_turnLine_X8_number
set_option maxRecDepth 20000 in
theorem ggX8_turnLine_X8_closes : GoodIn wsX8_turnLine wsX8_closes := goodIn_sub (List.forall_mem_cons.mpr ⟨ilX8_turnLine_wsX8_turnLine_r4 _ (List.mem_of_getElem? (i := 18) rfl), (List.forall_mem_append.mpr ⟨(List.forall_mem_cons.mpr ⟨ilX8_turnLine_wsX8_turnLine_r1 _ (List.mem_of_getElem? (i := 13) rfl), (List.forall_mem_cons.mpr ⟨ilX8_turnLine_wsX8_turnLine_r1 _ (List.mem_of_getElem? (i := 3) rfl), (List.forall_mem_cons.mpr ⟨ilX8_turnLine_wsX8_turnLine_r1 _ (List.mem_of_getElem? (i := 4) rfl), (List.forall_mem_cons.mpr ⟨ilX8_turnLine_wsX8_turnLine_r1 _ (List.mem_of_getElem? (i := 5) rfl), (List.forall_mem_cons.mpr ⟨ilX8_turnLine_wsX8_turnLine_r1 _ (List.mem_of_getElem? (i := 6) rfl), (List.forall_mem_cons.mpr ⟨ilX8_turnLine_wsX8_turnLine_r1 _ (List.mem_of_getElem? (i := 7) rfl), (List.forall_mem_cons.mpr ⟨ilX8_turnLine_wsX8_turnLine_r1 _ (List.mem_of_getElem? (i := 8) rfl), (List.forall_mem_cons.mpr ⟨ilX8_turnLine_wsX8_turnLine_r1 _ (List.mem_of_getElem? (i := 9) rfl), (List.forall_mem_cons.mpr ⟨ilX8_turnLine_wsX8_turnLine_r1 _ (List.mem_of_getElem? (i := 10) rfl), (List.forall_mem_cons.mpr ⟨ilX8_turnLine_wsX8_turnLine_r1 _ (List.mem_of_getElem? (i := 11) rfl), (List.forall_mem_cons.mpr ⟨ilX8_turnLine_wsX8_turnLine_r1 _ (List.mem_of_getElem? (i := 12) rfl), (List.forall_mem_cons.mpr ⟨ilX8_turnLine_wsX8_turnLine_r1 _ (List.mem_of_getElem? (i := 14) rfl), (List.forall_mem_cons.mpr ⟨ilX8_turnLine_wsX8_turnLine_r1 _ (List.mem_of_getElem? (i := 15) rfl), (List.forall_mem_cons.mpr ⟨ilX8_turnLine_wsX8_turnLine_r1 _ (List.mem_of_getElem? (i := 16) rfl), (List.forall_mem_cons.mpr ⟨ilX8_turnLine_wsX8_turnLine_r1 _ (List.mem_of_getElem? (i := 17) rfl), (List.forall_mem_cons.mpr ⟨ilX8_turnLine_wsX8_turnLine_r1 _ (List.mem_of_getElem? (i := 18) rfl), (List.forall_mem_cons.mpr ⟨ilX8_turnLine_wsX8_turnLine_r1 _ (List.mem_of_getElem? (i := 19) rfl), (List.forall_mem_cons.mpr ⟨ilX8_turnLine_wsX8_turnLine_r1 _ (List.mem_of_getElem? (i := 20) rfl), (List.forall_mem_cons.mpr ⟨ilX8_turnLine_wsX8_turnLine_r1 _ (List.mem_of_getElem? (i := 21) rfl), (List.forall_mem_cons.mpr ⟨ilX8_turnLine_wsX8_turnLine_r1 _ (List.mem_of_getElem? (i := 22) rfl), (fun _ h => absurd h List.not_mem_nil)⟩)⟩)⟩)⟩)⟩)⟩)⟩)⟩)⟩)⟩)⟩)⟩)⟩)⟩)⟩)⟩)⟩)⟩)⟩)⟩), ilX8_turnLine_wsX80⟩)⟩) (by decide +kernel)
set_option maxRecDepth 20000 in
theorem gX8_turnLine_X8_closes : GoodIn wsX8_turnLine (wsV RX8 175 RX8 yX8_closes wsX8_closes) := goodIn_app (goodIn_sub (List.forall_mem_cons.mpr ⟨ilX8_turnLine_wsX8_turnLine_r4 _ (List.mem_of_getElem? (i := 15) rfl), (List.forall_mem_cons.mpr ⟨ilX8_turnLine_wsX8_turnLine_r4 _ (List.mem_of_getElem? (i := 16) rfl), (List.forall_mem_cons.mpr ⟨ilX8_turnLine_wsX8_turnLine_r4 _ (List.mem_of_getElem? (i := 17) rfl), (List.forall_mem_cons.mpr ⟨ilX8_turnLine_wsX8_turnLine_r1 _ (List.mem_of_getElem? (i := 6) rfl), (fun _ h => absurd h List.not_mem_nil)⟩)⟩)⟩)⟩) (by decide +kernel)) ggX8_turnLine_X8_closes
theorem dX8_turnLine_0 : decode cX8_turnLine 0 = .ok (.aload_n 0, 1) := by decide +kernel
theorem dX8_turnLine_1 : decode cX8_turnLine 1 = .ok (.getfield 192, 3) := by decide +kernel
theorem dX8_turnLine_4 : decode cX8_turnLine 4 = .ok (.bipush 12, 2) := by decide +kernel
theorem dX8_turnLine_6 : decode cX8_turnLine 6 = .ok (.if_icmp .ne 5, 3) := by decide +kernel
theorem dX8_turnLine_9 : decode cX8_turnLine 9 = .ok (.iconst 0, 1) := by decide +kernel
theorem dX8_turnLine_10 : decode cX8_turnLine 10 = .ok (.ireturn, 1) := by decide +kernel
theorem dX8_turnLine_11 : decode cX8_turnLine 11 = .ok (.aload_n 0, 1) := by decide +kernel
theorem dX8_turnLine_12 : decode cX8_turnLine 12 = .ok (.invokevirtual 168, 3) := by decide +kernel
theorem dX8_turnLine_15 : decode cX8_turnLine 15 = .ok (.aload_n 0, 1) := by decide +kernel
theorem dX8_turnLine_16 : decode cX8_turnLine 16 = .ok (.invokevirtual 150, 3) := by decide +kernel
theorem dX8_turnLine_19 : decode cX8_turnLine 19 = .ok (.istore_n 1, 1) := by decide +kernel
theorem dX8_turnLine_20 : decode cX8_turnLine 20 = .ok (.iload_n 1, 1) := by decide +kernel
theorem dX8_turnLine_21 : decode cX8_turnLine 21 = .ok (.iconst (-1), 1) := by decide +kernel
theorem dX8_turnLine_22 : decode cX8_turnLine 22 = .ok (.if_icmp .ne 5, 3) := by decide +kernel
theorem dX8_turnLine_25 : decode cX8_turnLine 25 = .ok (.iconst 0, 1) := by decide +kernel
theorem dX8_turnLine_26 : decode cX8_turnLine 26 = .ok (.ireturn, 1) := by decide +kernel
theorem dX8_turnLine_27 : decode cX8_turnLine 27 = .ok (.aload_n 0, 1) := by decide +kernel
theorem dX8_turnLine_28 : decode cX8_turnLine 28 = .ok (.invokevirtual 168, 3) := by decide +kernel
theorem dX8_turnLine_31 : decode cX8_turnLine 31 = .ok (.aload_n 0, 1) := by decide +kernel
theorem dX8_turnLine_32 : decode cX8_turnLine 32 = .ok (.invokevirtual 150, 3) := by decide +kernel
theorem dX8_turnLine_35 : decode cX8_turnLine 35 = .ok (.istore_n 2, 1) := by decide +kernel
theorem dX8_turnLine_36 : decode cX8_turnLine 36 = .ok (.iload_n 2, 1) := by decide +kernel
theorem dX8_turnLine_37 : decode cX8_turnLine 37 = .ok (.iconst (-1), 1) := by decide +kernel
theorem dX8_turnLine_38 : decode cX8_turnLine 38 = .ok (.if_icmp .eq 8, 3) := by decide +kernel
theorem dX8_turnLine_41 : decode cX8_turnLine 41 = .ok (.iload_n 2, 1) := by decide +kernel
theorem dX8_turnLine_42 : decode cX8_turnLine 42 = .ok (.iload_n 1, 1) := by decide +kernel
theorem dX8_turnLine_43 : decode cX8_turnLine 43 = .ok (.if_icmp .ne 5, 3) := by decide +kernel
theorem dX8_turnLine_46 : decode cX8_turnLine 46 = .ok (.iconst 0, 1) := by decide +kernel
theorem dX8_turnLine_47 : decode cX8_turnLine 47 = .ok (.ireturn, 1) := by decide +kernel
theorem dX8_turnLine_48 : decode cX8_turnLine 48 = .ok (.iconst 0, 1) := by decide +kernel
theorem dX8_turnLine_49 : decode cX8_turnLine 49 = .ok (.istore_n 3, 1) := by decide +kernel
theorem dX8_turnLine_50 : decode cX8_turnLine 50 = .ok (.iload_n 3, 1) := by decide +kernel
theorem dX8_turnLine_51 : decode cX8_turnLine 51 = .ok (.aload_n 0, 1) := by decide +kernel
theorem dX8_turnLine_52 : decode cX8_turnLine 52 = .ok (.getfield 192, 3) := by decide +kernel
theorem dX8_turnLine_55 : decode cX8_turnLine 55 = .ok (.if_icmp .ge 37, 3) := by decide +kernel
theorem dX8_turnLine_58 : decode cX8_turnLine 58 = .ok (.aload_n 0, 1) := by decide +kernel
theorem dX8_turnLine_59 : decode cX8_turnLine 59 = .ok (.getfield 24, 3) := by decide +kernel
theorem dX8_turnLine_62 : decode cX8_turnLine 62 = .ok (.iconst 3, 1) := by decide +kernel
theorem dX8_turnLine_63 : decode cX8_turnLine 63 = .ok (.iload_n 3, 1) := by decide +kernel
theorem dX8_turnLine_64 : decode cX8_turnLine 64 = .ok (.imul, 1) := by decide +kernel
theorem dX8_turnLine_65 : decode cX8_turnLine 65 = .ok (.iaload, 1) := by decide +kernel
theorem dX8_turnLine_66 : decode cX8_turnLine 66 = .ok (.iload_n 1, 1) := by decide +kernel
theorem dX8_turnLine_67 : decode cX8_turnLine 67 = .ok (.if_icmp .ne 19, 3) := by decide +kernel
theorem dX8_turnLine_70 : decode cX8_turnLine 70 = .ok (.aload_n 0, 1) := by decide +kernel
theorem dX8_turnLine_71 : decode cX8_turnLine 71 = .ok (.getfield 24, 3) := by decide +kernel
theorem dX8_turnLine_74 : decode cX8_turnLine 74 = .ok (.iconst 3, 1) := by decide +kernel
theorem dX8_turnLine_75 : decode cX8_turnLine 75 = .ok (.iload_n 3, 1) := by decide +kernel
theorem dX8_turnLine_76 : decode cX8_turnLine 76 = .ok (.imul, 1) := by decide +kernel
theorem dX8_turnLine_77 : decode cX8_turnLine 77 = .ok (.iconst 1, 1) := by decide +kernel
theorem dX8_turnLine_78 : decode cX8_turnLine 78 = .ok (.iadd, 1) := by decide +kernel
theorem dX8_turnLine_79 : decode cX8_turnLine 79 = .ok (.iaload, 1) := by decide +kernel
theorem dX8_turnLine_80 : decode cX8_turnLine 80 = .ok (.iload_n 2, 1) := by decide +kernel
theorem dX8_turnLine_81 : decode cX8_turnLine 81 = .ok (.if_icmp .ne 5, 3) := by decide +kernel
theorem dX8_turnLine_84 : decode cX8_turnLine 84 = .ok (.iconst 0, 1) := by decide +kernel
theorem dX8_turnLine_85 : decode cX8_turnLine 85 = .ok (.ireturn, 1) := by decide +kernel
theorem dX8_turnLine_86 : decode cX8_turnLine 86 = .ok (.iinc 3 1, 3) := by decide +kernel
theorem dX8_turnLine_89 : decode cX8_turnLine 89 = .ok (.goto (-39), 3) := by decide +kernel
theorem dX8_turnLine_92 : decode cX8_turnLine 92 = .ok (.aload_n 0, 1) := by decide +kernel
theorem dX8_turnLine_93 : decode cX8_turnLine 93 = .ok (.invokevirtual 168, 3) := by decide +kernel
theorem dX8_turnLine_96 : decode cX8_turnLine 96 = .ok (.aload_n 0, 1) := by decide +kernel
theorem dX8_turnLine_97 : decode cX8_turnLine 97 = .ok (.iconst 0, 1) := by decide +kernel
theorem dX8_turnLine_98 : decode cX8_turnLine 98 = .ok (.bipush 99, 2) := by decide +kernel
theorem dX8_turnLine_100 : decode cX8_turnLine 100 = .ok (.invokevirtual 171, 3) := by decide +kernel
theorem dX8_turnLine_103 : decode cX8_turnLine 103 = .ok (.ifCond .ne 5, 3) := by decide +kernel
theorem dX8_turnLine_106 : decode cX8_turnLine 106 = .ok (.iconst 0, 1) := by decide +kernel
theorem dX8_turnLine_107 : decode cX8_turnLine 107 = .ok (.ireturn, 1) := by decide +kernel
theorem dX8_turnLine_108 : decode cX8_turnLine 108 = .ok (.aload_n 0, 1) := by decide +kernel
theorem dX8_turnLine_109 : decode cX8_turnLine 109 = .ok (.getfield 24, 3) := by decide +kernel
theorem dX8_turnLine_112 : decode cX8_turnLine 112 = .ok (.iconst 3, 1) := by decide +kernel
theorem dX8_turnLine_113 : decode cX8_turnLine 113 = .ok (.aload_n 0, 1) := by decide +kernel
theorem dX8_turnLine_114 : decode cX8_turnLine 114 = .ok (.getfield 192, 3) := by decide +kernel
theorem dX8_turnLine_117 : decode cX8_turnLine 117 = .ok (.imul, 1) := by decide +kernel
theorem dX8_turnLine_118 : decode cX8_turnLine 118 = .ok (.iload_n 1, 1) := by decide +kernel
theorem dX8_turnLine_119 : decode cX8_turnLine 119 = .ok (.iastore, 1) := by decide +kernel
theorem dX8_turnLine_120 : decode cX8_turnLine 120 = .ok (.aload_n 0, 1) := by decide +kernel
theorem dX8_turnLine_121 : decode cX8_turnLine 121 = .ok (.getfield 24, 3) := by decide +kernel
theorem dX8_turnLine_124 : decode cX8_turnLine 124 = .ok (.iconst 3, 1) := by decide +kernel
theorem dX8_turnLine_125 : decode cX8_turnLine 125 = .ok (.aload_n 0, 1) := by decide +kernel
theorem dX8_turnLine_126 : decode cX8_turnLine 126 = .ok (.getfield 192, 3) := by decide +kernel
theorem dX8_turnLine_129 : decode cX8_turnLine 129 = .ok (.imul, 1) := by decide +kernel
theorem dX8_turnLine_130 : decode cX8_turnLine 130 = .ok (.iconst 1, 1) := by decide +kernel
theorem dX8_turnLine_131 : decode cX8_turnLine 131 = .ok (.iadd, 1) := by decide +kernel
theorem dX8_turnLine_132 : decode cX8_turnLine 132 = .ok (.iload_n 2, 1) := by decide +kernel
theorem dX8_turnLine_133 : decode cX8_turnLine 133 = .ok (.iastore, 1) := by decide +kernel
theorem dX8_turnLine_134 : decode cX8_turnLine 134 = .ok (.aload_n 0, 1) := by decide +kernel
theorem dX8_turnLine_135 : decode cX8_turnLine 135 = .ok (.getfield 24, 3) := by decide +kernel
theorem dX8_turnLine_138 : decode cX8_turnLine 138 = .ok (.iconst 3, 1) := by decide +kernel
theorem dX8_turnLine_139 : decode cX8_turnLine 139 = .ok (.aload_n 0, 1) := by decide +kernel
theorem dX8_turnLine_140 : decode cX8_turnLine 140 = .ok (.getfield 192, 3) := by decide +kernel
theorem dX8_turnLine_143 : decode cX8_turnLine 143 = .ok (.imul, 1) := by decide +kernel
theorem dX8_turnLine_144 : decode cX8_turnLine 144 = .ok (.iconst 2, 1) := by decide +kernel
theorem dX8_turnLine_145 : decode cX8_turnLine 145 = .ok (.iadd, 1) := by decide +kernel
theorem dX8_turnLine_146 : decode cX8_turnLine 146 = .ok (.aload_n 0, 1) := by decide +kernel
theorem dX8_turnLine_147 : decode cX8_turnLine 147 = .ok (.getfield 165, 3) := by decide +kernel
theorem dX8_turnLine_150 : decode cX8_turnLine 150 = .ok (.iastore, 1) := by decide +kernel
theorem dX8_turnLine_151 : decode cX8_turnLine 151 = .ok (.aload_n 0, 1) := by decide +kernel
theorem dX8_turnLine_152 : decode cX8_turnLine 152 = .ok (.dup, 1) := by decide +kernel
theorem dX8_turnLine_153 : decode cX8_turnLine 153 = .ok (.getfield 192, 3) := by decide +kernel
theorem dX8_turnLine_156 : decode cX8_turnLine 156 = .ok (.iconst 1, 1) := by decide +kernel
theorem dX8_turnLine_157 : decode cX8_turnLine 157 = .ok (.iadd, 1) := by decide +kernel
theorem dX8_turnLine_158 : decode cX8_turnLine 158 = .ok (.putfield 192, 3) := by decide +kernel
theorem dX8_turnLine_161 : decode cX8_turnLine 161 = .ok (.aload_n 0, 1) := by decide +kernel
theorem dX8_turnLine_162 : decode cX8_turnLine 162 = .ok (.invokevirtual 175, 3) := by decide +kernel
theorem dX8_turnLine_165 : decode cX8_turnLine 165 = .ok (.ireturn, 1) := by decide +kernel
theorem ilX8_line_wsX8_line_r1 : ∀ w ∈ wsX8_line_r1, w ∈ wsX8_line := fun _ h => List.mem_cons_of_mem _ (List.mem_append_left _ (List.mem_append_left _ (h)))
theorem ilX8_line_wsX8_line_r2 : ∀ w ∈ wsX8_line_r2, w ∈ wsX8_line := fun _ h => List.mem_cons_of_mem _ (List.mem_append_left _ (List.mem_append_right _ (List.mem_append_left _ (h))))
theorem ilX8_line_wsX8_line_r3 : ∀ w ∈ wsX8_line_r3, w ∈ wsX8_line := fun _ h => List.mem_cons_of_mem _ (List.mem_append_left _ (List.mem_append_right _ (List.mem_append_right _ (List.mem_append_left _ (h)))))
theorem ilX8_line_wsX8_line_r4 : ∀ w ∈ wsX8_line_r4, w ∈ wsX8_line := fun _ h => List.mem_cons_of_mem _ (List.mem_append_left _ (List.mem_append_right _ (List.mem_append_right _ (List.mem_append_right _ (List.mem_append_left _ (h))))))
theorem ilX8_line_wsX8_line_r5 : ∀ w ∈ wsX8_line_r5, w ∈ wsX8_line := fun _ h => List.mem_cons_of_mem _ (List.mem_append_left _ (List.mem_append_right _ (List.mem_append_right _ (List.mem_append_right _ (List.mem_append_right _ (h))))))
theorem ilX8_line_wsX80 : ∀ w ∈ wsX80, w ∈ wsX8_line := fun _ h => List.mem_cons_of_mem _ (List.mem_append_right _ (h))
set_option maxRecDepth 20000 in
theorem ggX8_line_X8_isWord : GoodIn wsX8_line wsX8_isWord := goodIn_sub (List.forall_mem_cons.mpr ⟨ilX8_line_wsX8_line_r1 _ (List.mem_of_getElem? (i := 4) rfl), (List.forall_mem_append.mpr ⟨(List.forall_mem_append.mpr ⟨(List.forall_mem_cons.mpr ⟨ilX8_line_wsX8_line_r1 _ (List.mem_of_getElem? (i := 5) rfl), (List.forall_mem_cons.mpr ⟨ilX8_line_wsX8_line_r1 _ (List.mem_of_getElem? (i := 6) rfl), (List.forall_mem_cons.mpr ⟨ilX8_line_wsX8_line_r1 _ (List.mem_of_getElem? (i := 7) rfl), (List.forall_mem_cons.mpr ⟨ilX8_line_wsX8_line_r1 _ (List.mem_of_getElem? (i := 8) rfl), (List.forall_mem_cons.mpr ⟨ilX8_line_wsX8_line_r1 _ (List.mem_of_getElem? (i := 3) rfl), (List.forall_mem_cons.mpr ⟨ilX8_line_wsX8_line_r1 _ (List.mem_of_getElem? (i := 9) rfl), (List.forall_mem_cons.mpr ⟨ilX8_line_wsX8_line_r1 _ (List.mem_of_getElem? (i := 10) rfl), (List.forall_mem_cons.mpr ⟨ilX8_line_wsX8_line_r1 _ (List.mem_of_getElem? (i := 11) rfl), (List.forall_mem_cons.mpr ⟨ilX8_line_wsX8_line_r1 _ (List.mem_of_getElem? (i := 12) rfl), (List.forall_mem_cons.mpr ⟨ilX8_line_wsX8_line_r1 _ (List.mem_of_getElem? (i := 13) rfl), (List.forall_mem_cons.mpr ⟨ilX8_line_wsX8_line_r1 _ (List.mem_of_getElem? (i := 14) rfl), (List.forall_mem_cons.mpr ⟨ilX8_line_wsX8_line_r1 _ (List.mem_of_getElem? (i := 15) rfl), (List.forall_mem_cons.mpr ⟨ilX8_line_wsX8_line_r1 _ (List.mem_of_getElem? (i := 16) rfl), (List.forall_mem_cons.mpr ⟨ilX8_line_wsX8_line_r1 _ (List.mem_of_getElem? (i := 17) rfl), (List.forall_mem_cons.mpr ⟨ilX8_line_wsX8_line_r1 _ (List.mem_of_getElem? (i := 18) rfl), (List.forall_mem_cons.mpr ⟨ilX8_line_wsX8_line_r1 _ (List.mem_of_getElem? (i := 19) rfl), (List.forall_mem_cons.mpr ⟨ilX8_line_wsX8_line_r1 _ (List.mem_of_getElem? (i := 20) rfl), (List.forall_mem_cons.mpr ⟨ilX8_line_wsX8_line_r1 _ (List.mem_of_getElem? (i := 21) rfl), (List.forall_mem_cons.mpr ⟨ilX8_line_wsX8_line_r1 _ (List.mem_of_getElem? (i := 22) rfl), (List.forall_mem_cons.mpr ⟨ilX8_line_wsX8_line_r1 _ (List.mem_of_getElem? (i := 23) rfl), (List.forall_mem_cons.mpr ⟨ilX8_line_wsX8_line_r2 _ (List.mem_of_getElem? (i := 0) rfl), (List.forall_mem_cons.mpr ⟨ilX8_line_wsX8_line_r2 _ (List.mem_of_getElem? (i := 1) rfl), (List.forall_mem_cons.mpr ⟨ilX8_line_wsX8_line_r2 _ (List.mem_of_getElem? (i := 2) rfl), (List.forall_mem_cons.mpr ⟨ilX8_line_wsX8_line_r2 _ (List.mem_of_getElem? (i := 3) rfl), (fun _ h => absurd h List.not_mem_nil)⟩)⟩)⟩)⟩)⟩)⟩)⟩)⟩)⟩)⟩)⟩)⟩)⟩)⟩)⟩)⟩)⟩)⟩)⟩)⟩)⟩)⟩)⟩)⟩), (List.forall_mem_append.mpr ⟨(List.forall_mem_cons.mpr ⟨ilX8_line_wsX8_line_r2 _ (List.mem_of_getElem? (i := 4) rfl), (List.forall_mem_cons.mpr ⟨ilX8_line_wsX8_line_r2 _ (List.mem_of_getElem? (i := 5) rfl), (List.forall_mem_cons.mpr ⟨ilX8_line_wsX8_line_r2 _ (List.mem_of_getElem? (i := 6) rfl), (List.forall_mem_cons.mpr ⟨ilX8_line_wsX8_line_r2 _ (List.mem_of_getElem? (i := 7) rfl), (List.forall_mem_cons.mpr ⟨ilX8_line_wsX8_line_r2 _ (List.mem_of_getElem? (i := 8) rfl), (List.forall_mem_cons.mpr ⟨ilX8_line_wsX8_line_r2 _ (List.mem_of_getElem? (i := 9) rfl), (List.forall_mem_cons.mpr ⟨ilX8_line_wsX8_line_r2 _ (List.mem_of_getElem? (i := 10) rfl), (List.forall_mem_cons.mpr ⟨ilX8_line_wsX8_line_r2 _ (List.mem_of_getElem? (i := 11) rfl), (List.forall_mem_cons.mpr ⟨ilX8_line_wsX8_line_r2 _ (List.mem_of_getElem? (i := 12) rfl), (List.forall_mem_cons.mpr ⟨ilX8_line_wsX8_line_r2 _ (List.mem_of_getElem? (i := 13) rfl), (List.forall_mem_cons.mpr ⟨ilX8_line_wsX8_line_r2 _ (List.mem_of_getElem? (i := 14) rfl), (List.forall_mem_cons.mpr ⟨ilX8_line_wsX8_line_r2 _ (List.mem_of_getElem? (i := 15) rfl), (List.forall_mem_cons.mpr ⟨ilX8_line_wsX8_line_r2 _ (List.mem_of_getElem? (i := 16) rfl), (List.forall_mem_cons.mpr ⟨ilX8_line_wsX8_line_r2 _ (List.mem_of_getElem? (i := 17) rfl), (List.forall_mem_cons.mpr ⟨ilX8_line_wsX8_line_r2 _ (List.mem_of_getElem? (i := 18) rfl), (List.forall_mem_cons.mpr ⟨ilX8_line_wsX8_line_r2 _ (List.mem_of_getElem? (i := 19) rfl), (List.forall_mem_cons.mpr ⟨ilX8_line_wsX8_line_r2 _ (List.mem_of_getElem? (i := 20) rfl), (List.forall_mem_cons.mpr ⟨ilX8_line_wsX8_line_r2 _ (List.mem_of_getElem? (i := 21) rfl), (List.forall_mem_cons.mpr ⟨ilX8_line_wsX8_line_r2 _ (List.mem_of_getElem? (i := 22) rfl), (List.forall_mem_cons.mpr ⟨ilX8_line_wsX8_line_r2 _ (List.mem_of_getElem? (i := 23) rfl), (List.forall_mem_cons.mpr ⟨ilX8_line_wsX8_line_r3 _ (List.mem_of_getElem? (i := 0) rfl), (List.forall_mem_cons.mpr ⟨ilX8_line_wsX8_line_r3 _ (List.mem_of_getElem? (i := 1) rfl), (List.forall_mem_cons.mpr ⟨ilX8_line_wsX8_line_r3 _ (List.mem_of_getElem? (i := 2) rfl), (List.forall_mem_cons.mpr ⟨ilX8_line_wsX8_line_r3 _ (List.mem_of_getElem? (i := 3) rfl), (fun _ h => absurd h List.not_mem_nil)⟩)⟩)⟩)⟩)⟩)⟩)⟩)⟩)⟩)⟩)⟩)⟩)⟩)⟩)⟩)⟩)⟩)⟩)⟩)⟩)⟩)⟩)⟩)⟩), (List.forall_mem_cons.mpr ⟨ilX8_line_wsX8_line_r3 _ (List.mem_of_getElem? (i := 4) rfl), (List.forall_mem_cons.mpr ⟨ilX8_line_wsX8_line_r3 _ (List.mem_of_getElem? (i := 5) rfl), (List.forall_mem_cons.mpr ⟨ilX8_line_wsX8_line_r3 _ (List.mem_of_getElem? (i := 6) rfl), (List.forall_mem_cons.mpr ⟨ilX8_line_wsX8_line_r3 _ (List.mem_of_getElem? (i := 7) rfl), (List.forall_mem_cons.mpr ⟨ilX8_line_wsX8_line_r3 _ (List.mem_of_getElem? (i := 8) rfl), (List.forall_mem_cons.mpr ⟨ilX8_line_wsX8_line_r3 _ (List.mem_of_getElem? (i := 9) rfl), (List.forall_mem_cons.mpr ⟨ilX8_line_wsX8_line_r3 _ (List.mem_of_getElem? (i := 10) rfl), (fun _ h => absurd h List.not_mem_nil)⟩)⟩)⟩)⟩)⟩)⟩)⟩)⟩)⟩), ilX8_line_wsX80⟩)⟩) (by decide +kernel)
set_option maxRecDepth 20000 in
theorem gX8_line_X8_isWord : GoodIn wsX8_line (wsV RX8 138 RX8 yX8_isWord wsX8_isWord) := goodIn_app (goodIn_sub (List.forall_mem_cons.mpr ⟨ilX8_line_wsX8_line_r1 _ (List.mem_of_getElem? (i := 0) rfl), (List.forall_mem_cons.mpr ⟨ilX8_line_wsX8_line_r1 _ (List.mem_of_getElem? (i := 1) rfl), (List.forall_mem_cons.mpr ⟨ilX8_line_wsX8_line_r1 _ (List.mem_of_getElem? (i := 2) rfl), (List.forall_mem_cons.mpr ⟨ilX8_line_wsX8_line_r1 _ (List.mem_of_getElem? (i := 3) rfl), (fun _ h => absurd h List.not_mem_nil)⟩)⟩)⟩)⟩) (by decide +kernel)) ggX8_line_X8_isWord
set_option maxRecDepth 20000 in
theorem ggX8_line_X8_onceLine : GoodIn wsX8_line wsX8_onceLine := goodIn_sub (List.forall_mem_cons.mpr ⟨ilX8_line_wsX8_line_r3 _ (List.mem_of_getElem? (i := 14) rfl), (List.forall_mem_append.mpr ⟨(List.forall_mem_append.mpr ⟨(List.forall_mem_cons.mpr ⟨ilX8_line_wsX8_line_r3 _ (List.mem_of_getElem? (i := 15) rfl), (List.forall_mem_cons.mpr ⟨ilX8_line_wsX8_line_r3 _ (List.mem_of_getElem? (i := 16) rfl), (List.forall_mem_cons.mpr ⟨ilX8_line_wsX8_line_r3 _ (List.mem_of_getElem? (i := 17) rfl), (List.forall_mem_cons.mpr ⟨ilX8_line_wsX8_line_r3 _ (List.mem_of_getElem? (i := 18) rfl), (List.forall_mem_cons.mpr ⟨ilX8_line_wsX8_line_r3 _ (List.mem_of_getElem? (i := 19) rfl), (List.forall_mem_cons.mpr ⟨ilX8_line_wsX8_line_r1 _ (List.mem_of_getElem? (i := 3) rfl), (List.forall_mem_cons.mpr ⟨ilX8_line_wsX8_line_r3 _ (List.mem_of_getElem? (i := 20) rfl), (List.forall_mem_cons.mpr ⟨ilX8_line_wsX8_line_r3 _ (List.mem_of_getElem? (i := 21) rfl), (List.forall_mem_cons.mpr ⟨ilX8_line_wsX8_line_r3 _ (List.mem_of_getElem? (i := 22) rfl), (List.forall_mem_cons.mpr ⟨ilX8_line_wsX8_line_r3 _ (List.mem_of_getElem? (i := 23) rfl), (List.forall_mem_cons.mpr ⟨ilX8_line_wsX8_line_r4 _ (List.mem_of_getElem? (i := 0) rfl), (List.forall_mem_cons.mpr ⟨ilX8_line_wsX8_line_r1 _ (List.mem_of_getElem? (i := 6) rfl), (List.forall_mem_cons.mpr ⟨ilX8_line_wsX8_line_r1 _ (List.mem_of_getElem? (i := 5) rfl), (List.forall_mem_cons.mpr ⟨ilX8_line_wsX8_line_r4 _ (List.mem_of_getElem? (i := 1) rfl), (List.forall_mem_cons.mpr ⟨ilX8_line_wsX8_line_r4 _ (List.mem_of_getElem? (i := 2) rfl), (List.forall_mem_cons.mpr ⟨ilX8_line_wsX8_line_r4 _ (List.mem_of_getElem? (i := 3) rfl), (List.forall_mem_cons.mpr ⟨ilX8_line_wsX8_line_r4 _ (List.mem_of_getElem? (i := 4) rfl), (List.forall_mem_cons.mpr ⟨ilX8_line_wsX8_line_r4 _ (List.mem_of_getElem? (i := 5) rfl), (List.forall_mem_cons.mpr ⟨ilX8_line_wsX8_line_r4 _ (List.mem_of_getElem? (i := 6) rfl), (List.forall_mem_cons.mpr ⟨ilX8_line_wsX8_line_r4 _ (List.mem_of_getElem? (i := 7) rfl), (List.forall_mem_cons.mpr ⟨ilX8_line_wsX8_line_r4 _ (List.mem_of_getElem? (i := 8) rfl), (List.forall_mem_cons.mpr ⟨ilX8_line_wsX8_line_r4 _ (List.mem_of_getElem? (i := 9) rfl), (List.forall_mem_cons.mpr ⟨ilX8_line_wsX8_line_r4 _ (List.mem_of_getElem? (i := 10) rfl), (List.forall_mem_cons.mpr ⟨ilX8_line_wsX8_line_r4 _ (List.mem_of_getElem? (i := 11) rfl), (fun _ h => absurd h List.not_mem_nil)⟩)⟩)⟩)⟩)⟩)⟩)⟩)⟩)⟩)⟩)⟩)⟩)⟩)⟩)⟩)⟩)⟩)⟩)⟩)⟩)⟩)⟩)⟩)⟩), (List.forall_mem_cons.mpr ⟨ilX8_line_wsX8_line_r4 _ (List.mem_of_getElem? (i := 12) rfl), (List.forall_mem_cons.mpr ⟨ilX8_line_wsX8_line_r4 _ (List.mem_of_getElem? (i := 13) rfl), (List.forall_mem_cons.mpr ⟨ilX8_line_wsX8_line_r4 _ (List.mem_of_getElem? (i := 14) rfl), (List.forall_mem_cons.mpr ⟨ilX8_line_wsX8_line_r4 _ (List.mem_of_getElem? (i := 15) rfl), (List.forall_mem_cons.mpr ⟨ilX8_line_wsX8_line_r4 _ (List.mem_of_getElem? (i := 16) rfl), (List.forall_mem_cons.mpr ⟨ilX8_line_wsX8_line_r4 _ (List.mem_of_getElem? (i := 17) rfl), (fun _ h => absurd h List.not_mem_nil)⟩)⟩)⟩)⟩)⟩)⟩)⟩), ilX8_line_wsX80⟩)⟩) (by decide +kernel)
set_option maxRecDepth 20000 in
theorem gX8_line_X8_onceLine : GoodIn wsX8_line (wsV RX8 195 RX8 yX8_onceLine wsX8_onceLine) := goodIn_app (goodIn_sub (List.forall_mem_cons.mpr ⟨ilX8_line_wsX8_line_r3 _ (List.mem_of_getElem? (i := 11) rfl), (List.forall_mem_cons.mpr ⟨ilX8_line_wsX8_line_r3 _ (List.mem_of_getElem? (i := 12) rfl), (List.forall_mem_cons.mpr ⟨ilX8_line_wsX8_line_r3 _ (List.mem_of_getElem? (i := 13) rfl), (List.forall_mem_cons.mpr ⟨ilX8_line_wsX8_line_r1 _ (List.mem_of_getElem? (i := 3) rfl), (fun _ h => absurd h List.not_mem_nil)⟩)⟩)⟩)⟩) (by decide +kernel)) ggX8_line_X8_onceLine
set_option maxRecDepth 20000 in
theorem ggX8_line_X8_sortLine : GoodIn wsX8_line wsX8_sortLine := goodIn_sub (List.forall_mem_cons.mpr ⟨ilX8_line_wsX8_line_r4 _ (List.mem_of_getElem? (i := 21) rfl), (List.forall_mem_append.mpr ⟨(List.forall_mem_append.mpr ⟨(List.forall_mem_cons.mpr ⟨ilX8_line_wsX8_line_r4 _ (List.mem_of_getElem? (i := 22) rfl), (List.forall_mem_cons.mpr ⟨ilX8_line_wsX8_line_r4 _ (List.mem_of_getElem? (i := 23) rfl), (List.forall_mem_cons.mpr ⟨ilX8_line_wsX8_line_r1 _ (List.mem_of_getElem? (i := 6) rfl), (List.forall_mem_cons.mpr ⟨ilX8_line_wsX8_line_r5 _ (List.mem_of_getElem? (i := 0) rfl), (List.forall_mem_cons.mpr ⟨ilX8_line_wsX8_line_r3 _ (List.mem_of_getElem? (i := 16) rfl), (List.forall_mem_cons.mpr ⟨ilX8_line_wsX8_line_r3 _ (List.mem_of_getElem? (i := 17) rfl), (List.forall_mem_cons.mpr ⟨ilX8_line_wsX8_line_r3 _ (List.mem_of_getElem? (i := 18) rfl), (List.forall_mem_cons.mpr ⟨ilX8_line_wsX8_line_r3 _ (List.mem_of_getElem? (i := 19) rfl), (List.forall_mem_cons.mpr ⟨ilX8_line_wsX8_line_r1 _ (List.mem_of_getElem? (i := 3) rfl), (List.forall_mem_cons.mpr ⟨ilX8_line_wsX8_line_r3 _ (List.mem_of_getElem? (i := 20) rfl), (List.forall_mem_cons.mpr ⟨ilX8_line_wsX8_line_r3 _ (List.mem_of_getElem? (i := 21) rfl), (List.forall_mem_cons.mpr ⟨ilX8_line_wsX8_line_r3 _ (List.mem_of_getElem? (i := 22) rfl), (List.forall_mem_cons.mpr ⟨ilX8_line_wsX8_line_r3 _ (List.mem_of_getElem? (i := 23) rfl), (List.forall_mem_cons.mpr ⟨ilX8_line_wsX8_line_r4 _ (List.mem_of_getElem? (i := 0) rfl), (List.forall_mem_cons.mpr ⟨ilX8_line_wsX8_line_r1 _ (List.mem_of_getElem? (i := 5) rfl), (List.forall_mem_cons.mpr ⟨ilX8_line_wsX8_line_r4 _ (List.mem_of_getElem? (i := 1) rfl), (List.forall_mem_cons.mpr ⟨ilX8_line_wsX8_line_r4 _ (List.mem_of_getElem? (i := 2) rfl), (List.forall_mem_cons.mpr ⟨ilX8_line_wsX8_line_r4 _ (List.mem_of_getElem? (i := 3) rfl), (List.forall_mem_cons.mpr ⟨ilX8_line_wsX8_line_r4 _ (List.mem_of_getElem? (i := 4) rfl), (List.forall_mem_cons.mpr ⟨ilX8_line_wsX8_line_r4 _ (List.mem_of_getElem? (i := 5) rfl), (List.forall_mem_cons.mpr ⟨ilX8_line_wsX8_line_r4 _ (List.mem_of_getElem? (i := 6) rfl), (List.forall_mem_cons.mpr ⟨ilX8_line_wsX8_line_r4 _ (List.mem_of_getElem? (i := 7) rfl), (List.forall_mem_cons.mpr ⟨ilX8_line_wsX8_line_r4 _ (List.mem_of_getElem? (i := 8) rfl), (List.forall_mem_cons.mpr ⟨ilX8_line_wsX8_line_r4 _ (List.mem_of_getElem? (i := 9) rfl), (fun _ h => absurd h List.not_mem_nil)⟩)⟩)⟩)⟩)⟩)⟩)⟩)⟩)⟩)⟩)⟩)⟩)⟩)⟩)⟩)⟩)⟩)⟩)⟩)⟩)⟩)⟩)⟩)⟩), (List.forall_mem_append.mpr ⟨(List.forall_mem_cons.mpr ⟨ilX8_line_wsX8_line_r5 _ (List.mem_of_getElem? (i := 1) rfl), (List.forall_mem_cons.mpr ⟨ilX8_line_wsX8_line_r5 _ (List.mem_of_getElem? (i := 2) rfl), (List.forall_mem_cons.mpr ⟨ilX8_line_wsX8_line_r5 _ (List.mem_of_getElem? (i := 3) rfl), (List.forall_mem_cons.mpr ⟨ilX8_line_wsX8_line_r5 _ (List.mem_of_getElem? (i := 4) rfl), (List.forall_mem_cons.mpr ⟨ilX8_line_wsX8_line_r5 _ (List.mem_of_getElem? (i := 5) rfl), (List.forall_mem_cons.mpr ⟨ilX8_line_wsX8_line_r5 _ (List.mem_of_getElem? (i := 6) rfl), (List.forall_mem_cons.mpr ⟨ilX8_line_wsX8_line_r5 _ (List.mem_of_getElem? (i := 7) rfl), (List.forall_mem_cons.mpr ⟨ilX8_line_wsX8_line_r5 _ (List.mem_of_getElem? (i := 8) rfl), (List.forall_mem_cons.mpr ⟨ilX8_line_wsX8_line_r1 _ (List.mem_of_getElem? (i := 0) rfl), (List.forall_mem_cons.mpr ⟨ilX8_line_wsX8_line_r1 _ (List.mem_of_getElem? (i := 1) rfl), (List.forall_mem_cons.mpr ⟨ilX8_line_wsX8_line_r1 _ (List.mem_of_getElem? (i := 2) rfl), (List.forall_mem_cons.mpr ⟨ilX8_line_wsX8_line_r1 _ (List.mem_of_getElem? (i := 4) rfl), (List.forall_mem_cons.mpr ⟨ilX8_line_wsX8_line_r1 _ (List.mem_of_getElem? (i := 7) rfl), (List.forall_mem_cons.mpr ⟨ilX8_line_wsX8_line_r1 _ (List.mem_of_getElem? (i := 8) rfl), (List.forall_mem_cons.mpr ⟨ilX8_line_wsX8_line_r1 _ (List.mem_of_getElem? (i := 9) rfl), (List.forall_mem_cons.mpr ⟨ilX8_line_wsX8_line_r1 _ (List.mem_of_getElem? (i := 10) rfl), (List.forall_mem_cons.mpr ⟨ilX8_line_wsX8_line_r1 _ (List.mem_of_getElem? (i := 11) rfl), (List.forall_mem_cons.mpr ⟨ilX8_line_wsX8_line_r1 _ (List.mem_of_getElem? (i := 12) rfl), (List.forall_mem_cons.mpr ⟨ilX8_line_wsX8_line_r1 _ (List.mem_of_getElem? (i := 13) rfl), (List.forall_mem_cons.mpr ⟨ilX8_line_wsX8_line_r1 _ (List.mem_of_getElem? (i := 14) rfl), (List.forall_mem_cons.mpr ⟨ilX8_line_wsX8_line_r1 _ (List.mem_of_getElem? (i := 15) rfl), (List.forall_mem_cons.mpr ⟨ilX8_line_wsX8_line_r1 _ (List.mem_of_getElem? (i := 16) rfl), (List.forall_mem_cons.mpr ⟨ilX8_line_wsX8_line_r1 _ (List.mem_of_getElem? (i := 17) rfl), (List.forall_mem_cons.mpr ⟨ilX8_line_wsX8_line_r1 _ (List.mem_of_getElem? (i := 18) rfl), (fun _ h => absurd h List.not_mem_nil)⟩)⟩)⟩)⟩)⟩)⟩)⟩)⟩)⟩)⟩)⟩)⟩)⟩)⟩)⟩)⟩)⟩)⟩)⟩)⟩)⟩)⟩)⟩)⟩), (List.forall_mem_append.mpr ⟨(List.forall_mem_cons.mpr ⟨ilX8_line_wsX8_line_r1 _ (List.mem_of_getElem? (i := 19) rfl), (List.forall_mem_cons.mpr ⟨ilX8_line_wsX8_line_r1 _ (List.mem_of_getElem? (i := 20) rfl), (List.forall_mem_cons.mpr ⟨ilX8_line_wsX8_line_r1 _ (List.mem_of_getElem? (i := 21) rfl), (List.forall_mem_cons.mpr ⟨ilX8_line_wsX8_line_r1 _ (List.mem_of_getElem? (i := 22) rfl), (List.forall_mem_cons.mpr ⟨ilX8_line_wsX8_line_r1 _ (List.mem_of_getElem? (i := 23) rfl), (List.forall_mem_cons.mpr ⟨ilX8_line_wsX8_line_r2 _ (List.mem_of_getElem? (i := 0) rfl), (List.forall_mem_cons.mpr ⟨ilX8_line_wsX8_line_r2 _ (List.mem_of_getElem? (i := 1) rfl), (List.forall_mem_cons.mpr ⟨ilX8_line_wsX8_line_r2 _ (List.mem_of_getElem? (i := 2) rfl), (List.forall_mem_cons.mpr ⟨ilX8_line_wsX8_line_r2 _ (List.mem_of_getElem? (i := 3) rfl), (List.forall_mem_cons.mpr ⟨ilX8_line_wsX8_line_r2 _ (List.mem_of_getElem? (i := 4) rfl), (List.forall_mem_cons.mpr ⟨ilX8_line_wsX8_line_r2 _ (List.mem_of_getElem? (i := 5) rfl), (List.forall_mem_cons.mpr ⟨ilX8_line_wsX8_line_r2 _ (List.mem_of_getElem? (i := 6) rfl), (List.forall_mem_cons.mpr ⟨ilX8_line_wsX8_line_r2 _ (List.mem_of_getElem? (i := 7) rfl), (List.forall_mem_cons.mpr ⟨ilX8_line_wsX8_line_r2 _ (List.mem_of_getElem? (i := 8) rfl), (List.forall_mem_cons.mpr ⟨ilX8_line_wsX8_line_r2 _ (List.mem_of_getElem? (i := 9) rfl), (List.forall_mem_cons.mpr ⟨ilX8_line_wsX8_line_r2 _ (List.mem_of_getElem? (i := 10) rfl), (List.forall_mem_cons.mpr ⟨ilX8_line_wsX8_line_r2 _ (List.mem_of_getElem? (i := 11) rfl), (List.forall_mem_cons.mpr ⟨ilX8_line_wsX8_line_r2 _ (List.mem_of_getElem? (i := 12) rfl), (List.forall_mem_cons.mpr ⟨ilX8_line_wsX8_line_r2 _ (List.mem_of_getElem? (i := 13) rfl), (List.forall_mem_cons.mpr ⟨ilX8_line_wsX8_line_r2 _ (List.mem_of_getElem? (i := 14) rfl), (List.forall_mem_cons.mpr ⟨ilX8_line_wsX8_line_r2 _ (List.mem_of_getElem? (i := 15) rfl), (List.forall_mem_cons.mpr ⟨ilX8_line_wsX8_line_r2 _ (List.mem_of_getElem? (i := 16) rfl), (List.forall_mem_cons.mpr ⟨ilX8_line_wsX8_line_r2 _ (List.mem_of_getElem? (i := 17) rfl), (List.forall_mem_cons.mpr ⟨ilX8_line_wsX8_line_r2 _ (List.mem_of_getElem? (i := 18) rfl), (fun _ h => absurd h List.not_mem_nil)⟩)⟩)⟩)⟩)⟩)⟩)⟩)⟩)⟩)⟩)⟩)⟩)⟩)⟩)⟩)⟩)⟩)⟩)⟩)⟩)⟩)⟩)⟩)⟩), (List.forall_mem_append.mpr ⟨(List.forall_mem_cons.mpr ⟨ilX8_line_wsX8_line_r2 _ (List.mem_of_getElem? (i := 19) rfl), (List.forall_mem_cons.mpr ⟨ilX8_line_wsX8_line_r2 _ (List.mem_of_getElem? (i := 20) rfl), (List.forall_mem_cons.mpr ⟨ilX8_line_wsX8_line_r2 _ (List.mem_of_getElem? (i := 21) rfl), (List.forall_mem_cons.mpr ⟨ilX8_line_wsX8_line_r2 _ (List.mem_of_getElem? (i := 22) rfl), (List.forall_mem_cons.mpr ⟨ilX8_line_wsX8_line_r2 _ (List.mem_of_getElem? (i := 23) rfl), (List.forall_mem_cons.mpr ⟨ilX8_line_wsX8_line_r3 _ (List.mem_of_getElem? (i := 0) rfl), (List.forall_mem_cons.mpr ⟨ilX8_line_wsX8_line_r3 _ (List.mem_of_getElem? (i := 1) rfl), (List.forall_mem_cons.mpr ⟨ilX8_line_wsX8_line_r3 _ (List.mem_of_getElem? (i := 2) rfl), (List.forall_mem_cons.mpr ⟨ilX8_line_wsX8_line_r3 _ (List.mem_of_getElem? (i := 3) rfl), (List.forall_mem_cons.mpr ⟨ilX8_line_wsX8_line_r3 _ (List.mem_of_getElem? (i := 4) rfl), (List.forall_mem_cons.mpr ⟨ilX8_line_wsX8_line_r3 _ (List.mem_of_getElem? (i := 5) rfl), (List.forall_mem_cons.mpr ⟨ilX8_line_wsX8_line_r3 _ (List.mem_of_getElem? (i := 6) rfl), (List.forall_mem_cons.mpr ⟨ilX8_line_wsX8_line_r3 _ (List.mem_of_getElem? (i := 7) rfl), (List.forall_mem_cons.mpr ⟨ilX8_line_wsX8_line_r3 _ (List.mem_of_getElem? (i := 8) rfl), (List.forall_mem_cons.mpr ⟨ilX8_line_wsX8_line_r3 _ (List.mem_of_getElem? (i := 9) rfl), (List.forall_mem_cons.mpr ⟨ilX8_line_wsX8_line_r3 _ (List.mem_of_getElem? (i := 10) rfl), (List.forall_mem_cons.mpr ⟨ilX8_line_wsX8_line_r5 _ (List.mem_of_getElem? (i := 9) rfl), (List.forall_mem_cons.mpr ⟨ilX8_line_wsX8_line_r5 _ (List.mem_of_getElem? (i := 10) rfl), (List.forall_mem_cons.mpr ⟨ilX8_line_wsX8_line_r5 _ (List.mem_of_getElem? (i := 11) rfl), (List.forall_mem_cons.mpr ⟨ilX8_line_wsX8_line_r4 _ (List.mem_of_getElem? (i := 10) rfl), (List.forall_mem_cons.mpr ⟨ilX8_line_wsX8_line_r4 _ (List.mem_of_getElem? (i := 11) rfl), (List.forall_mem_cons.mpr ⟨ilX8_line_wsX8_line_r4 _ (List.mem_of_getElem? (i := 12) rfl), (List.forall_mem_cons.mpr ⟨ilX8_line_wsX8_line_r4 _ (List.mem_of_getElem? (i := 13) rfl), (List.forall_mem_cons.mpr ⟨ilX8_line_wsX8_line_r4 _ (List.mem_of_getElem? (i := 14) rfl), (fun _ h => absurd h List.not_mem_nil)⟩)⟩)⟩)⟩)⟩)⟩)⟩)⟩)⟩)⟩)⟩)⟩)⟩)⟩)⟩)⟩)⟩)⟩)⟩)⟩)⟩)⟩)⟩)⟩), (List.forall_mem_cons.mpr ⟨ilX8_line_wsX8_line_r4 _ (List.mem_of_getElem? (i := 15) rfl), (List.forall_mem_cons.mpr ⟨ilX8_line_wsX8_line_r4 _ (List.mem_of_getElem? (i := 16) rfl), (List.forall_mem_cons.mpr ⟨ilX8_line_wsX8_line_r4 _ (List.mem_of_getElem? (i := 17) rfl), (fun _ h => absurd h List.not_mem_nil)⟩)⟩)⟩)⟩)⟩)⟩)⟩), ilX8_line_wsX80⟩)⟩) (by decide +kernel)
set_option maxRecDepth 20000 in
theorem gX8_line_X8_sortLine : GoodIn wsX8_line (wsV RX8 199 RX8 yX8_sortLine wsX8_sortLine) := goodIn_app (goodIn_sub (List.forall_mem_cons.mpr ⟨ilX8_line_wsX8_line_r4 _ (List.mem_of_getElem? (i := 18) rfl), (List.forall_mem_cons.mpr ⟨ilX8_line_wsX8_line_r4 _ (List.mem_of_getElem? (i := 19) rfl), (List.forall_mem_cons.mpr ⟨ilX8_line_wsX8_line_r4 _ (List.mem_of_getElem? (i := 20) rfl), (List.forall_mem_cons.mpr ⟨ilX8_line_wsX8_line_r1 _ (List.mem_of_getElem? (i := 3) rfl), (fun _ h => absurd h List.not_mem_nil)⟩)⟩)⟩)⟩) (by decide +kernel)) ggX8_line_X8_sortLine
set_option maxRecDepth 20000 in
theorem ggX8_line_X8_spareLine : GoodIn wsX8_line wsX8_spareLine := goodIn_sub (List.forall_mem_cons.mpr ⟨ilX8_line_wsX8_line_r5 _ (List.mem_of_getElem? (i := 15) rfl), (List.forall_mem_append.mpr ⟨(List.forall_mem_append.mpr ⟨(List.forall_mem_cons.mpr ⟨ilX8_line_wsX8_line_r5 _ (List.mem_of_getElem? (i := 16) rfl), (List.forall_mem_cons.mpr ⟨ilX8_line_wsX8_line_r3 _ (List.mem_of_getElem? (i := 17) rfl), (List.forall_mem_cons.mpr ⟨ilX8_line_wsX8_line_r3 _ (List.mem_of_getElem? (i := 18) rfl), (List.forall_mem_cons.mpr ⟨ilX8_line_wsX8_line_r3 _ (List.mem_of_getElem? (i := 19) rfl), (List.forall_mem_cons.mpr ⟨ilX8_line_wsX8_line_r1 _ (List.mem_of_getElem? (i := 3) rfl), (List.forall_mem_cons.mpr ⟨ilX8_line_wsX8_line_r3 _ (List.mem_of_getElem? (i := 20) rfl), (List.forall_mem_cons.mpr ⟨ilX8_line_wsX8_line_r3 _ (List.mem_of_getElem? (i := 21) rfl), (List.forall_mem_cons.mpr ⟨ilX8_line_wsX8_line_r3 _ (List.mem_of_getElem? (i := 22) rfl), (List.forall_mem_cons.mpr ⟨ilX8_line_wsX8_line_r3 _ (List.mem_of_getElem? (i := 23) rfl), (List.forall_mem_cons.mpr ⟨ilX8_line_wsX8_line_r4 _ (List.mem_of_getElem? (i := 0) rfl), (List.forall_mem_cons.mpr ⟨ilX8_line_wsX8_line_r1 _ (List.mem_of_getElem? (i := 6) rfl), (List.forall_mem_cons.mpr ⟨ilX8_line_wsX8_line_r1 _ (List.mem_of_getElem? (i := 5) rfl), (List.forall_mem_cons.mpr ⟨ilX8_line_wsX8_line_r4 _ (List.mem_of_getElem? (i := 1) rfl), (List.forall_mem_cons.mpr ⟨ilX8_line_wsX8_line_r4 _ (List.mem_of_getElem? (i := 2) rfl), (List.forall_mem_cons.mpr ⟨ilX8_line_wsX8_line_r4 _ (List.mem_of_getElem? (i := 3) rfl), (List.forall_mem_cons.mpr ⟨ilX8_line_wsX8_line_r4 _ (List.mem_of_getElem? (i := 4) rfl), (List.forall_mem_cons.mpr ⟨ilX8_line_wsX8_line_r4 _ (List.mem_of_getElem? (i := 5) rfl), (List.forall_mem_cons.mpr ⟨ilX8_line_wsX8_line_r4 _ (List.mem_of_getElem? (i := 6) rfl), (List.forall_mem_cons.mpr ⟨ilX8_line_wsX8_line_r4 _ (List.mem_of_getElem? (i := 7) rfl), (List.forall_mem_cons.mpr ⟨ilX8_line_wsX8_line_r4 _ (List.mem_of_getElem? (i := 8) rfl), (List.forall_mem_cons.mpr ⟨ilX8_line_wsX8_line_r4 _ (List.mem_of_getElem? (i := 9) rfl), (List.forall_mem_cons.mpr ⟨ilX8_line_wsX8_line_r5 _ (List.mem_of_getElem? (i := 5) rfl), (List.forall_mem_cons.mpr ⟨ilX8_line_wsX8_line_r5 _ (List.mem_of_getElem? (i := 6) rfl), (List.forall_mem_cons.mpr ⟨ilX8_line_wsX8_line_r5 _ (List.mem_of_getElem? (i := 7) rfl), (fun _ h => absurd h List.not_mem_nil)⟩)⟩)⟩)⟩)⟩)⟩)⟩)⟩)⟩)⟩)⟩)⟩)⟩)⟩)⟩)⟩)⟩)⟩)⟩)⟩)⟩)⟩)⟩)⟩), (List.forall_mem_append.mpr ⟨(List.forall_mem_cons.mpr ⟨ilX8_line_wsX8_line_r5 _ (List.mem_of_getElem? (i := 8) rfl), (List.forall_mem_cons.mpr ⟨ilX8_line_wsX8_line_r1 _ (List.mem_of_getElem? (i := 0) rfl), (List.forall_mem_cons.mpr ⟨ilX8_line_wsX8_line_r1 _ (List.mem_of_getElem? (i := 1) rfl), (List.forall_mem_cons.mpr ⟨ilX8_line_wsX8_line_r1 _ (List.mem_of_getElem? (i := 2) rfl), (List.forall_mem_cons.mpr ⟨ilX8_line_wsX8_line_r1 _ (List.mem_of_getElem? (i := 4) rfl), (List.forall_mem_cons.mpr ⟨ilX8_line_wsX8_line_r1 _ (List.mem_of_getElem? (i := 7) rfl), (List.forall_mem_cons.mpr ⟨ilX8_line_wsX8_line_r1 _ (List.mem_of_getElem? (i := 8) rfl), (List.forall_mem_cons.mpr ⟨ilX8_line_wsX8_line_r1 _ (List.mem_of_getElem? (i := 9) rfl), (List.forall_mem_cons.mpr ⟨ilX8_line_wsX8_line_r1 _ (List.mem_of_getElem? (i := 10) rfl), (List.forall_mem_cons.mpr ⟨ilX8_line_wsX8_line_r1 _ (List.mem_of_getElem? (i := 11) rfl), (List.forall_mem_cons.mpr ⟨ilX8_line_wsX8_line_r1 _ (List.mem_of_getElem? (i := 12) rfl), (List.forall_mem_cons.mpr ⟨ilX8_line_wsX8_line_r1 _ (List.mem_of_getElem? (i := 13) rfl), (List.forall_mem_cons.mpr ⟨ilX8_line_wsX8_line_r1 _ (List.mem_of_getElem? (i := 14) rfl), (List.forall_mem_cons.mpr ⟨ilX8_line_wsX8_line_r1 _ (List.mem_of_getElem? (i := 15) rfl), (List.forall_mem_cons.mpr ⟨ilX8_line_wsX8_line_r1 _ (List.mem_of_getElem? (i := 16) rfl), (List.forall_mem_cons.mpr ⟨ilX8_line_wsX8_line_r1 _ (List.mem_of_getElem? (i := 17) rfl), (List.forall_mem_cons.mpr ⟨ilX8_line_wsX8_line_r1 _ (List.mem_of_getElem? (i := 18) rfl), (List.forall_mem_cons.mpr ⟨ilX8_line_wsX8_line_r1 _ (List.mem_of_getElem? (i := 19) rfl), (List.forall_mem_cons.mpr ⟨ilX8_line_wsX8_line_r1 _ (List.mem_of_getElem? (i := 20) rfl), (List.forall_mem_cons.mpr ⟨ilX8_line_wsX8_line_r1 _ (List.mem_of_getElem? (i := 21) rfl), (List.forall_mem_cons.mpr ⟨ilX8_line_wsX8_line_r1 _ (List.mem_of_getElem? (i := 22) rfl), (List.forall_mem_cons.mpr ⟨ilX8_line_wsX8_line_r1 _ (List.mem_of_getElem? (i := 23) rfl), (List.forall_mem_cons.mpr ⟨ilX8_line_wsX8_line_r2 _ (List.mem_of_getElem? (i := 0) rfl), (List.forall_mem_cons.mpr ⟨ilX8_line_wsX8_line_r2 _ (List.mem_of_getElem? (i := 1) rfl), (fun _ h => absurd h List.not_mem_nil)⟩)⟩)⟩)⟩)⟩)⟩)⟩)⟩)⟩)⟩)⟩)⟩)⟩)⟩)⟩)⟩)⟩)⟩)⟩)⟩)⟩)⟩)⟩)⟩), (List.forall_mem_append.mpr ⟨(List.forall_mem_cons.mpr ⟨ilX8_line_wsX8_line_r2 _ (List.mem_of_getElem? (i := 2) rfl), (List.forall_mem_cons.mpr ⟨ilX8_line_wsX8_line_r2 _ (List.mem_of_getElem? (i := 3) rfl), (List.forall_mem_cons.mpr ⟨ilX8_line_wsX8_line_r2 _ (List.mem_of_getElem? (i := 4) rfl), (List.forall_mem_cons.mpr ⟨ilX8_line_wsX8_line_r2 _ (List.mem_of_getElem? (i := 5) rfl), (List.forall_mem_cons.mpr ⟨ilX8_line_wsX8_line_r2 _ (List.mem_of_getElem? (i := 6) rfl), (List.forall_mem_cons.mpr ⟨ilX8_line_wsX8_line_r2 _ (List.mem_of_getElem? (i := 7) rfl), (List.forall_mem_cons.mpr ⟨ilX8_line_wsX8_line_r2 _ (List.mem_of_getElem? (i := 8) rfl), (List.forall_mem_cons.mpr ⟨ilX8_line_wsX8_line_r2 _ (List.mem_of_getElem? (i := 9) rfl), (List.forall_mem_cons.mpr ⟨ilX8_line_wsX8_line_r2 _ (List.mem_of_getElem? (i := 10) rfl), (List.forall_mem_cons.mpr ⟨ilX8_line_wsX8_line_r2 _ (List.mem_of_getElem? (i := 11) rfl), (List.forall_mem_cons.mpr ⟨ilX8_line_wsX8_line_r2 _ (List.mem_of_getElem? (i := 12) rfl), (List.forall_mem_cons.mpr ⟨ilX8_line_wsX8_line_r2 _ (List.mem_of_getElem? (i := 13) rfl), (List.forall_mem_cons.mpr ⟨ilX8_line_wsX8_line_r2 _ (List.mem_of_getElem? (i := 14) rfl), (List.forall_mem_cons.mpr ⟨ilX8_line_wsX8_line_r2 _ (List.mem_of_getElem? (i := 15) rfl), (List.forall_mem_cons.mpr ⟨ilX8_line_wsX8_line_r2 _ (List.mem_of_getElem? (i := 16) rfl), (List.forall_mem_cons.mpr ⟨ilX8_line_wsX8_line_r2 _ (List.mem_of_getElem? (i := 17) rfl), (List.forall_mem_cons.mpr ⟨ilX8_line_wsX8_line_r2 _ (List.mem_of_getElem? (i := 18) rfl), (List.forall_mem_cons.mpr ⟨ilX8_line_wsX8_line_r2 _ (List.mem_of_getElem? (i := 19) rfl), (List.forall_mem_cons.mpr ⟨ilX8_line_wsX8_line_r2 _ (List.mem_of_getElem? (i := 20) rfl), (List.forall_mem_cons.mpr ⟨ilX8_line_wsX8_line_r2 _ (List.mem_of_getElem? (i := 21) rfl), (List.forall_mem_cons.mpr ⟨ilX8_line_wsX8_line_r2 _ (List.mem_of_getElem? (i := 22) rfl), (List.forall_mem_cons.mpr ⟨ilX8_line_wsX8_line_r2 _ (List.mem_of_getElem? (i := 23) rfl), (List.forall_mem_cons.mpr ⟨ilX8_line_wsX8_line_r3 _ (List.mem_of_getElem? (i := 0) rfl), (List.forall_mem_cons.mpr ⟨ilX8_line_wsX8_line_r3 _ (List.mem_of_getElem? (i := 1) rfl), (fun _ h => absurd h List.not_mem_nil)⟩)⟩)⟩)⟩)⟩)⟩)⟩)⟩)⟩)⟩)⟩)⟩)⟩)⟩)⟩)⟩)⟩)⟩)⟩)⟩)⟩)⟩)⟩)⟩), (List.forall_mem_cons.mpr ⟨ilX8_line_wsX8_line_r3 _ (List.mem_of_getElem? (i := 2) rfl), (List.forall_mem_cons.mpr ⟨ilX8_line_wsX8_line_r3 _ (List.mem_of_getElem? (i := 3) rfl), (List.forall_mem_cons.mpr ⟨ilX8_line_wsX8_line_r3 _ (List.mem_of_getElem? (i := 4) rfl), (List.forall_mem_cons.mpr ⟨ilX8_line_wsX8_line_r3 _ (List.mem_of_getElem? (i := 5) rfl), (List.forall_mem_cons.mpr ⟨ilX8_line_wsX8_line_r3 _ (List.mem_of_getElem? (i := 6) rfl), (List.forall_mem_cons.mpr ⟨ilX8_line_wsX8_line_r3 _ (List.mem_of_getElem? (i := 7) rfl), (List.forall_mem_cons.mpr ⟨ilX8_line_wsX8_line_r3 _ (List.mem_of_getElem? (i := 8) rfl), (List.forall_mem_cons.mpr ⟨ilX8_line_wsX8_line_r3 _ (List.mem_of_getElem? (i := 9) rfl), (List.forall_mem_cons.mpr ⟨ilX8_line_wsX8_line_r3 _ (List.mem_of_getElem? (i := 10) rfl), (List.forall_mem_cons.mpr ⟨ilX8_line_wsX8_line_r4 _ (List.mem_of_getElem? (i := 14) rfl), (List.forall_mem_cons.mpr ⟨ilX8_line_wsX8_line_r4 _ (List.mem_of_getElem? (i := 15) rfl), (List.forall_mem_cons.mpr ⟨ilX8_line_wsX8_line_r4 _ (List.mem_of_getElem? (i := 16) rfl), (List.forall_mem_cons.mpr ⟨ilX8_line_wsX8_line_r4 _ (List.mem_of_getElem? (i := 17) rfl), (fun _ h => absurd h List.not_mem_nil)⟩)⟩)⟩)⟩)⟩)⟩)⟩)⟩)⟩)⟩)⟩)⟩)⟩)⟩)⟩)⟩), ilX8_line_wsX80⟩)⟩) (by decide +kernel)
set_option maxRecDepth 20000 in
theorem gX8_line_X8_spareLine : GoodIn wsX8_line (wsV RX8 202 RX8 yX8_spareLine wsX8_spareLine) := goodIn_app (goodIn_sub (List.forall_mem_cons.mpr ⟨ilX8_line_wsX8_line_r5 _ (List.mem_of_getElem? (i := 12) rfl), (List.forall_mem_cons.mpr ⟨ilX8_line_wsX8_line_r5 _ (List.mem_of_getElem? (i := 13) rfl), (List.forall_mem_cons.mpr ⟨ilX8_line_wsX8_line_r5 _ (List.mem_of_getElem? (i := 14) rfl), (List.forall_mem_cons.mpr ⟨ilX8_line_wsX8_line_r1 _ (List.mem_of_getElem? (i := 3) rfl), (fun _ h => absurd h List.not_mem_nil)⟩)⟩)⟩)⟩) (by decide +kernel)) ggX8_line_X8_spareLine
set_option maxRecDepth 20000 in
theorem ggX8_line_X8_turnLine : GoodIn wsX8_line wsX8_turnLine := goodIn_sub (List.forall_mem_cons.mpr ⟨ilX8_line_wsX8_line_r5 _ (List.mem_of_getElem? (i := 20) rfl), (List.forall_mem_append.mpr ⟨(List.forall_mem_append.mpr ⟨(List.forall_mem_cons.mpr ⟨ilX8_line_wsX8_line_r5 _ (List.mem_of_getElem? (i := 21) rfl), (List.forall_mem_cons.mpr ⟨ilX8_line_wsX8_line_r5 _ (List.mem_of_getElem? (i := 22) rfl), (List.forall_mem_cons.mpr ⟨ilX8_line_wsX8_line_r3 _ (List.mem_of_getElem? (i := 16) rfl), (List.forall_mem_cons.mpr ⟨ilX8_line_wsX8_line_r3 _ (List.mem_of_getElem? (i := 17) rfl), (List.forall_mem_cons.mpr ⟨ilX8_line_wsX8_line_r3 _ (List.mem_of_getElem? (i := 18) rfl), (List.forall_mem_cons.mpr ⟨ilX8_line_wsX8_line_r3 _ (List.mem_of_getElem? (i := 19) rfl), (List.forall_mem_cons.mpr ⟨ilX8_line_wsX8_line_r1 _ (List.mem_of_getElem? (i := 3) rfl), (List.forall_mem_cons.mpr ⟨ilX8_line_wsX8_line_r3 _ (List.mem_of_getElem? (i := 20) rfl), (List.forall_mem_cons.mpr ⟨ilX8_line_wsX8_line_r3 _ (List.mem_of_getElem? (i := 21) rfl), (List.forall_mem_cons.mpr ⟨ilX8_line_wsX8_line_r3 _ (List.mem_of_getElem? (i := 22) rfl), (List.forall_mem_cons.mpr ⟨ilX8_line_wsX8_line_r3 _ (List.mem_of_getElem? (i := 23) rfl), (List.forall_mem_cons.mpr ⟨ilX8_line_wsX8_line_r4 _ (List.mem_of_getElem? (i := 0) rfl), (List.forall_mem_cons.mpr ⟨ilX8_line_wsX8_line_r1 _ (List.mem_of_getElem? (i := 6) rfl), (List.forall_mem_cons.mpr ⟨ilX8_line_wsX8_line_r1 _ (List.mem_of_getElem? (i := 5) rfl), (List.forall_mem_cons.mpr ⟨ilX8_line_wsX8_line_r4 _ (List.mem_of_getElem? (i := 1) rfl), (List.forall_mem_cons.mpr ⟨ilX8_line_wsX8_line_r4 _ (List.mem_of_getElem? (i := 2) rfl), (List.forall_mem_cons.mpr ⟨ilX8_line_wsX8_line_r4 _ (List.mem_of_getElem? (i := 3) rfl), (List.forall_mem_cons.mpr ⟨ilX8_line_wsX8_line_r4 _ (List.mem_of_getElem? (i := 4) rfl), (List.forall_mem_cons.mpr ⟨ilX8_line_wsX8_line_r4 _ (List.mem_of_getElem? (i := 5) rfl), (List.forall_mem_cons.mpr ⟨ilX8_line_wsX8_line_r4 _ (List.mem_of_getElem? (i := 6) rfl), (List.forall_mem_cons.mpr ⟨ilX8_line_wsX8_line_r4 _ (List.mem_of_getElem? (i := 7) rfl), (List.forall_mem_cons.mpr ⟨ilX8_line_wsX8_line_r4 _ (List.mem_of_getElem? (i := 8) rfl), (List.forall_mem_cons.mpr ⟨ilX8_line_wsX8_line_r4 _ (List.mem_of_getElem? (i := 9) rfl), (List.forall_mem_cons.mpr ⟨ilX8_line_wsX8_line_r5 _ (List.mem_of_getElem? (i := 5) rfl), (fun _ h => absurd h List.not_mem_nil)⟩)⟩)⟩)⟩)⟩)⟩)⟩)⟩)⟩)⟩)⟩)⟩)⟩)⟩)⟩)⟩)⟩)⟩)⟩)⟩)⟩)⟩)⟩)⟩), (List.forall_mem_append.mpr ⟨(List.forall_mem_cons.mpr ⟨ilX8_line_wsX8_line_r5 _ (List.mem_of_getElem? (i := 6) rfl), (List.forall_mem_cons.mpr ⟨ilX8_line_wsX8_line_r5 _ (List.mem_of_getElem? (i := 7) rfl), (List.forall_mem_cons.mpr ⟨ilX8_line_wsX8_line_r5 _ (List.mem_of_getElem? (i := 8) rfl), (List.forall_mem_cons.mpr ⟨ilX8_line_wsX8_line_r1 _ (List.mem_of_getElem? (i := 0) rfl), (List.forall_mem_cons.mpr ⟨ilX8_line_wsX8_line_r1 _ (List.mem_of_getElem? (i := 1) rfl), (List.forall_mem_cons.mpr ⟨ilX8_line_wsX8_line_r1 _ (List.mem_of_getElem? (i := 2) rfl), (List.forall_mem_cons.mpr ⟨ilX8_line_wsX8_line_r1 _ (List.mem_of_getElem? (i := 4) rfl), (List.forall_mem_cons.mpr ⟨ilX8_line_wsX8_line_r1 _ (List.mem_of_getElem? (i := 7) rfl), (List.forall_mem_cons.mpr ⟨ilX8_line_wsX8_line_r1 _ (List.mem_of_getElem? (i := 8) rfl), (List.forall_mem_cons.mpr ⟨ilX8_line_wsX8_line_r1 _ (List.mem_of_getElem? (i := 9) rfl), (List.forall_mem_cons.mpr ⟨ilX8_line_wsX8_line_r1 _ (List.mem_of_getElem? (i := 10) rfl), (List.forall_mem_cons.mpr ⟨ilX8_line_wsX8_line_r1 _ (List.mem_of_getElem? (i := 11) rfl), (List.forall_mem_cons.mpr ⟨ilX8_line_wsX8_line_r1 _ (List.mem_of_getElem? (i := 12) rfl), (List.forall_mem_cons.mpr ⟨ilX8_line_wsX8_line_r1 _ (List.mem_of_getElem? (i := 13) rfl), (List.forall_mem_cons.mpr ⟨ilX8_line_wsX8_line_r1 _ (List.mem_of_getElem? (i := 14) rfl), (List.forall_mem_cons.mpr ⟨ilX8_line_wsX8_line_r1 _ (List.mem_of_getElem? (i := 15) rfl), (List.forall_mem_cons.mpr ⟨ilX8_line_wsX8_line_r1 _ (List.mem_of_getElem? (i := 16) rfl), (List.forall_mem_cons.mpr ⟨ilX8_line_wsX8_line_r1 _ (List.mem_of_getElem? (i := 17) rfl), (List.forall_mem_cons.mpr ⟨ilX8_line_wsX8_line_r1 _ (List.mem_of_getElem? (i := 18) rfl), (List.forall_mem_cons.mpr ⟨ilX8_line_wsX8_line_r1 _ (List.mem_of_getElem? (i := 19) rfl), (List.forall_mem_cons.mpr ⟨ilX8_line_wsX8_line_r1 _ (List.mem_of_getElem? (i := 20) rfl), (List.forall_mem_cons.mpr ⟨ilX8_line_wsX8_line_r1 _ (List.mem_of_getElem? (i := 21) rfl), (List.forall_mem_cons.mpr ⟨ilX8_line_wsX8_line_r1 _ (List.mem_of_getElem? (i := 22) rfl), (List.forall_mem_cons.mpr ⟨ilX8_line_wsX8_line_r1 _ (List.mem_of_getElem? (i := 23) rfl), (fun _ h => absurd h List.not_mem_nil)⟩)⟩)⟩)⟩)⟩)⟩)⟩)⟩)⟩)⟩)⟩)⟩)⟩)⟩)⟩)⟩)⟩)⟩)⟩)⟩)⟩)⟩)⟩)⟩), (List.forall_mem_append.mpr ⟨(List.forall_mem_cons.mpr ⟨ilX8_line_wsX8_line_r2 _ (List.mem_of_getElem? (i := 0) rfl), (List.forall_mem_cons.mpr ⟨ilX8_line_wsX8_line_r2 _ (List.mem_of_getElem? (i := 1) rfl), (List.forall_mem_cons.mpr ⟨ilX8_line_wsX8_line_r2 _ (List.mem_of_getElem? (i := 2) rfl), (List.forall_mem_cons.mpr ⟨ilX8_line_wsX8_line_r2 _ (List.mem_of_getElem? (i := 3) rfl), (List.forall_mem_cons.mpr ⟨ilX8_line_wsX8_line_r2 _ (List.mem_of_getElem? (i := 4) rfl), (List.forall_mem_cons.mpr ⟨ilX8_line_wsX8_line_r2 _ (List.mem_of_getElem? (i := 5) rfl), (List.forall_mem_cons.mpr ⟨ilX8_line_wsX8_line_r2 _ (List.mem_of_getElem? (i := 6) rfl), (List.forall_mem_cons.mpr ⟨ilX8_line_wsX8_line_r2 _ (List.mem_of_getElem? (i := 7) rfl), (List.forall_mem_cons.mpr ⟨ilX8_line_wsX8_line_r2 _ (List.mem_of_getElem? (i := 8) rfl), (List.forall_mem_cons.mpr ⟨ilX8_line_wsX8_line_r2 _ (List.mem_of_getElem? (i := 9) rfl), (List.forall_mem_cons.mpr ⟨ilX8_line_wsX8_line_r2 _ (List.mem_of_getElem? (i := 10) rfl), (List.forall_mem_cons.mpr ⟨ilX8_line_wsX8_line_r2 _ (List.mem_of_getElem? (i := 11) rfl), (List.forall_mem_cons.mpr ⟨ilX8_line_wsX8_line_r2 _ (List.mem_of_getElem? (i := 12) rfl), (List.forall_mem_cons.mpr ⟨ilX8_line_wsX8_line_r2 _ (List.mem_of_getElem? (i := 13) rfl), (List.forall_mem_cons.mpr ⟨ilX8_line_wsX8_line_r2 _ (List.mem_of_getElem? (i := 14) rfl), (List.forall_mem_cons.mpr ⟨ilX8_line_wsX8_line_r2 _ (List.mem_of_getElem? (i := 15) rfl), (List.forall_mem_cons.mpr ⟨ilX8_line_wsX8_line_r2 _ (List.mem_of_getElem? (i := 16) rfl), (List.forall_mem_cons.mpr ⟨ilX8_line_wsX8_line_r2 _ (List.mem_of_getElem? (i := 17) rfl), (List.forall_mem_cons.mpr ⟨ilX8_line_wsX8_line_r2 _ (List.mem_of_getElem? (i := 18) rfl), (List.forall_mem_cons.mpr ⟨ilX8_line_wsX8_line_r2 _ (List.mem_of_getElem? (i := 19) rfl), (List.forall_mem_cons.mpr ⟨ilX8_line_wsX8_line_r2 _ (List.mem_of_getElem? (i := 20) rfl), (List.forall_mem_cons.mpr ⟨ilX8_line_wsX8_line_r2 _ (List.mem_of_getElem? (i := 21) rfl), (List.forall_mem_cons.mpr ⟨ilX8_line_wsX8_line_r2 _ (List.mem_of_getElem? (i := 22) rfl), (List.forall_mem_cons.mpr ⟨ilX8_line_wsX8_line_r2 _ (List.mem_of_getElem? (i := 23) rfl), (fun _ h => absurd h List.not_mem_nil)⟩)⟩)⟩)⟩)⟩)⟩)⟩)⟩)⟩)⟩)⟩)⟩)⟩)⟩)⟩)⟩)⟩)⟩)⟩)⟩)⟩)⟩)⟩)⟩), (List.forall_mem_cons.mpr ⟨ilX8_line_wsX8_line_r3 _ (List.mem_of_getElem? (i := 0) rfl), (List.forall_mem_cons.mpr ⟨ilX8_line_wsX8_line_r3 _ (List.mem_of_getElem? (i := 1) rfl), (List.forall_mem_cons.mpr ⟨ilX8_line_wsX8_line_r3 _ (List.mem_of_getElem? (i := 2) rfl), (List.forall_mem_cons.mpr ⟨ilX8_line_wsX8_line_r3 _ (List.mem_of_getElem? (i := 3) rfl), (List.forall_mem_cons.mpr ⟨ilX8_line_wsX8_line_r3 _ (List.mem_of_getElem? (i := 4) rfl), (List.forall_mem_cons.mpr ⟨ilX8_line_wsX8_line_r3 _ (List.mem_of_getElem? (i := 5) rfl), (List.forall_mem_cons.mpr ⟨ilX8_line_wsX8_line_r3 _ (List.mem_of_getElem? (i := 6) rfl), (List.forall_mem_cons.mpr ⟨ilX8_line_wsX8_line_r3 _ (List.mem_of_getElem? (i := 7) rfl), (List.forall_mem_cons.mpr ⟨ilX8_line_wsX8_line_r3 _ (List.mem_of_getElem? (i := 8) rfl), (List.forall_mem_cons.mpr ⟨ilX8_line_wsX8_line_r3 _ (List.mem_of_getElem? (i := 9) rfl), (List.forall_mem_cons.mpr ⟨ilX8_line_wsX8_line_r3 _ (List.mem_of_getElem? (i := 10) rfl), (List.forall_mem_cons.mpr ⟨ilX8_line_wsX8_line_r4 _ (List.mem_of_getElem? (i := 10) rfl), (List.forall_mem_cons.mpr ⟨ilX8_line_wsX8_line_r4 _ (List.mem_of_getElem? (i := 11) rfl), (List.forall_mem_cons.mpr ⟨ilX8_line_wsX8_line_r4 _ (List.mem_of_getElem? (i := 12) rfl), (List.forall_mem_cons.mpr ⟨ilX8_line_wsX8_line_r4 _ (List.mem_of_getElem? (i := 13) rfl), (List.forall_mem_cons.mpr ⟨ilX8_line_wsX8_line_r4 _ (List.mem_of_getElem? (i := 14) rfl), (List.forall_mem_cons.mpr ⟨ilX8_line_wsX8_line_r4 _ (List.mem_of_getElem? (i := 15) rfl), (List.forall_mem_cons.mpr ⟨ilX8_line_wsX8_line_r4 _ (List.mem_of_getElem? (i := 16) rfl), (List.forall_mem_cons.mpr ⟨ilX8_line_wsX8_line_r4 _ (List.mem_of_getElem? (i := 17) rfl), (fun _ h => absurd h List.not_mem_nil)⟩)⟩)⟩)⟩)⟩)⟩)⟩)⟩)⟩)⟩)⟩)⟩)⟩)⟩)⟩)⟩)⟩)⟩)⟩)⟩)⟩)⟩), ilX8_line_wsX80⟩)⟩) (by decide +kernel)
set_option maxRecDepth 20000 in
theorem gX8_line_X8_turnLine : GoodIn wsX8_line (wsV RX8 205 RX8 yX8_turnLine wsX8_turnLine) := goodIn_app (goodIn_sub (List.forall_mem_cons.mpr ⟨ilX8_line_wsX8_line_r5 _ (List.mem_of_getElem? (i := 17) rfl), (List.forall_mem_cons.mpr ⟨ilX8_line_wsX8_line_r5 _ (List.mem_of_getElem? (i := 18) rfl), (List.forall_mem_cons.mpr ⟨ilX8_line_wsX8_line_r5 _ (List.mem_of_getElem? (i := 19) rfl), (List.forall_mem_cons.mpr ⟨ilX8_line_wsX8_line_r1 _ (List.mem_of_getElem? (i := 3) rfl), (fun _ h => absurd h List.not_mem_nil)⟩)⟩)⟩)⟩) (by decide +kernel)) ggX8_line_X8_turnLine
theorem dX8_line_0 : decode cX8_line 0 = .ok (.aload_n 0, 1) := by decide +kernel
theorem dX8_line_1 : decode cX8_line 1 = .ok (.ldc 153, 2) := by decide +kernel
theorem dX8_line_3 : decode cX8_line 3 = .ok (.invokevirtual 138, 3) := by decide +kernel
theorem dX8_line_6 : decode cX8_line 6 = .ok (.ifCond .eq 15, 3) := by decide +kernel
theorem dX8_line_9 : decode cX8_line 9 = .ok (.aload_n 0, 1) := by decide +kernel
theorem dX8_line_10 : decode cX8_line 10 = .ok (.iconst 0, 1) := by decide +kernel
theorem dX8_line_11 : decode cX8_line 11 = .ok (.iconst 5, 1) := by decide +kernel
theorem dX8_line_12 : decode cX8_line 12 = .ok (.bipush 30, 2) := by decide +kernel
theorem dX8_line_14 : decode cX8_line 14 = .ok (.iconst 0, 1) := by decide +kernel
theorem dX8_line_15 : decode cX8_line 15 = .ok (.bipush 15, 2) := by decide +kernel
theorem dX8_line_17 : decode cX8_line 17 = .ok (.invokevirtual 195, 3) := by decide +kernel
theorem dX8_line_20 : decode cX8_line 20 = .ok (.ireturn, 1) := by decide +kernel
theorem dX8_line_21 : decode cX8_line 21 = .ok (.aload_n 0, 1) := by decide +kernel
theorem dX8_line_22 : decode cX8_line 22 = .ok (.ldc 155, 2) := by decide +kernel
theorem dX8_line_24 : decode cX8_line 24 = .ok (.invokevirtual 138, 3) := by decide +kernel
theorem dX8_line_27 : decode cX8_line 27 = .ok (.ifCond .eq 15, 3) := by decide +kernel
theorem dX8_line_30 : decode cX8_line 30 = .ok (.aload_n 0, 1) := by decide +kernel
theorem dX8_line_31 : decode cX8_line 31 = .ok (.iconst 2, 1) := by decide +kernel
theorem dX8_line_32 : decode cX8_line 32 = .ok (.iconst 0, 1) := by decide +kernel
theorem dX8_line_33 : decode cX8_line 33 = .ok (.bipush 16, 2) := by decide +kernel
theorem dX8_line_35 : decode cX8_line 35 = .ok (.iconst 1, 1) := by decide +kernel
theorem dX8_line_36 : decode cX8_line 36 = .ok (.bipush 9, 2) := by decide +kernel
theorem dX8_line_38 : decode cX8_line 38 = .ok (.invokevirtual 195, 3) := by decide +kernel
theorem dX8_line_41 : decode cX8_line 41 = .ok (.ireturn, 1) := by decide +kernel
theorem dX8_line_42 : decode cX8_line 42 = .ok (.aload_n 0, 1) := by decide +kernel
theorem dX8_line_43 : decode cX8_line 43 = .ok (.ldc 157, 2) := by decide +kernel
theorem dX8_line_45 : decode cX8_line 45 = .ok (.invokevirtual 138, 3) := by decide +kernel
theorem dX8_line_48 : decode cX8_line 48 = .ok (.ifCond .eq 14, 3) := by decide +kernel
theorem dX8_line_51 : decode cX8_line 51 = .ok (.aload_n 0, 1) := by decide +kernel
theorem dX8_line_52 : decode cX8_line 52 = .ok (.iconst 4, 1) := by decide +kernel
theorem dX8_line_53 : decode cX8_line 53 = .ok (.iconst 0, 1) := by decide +kernel
theorem dX8_line_54 : decode cX8_line 54 = .ok (.bipush 50, 2) := by decide +kernel
theorem dX8_line_56 : decode cX8_line 56 = .ok (.iconst (-1), 1) := by decide +kernel
theorem dX8_line_57 : decode cX8_line 57 = .ok (.iconst 0, 1) := by decide +kernel
theorem dX8_line_58 : decode cX8_line 58 = .ok (.invokevirtual 195, 3) := by decide +kernel
theorem dX8_line_61 : decode cX8_line 61 = .ok (.ireturn, 1) := by decide +kernel
theorem dX8_line_62 : decode cX8_line 62 = .ok (.aload_n 0, 1) := by decide +kernel
theorem dX8_line_63 : decode cX8_line 63 = .ok (.ldc 159, 2) := by decide +kernel
theorem dX8_line_65 : decode cX8_line 65 = .ok (.invokevirtual 138, 3) := by decide +kernel
theorem dX8_line_68 : decode cX8_line 68 = .ok (.ifCond .eq 8, 3) := by decide +kernel
theorem dX8_line_71 : decode cX8_line 71 = .ok (.aload_n 0, 1) := by decide +kernel
theorem dX8_line_72 : decode cX8_line 72 = .ok (.invokevirtual 199, 3) := by decide +kernel
theorem dX8_line_75 : decode cX8_line 75 = .ok (.ireturn, 1) := by decide +kernel
theorem dX8_line_76 : decode cX8_line 76 = .ok (.aload_n 0, 1) := by decide +kernel
theorem dX8_line_77 : decode cX8_line 77 = .ok (.ldc 161, 2) := by decide +kernel
theorem dX8_line_79 : decode cX8_line 79 = .ok (.invokevirtual 138, 3) := by decide +kernel
theorem dX8_line_82 : decode cX8_line 82 = .ok (.ifCond .eq 8, 3) := by decide +kernel
theorem dX8_line_85 : decode cX8_line 85 = .ok (.aload_n 0, 1) := by decide +kernel
theorem dX8_line_86 : decode cX8_line 86 = .ok (.invokevirtual 202, 3) := by decide +kernel
theorem dX8_line_89 : decode cX8_line 89 = .ok (.ireturn, 1) := by decide +kernel
theorem dX8_line_90 : decode cX8_line 90 = .ok (.aload_n 0, 1) := by decide +kernel
theorem dX8_line_91 : decode cX8_line 91 = .ok (.ldc 163, 2) := by decide +kernel
theorem dX8_line_93 : decode cX8_line 93 = .ok (.invokevirtual 138, 3) := by decide +kernel
theorem dX8_line_96 : decode cX8_line 96 = .ok (.ifCond .eq 14, 3) := by decide +kernel
theorem dX8_line_99 : decode cX8_line 99 = .ok (.aload_n 0, 1) := by decide +kernel
theorem dX8_line_100 : decode cX8_line 100 = .ok (.invokevirtual 205, 3) := by decide +kernel
theorem dX8_line_103 : decode cX8_line 103 = .ok (.ifCond .eq 7, 3) := by decide +kernel
theorem dX8_line_106 : decode cX8_line 106 = .ok (.iconst 1, 1) := by decide +kernel
theorem dX8_line_107 : decode cX8_line 107 = .ok (.goto 4, 3) := by decide +kernel
theorem dX8_line_110 : decode cX8_line 110 = .ok (.iconst 0, 1) := by decide +kernel
theorem dX8_line_111 : decode cX8_line 111 = .ok (.ireturn, 1) := by decide +kernel
theorem ilX8_fault_wsX8_fault_r1 : ∀ w ∈ wsX8_fault_r1, w ∈ wsX8_fault := fun _ h => List.mem_cons_of_mem _ (List.mem_append_left _ (List.mem_append_left _ (h)))
theorem ilX8_fault_wsX8_fault_r2 : ∀ w ∈ wsX8_fault_r2, w ∈ wsX8_fault := fun _ h => List.mem_cons_of_mem _ (List.mem_append_left _ (List.mem_append_right _ (List.mem_append_left _ (h))))
theorem ilX8_fault_wsX8_fault_r3 : ∀ w ∈ wsX8_fault_r3, w ∈ wsX8_fault := fun _ h => List.mem_cons_of_mem _ (List.mem_append_left _ (List.mem_append_right _ (List.mem_append_right _ (List.mem_append_left _ (h)))))
theorem ilX8_fault_wsX8_fault_r4 : ∀ w ∈ wsX8_fault_r4, w ∈ wsX8_fault := fun _ h => List.mem_cons_of_mem _ (List.mem_append_left _ (List.mem_append_right _ (List.mem_append_right _ (List.mem_append_right _ (List.mem_append_left _ (h))))))
theorem ilX8_fault_wsX8_fault_r5 : ∀ w ∈ wsX8_fault_r5, w ∈ wsX8_fault := fun _ h => List.mem_cons_of_mem _ (List.mem_append_left _ (List.mem_append_right _ (List.mem_append_right _ (List.mem_append_right _ (List.mem_append_right _ (List.mem_append_left _ (h)))))))
theorem ilX8_fault_wsX8_fault_r6 : ∀ w ∈ wsX8_fault_r6, w ∈ wsX8_fault := fun _ h => List.mem_cons_of_mem _ (List.mem_append_left _ (List.mem_append_right _ (List.mem_append_right _ (List.mem_append_right _ (List.mem_append_right _ (List.mem_append_right _ (h)))))))
theorem ilX8_fault_wsX80 : ∀ w ∈ wsX80, w ∈ wsX8_fault := fun _ h => List.mem_cons_of_mem _ (List.mem_append_right _ (h))
set_option maxRecDepth 20000 in
theorem ggX8_fault_X8_leads : GoodIn wsX8_fault wsX8_leads := goodIn_sub (List.forall_mem_cons.mpr ⟨ilX8_fault_wsX8_fault_r1 _ (List.mem_of_getElem? (i := 11) rfl), (List.forall_mem_append.mpr ⟨(List.forall_mem_cons.mpr ⟨ilX8_fault_wsX8_fault_r1 _ (List.mem_of_getElem? (i := 4) rfl), (List.forall_mem_cons.mpr ⟨ilX8_fault_wsX8_fault_r1 _ (List.mem_of_getElem? (i := 12) rfl), (List.forall_mem_cons.mpr ⟨ilX8_fault_wsX8_fault_r1 _ (List.mem_of_getElem? (i := 13) rfl), (List.forall_mem_cons.mpr ⟨ilX8_fault_wsX8_fault_r1 _ (List.mem_of_getElem? (i := 6) rfl), (List.forall_mem_cons.mpr ⟨ilX8_fault_wsX8_fault_r1 _ (List.mem_of_getElem? (i := 14) rfl), (List.forall_mem_cons.mpr ⟨ilX8_fault_wsX8_fault_r1 _ (List.mem_of_getElem? (i := 5) rfl), (List.forall_mem_cons.mpr ⟨ilX8_fault_wsX8_fault_r1 _ (List.mem_of_getElem? (i := 15) rfl), (List.forall_mem_cons.mpr ⟨ilX8_fault_wsX8_fault_r1 _ (List.mem_of_getElem? (i := 16) rfl), (List.forall_mem_cons.mpr ⟨ilX8_fault_wsX8_fault_r1 _ (List.mem_of_getElem? (i := 17) rfl), (List.forall_mem_cons.mpr ⟨ilX8_fault_wsX8_fault_r1 _ (List.mem_of_getElem? (i := 18) rfl), (List.forall_mem_cons.mpr ⟨ilX8_fault_wsX8_fault_r1 _ (List.mem_of_getElem? (i := 19) rfl), (List.forall_mem_cons.mpr ⟨ilX8_fault_wsX8_fault_r1 _ (List.mem_of_getElem? (i := 10) rfl), (List.forall_mem_cons.mpr ⟨ilX8_fault_wsX8_fault_r1 _ (List.mem_of_getElem? (i := 20) rfl), (List.forall_mem_cons.mpr ⟨ilX8_fault_wsX8_fault_r1 _ (List.mem_of_getElem? (i := 21) rfl), (List.forall_mem_cons.mpr ⟨ilX8_fault_wsX8_fault_r1 _ (List.mem_of_getElem? (i := 22) rfl), (List.forall_mem_cons.mpr ⟨ilX8_fault_wsX8_fault_r1 _ (List.mem_of_getElem? (i := 23) rfl), (fun _ h => absurd h List.not_mem_nil)⟩)⟩)⟩)⟩)⟩)⟩)⟩)⟩)⟩)⟩)⟩)⟩)⟩)⟩)⟩)⟩), ilX8_fault_wsX80⟩)⟩) (by decide +kernel)
set_option maxRecDepth 20000 in
theorem gX8_fault_X8_leads : GoodIn wsX8_fault (wsV RX8 168 RX8 yX8_leads wsX8_leads) := goodIn_app (goodIn_sub (List.forall_mem_cons.mpr ⟨ilX8_fault_wsX8_fault_r1 _ (List.mem_of_getElem? (i := 7) rfl), (List.forall_mem_cons.mpr ⟨ilX8_fault_wsX8_fault_r1 _ (List.mem_of_getElem? (i := 8) rfl), (List.forall_mem_cons.mpr ⟨ilX8_fault_wsX8_fault_r1 _ (List.mem_of_getElem? (i := 9) rfl), (List.forall_mem_cons.mpr ⟨ilX8_fault_wsX8_fault_r1 _ (List.mem_of_getElem? (i := 10) rfl), (fun _ h => absurd h List.not_mem_nil)⟩)⟩)⟩)⟩) (by decide +kernel)) ggX8_fault_X8_leads
set_option maxRecDepth 20000 in
theorem ggX8_fault_X8_line : GoodIn wsX8_fault wsX8_line := goodIn_sub (List.forall_mem_cons.mpr ⟨ilX8_fault_wsX8_fault_r2 _ (List.mem_of_getElem? (i := 3) rfl), (List.forall_mem_append.mpr ⟨(List.forall_mem_append.mpr ⟨(List.forall_mem_cons.mpr ⟨ilX8_fault_wsX8_fault_r2 _ (List.mem_of_getElem? (i := 4) rfl), (List.forall_mem_cons.mpr ⟨ilX8_fault_wsX8_fault_r2 _ (List.mem_of_getElem? (i := 5) rfl), (List.forall_mem_cons.mpr ⟨ilX8_fault_wsX8_fault_r2 _ (List.mem_of_getElem? (i := 6) rfl), (List.forall_mem_cons.mpr ⟨ilX8_fault_wsX8_fault_r1 _ (List.mem_of_getElem? (i := 10) rfl), (List.forall_mem_cons.mpr ⟨ilX8_fault_wsX8_fault_r2 _ (List.mem_of_getElem? (i := 7) rfl), (List.forall_mem_cons.mpr ⟨ilX8_fault_wsX8_fault_r1 _ (List.mem_of_getElem? (i := 5) rfl), (List.forall_mem_cons.mpr ⟨ilX8_fault_wsX8_fault_r1 _ (List.mem_of_getElem? (i := 14) rfl), (List.forall_mem_cons.mpr ⟨ilX8_fault_wsX8_fault_r2 _ (List.mem_of_getElem? (i := 8) rfl), (List.forall_mem_cons.mpr ⟨ilX8_fault_wsX8_fault_r2 _ (List.mem_of_getElem? (i := 9) rfl), (List.forall_mem_cons.mpr ⟨ilX8_fault_wsX8_fault_r2 _ (List.mem_of_getElem? (i := 10) rfl), (List.forall_mem_cons.mpr ⟨ilX8_fault_wsX8_fault_r2 _ (List.mem_of_getElem? (i := 11) rfl), (List.forall_mem_cons.mpr ⟨ilX8_fault_wsX8_fault_r2 _ (List.mem_of_getElem? (i := 12) rfl), (List.forall_mem_cons.mpr ⟨ilX8_fault_wsX8_fault_r2 _ (List.mem_of_getElem? (i := 13) rfl), (List.forall_mem_cons.mpr ⟨ilX8_fault_wsX8_fault_r2 _ (List.mem_of_getElem? (i := 14) rfl), (List.forall_mem_cons.mpr ⟨ilX8_fault_wsX8_fault_r2 _ (List.mem_of_getElem? (i := 15) rfl), (List.forall_mem_cons.mpr ⟨ilX8_fault_wsX8_fault_r2 _ (List.mem_of_getElem? (i := 16) rfl), (List.forall_mem_cons.mpr ⟨ilX8_fault_wsX8_fault_r2 _ (List.mem_of_getElem? (i := 17) rfl), (List.forall_mem_cons.mpr ⟨ilX8_fault_wsX8_fault_r2 _ (List.mem_of_getElem? (i := 18) rfl), (List.forall_mem_cons.mpr ⟨ilX8_fault_wsX8_fault_r2 _ (List.mem_of_getElem? (i := 19) rfl), (List.forall_mem_cons.mpr ⟨ilX8_fault_wsX8_fault_r2 _ (List.mem_of_getElem? (i := 20) rfl), (List.forall_mem_cons.mpr ⟨ilX8_fault_wsX8_fault_r2 _ (List.mem_of_getElem? (i := 21) rfl), (List.forall_mem_cons.mpr ⟨ilX8_fault_wsX8_fault_r2 _ (List.mem_of_getElem? (i := 22) rfl), (List.forall_mem_cons.mpr ⟨ilX8_fault_wsX8_fault_r2 _ (List.mem_of_getElem? (i := 23) rfl), (List.forall_mem_cons.mpr ⟨ilX8_fault_wsX8_fault_r3 _ (List.mem_of_getElem? (i := 0) rfl), (fun _ h => absurd h List.not_mem_nil)⟩)⟩)⟩)⟩)⟩)⟩)⟩)⟩)⟩)⟩)⟩)⟩)⟩)⟩)⟩)⟩)⟩)⟩)⟩)⟩)⟩)⟩)⟩)⟩), (List.forall_mem_append.mpr ⟨(List.forall_mem_cons.mpr ⟨ilX8_fault_wsX8_fault_r3 _ (List.mem_of_getElem? (i := 1) rfl), (List.forall_mem_cons.mpr ⟨ilX8_fault_wsX8_fault_r3 _ (List.mem_of_getElem? (i := 2) rfl), (List.forall_mem_cons.mpr ⟨ilX8_fault_wsX8_fault_r3 _ (List.mem_of_getElem? (i := 3) rfl), (List.forall_mem_cons.mpr ⟨ilX8_fault_wsX8_fault_r3 _ (List.mem_of_getElem? (i := 4) rfl), (List.forall_mem_cons.mpr ⟨ilX8_fault_wsX8_fault_r3 _ (List.mem_of_getElem? (i := 5) rfl), (List.forall_mem_cons.mpr ⟨ilX8_fault_wsX8_fault_r3 _ (List.mem_of_getElem? (i := 6) rfl), (List.forall_mem_cons.mpr ⟨ilX8_fault_wsX8_fault_r3 _ (List.mem_of_getElem? (i := 7) rfl), (List.forall_mem_cons.mpr ⟨ilX8_fault_wsX8_fault_r3 _ (List.mem_of_getElem? (i := 8) rfl), (List.forall_mem_cons.mpr ⟨ilX8_fault_wsX8_fault_r3 _ (List.mem_of_getElem? (i := 9) rfl), (List.forall_mem_cons.mpr ⟨ilX8_fault_wsX8_fault_r3 _ (List.mem_of_getElem? (i := 10) rfl), (List.forall_mem_cons.mpr ⟨ilX8_fault_wsX8_fault_r3 _ (List.mem_of_getElem? (i := 11) rfl), (List.forall_mem_cons.mpr ⟨ilX8_fault_wsX8_fault_r3 _ (List.mem_of_getElem? (i := 12) rfl), (List.forall_mem_cons.mpr ⟨ilX8_fault_wsX8_fault_r3 _ (List.mem_of_getElem? (i := 13) rfl), (List.forall_mem_cons.mpr ⟨ilX8_fault_wsX8_fault_r3 _ (List.mem_of_getElem? (i := 14) rfl), (List.forall_mem_cons.mpr ⟨ilX8_fault_wsX8_fault_r3 _ (List.mem_of_getElem? (i := 15) rfl), (List.forall_mem_cons.mpr ⟨ilX8_fault_wsX8_fault_r3 _ (List.mem_of_getElem? (i := 16) rfl), (List.forall_mem_cons.mpr ⟨ilX8_fault_wsX8_fault_r3 _ (List.mem_of_getElem? (i := 17) rfl), (List.forall_mem_cons.mpr ⟨ilX8_fault_wsX8_fault_r3 _ (List.mem_of_getElem? (i := 18) rfl), (List.forall_mem_cons.mpr ⟨ilX8_fault_wsX8_fault_r3 _ (List.mem_of_getElem? (i := 19) rfl), (List.forall_mem_cons.mpr ⟨ilX8_fault_wsX8_fault_r3 _ (List.mem_of_getElem? (i := 20) rfl), (List.forall_mem_cons.mpr ⟨ilX8_fault_wsX8_fault_r3 _ (List.mem_of_getElem? (i := 21) rfl), (List.forall_mem_cons.mpr ⟨ilX8_fault_wsX8_fault_r3 _ (List.mem_of_getElem? (i := 22) rfl), (List.forall_mem_cons.mpr ⟨ilX8_fault_wsX8_fault_r3 _ (List.mem_of_getElem? (i := 23) rfl), (List.forall_mem_cons.mpr ⟨ilX8_fault_wsX8_fault_r4 _ (List.mem_of_getElem? (i := 0) rfl), (fun _ h => absurd h List.not_mem_nil)⟩)⟩)⟩)⟩)⟩)⟩)⟩)⟩)⟩)⟩)⟩)⟩)⟩)⟩)⟩)⟩)⟩)⟩)⟩)⟩)⟩)⟩)⟩)⟩), (List.forall_mem_append.mpr ⟨(List.forall_mem_cons.mpr ⟨ilX8_fault_wsX8_fault_r4 _ (List.mem_of_getElem? (i := 1) rfl), (List.forall_mem_cons.mpr ⟨ilX8_fault_wsX8_fault_r4 _ (List.mem_of_getElem? (i := 2) rfl), (List.forall_mem_cons.mpr ⟨ilX8_fault_wsX8_fault_r4 _ (List.mem_of_getElem? (i := 3) rfl), (List.forall_mem_cons.mpr ⟨ilX8_fault_wsX8_fault_r4 _ (List.mem_of_getElem? (i := 4) rfl), (List.forall_mem_cons.mpr ⟨ilX8_fault_wsX8_fault_r4 _ (List.mem_of_getElem? (i := 5) rfl), (List.forall_mem_cons.mpr ⟨ilX8_fault_wsX8_fault_r4 _ (List.mem_of_getElem? (i := 6) rfl), (List.forall_mem_cons.mpr ⟨ilX8_fault_wsX8_fault_r4 _ (List.mem_of_getElem? (i := 7) rfl), (List.forall_mem_cons.mpr ⟨ilX8_fault_wsX8_fault_r4 _ (List.mem_of_getElem? (i := 8) rfl), (List.forall_mem_cons.mpr ⟨ilX8_fault_wsX8_fault_r4 _ (List.mem_of_getElem? (i := 9) rfl), (List.forall_mem_cons.mpr ⟨ilX8_fault_wsX8_fault_r4 _ (List.mem_of_getElem? (i := 10) rfl), (List.forall_mem_cons.mpr ⟨ilX8_fault_wsX8_fault_r4 _ (List.mem_of_getElem? (i := 11) rfl), (List.forall_mem_cons.mpr ⟨ilX8_fault_wsX8_fault_r4 _ (List.mem_of_getElem? (i := 12) rfl), (List.forall_mem_cons.mpr ⟨ilX8_fault_wsX8_fault_r4 _ (List.mem_of_getElem? (i := 13) rfl), (List.forall_mem_cons.mpr ⟨ilX8_fault_wsX8_fault_r4 _ (List.mem_of_getElem? (i := 14) rfl), (List.forall_mem_cons.mpr ⟨ilX8_fault_wsX8_fault_r4 _ (List.mem_of_getElem? (i := 15) rfl), (List.forall_mem_cons.mpr ⟨ilX8_fault_wsX8_fault_r1 _ (List.mem_of_getElem? (i := 0) rfl), (List.forall_mem_cons.mpr ⟨ilX8_fault_wsX8_fault_r4 _ (List.mem_of_getElem? (i := 16) rfl), (List.forall_mem_cons.mpr ⟨ilX8_fault_wsX8_fault_r1 _ (List.mem_of_getElem? (i := 7) rfl), (List.forall_mem_cons.mpr ⟨ilX8_fault_wsX8_fault_r1 _ (List.mem_of_getElem? (i := 8) rfl), (List.forall_mem_cons.mpr ⟨ilX8_fault_wsX8_fault_r1 _ (List.mem_of_getElem? (i := 9) rfl), (List.forall_mem_cons.mpr ⟨ilX8_fault_wsX8_fault_r1 _ (List.mem_of_getElem? (i := 11) rfl), (List.forall_mem_cons.mpr ⟨ilX8_fault_wsX8_fault_r1 _ (List.mem_of_getElem? (i := 4) rfl), (List.forall_mem_cons.mpr ⟨ilX8_fault_wsX8_fault_r1 _ (List.mem_of_getElem? (i := 12) rfl), (List.forall_mem_cons.mpr ⟨ilX8_fault_wsX8_fault_r1 _ (List.mem_of_getElem? (i := 13) rfl), (fun _ h => absurd h List.not_mem_nil)⟩)⟩)⟩)⟩)⟩)⟩)⟩)⟩)⟩)⟩)⟩)⟩)⟩)⟩)⟩)⟩)⟩)⟩)⟩)⟩)⟩)⟩)⟩)⟩), (List.forall_mem_append.mpr ⟨(List.forall_mem_cons.mpr ⟨ilX8_fault_wsX8_fault_r1 _ (List.mem_of_getElem? (i := 6) rfl), (List.forall_mem_cons.mpr ⟨ilX8_fault_wsX8_fault_r1 _ (List.mem_of_getElem? (i := 15) rfl), (List.forall_mem_cons.mpr ⟨ilX8_fault_wsX8_fault_r1 _ (List.mem_of_getElem? (i := 16) rfl), (List.forall_mem_cons.mpr ⟨ilX8_fault_wsX8_fault_r1 _ (List.mem_of_getElem? (i := 17) rfl), (List.forall_mem_cons.mpr ⟨ilX8_fault_wsX8_fault_r1 _ (List.mem_of_getElem? (i := 18) rfl), (List.forall_mem_cons.mpr ⟨ilX8_fault_wsX8_fault_r1 _ (List.mem_of_getElem? (i := 19) rfl), (List.forall_mem_cons.mpr ⟨ilX8_fault_wsX8_fault_r1 _ (List.mem_of_getElem? (i := 20) rfl), (List.forall_mem_cons.mpr ⟨ilX8_fault_wsX8_fault_r1 _ (List.mem_of_getElem? (i := 21) rfl), (List.forall_mem_cons.mpr ⟨ilX8_fault_wsX8_fault_r1 _ (List.mem_of_getElem? (i := 22) rfl), (List.forall_mem_cons.mpr ⟨ilX8_fault_wsX8_fault_r1 _ (List.mem_of_getElem? (i := 23) rfl), (List.forall_mem_cons.mpr ⟨ilX8_fault_wsX8_fault_r4 _ (List.mem_of_getElem? (i := 17) rfl), (List.forall_mem_cons.mpr ⟨ilX8_fault_wsX8_fault_r4 _ (List.mem_of_getElem? (i := 18) rfl), (List.forall_mem_cons.mpr ⟨ilX8_fault_wsX8_fault_r4 _ (List.mem_of_getElem? (i := 19) rfl), (List.forall_mem_cons.mpr ⟨ilX8_fault_wsX8_fault_r4 _ (List.mem_of_getElem? (i := 20) rfl), (List.forall_mem_cons.mpr ⟨ilX8_fault_wsX8_fault_r4 _ (List.mem_of_getElem? (i := 21) rfl), (List.forall_mem_cons.mpr ⟨ilX8_fault_wsX8_fault_r4 _ (List.mem_of_getElem? (i := 22) rfl), (List.forall_mem_cons.mpr ⟨ilX8_fault_wsX8_fault_r4 _ (List.mem_of_getElem? (i := 23) rfl), (List.forall_mem_cons.mpr ⟨ilX8_fault_wsX8_fault_r5 _ (List.mem_of_getElem? (i := 0) rfl), (List.forall_mem_cons.mpr ⟨ilX8_fault_wsX8_fault_r5 _ (List.mem_of_getElem? (i := 1) rfl), (List.forall_mem_cons.mpr ⟨ilX8_fault_wsX8_fault_r5 _ (List.mem_of_getElem? (i := 2) rfl), (List.forall_mem_cons.mpr ⟨ilX8_fault_wsX8_fault_r5 _ (List.mem_of_getElem? (i := 3) rfl), (List.forall_mem_cons.mpr ⟨ilX8_fault_wsX8_fault_r5 _ (List.mem_of_getElem? (i := 4) rfl), (List.forall_mem_cons.mpr ⟨ilX8_fault_wsX8_fault_r1 _ (List.mem_of_getElem? (i := 1) rfl), (List.forall_mem_cons.mpr ⟨ilX8_fault_wsX8_fault_r5 _ (List.mem_of_getElem? (i := 5) rfl), (fun _ h => absurd h List.not_mem_nil)⟩)⟩)⟩)⟩)⟩)⟩)⟩)⟩)⟩)⟩)⟩)⟩)⟩)⟩)⟩)⟩)⟩)⟩)⟩)⟩)⟩)⟩)⟩)⟩), (List.forall_mem_cons.mpr ⟨ilX8_fault_wsX8_fault_r5 _ (List.mem_of_getElem? (i := 6) rfl), (List.forall_mem_cons.mpr ⟨ilX8_fault_wsX8_fault_r5 _ (List.mem_of_getElem? (i := 7) rfl), (List.forall_mem_cons.mpr ⟨ilX8_fault_wsX8_fault_r5 _ (List.mem_of_getElem? (i := 8) rfl), (List.forall_mem_cons.mpr ⟨ilX8_fault_wsX8_fault_r5 _ (List.mem_of_getElem? (i := 9) rfl), (List.forall_mem_cons.mpr ⟨ilX8_fault_wsX8_fault_r5 _ (List.mem_of_getElem? (i := 10) rfl), (List.forall_mem_cons.mpr ⟨ilX8_fault_wsX8_fault_r5 _ (List.mem_of_getElem? (i := 11) rfl), (List.forall_mem_cons.mpr ⟨ilX8_fault_wsX8_fault_r5 _ (List.mem_of_getElem? (i := 12) rfl), (List.forall_mem_cons.mpr ⟨ilX8_fault_wsX8_fault_r5 _ (List.mem_of_getElem? (i := 13) rfl), (List.forall_mem_cons.mpr ⟨ilX8_fault_wsX8_fault_r5 _ (List.mem_of_getElem? (i := 14) rfl), (List.forall_mem_cons.mpr ⟨ilX8_fault_wsX8_fault_r5 _ (List.mem_of_getElem? (i := 15) rfl), (List.forall_mem_cons.mpr ⟨ilX8_fault_wsX8_fault_r5 _ (List.mem_of_getElem? (i := 16) rfl), (List.forall_mem_cons.mpr ⟨ilX8_fault_wsX8_fault_r5 _ (List.mem_of_getElem? (i := 17) rfl), (List.forall_mem_cons.mpr ⟨ilX8_fault_wsX8_fault_r5 _ (List.mem_of_getElem? (i := 18) rfl), (List.forall_mem_cons.mpr ⟨ilX8_fault_wsX8_fault_r5 _ (List.mem_of_getElem? (i := 19) rfl), (List.forall_mem_cons.mpr ⟨ilX8_fault_wsX8_fault_r5 _ (List.mem_of_getElem? (i := 20) rfl), (List.forall_mem_cons.mpr ⟨ilX8_fault_wsX8_fault_r5 _ (List.mem_of_getElem? (i := 21) rfl), (List.forall_mem_cons.mpr ⟨ilX8_fault_wsX8_fault_r1 _ (List.mem_of_getElem? (i := 2) rfl), (List.forall_mem_cons.mpr ⟨ilX8_fault_wsX8_fault_r5 _ (List.mem_of_getElem? (i := 22) rfl), (List.forall_mem_cons.mpr ⟨ilX8_fault_wsX8_fault_r5 _ (List.mem_of_getElem? (i := 23) rfl), (List.forall_mem_cons.mpr ⟨ilX8_fault_wsX8_fault_r6 _ (List.mem_of_getElem? (i := 0) rfl), (List.forall_mem_cons.mpr ⟨ilX8_fault_wsX8_fault_r6 _ (List.mem_of_getElem? (i := 1) rfl), (List.forall_mem_cons.mpr ⟨ilX8_fault_wsX8_fault_r1 _ (List.mem_of_getElem? (i := 3) rfl), (List.forall_mem_cons.mpr ⟨ilX8_fault_wsX8_fault_r6 _ (List.mem_of_getElem? (i := 2) rfl), (fun _ h => absurd h List.not_mem_nil)⟩)⟩)⟩)⟩)⟩)⟩)⟩)⟩)⟩)⟩)⟩)⟩)⟩)⟩)⟩)⟩)⟩)⟩)⟩)⟩)⟩)⟩)⟩)⟩)⟩)⟩)⟩), ilX8_fault_wsX80⟩)⟩) (by decide +kernel)
set_option maxRecDepth 20000 in
theorem gX8_fault_X8_line : GoodIn wsX8_fault (wsV RX8 208 RX8 yX8_line wsX8_line) := goodIn_app (goodIn_sub (List.forall_mem_cons.mpr ⟨ilX8_fault_wsX8_fault_r2 _ (List.mem_of_getElem? (i := 0) rfl), (List.forall_mem_cons.mpr ⟨ilX8_fault_wsX8_fault_r2 _ (List.mem_of_getElem? (i := 1) rfl), (List.forall_mem_cons.mpr ⟨ilX8_fault_wsX8_fault_r2 _ (List.mem_of_getElem? (i := 2) rfl), (List.forall_mem_cons.mpr ⟨ilX8_fault_wsX8_fault_r1 _ (List.mem_of_getElem? (i := 10) rfl), (fun _ h => absurd h List.not_mem_nil)⟩)⟩)⟩)⟩) (by decide +kernel)) ggX8_fault_X8_line
theorem dX8_fault_0 : decode cX8_fault 0 = .ok (.iconst 0, 1) := by decide +kernel
theorem dX8_fault_1 : decode cX8_fault 1 = .ok (.istore_n 1, 1) := by decide +kernel
theorem dX8_fault_2 : decode cX8_fault 2 = .ok (.iload_n 1, 1) := by decide +kernel
theorem dX8_fault_3 : decode cX8_fault 3 = .ok (.iconst 5, 1) := by decide +kernel
theorem dX8_fault_4 : decode cX8_fault 4 = .ok (.if_icmp .ge 16, 3) := by decide +kernel
theorem dX8_fault_7 : decode cX8_fault 7 = .ok (.aload_n 0, 1) := by decide +kernel
theorem dX8_fault_8 : decode cX8_fault 8 = .ok (.getfield 13, 3) := by decide +kernel
theorem dX8_fault_11 : decode cX8_fault 11 = .ok (.iload_n 1, 1) := by decide +kernel
theorem dX8_fault_12 : decode cX8_fault 12 = .ok (.iconst (-1), 1) := by decide +kernel
theorem dX8_fault_13 : decode cX8_fault 13 = .ok (.iastore, 1) := by decide +kernel
theorem dX8_fault_14 : decode cX8_fault 14 = .ok (.iinc 1 1, 3) := by decide +kernel
theorem dX8_fault_17 : decode cX8_fault 17 = .ok (.goto (-15), 3) := by decide +kernel
theorem dX8_fault_20 : decode cX8_fault 20 = .ok (.aload_n 0, 1) := by decide +kernel
theorem dX8_fault_21 : decode cX8_fault 21 = .ok (.iconst 0, 1) := by decide +kernel
theorem dX8_fault_22 : decode cX8_fault 22 = .ok (.putfield 179, 3) := by decide +kernel
theorem dX8_fault_25 : decode cX8_fault 25 = .ok (.aload_n 0, 1) := by decide +kernel
theorem dX8_fault_26 : decode cX8_fault 26 = .ok (.iconst 0, 1) := by decide +kernel
theorem dX8_fault_27 : decode cX8_fault 27 = .ok (.putfield 189, 3) := by decide +kernel
theorem dX8_fault_30 : decode cX8_fault 30 = .ok (.aload_n 0, 1) := by decide +kernel
theorem dX8_fault_31 : decode cX8_fault 31 = .ok (.iconst 0, 1) := by decide +kernel
theorem dX8_fault_32 : decode cX8_fault 32 = .ok (.putfield 192, 3) := by decide +kernel
theorem dX8_fault_35 : decode cX8_fault 35 = .ok (.aload_n 0, 1) := by decide +kernel
theorem dX8_fault_36 : decode cX8_fault 36 = .ok (.iconst 0, 1) := by decide +kernel
theorem dX8_fault_37 : decode cX8_fault 37 = .ok (.putfield 96, 3) := by decide +kernel
theorem dX8_fault_40 : decode cX8_fault 40 = .ok (.aload_n 0, 1) := by decide +kernel
theorem dX8_fault_41 : decode cX8_fault 41 = .ok (.invokevirtual 168, 3) := by decide +kernel
theorem dX8_fault_44 : decode cX8_fault 44 = .ok (.aload_n 0, 1) := by decide +kernel
theorem dX8_fault_45 : decode cX8_fault 45 = .ok (.getfield 106, 3) := by decide +kernel
theorem dX8_fault_48 : decode cX8_fault 48 = .ok (.ifCond .eq 15, 3) := by decide +kernel
theorem dX8_fault_51 : decode cX8_fault 51 = .ok (.aload_n 0, 1) := by decide +kernel
theorem dX8_fault_52 : decode cX8_fault 52 = .ok (.invokevirtual 208, 3) := by decide +kernel
theorem dX8_fault_55 : decode cX8_fault 55 = .ok (.ifCond .ne (-11), 3) := by decide +kernel
theorem dX8_fault_58 : decode cX8_fault 58 = .ok (.aload_n 0, 1) := by decide +kernel
theorem dX8_fault_59 : decode cX8_fault 59 = .ok (.getfield 99, 3) := by decide +kernel
theorem dX8_fault_62 : decode cX8_fault 62 = .ok (.ireturn, 1) := by decide +kernel
theorem dX8_fault_63 : decode cX8_fault 63 = .ok (.aload_n 0, 1) := by decide +kernel
theorem dX8_fault_64 : decode cX8_fault 64 = .ok (.getfield 13, 3) := by decide +kernel
theorem dX8_fault_67 : decode cX8_fault 67 = .ok (.iconst 0, 1) := by decide +kernel
theorem dX8_fault_68 : decode cX8_fault 68 = .ok (.iaload, 1) := by decide +kernel
theorem dX8_fault_69 : decode cX8_fault 69 = .ok (.iconst (-1), 1) := by decide +kernel
theorem dX8_fault_70 : decode cX8_fault 70 = .ok (.if_icmp .eq 10, 3) := by decide +kernel
theorem dX8_fault_73 : decode cX8_fault 73 = .ok (.aload_n 0, 1) := by decide +kernel
theorem dX8_fault_74 : decode cX8_fault 74 = .ok (.getfield 179, 3) := by decide +kernel
theorem dX8_fault_77 : decode cX8_fault 77 = .ok (.ifCond .ne 10, 3) := by decide +kernel
theorem dX8_fault_80 : decode cX8_fault 80 = .ok (.aload_n 0, 1) := by decide +kernel
theorem dX8_fault_81 : decode cX8_fault 81 = .ok (.getfield 99, 3) := by decide +kernel
theorem dX8_fault_84 : decode cX8_fault 84 = .ok (.goto 4, 3) := by decide +kernel
theorem dX8_fault_87 : decode cX8_fault 87 = .ok (.iconst (-1), 1) := by decide +kernel
theorem dX8_fault_88 : decode cX8_fault 88 = .ok (.ireturn, 1) := by decide +kernel
theorem ilX8_begins_wsX80 : ∀ w ∈ wsX80, w ∈ wsX8_begins := fun _ h => List.mem_cons_of_mem _ (List.mem_append_right _ (h))
set_option maxRecDepth 20000 in
theorem ggX8_begins_X8_of : GoodIn wsX8_begins wsX8_of := goodIn_sub (List.forall_mem_cons.mpr ⟨List.mem_cons_of_mem _ (List.mem_append_left _ (List.mem_of_getElem? (i := 9) rfl)), (List.forall_mem_append.mpr ⟨(List.forall_mem_cons.mpr ⟨List.mem_cons_of_mem _ (List.mem_append_left _ (List.mem_of_getElem? (i := 10) rfl)), (fun _ h => absurd h List.not_mem_nil)⟩), ilX8_begins_wsX80⟩)⟩) (by decide +kernel)
set_option maxRecDepth 20000 in
theorem gX8_begins_X8_of : GoodIn wsX8_begins (wsV RX8 217 RX8 yX8_of wsX8_of) := goodIn_app (goodIn_sub (List.forall_mem_cons.mpr ⟨List.mem_cons_of_mem _ (List.mem_append_left _ (List.mem_of_getElem? (i := 5) rfl)), (List.forall_mem_cons.mpr ⟨List.mem_cons_of_mem _ (List.mem_append_left _ (List.mem_of_getElem? (i := 6) rfl)), (List.forall_mem_cons.mpr ⟨List.mem_cons_of_mem _ (List.mem_append_left _ (List.mem_of_getElem? (i := 7) rfl)), (List.forall_mem_cons.mpr ⟨List.mem_cons_of_mem _ (List.mem_append_left _ (List.mem_of_getElem? (i := 8) rfl)), (fun _ h => absurd h List.not_mem_nil)⟩)⟩)⟩)⟩) (by decide +kernel)) ggX8_begins_X8_of
theorem dX8_begins_0 : decode cX8_begins 0 = .ok (.aload_n 0, 1) := by decide +kernel
theorem dX8_begins_1 : decode cX8_begins 1 = .ok (.iconst 0, 1) := by decide +kernel
theorem dX8_begins_2 : decode cX8_begins 2 = .ok (.putfield 211, 3) := by decide +kernel
theorem dX8_begins_5 : decode cX8_begins 5 = .ok (.iconst 0, 1) := by decide +kernel
theorem dX8_begins_6 : decode cX8_begins 6 = .ok (.istore_n 1, 1) := by decide +kernel
theorem dX8_begins_7 : decode cX8_begins 7 = .ok (.iload_n 1, 1) := by decide +kernel
theorem dX8_begins_8 : decode cX8_begins 8 = .ok (.bipush 6, 2) := by decide +kernel
theorem dX8_begins_10 : decode cX8_begins 10 = .ok (.if_icmp .ge 47, 3) := by decide +kernel
theorem dX8_begins_13 : decode cX8_begins 13 = .ok (.aload_n 0, 1) := by decide +kernel
theorem dX8_begins_14 : decode cX8_begins 14 = .ok (.getfield 33, 3) := by decide +kernel
theorem dX8_begins_17 : decode cX8_begins 17 = .ok (.iload_n 1, 1) := by decide +kernel
theorem dX8_begins_18 : decode cX8_begins 18 = .ok (.iload_n 1, 1) := by decide +kernel
theorem dX8_begins_19 : decode cX8_begins 19 = .ok (.aload_n 0, 1) := by decide +kernel
theorem dX8_begins_20 : decode cX8_begins 20 = .ok (.getfield 214, 3) := by decide +kernel
theorem dX8_begins_23 : decode cX8_begins 23 = .ok (.if_icmp .ge 19, 3) := by decide +kernel
theorem dX8_begins_26 : decode cX8_begins 26 = .ok (.aload_n 0, 1) := by decide +kernel
theorem dX8_begins_27 : decode cX8_begins 27 = .ok (.iload_n 1, 1) := by decide +kernel
theorem dX8_begins_28 : decode cX8_begins 28 = .ok (.iconst 0, 1) := by decide +kernel
theorem dX8_begins_29 : decode cX8_begins 29 = .ok (.invokevirtual 217, 3) := by decide +kernel
theorem dX8_begins_32 : decode cX8_begins 32 = .ok (.aload_n 0, 1) := by decide +kernel
theorem dX8_begins_33 : decode cX8_begins 33 = .ok (.iload_n 1, 1) := by decide +kernel
theorem dX8_begins_34 : decode cX8_begins 34 = .ok (.iconst 1, 1) := by decide +kernel
theorem dX8_begins_35 : decode cX8_begins 35 = .ok (.invokevirtual 217, 3) := by decide +kernel
theorem dX8_begins_38 : decode cX8_begins 38 = .ok (.imul, 1) := by decide +kernel
theorem dX8_begins_39 : decode cX8_begins 39 = .ok (.goto 4, 3) := by decide +kernel
theorem dX8_begins_42 : decode cX8_begins 42 = .ok (.iconst 0, 1) := by decide +kernel
theorem dX8_begins_43 : decode cX8_begins 43 = .ok (.iastore, 1) := by decide +kernel
theorem dX8_begins_44 : decode cX8_begins 44 = .ok (.aload_n 0, 1) := by decide +kernel
theorem dX8_begins_45 : decode cX8_begins 45 = .ok (.getfield 36, 3) := by decide +kernel
theorem dX8_begins_48 : decode cX8_begins 48 = .ok (.iload_n 1, 1) := by decide +kernel
theorem dX8_begins_49 : decode cX8_begins 49 = .ok (.iconst 0, 1) := by decide +kernel
theorem dX8_begins_50 : decode cX8_begins 50 = .ok (.iastore, 1) := by decide +kernel
theorem dX8_begins_51 : decode cX8_begins 51 = .ok (.iinc 1 1, 3) := by decide +kernel
theorem dX8_begins_54 : decode cX8_begins 54 = .ok (.goto (-47), 3) := by decide +kernel
theorem dX8_begins_57 : decode cX8_begins 57 = .ok (.iconst 0, 1) := by decide +kernel
theorem dX8_begins_58 : decode cX8_begins 58 = .ok (.istore_n 1, 1) := by decide +kernel
theorem dX8_begins_59 : decode cX8_begins 59 = .ok (.iload_n 1, 1) := by decide +kernel
theorem dX8_begins_60 : decode cX8_begins 60 = .ok (.bipush 40, 2) := by decide +kernel
theorem dX8_begins_62 : decode cX8_begins 62 = .ok (.if_icmp .ge 21, 3) := by decide +kernel
theorem dX8_begins_65 : decode cX8_begins 65 = .ok (.aload_n 0, 1) := by decide +kernel
theorem dX8_begins_66 : decode cX8_begins 66 = .ok (.getfield 39, 3) := by decide +kernel
theorem dX8_begins_69 : decode cX8_begins 69 = .ok (.bipush 6, 2) := by decide +kernel
theorem dX8_begins_71 : decode cX8_begins 71 = .ok (.iload_n 1, 1) := by decide +kernel
theorem dX8_begins_72 : decode cX8_begins 72 = .ok (.imul, 1) := by decide +kernel
theorem dX8_begins_73 : decode cX8_begins 73 = .ok (.iconst 3, 1) := by decide +kernel
theorem dX8_begins_74 : decode cX8_begins 74 = .ok (.iadd, 1) := by decide +kernel
theorem dX8_begins_75 : decode cX8_begins 75 = .ok (.iconst 0, 1) := by decide +kernel
theorem dX8_begins_76 : decode cX8_begins 76 = .ok (.iastore, 1) := by decide +kernel
theorem dX8_begins_77 : decode cX8_begins 77 = .ok (.iinc 1 1, 3) := by decide +kernel
theorem dX8_begins_80 : decode cX8_begins 80 = .ok (.goto (-21), 3) := by decide +kernel
theorem dX8_begins_83 : decode cX8_begins 83 = .ok (.return_, 1) := by decide +kernel
theorem ilX8_land_wsX8_land_r1 : ∀ w ∈ wsX8_land_r1, w ∈ wsX8_land := fun _ h => List.mem_cons_of_mem _ (List.mem_append_left _ (List.mem_append_left _ (h)))
theorem ilX8_land_wsX8_land_r2 : ∀ w ∈ wsX8_land_r2, w ∈ wsX8_land := fun _ h => List.mem_cons_of_mem _ (List.mem_append_left _ (List.mem_append_right _ (List.mem_append_left _ (h))))
theorem ilX8_land_wsX8_land_r3 : ∀ w ∈ wsX8_land_r3, w ∈ wsX8_land := fun _ h => List.mem_cons_of_mem _ (List.mem_append_left _ (List.mem_append_right _ (List.mem_append_right _ (List.mem_append_left _ (h)))))
theorem ilX8_land_wsX8_land_r4 : ∀ w ∈ wsX8_land_r4, w ∈ wsX8_land := fun _ h => List.mem_cons_of_mem _ (List.mem_append_left _ (List.mem_append_right _ (List.mem_append_right _ (List.mem_append_right _ (List.mem_append_left _ (h))))))
theorem ilX8_land_wsX8_land_r5 : ∀ w ∈ wsX8_land_r5, w ∈ wsX8_land := fun _ h => List.mem_cons_of_mem _ (List.mem_append_left _ (List.mem_append_right _ (List.mem_append_right _ (List.mem_append_right _ (List.mem_append_right _ (List.mem_append_left _ (h)))))))
theorem ilX8_land_wsX8_land_r6 : ∀ w ∈ wsX8_land_r6, w ∈ wsX8_land := fun _ h => List.mem_cons_of_mem _ (List.mem_append_left _ (List.mem_append_right _ (List.mem_append_right _ (List.mem_append_right _ (List.mem_append_right _ (List.mem_append_right _ (List.mem_append_left _ (h))))))))
theorem ilX8_land_wsX8_land_r7 : ∀ w ∈ wsX8_land_r7, w ∈ wsX8_land := fun _ h => List.mem_cons_of_mem _ (List.mem_append_left _ (List.mem_append_right _ (List.mem_append_right _ (List.mem_append_right _ (List.mem_append_right _ (List.mem_append_right _ (List.mem_append_right _ (h))))))))
theorem ilX8_land_wsX80 : ∀ w ∈ wsX80, w ∈ wsX8_land := fun _ h => List.mem_cons_of_mem _ (List.mem_append_right _ (h))
set_option maxRecDepth 20000 in
theorem ggX8_land_X8_fault : GoodIn wsX8_land wsX8_fault := goodIn_sub (List.forall_mem_cons.mpr ⟨ilX8_land_wsX8_land_r2 _ (List.mem_of_getElem? (i := 0) rfl), (List.forall_mem_append.mpr ⟨(List.forall_mem_append.mpr ⟨(List.forall_mem_cons.mpr ⟨ilX8_land_wsX8_land_r1 _ (List.mem_of_getElem? (i := 0) rfl), (List.forall_mem_cons.mpr ⟨ilX8_land_wsX8_land_r1 _ (List.mem_of_getElem? (i := 6) rfl), (List.forall_mem_cons.mpr ⟨ilX8_land_wsX8_land_r1 _ (List.mem_of_getElem? (i := 10) rfl), (List.forall_mem_cons.mpr ⟨ilX8_land_wsX8_land_r1 _ (List.mem_of_getElem? (i := 12) rfl), (List.forall_mem_cons.mpr ⟨ilX8_land_wsX8_land_r2 _ (List.mem_of_getElem? (i := 1) rfl), (List.forall_mem_cons.mpr ⟨ilX8_land_wsX8_land_r2 _ (List.mem_of_getElem? (i := 2) rfl), (List.forall_mem_cons.mpr ⟨ilX8_land_wsX8_land_r2 _ (List.mem_of_getElem? (i := 3) rfl), (List.forall_mem_cons.mpr ⟨ilX8_land_wsX8_land_r2 _ (List.mem_of_getElem? (i := 4) rfl), (List.forall_mem_cons.mpr ⟨ilX8_land_wsX8_land_r2 _ (List.mem_of_getElem? (i := 5) rfl), (List.forall_mem_cons.mpr ⟨ilX8_land_wsX8_land_r2 _ (List.mem_of_getElem? (i := 6) rfl), (List.forall_mem_cons.mpr ⟨ilX8_land_wsX8_land_r1 _ (List.mem_of_getElem? (i := 23) rfl), (List.forall_mem_cons.mpr ⟨ilX8_land_wsX8_land_r2 _ (List.mem_of_getElem? (i := 7) rfl), (List.forall_mem_cons.mpr ⟨ilX8_land_wsX8_land_r1 _ (List.mem_of_getElem? (i := 19) rfl), (List.forall_mem_cons.mpr ⟨ilX8_land_wsX8_land_r2 _ (List.mem_of_getElem? (i := 8) rfl), (List.forall_mem_cons.mpr ⟨ilX8_land_wsX8_land_r2 _ (List.mem_of_getElem? (i := 9) rfl), (List.forall_mem_cons.mpr ⟨ilX8_land_wsX8_land_r2 _ (List.mem_of_getElem? (i := 10) rfl), (List.forall_mem_cons.mpr ⟨ilX8_land_wsX8_land_r2 _ (List.mem_of_getElem? (i := 11) rfl), (List.forall_mem_cons.mpr ⟨ilX8_land_wsX8_land_r2 _ (List.mem_of_getElem? (i := 12) rfl), (List.forall_mem_cons.mpr ⟨ilX8_land_wsX8_land_r2 _ (List.mem_of_getElem? (i := 13) rfl), (List.forall_mem_cons.mpr ⟨ilX8_land_wsX8_land_r2 _ (List.mem_of_getElem? (i := 14) rfl), (List.forall_mem_cons.mpr ⟨ilX8_land_wsX8_land_r2 _ (List.mem_of_getElem? (i := 15) rfl), (List.forall_mem_cons.mpr ⟨ilX8_land_wsX8_land_r2 _ (List.mem_of_getElem? (i := 16) rfl), (List.forall_mem_cons.mpr ⟨ilX8_land_wsX8_land_r2 _ (List.mem_of_getElem? (i := 17) rfl), (List.forall_mem_cons.mpr ⟨ilX8_land_wsX8_land_r2 _ (List.mem_of_getElem? (i := 18) rfl), (fun _ h => absurd h List.not_mem_nil)⟩)⟩)⟩)⟩)⟩)⟩)⟩)⟩)⟩)⟩)⟩)⟩)⟩)⟩)⟩)⟩)⟩)⟩)⟩)⟩)⟩)⟩)⟩)⟩), (List.forall_mem_append.mpr ⟨(List.forall_mem_cons.mpr ⟨ilX8_land_wsX8_land_r2 _ (List.mem_of_getElem? (i := 19) rfl), (List.forall_mem_cons.mpr ⟨ilX8_land_wsX8_land_r2 _ (List.mem_of_getElem? (i := 20) rfl), (List.forall_mem_cons.mpr ⟨ilX8_land_wsX8_land_r2 _ (List.mem_of_getElem? (i := 21) rfl), (List.forall_mem_cons.mpr ⟨ilX8_land_wsX8_land_r2 _ (List.mem_of_getElem? (i := 22) rfl), (List.forall_mem_cons.mpr ⟨ilX8_land_wsX8_land_r2 _ (List.mem_of_getElem? (i := 23) rfl), (List.forall_mem_cons.mpr ⟨ilX8_land_wsX8_land_r3 _ (List.mem_of_getElem? (i := 0) rfl), (List.forall_mem_cons.mpr ⟨ilX8_land_wsX8_land_r3 _ (List.mem_of_getElem? (i := 1) rfl), (List.forall_mem_cons.mpr ⟨ilX8_land_wsX8_land_r3 _ (List.mem_of_getElem? (i := 2) rfl), (List.forall_mem_cons.mpr ⟨ilX8_land_wsX8_land_r3 _ (List.mem_of_getElem? (i := 3) rfl), (List.forall_mem_cons.mpr ⟨ilX8_land_wsX8_land_r3 _ (List.mem_of_getElem? (i := 4) rfl), (List.forall_mem_cons.mpr ⟨ilX8_land_wsX8_land_r3 _ (List.mem_of_getElem? (i := 5) rfl), (List.forall_mem_cons.mpr ⟨ilX8_land_wsX8_land_r3 _ (List.mem_of_getElem? (i := 6) rfl), (List.forall_mem_cons.mpr ⟨ilX8_land_wsX8_land_r3 _ (List.mem_of_getElem? (i := 7) rfl), (List.forall_mem_cons.mpr ⟨ilX8_land_wsX8_land_r3 _ (List.mem_of_getElem? (i := 8) rfl), (List.forall_mem_cons.mpr ⟨ilX8_land_wsX8_land_r3 _ (List.mem_of_getElem? (i := 9) rfl), (List.forall_mem_cons.mpr ⟨ilX8_land_wsX8_land_r3 _ (List.mem_of_getElem? (i := 10) rfl), (List.forall_mem_cons.mpr ⟨ilX8_land_wsX8_land_r3 _ (List.mem_of_getElem? (i := 11) rfl), (List.forall_mem_cons.mpr ⟨ilX8_land_wsX8_land_r3 _ (List.mem_of_getElem? (i := 12) rfl), (List.forall_mem_cons.mpr ⟨ilX8_land_wsX8_land_r3 _ (List.mem_of_getElem? (i := 13) rfl), (List.forall_mem_cons.mpr ⟨ilX8_land_wsX8_land_r3 _ (List.mem_of_getElem? (i := 14) rfl), (List.forall_mem_cons.mpr ⟨ilX8_land_wsX8_land_r3 _ (List.mem_of_getElem? (i := 15) rfl), (List.forall_mem_cons.mpr ⟨ilX8_land_wsX8_land_r3 _ (List.mem_of_getElem? (i := 16) rfl), (List.forall_mem_cons.mpr ⟨ilX8_land_wsX8_land_r3 _ (List.mem_of_getElem? (i := 17) rfl), (List.forall_mem_cons.mpr ⟨ilX8_land_wsX8_land_r3 _ (List.mem_of_getElem? (i := 18) rfl), (fun _ h => absurd h List.not_mem_nil)⟩)⟩)⟩)⟩)⟩)⟩)⟩)⟩)⟩)⟩)⟩)⟩)⟩)⟩)⟩)⟩)⟩)⟩)⟩)⟩)⟩)⟩)⟩)⟩), (List.forall_mem_append.mpr ⟨(List.forall_mem_cons.mpr ⟨ilX8_land_wsX8_land_r3 _ (List.mem_of_getElem? (i := 19) rfl), (List.forall_mem_cons.mpr ⟨ilX8_land_wsX8_land_r3 _ (List.mem_of_getElem? (i := 20) rfl), (List.forall_mem_cons.mpr ⟨ilX8_land_wsX8_land_r3 _ (List.mem_of_getElem? (i := 21) rfl), (List.forall_mem_cons.mpr ⟨ilX8_land_wsX8_land_r3 _ (List.mem_of_getElem? (i := 22) rfl), (List.forall_mem_cons.mpr ⟨ilX8_land_wsX8_land_r3 _ (List.mem_of_getElem? (i := 23) rfl), (List.forall_mem_cons.mpr ⟨ilX8_land_wsX8_land_r4 _ (List.mem_of_getElem? (i := 0) rfl), (List.forall_mem_cons.mpr ⟨ilX8_land_wsX8_land_r4 _ (List.mem_of_getElem? (i := 1) rfl), (List.forall_mem_cons.mpr ⟨ilX8_land_wsX8_land_r4 _ (List.mem_of_getElem? (i := 2) rfl), (List.forall_mem_cons.mpr ⟨ilX8_land_wsX8_land_r4 _ (List.mem_of_getElem? (i := 3) rfl), (List.forall_mem_cons.mpr ⟨ilX8_land_wsX8_land_r4 _ (List.mem_of_getElem? (i := 4) rfl), (List.forall_mem_cons.mpr ⟨ilX8_land_wsX8_land_r4 _ (List.mem_of_getElem? (i := 5) rfl), (List.forall_mem_cons.mpr ⟨ilX8_land_wsX8_land_r4 _ (List.mem_of_getElem? (i := 6) rfl), (List.forall_mem_cons.mpr ⟨ilX8_land_wsX8_land_r4 _ (List.mem_of_getElem? (i := 7) rfl), (List.forall_mem_cons.mpr ⟨ilX8_land_wsX8_land_r4 _ (List.mem_of_getElem? (i := 8) rfl), (List.forall_mem_cons.mpr ⟨ilX8_land_wsX8_land_r4 _ (List.mem_of_getElem? (i := 9) rfl), (List.forall_mem_cons.mpr ⟨ilX8_land_wsX8_land_r4 _ (List.mem_of_getElem? (i := 10) rfl), (List.forall_mem_cons.mpr ⟨ilX8_land_wsX8_land_r4 _ (List.mem_of_getElem? (i := 11) rfl), (List.forall_mem_cons.mpr ⟨ilX8_land_wsX8_land_r4 _ (List.mem_of_getElem? (i := 12) rfl), (List.forall_mem_cons.mpr ⟨ilX8_land_wsX8_land_r4 _ (List.mem_of_getElem? (i := 13) rfl), (List.forall_mem_cons.mpr ⟨ilX8_land_wsX8_land_r4 _ (List.mem_of_getElem? (i := 14) rfl), (List.forall_mem_cons.mpr ⟨ilX8_land_wsX8_land_r4 _ (List.mem_of_getElem? (i := 15) rfl), (List.forall_mem_cons.mpr ⟨ilX8_land_wsX8_land_r4 _ (List.mem_of_getElem? (i := 16) rfl), (List.forall_mem_cons.mpr ⟨ilX8_land_wsX8_land_r4 _ (List.mem_of_getElem? (i := 17) rfl), (List.forall_mem_cons.mpr ⟨ilX8_land_wsX8_land_r4 _ (List.mem_of_getElem? (i := 18) rfl), (fun _ h => absurd h List.not_mem_nil)⟩)⟩)⟩)⟩)⟩)⟩)⟩)⟩)⟩)⟩)⟩)⟩)⟩)⟩)⟩)⟩)⟩)⟩)⟩)⟩)⟩)⟩)⟩)⟩), (List.forall_mem_append.mpr ⟨(List.forall_mem_cons.mpr ⟨ilX8_land_wsX8_land_r4 _ (List.mem_of_getElem? (i := 19) rfl), (List.forall_mem_cons.mpr ⟨ilX8_land_wsX8_land_r4 _ (List.mem_of_getElem? (i := 20) rfl), (List.forall_mem_cons.mpr ⟨ilX8_land_wsX8_land_r4 _ (List.mem_of_getElem? (i := 21) rfl), (List.forall_mem_cons.mpr ⟨ilX8_land_wsX8_land_r4 _ (List.mem_of_getElem? (i := 22) rfl), (List.forall_mem_cons.mpr ⟨ilX8_land_wsX8_land_r4 _ (List.mem_of_getElem? (i := 23) rfl), (List.forall_mem_cons.mpr ⟨ilX8_land_wsX8_land_r5 _ (List.mem_of_getElem? (i := 0) rfl), (List.forall_mem_cons.mpr ⟨ilX8_land_wsX8_land_r5 _ (List.mem_of_getElem? (i := 1) rfl), (List.forall_mem_cons.mpr ⟨ilX8_land_wsX8_land_r5 _ (List.mem_of_getElem? (i := 2) rfl), (List.forall_mem_cons.mpr ⟨ilX8_land_wsX8_land_r5 _ (List.mem_of_getElem? (i := 3) rfl), (List.forall_mem_cons.mpr ⟨ilX8_land_wsX8_land_r5 _ (List.mem_of_getElem? (i := 4) rfl), (List.forall_mem_cons.mpr ⟨ilX8_land_wsX8_land_r5 _ (List.mem_of_getElem? (i := 5) rfl), (List.forall_mem_cons.mpr ⟨ilX8_land_wsX8_land_r5 _ (List.mem_of_getElem? (i := 6) rfl), (List.forall_mem_cons.mpr ⟨ilX8_land_wsX8_land_r5 _ (List.mem_of_getElem? (i := 7) rfl), (List.forall_mem_cons.mpr ⟨ilX8_land_wsX8_land_r5 _ (List.mem_of_getElem? (i := 8) rfl), (List.forall_mem_cons.mpr ⟨ilX8_land_wsX8_land_r5 _ (List.mem_of_getElem? (i := 9) rfl), (List.forall_mem_cons.mpr ⟨ilX8_land_wsX8_land_r5 _ (List.mem_of_getElem? (i := 10) rfl), (List.forall_mem_cons.mpr ⟨ilX8_land_wsX8_land_r5 _ (List.mem_of_getElem? (i := 11) rfl), (List.forall_mem_cons.mpr ⟨ilX8_land_wsX8_land_r5 _ (List.mem_of_getElem? (i := 12) rfl), (List.forall_mem_cons.mpr ⟨ilX8_land_wsX8_land_r5 _ (List.mem_of_getElem? (i := 13) rfl), (List.forall_mem_cons.mpr ⟨ilX8_land_wsX8_land_r5 _ (List.mem_of_getElem? (i := 14) rfl), (List.forall_mem_cons.mpr ⟨ilX8_land_wsX8_land_r5 _ (List.mem_of_getElem? (i := 15) rfl), (List.forall_mem_cons.mpr ⟨ilX8_land_wsX8_land_r5 _ (List.mem_of_getElem? (i := 16) rfl), (List.forall_mem_cons.mpr ⟨ilX8_land_wsX8_land_r5 _ (List.mem_of_getElem? (i := 17) rfl), (List.forall_mem_cons.mpr ⟨ilX8_land_wsX8_land_r5 _ (List.mem_of_getElem? (i := 18) rfl), (fun _ h => absurd h List.not_mem_nil)⟩)⟩)⟩)⟩)⟩)⟩)⟩)⟩)⟩)⟩)⟩)⟩)⟩)⟩)⟩)⟩)⟩)⟩)⟩)⟩)⟩)⟩)⟩)⟩), (List.forall_mem_append.mpr ⟨(List.forall_mem_cons.mpr ⟨ilX8_land_wsX8_land_r5 _ (List.mem_of_getElem? (i := 19) rfl), (List.forall_mem_cons.mpr ⟨ilX8_land_wsX8_land_r5 _ (List.mem_of_getElem? (i := 20) rfl), (List.forall_mem_cons.mpr ⟨ilX8_land_wsX8_land_r5 _ (List.mem_of_getElem? (i := 21) rfl), (List.forall_mem_cons.mpr ⟨ilX8_land_wsX8_land_r5 _ (List.mem_of_getElem? (i := 22) rfl), (List.forall_mem_cons.mpr ⟨ilX8_land_wsX8_land_r5 _ (List.mem_of_getElem? (i := 23) rfl), (List.forall_mem_cons.mpr ⟨ilX8_land_wsX8_land_r6 _ (List.mem_of_getElem? (i := 0) rfl), (List.forall_mem_cons.mpr ⟨ilX8_land_wsX8_land_r1 _ (List.mem_of_getElem? (i := 9) rfl), (List.forall_mem_cons.mpr ⟨ilX8_land_wsX8_land_r6 _ (List.mem_of_getElem? (i := 1) rfl), (List.forall_mem_cons.mpr ⟨ilX8_land_wsX8_land_r6 _ (List.mem_of_getElem? (i := 2) rfl), (List.forall_mem_cons.mpr ⟨ilX8_land_wsX8_land_r6 _ (List.mem_of_getElem? (i := 3) rfl), (List.forall_mem_cons.mpr ⟨ilX8_land_wsX8_land_r6 _ (List.mem_of_getElem? (i := 4) rfl), (List.forall_mem_cons.mpr ⟨ilX8_land_wsX8_land_r6 _ (List.mem_of_getElem? (i := 5) rfl), (List.forall_mem_cons.mpr ⟨ilX8_land_wsX8_land_r6 _ (List.mem_of_getElem? (i := 6) rfl), (List.forall_mem_cons.mpr ⟨ilX8_land_wsX8_land_r6 _ (List.mem_of_getElem? (i := 7) rfl), (List.forall_mem_cons.mpr ⟨ilX8_land_wsX8_land_r6 _ (List.mem_of_getElem? (i := 8) rfl), (List.forall_mem_cons.mpr ⟨ilX8_land_wsX8_land_r6 _ (List.mem_of_getElem? (i := 9) rfl), (List.forall_mem_cons.mpr ⟨ilX8_land_wsX8_land_r6 _ (List.mem_of_getElem? (i := 10) rfl), (List.forall_mem_cons.mpr ⟨ilX8_land_wsX8_land_r6 _ (List.mem_of_getElem? (i := 11) rfl), (List.forall_mem_cons.mpr ⟨ilX8_land_wsX8_land_r6 _ (List.mem_of_getElem? (i := 12) rfl), (List.forall_mem_cons.mpr ⟨ilX8_land_wsX8_land_r6 _ (List.mem_of_getElem? (i := 13) rfl), (List.forall_mem_cons.mpr ⟨ilX8_land_wsX8_land_r6 _ (List.mem_of_getElem? (i := 14) rfl), (List.forall_mem_cons.mpr ⟨ilX8_land_wsX8_land_r6 _ (List.mem_of_getElem? (i := 15) rfl), (List.forall_mem_cons.mpr ⟨ilX8_land_wsX8_land_r6 _ (List.mem_of_getElem? (i := 16) rfl), (List.forall_mem_cons.mpr ⟨ilX8_land_wsX8_land_r6 _ (List.mem_of_getElem? (i := 17) rfl), (fun _ h => absurd h List.not_mem_nil)⟩)⟩)⟩)⟩)⟩)⟩)⟩)⟩)⟩)⟩)⟩)⟩)⟩)⟩)⟩)⟩)⟩)⟩)⟩)⟩)⟩)⟩)⟩)⟩), (List.forall_mem_cons.mpr ⟨ilX8_land_wsX8_land_r6 _ (List.mem_of_getElem? (i := 18) rfl), (List.forall_mem_cons.mpr ⟨ilX8_land_wsX8_land_r6 _ (List.mem_of_getElem? (i := 19) rfl), (List.forall_mem_cons.mpr ⟨ilX8_land_wsX8_land_r1 _ (List.mem_of_getElem? (i := 15) rfl), (fun _ h => absurd h List.not_mem_nil)⟩)⟩)⟩)⟩)⟩)⟩)⟩)⟩), ilX8_land_wsX80⟩)⟩) (by decide +kernel)
set_option maxRecDepth 20000 in
theorem gX8_land_X8_fault : GoodIn wsX8_land (wsV RX8 221 RX8 yX8_fault wsX8_fault) := goodIn_app (goodIn_sub (List.forall_mem_cons.mpr ⟨ilX8_land_wsX8_land_r1 _ (List.mem_of_getElem? (i := 20) rfl), (List.forall_mem_cons.mpr ⟨ilX8_land_wsX8_land_r1 _ (List.mem_of_getElem? (i := 21) rfl), (List.forall_mem_cons.mpr ⟨ilX8_land_wsX8_land_r1 _ (List.mem_of_getElem? (i := 22) rfl), (List.forall_mem_cons.mpr ⟨ilX8_land_wsX8_land_r1 _ (List.mem_of_getElem? (i := 23) rfl), (fun _ h => absurd h List.not_mem_nil)⟩)⟩)⟩)⟩) (by decide +kernel)) ggX8_land_X8_fault
set_option maxRecDepth 20000 in
theorem ggX8_land_X8_begins : GoodIn wsX8_land wsX8_begins := goodIn_sub (List.forall_mem_cons.mpr ⟨ilX8_land_wsX8_land_r6 _ (List.mem_of_getElem? (i := 23) rfl), (List.forall_mem_append.mpr ⟨(List.forall_mem_cons.mpr ⟨ilX8_land_wsX8_land_r7 _ (List.mem_of_getElem? (i := 0) rfl), (List.forall_mem_cons.mpr ⟨ilX8_land_wsX8_land_r7 _ (List.mem_of_getElem? (i := 1) rfl), (List.forall_mem_cons.mpr ⟨ilX8_land_wsX8_land_r1 _ (List.mem_of_getElem? (i := 7) rfl), (List.forall_mem_cons.mpr ⟨ilX8_land_wsX8_land_r7 _ (List.mem_of_getElem? (i := 2) rfl), (List.forall_mem_cons.mpr ⟨ilX8_land_wsX8_land_r7 _ (List.mem_of_getElem? (i := 3) rfl), (List.forall_mem_cons.mpr ⟨ilX8_land_wsX8_land_r7 _ (List.mem_of_getElem? (i := 4) rfl), (List.forall_mem_cons.mpr ⟨ilX8_land_wsX8_land_r7 _ (List.mem_of_getElem? (i := 5) rfl), (List.forall_mem_cons.mpr ⟨ilX8_land_wsX8_land_r7 _ (List.mem_of_getElem? (i := 6) rfl), (List.forall_mem_cons.mpr ⟨ilX8_land_wsX8_land_r1 _ (List.mem_of_getElem? (i := 23) rfl), (List.forall_mem_cons.mpr ⟨ilX8_land_wsX8_land_r7 _ (List.mem_of_getElem? (i := 7) rfl), (List.forall_mem_cons.mpr ⟨ilX8_land_wsX8_land_r1 _ (List.mem_of_getElem? (i := 8) rfl), (fun _ h => absurd h List.not_mem_nil)⟩)⟩)⟩)⟩)⟩)⟩)⟩)⟩)⟩)⟩)⟩), ilX8_land_wsX80⟩)⟩) (by decide +kernel)
set_option maxRecDepth 20000 in
theorem gX8_land_X8_begins : GoodIn wsX8_land (wsV RX8 243 RX8 yX8_begins wsX8_begins) := goodIn_app (goodIn_sub (List.forall_mem_cons.mpr ⟨ilX8_land_wsX8_land_r6 _ (List.mem_of_getElem? (i := 20) rfl), (List.forall_mem_cons.mpr ⟨ilX8_land_wsX8_land_r6 _ (List.mem_of_getElem? (i := 21) rfl), (List.forall_mem_cons.mpr ⟨ilX8_land_wsX8_land_r6 _ (List.mem_of_getElem? (i := 22) rfl), (List.forall_mem_cons.mpr ⟨ilX8_land_wsX8_land_r1 _ (List.mem_of_getElem? (i := 23) rfl), (fun _ h => absurd h List.not_mem_nil)⟩)⟩)⟩)⟩) (by decide +kernel)) ggX8_land_X8_begins
theorem dX8_land_0 : decode cX8_land 0 = .ok (.aload_n 0, 1) := by decide +kernel
theorem dX8_land_1 : decode cX8_land 1 = .ok (.invokevirtual 221, 3) := by decide +kernel
theorem dX8_land_4 : decode cX8_land 4 = .ok (.iconst (-1), 1) := by decide +kernel
theorem dX8_land_5 : decode cX8_land 5 = .ok (.if_icmp .eq 5, 3) := by decide +kernel
theorem dX8_land_8 : decode cX8_land 8 = .ok (.iconst (-1), 1) := by decide +kernel
theorem dX8_land_9 : decode cX8_land 9 = .ok (.ireturn, 1) := by decide +kernel
theorem dX8_land_10 : decode cX8_land 10 = .ok (.aload_n 0, 1) := by decide +kernel
theorem dX8_land_11 : decode cX8_land 11 = .ok (.aload_n 0, 1) := by decide +kernel
theorem dX8_land_12 : decode cX8_land 12 = .ok (.getfield 13, 3) := by decide +kernel
theorem dX8_land_15 : decode cX8_land 15 = .ok (.iconst 0, 1) := by decide +kernel
theorem dX8_land_16 : decode cX8_land 16 = .ok (.iaload, 1) := by decide +kernel
theorem dX8_land_17 : decode cX8_land 17 = .ok (.putfield 224, 3) := by decide +kernel
theorem dX8_land_20 : decode cX8_land 20 = .ok (.aload_n 0, 1) := by decide +kernel
theorem dX8_land_21 : decode cX8_land 21 = .ok (.aload_n 0, 1) := by decide +kernel
theorem dX8_land_22 : decode cX8_land 22 = .ok (.getfield 13, 3) := by decide +kernel
theorem dX8_land_25 : decode cX8_land 25 = .ok (.iconst 1, 1) := by decide +kernel
theorem dX8_land_26 : decode cX8_land 26 = .ok (.iaload, 1) := by decide +kernel
theorem dX8_land_27 : decode cX8_land 27 = .ok (.putfield 227, 3) := by decide +kernel
theorem dX8_land_30 : decode cX8_land 30 = .ok (.aload_n 0, 1) := by decide +kernel
theorem dX8_land_31 : decode cX8_land 31 = .ok (.aload_n 0, 1) := by decide +kernel
theorem dX8_land_32 : decode cX8_land 32 = .ok (.getfield 13, 3) := by decide +kernel
theorem dX8_land_35 : decode cX8_land 35 = .ok (.iconst 2, 1) := by decide +kernel
theorem dX8_land_36 : decode cX8_land 36 = .ok (.iaload, 1) := by decide +kernel
theorem dX8_land_37 : decode cX8_land 37 = .ok (.iconst (-1), 1) := by decide +kernel
theorem dX8_land_38 : decode cX8_land 38 = .ok (.if_icmp .ne 8, 3) := by decide +kernel
theorem dX8_land_41 : decode cX8_land 41 = .ok (.bipush 16, 2) := by decide +kernel
theorem dX8_land_43 : decode cX8_land 43 = .ok (.goto 9, 3) := by decide +kernel
theorem dX8_land_46 : decode cX8_land 46 = .ok (.aload_n 0, 1) := by decide +kernel
theorem dX8_land_47 : decode cX8_land 47 = .ok (.getfield 13, 3) := by decide +kernel
theorem dX8_land_50 : decode cX8_land 50 = .ok (.iconst 2, 1) := by decide +kernel
theorem dX8_land_51 : decode cX8_land 51 = .ok (.iaload, 1) := by decide +kernel
theorem dX8_land_52 : decode cX8_land 52 = .ok (.putfield 230, 3) := by decide +kernel
theorem dX8_land_55 : decode cX8_land 55 = .ok (.aload_n 0, 1) := by decide +kernel
theorem dX8_land_56 : decode cX8_land 56 = .ok (.aload_n 0, 1) := by decide +kernel
theorem dX8_land_57 : decode cX8_land 57 = .ok (.getfield 13, 3) := by decide +kernel
theorem dX8_land_60 : decode cX8_land 60 = .ok (.iconst 2, 1) := by decide +kernel
theorem dX8_land_61 : decode cX8_land 61 = .ok (.iaload, 1) := by decide +kernel
theorem dX8_land_62 : decode cX8_land 62 = .ok (.iconst (-1), 1) := by decide +kernel
theorem dX8_land_63 : decode cX8_land 63 = .ok (.if_icmp .ne 7, 3) := by decide +kernel
theorem dX8_land_66 : decode cX8_land 66 = .ok (.iconst 1, 1) := by decide +kernel
theorem dX8_land_67 : decode cX8_land 67 = .ok (.goto 9, 3) := by decide +kernel
theorem dX8_land_70 : decode cX8_land 70 = .ok (.aload_n 0, 1) := by decide +kernel
theorem dX8_land_71 : decode cX8_land 71 = .ok (.getfield 13, 3) := by decide +kernel
theorem dX8_land_74 : decode cX8_land 74 = .ok (.iconst 3, 1) := by decide +kernel
theorem dX8_land_75 : decode cX8_land 75 = .ok (.iaload, 1) := by decide +kernel
theorem dX8_land_76 : decode cX8_land 76 = .ok (.putfield 232, 3) := by decide +kernel
theorem dX8_land_79 : decode cX8_land 79 = .ok (.aload_n 0, 1) := by decide +kernel
theorem dX8_land_80 : decode cX8_land 80 = .ok (.aload_n 0, 1) := by decide +kernel
theorem dX8_land_81 : decode cX8_land 81 = .ok (.getfield 13, 3) := by decide +kernel
theorem dX8_land_84 : decode cX8_land 84 = .ok (.iconst 4, 1) := by decide +kernel
theorem dX8_land_85 : decode cX8_land 85 = .ok (.iaload, 1) := by decide +kernel
theorem dX8_land_86 : decode cX8_land 86 = .ok (.iconst (-1), 1) := by decide +kernel
theorem dX8_land_87 : decode cX8_land 87 = .ok (.if_icmp .ne 7, 3) := by decide +kernel
theorem dX8_land_90 : decode cX8_land 90 = .ok (.iconst 0, 1) := by decide +kernel
theorem dX8_land_91 : decode cX8_land 91 = .ok (.goto 9, 3) := by decide +kernel
theorem dX8_land_94 : decode cX8_land 94 = .ok (.aload_n 0, 1) := by decide +kernel
theorem dX8_land_95 : decode cX8_land 95 = .ok (.getfield 13, 3) := by decide +kernel
theorem dX8_land_98 : decode cX8_land 98 = .ok (.iconst 4, 1) := by decide +kernel
theorem dX8_land_99 : decode cX8_land 99 = .ok (.iaload, 1) := by decide +kernel
theorem dX8_land_100 : decode cX8_land 100 = .ok (.putfield 235, 3) := by decide +kernel
theorem dX8_land_103 : decode cX8_land 103 = .ok (.aload_n 0, 1) := by decide +kernel
theorem dX8_land_104 : decode cX8_land 104 = .ok (.aload_n 0, 1) := by decide +kernel
theorem dX8_land_105 : decode cX8_land 105 = .ok (.getfield 179, 3) := by decide +kernel
theorem dX8_land_108 : decode cX8_land 108 = .ok (.putfield 214, 3) := by decide +kernel
theorem dX8_land_111 : decode cX8_land 111 = .ok (.iconst 0, 1) := by decide +kernel
theorem dX8_land_112 : decode cX8_land 112 = .ok (.istore_n 1, 1) := by decide +kernel
theorem dX8_land_113 : decode cX8_land 113 = .ok (.iload_n 1, 1) := by decide +kernel
theorem dX8_land_114 : decode cX8_land 114 = .ok (.bipush 36, 2) := by decide +kernel
theorem dX8_land_116 : decode cX8_land 116 = .ok (.if_icmp .ge 21, 3) := by decide +kernel
theorem dX8_land_119 : decode cX8_land 119 = .ok (.aload_n 0, 1) := by decide +kernel
theorem dX8_land_120 : decode cX8_land 120 = .ok (.getfield 27, 3) := by decide +kernel
theorem dX8_land_123 : decode cX8_land 123 = .ok (.iload_n 1, 1) := by decide +kernel
theorem dX8_land_124 : decode cX8_land 124 = .ok (.aload_n 0, 1) := by decide +kernel
theorem dX8_land_125 : decode cX8_land 125 = .ok (.getfield 21, 3) := by decide +kernel
theorem dX8_land_128 : decode cX8_land 128 = .ok (.iload_n 1, 1) := by decide +kernel
theorem dX8_land_129 : decode cX8_land 129 = .ok (.iaload, 1) := by decide +kernel
theorem dX8_land_130 : decode cX8_land 130 = .ok (.iastore, 1) := by decide +kernel
theorem dX8_land_131 : decode cX8_land 131 = .ok (.iinc 1 1, 3) := by decide +kernel
theorem dX8_land_134 : decode cX8_land 134 = .ok (.goto (-21), 3) := by decide +kernel
theorem dX8_land_137 : decode cX8_land 137 = .ok (.aload_n 0, 1) := by decide +kernel
theorem dX8_land_138 : decode cX8_land 138 = .ok (.aload_n 0, 1) := by decide +kernel
theorem dX8_land_139 : decode cX8_land 139 = .ok (.getfield 189, 3) := by decide +kernel
theorem dX8_land_142 : decode cX8_land 142 = .ok (.putfield 237, 3) := by decide +kernel
theorem dX8_land_145 : decode cX8_land 145 = .ok (.aload_n 0, 1) := by decide +kernel
theorem dX8_land_146 : decode cX8_land 146 = .ok (.aload_n 0, 1) := by decide +kernel
theorem dX8_land_147 : decode cX8_land 147 = .ok (.getfield 192, 3) := by decide +kernel
theorem dX8_land_150 : decode cX8_land 150 = .ok (.putfield 240, 3) := by decide +kernel
theorem dX8_land_153 : decode cX8_land 153 = .ok (.iconst 0, 1) := by decide +kernel
theorem dX8_land_154 : decode cX8_land 154 = .ok (.istore_n 1, 1) := by decide +kernel
theorem dX8_land_155 : decode cX8_land 155 = .ok (.iload_n 1, 1) := by decide +kernel
theorem dX8_land_156 : decode cX8_land 156 = .ok (.bipush 36, 2) := by decide +kernel
theorem dX8_land_158 : decode cX8_land 158 = .ok (.if_icmp .ge 21, 3) := by decide +kernel
theorem dX8_land_161 : decode cX8_land 161 = .ok (.aload_n 0, 1) := by decide +kernel
theorem dX8_land_162 : decode cX8_land 162 = .ok (.getfield 30, 3) := by decide +kernel
theorem dX8_land_165 : decode cX8_land 165 = .ok (.iload_n 1, 1) := by decide +kernel
theorem dX8_land_166 : decode cX8_land 166 = .ok (.aload_n 0, 1) := by decide +kernel
theorem dX8_land_167 : decode cX8_land 167 = .ok (.getfield 24, 3) := by decide +kernel
theorem dX8_land_170 : decode cX8_land 170 = .ok (.iload_n 1, 1) := by decide +kernel
theorem dX8_land_171 : decode cX8_land 171 = .ok (.iaload, 1) := by decide +kernel
theorem dX8_land_172 : decode cX8_land 172 = .ok (.iastore, 1) := by decide +kernel
theorem dX8_land_173 : decode cX8_land 173 = .ok (.iinc 1 1, 3) := by decide +kernel
theorem dX8_land_176 : decode cX8_land 176 = .ok (.goto (-21), 3) := by decide +kernel
theorem dX8_land_179 : decode cX8_land 179 = .ok (.aload_n 0, 1) := by decide +kernel
theorem dX8_land_180 : decode cX8_land 180 = .ok (.invokevirtual 243, 3) := by decide +kernel
theorem dX8_land_183 : decode cX8_land 183 = .ok (.aload_n 0, 1) := by decide +kernel
theorem dX8_land_184 : decode cX8_land 184 = .ok (.lconst 0, 1) := by decide +kernel
theorem dX8_land_185 : decode cX8_land 185 = .ok (.putfield 246, 3) := by decide +kernel
theorem dX8_land_188 : decode cX8_land 188 = .ok (.aload_n 0, 1) := by decide +kernel
theorem dX8_land_189 : decode cX8_land 189 = .ok (.iconst 0, 1) := by decide +kernel
theorem dX8_land_190 : decode cX8_land 190 = .ok (.putfield 249, 3) := by decide +kernel
theorem dX8_land_193 : decode cX8_land 193 = .ok (.iconst 0, 1) := by decide +kernel
theorem dX8_land_194 : decode cX8_land 194 = .ok (.istore_n 1, 1) := by decide +kernel
theorem dX8_land_195 : decode cX8_land 195 = .ok (.iload_n 1, 1) := by decide +kernel
theorem dX8_land_196 : decode cX8_land 196 = .ok (.iconst 3, 1) := by decide +kernel
theorem dX8_land_197 : decode cX8_land 197 = .ok (.if_icmp .ge 16, 3) := by decide +kernel
theorem dX8_land_200 : decode cX8_land 200 = .ok (.aload_n 0, 1) := by decide +kernel
theorem dX8_land_201 : decode cX8_land 201 = .ok (.getfield 45, 3) := by decide +kernel
theorem dX8_land_204 : decode cX8_land 204 = .ok (.iload_n 1, 1) := by decide +kernel
theorem dX8_land_205 : decode cX8_land 205 = .ok (.iconst 0, 1) := by decide +kernel
theorem dX8_land_206 : decode cX8_land 206 = .ok (.bastore, 1) := by decide +kernel
theorem dX8_land_207 : decode cX8_land 207 = .ok (.iinc 1 1, 3) := by decide +kernel
theorem dX8_land_210 : decode cX8_land 210 = .ok (.goto (-15), 3) := by decide +kernel
theorem dX8_land_213 : decode cX8_land 213 = .ok (.aload_n 0, 1) := by decide +kernel
theorem dX8_land_214 : decode cX8_land 214 = .ok (.iconst 0, 1) := by decide +kernel
theorem dX8_land_215 : decode cX8_land 215 = .ok (.putfield 88, 3) := by decide +kernel
theorem dX8_land_218 : decode cX8_land 218 = .ok (.aload_n 0, 1) := by decide +kernel
theorem dX8_land_219 : decode cX8_land 219 = .ok (.getfield 214, 3) := by decide +kernel
theorem dX8_land_222 : decode cX8_land 222 = .ok (.ireturn, 1) := by decide +kernel
theorem dX8_of_0 : decode cX8_of 0 = .ok (.aload_n 0, 1) := by decide +kernel
theorem dX8_of_1 : decode cX8_of 1 = .ok (.getfield 27, 3) := by decide +kernel
theorem dX8_of_4 : decode cX8_of 4 = .ok (.bipush 6, 2) := by decide +kernel
theorem dX8_of_6 : decode cX8_of 6 = .ok (.iload_n 1, 1) := by decide +kernel
theorem dX8_of_7 : decode cX8_of 7 = .ok (.imul, 1) := by decide +kernel
theorem dX8_of_8 : decode cX8_of 8 = .ok (.iload_n 2, 1) := by decide +kernel
theorem dX8_of_9 : decode cX8_of 9 = .ok (.iadd, 1) := by decide +kernel
theorem dX8_of_10 : decode cX8_of 10 = .ok (.iaload, 1) := by decide +kernel
theorem dX8_of_11 : decode cX8_of 11 = .ok (.ireturn, 1) := by decide +kernel
theorem ilX8_isSort_wsX80 : ∀ w ∈ wsX80, w ∈ wsX8_isSort := fun _ h => List.mem_cons_of_mem _ (List.mem_append_right _ (h))
set_option maxRecDepth 20000 in
theorem ggX8_isSort_X8_in : GoodIn wsX8_isSort wsX8_in := goodIn_sub (List.forall_mem_cons.mpr ⟨List.mem_cons_of_mem _ (List.mem_append_left _ (List.mem_of_getElem? (i := 4) rfl)), (fun _ h => absurd h List.not_mem_nil)⟩) (by decide +kernel)
set_option maxRecDepth 20000 in
theorem gX8_isSort_X8_in : GoodIn wsX8_isSort (va_wsS RX8 92 yX8_in wsX8_in) := goodIn_app (goodIn_of _ (by decide +kernel)) ggX8_isSort_X8_in
theorem dX8_isSort_0 : decode cX8_isSort 0 = .ok (.iload_n 1, 1) := by decide +kernel
theorem dX8_isSort_1 : decode cX8_isSort 1 = .ok (.iconst 0, 1) := by decide +kernel
theorem dX8_isSort_2 : decode cX8_isSort 2 = .ok (.aload_n 0, 1) := by decide +kernel
theorem dX8_isSort_3 : decode cX8_isSort 3 = .ok (.getfield 214, 3) := by decide +kernel
theorem dX8_isSort_6 : decode cX8_isSort 6 = .ok (.iconst 1, 1) := by decide +kernel
theorem dX8_isSort_7 : decode cX8_isSort 7 = .ok (.isub, 1) := by decide +kernel
theorem dX8_isSort_8 : decode cX8_isSort 8 = .ok (.invokestatic 92, 3) := by decide +kernel
theorem dX8_isSort_11 : decode cX8_isSort 11 = .ok (.ireturn, 1) := by decide +kernel
theorem ilX8_isNight_wsX80 : ∀ w ∈ wsX80, w ∈ wsX8_isNight := fun _ h => List.mem_cons_of_mem _ (List.mem_append_right _ (h))
set_option maxRecDepth 20000 in
theorem ggX8_isNight_X8_in : GoodIn wsX8_isNight wsX8_in := goodIn_sub (List.forall_mem_cons.mpr ⟨List.mem_cons_of_mem _ (List.mem_append_left _ (List.mem_of_getElem? (i := 4) rfl)), (fun _ h => absurd h List.not_mem_nil)⟩) (by decide +kernel)
set_option maxRecDepth 20000 in
theorem gX8_isNight_X8_in : GoodIn wsX8_isNight (va_wsS RX8 92 yX8_in wsX8_in) := goodIn_app (goodIn_of _ (by decide +kernel)) ggX8_isNight_X8_in
theorem dX8_isNight_0 : decode cX8_isNight 0 = .ok (.aload_n 0, 1) := by decide +kernel
theorem dX8_isNight_1 : decode cX8_isNight 1 = .ok (.getfield 214, 3) := by decide +kernel
theorem dX8_isNight_4 : decode cX8_isNight 4 = .ok (.ifCond .le 18, 3) := by decide +kernel
theorem dX8_isNight_7 : decode cX8_isNight 7 = .ok (.iload_n 1, 1) := by decide +kernel
theorem dX8_isNight_8 : decode cX8_isNight 8 = .ok (.iconst 0, 1) := by decide +kernel
theorem dX8_isNight_9 : decode cX8_isNight 9 = .ok (.sipush 500, 3) := by decide +kernel
theorem dX8_isNight_12 : decode cX8_isNight 12 = .ok (.invokestatic 92, 3) := by decide +kernel
theorem dX8_isNight_15 : decode cX8_isNight 15 = .ok (.ifCond .eq 7, 3) := by decide +kernel
theorem dX8_isNight_18 : decode cX8_isNight 18 = .ok (.iconst 1, 1) := by decide +kernel
theorem dX8_isNight_19 : decode cX8_isNight 19 = .ok (.goto 4, 3) := by decide +kernel
theorem dX8_isNight_22 : decode cX8_isNight 22 = .ok (.iconst 0, 1) := by decide +kernel
theorem dX8_isNight_23 : decode cX8_isNight 23 = .ok (.ireturn, 1) := by decide +kernel
theorem ilX8_sort_wsX80 : ∀ w ∈ wsX80, w ∈ wsX8_sort := fun _ h => List.mem_cons_of_mem _ (List.mem_append_right _ (h))
set_option maxRecDepth 20000 in
theorem ggX8_sort_X8_isSort : GoodIn wsX8_sort wsX8_isSort := goodIn_sub (List.forall_mem_cons.mpr ⟨List.mem_cons_of_mem _ (List.mem_append_left _ (List.mem_of_getElem? (i := 4) rfl)), (List.forall_mem_append.mpr ⟨(List.forall_mem_cons.mpr ⟨List.mem_cons_of_mem _ (List.mem_append_left _ (List.mem_of_getElem? (i := 5) rfl)), (List.forall_mem_cons.mpr ⟨List.mem_cons_of_mem _ (List.mem_append_left _ (List.mem_of_getElem? (i := 6) rfl)), (List.forall_mem_cons.mpr ⟨List.mem_cons_of_mem _ (List.mem_append_left _ (List.mem_of_getElem? (i := 7) rfl)), (List.forall_mem_cons.mpr ⟨List.mem_cons_of_mem _ (List.mem_append_left _ (List.mem_of_getElem? (i := 3) rfl)), (List.forall_mem_cons.mpr ⟨List.mem_cons_of_mem _ (List.mem_append_left _ (List.mem_of_getElem? (i := 8) rfl)), (fun _ h => absurd h List.not_mem_nil)⟩)⟩)⟩)⟩)⟩), ilX8_sort_wsX80⟩)⟩) (by decide +kernel)
set_option maxRecDepth 20000 in
theorem gX8_sort_X8_isSort : GoodIn wsX8_sort (wsV RX8 252 RX8 yX8_isSort wsX8_isSort) := goodIn_app (goodIn_sub (List.forall_mem_cons.mpr ⟨List.mem_cons_of_mem _ (List.mem_append_left _ (List.mem_of_getElem? (i := 0) rfl)), (List.forall_mem_cons.mpr ⟨List.mem_cons_of_mem _ (List.mem_append_left _ (List.mem_of_getElem? (i := 1) rfl)), (List.forall_mem_cons.mpr ⟨List.mem_cons_of_mem _ (List.mem_append_left _ (List.mem_of_getElem? (i := 2) rfl)), (List.forall_mem_cons.mpr ⟨List.mem_cons_of_mem _ (List.mem_append_left _ (List.mem_of_getElem? (i := 3) rfl)), (fun _ h => absurd h List.not_mem_nil)⟩)⟩)⟩)⟩) (by decide +kernel)) ggX8_sort_X8_isSort
set_option maxRecDepth 20000 in
theorem ggX8_sort_X8_in : GoodIn wsX8_sort wsX8_in := goodIn_sub (List.forall_mem_cons.mpr ⟨List.mem_cons_of_mem _ (List.mem_append_left _ (List.mem_of_getElem? (i := 8) rfl)), (fun _ h => absurd h List.not_mem_nil)⟩) (by decide +kernel)
set_option maxRecDepth 20000 in
theorem gX8_sort_X8_in : GoodIn wsX8_sort (va_wsS RX8 92 yX8_in wsX8_in) := goodIn_app (goodIn_of _ (by decide +kernel)) ggX8_sort_X8_in
set_option maxRecDepth 20000 in
theorem ggX8_sort_X8_of : GoodIn wsX8_sort wsX8_of := goodIn_sub (List.forall_mem_cons.mpr ⟨List.mem_cons_of_mem _ (List.mem_append_left _ (List.mem_of_getElem? (i := 12) rfl)), (List.forall_mem_append.mpr ⟨(List.forall_mem_cons.mpr ⟨List.mem_cons_of_mem _ (List.mem_append_left _ (List.mem_of_getElem? (i := 13) rfl)), (fun _ h => absurd h List.not_mem_nil)⟩), ilX8_sort_wsX80⟩)⟩) (by decide +kernel)
set_option maxRecDepth 20000 in
theorem gX8_sort_X8_of : GoodIn wsX8_sort (wsV RX8 217 RX8 yX8_of wsX8_of) := goodIn_app (goodIn_sub (List.forall_mem_cons.mpr ⟨List.mem_cons_of_mem _ (List.mem_append_left _ (List.mem_of_getElem? (i := 9) rfl)), (List.forall_mem_cons.mpr ⟨List.mem_cons_of_mem _ (List.mem_append_left _ (List.mem_of_getElem? (i := 10) rfl)), (List.forall_mem_cons.mpr ⟨List.mem_cons_of_mem _ (List.mem_append_left _ (List.mem_of_getElem? (i := 11) rfl)), (List.forall_mem_cons.mpr ⟨List.mem_cons_of_mem _ (List.mem_append_left _ (List.mem_of_getElem? (i := 3) rfl)), (fun _ h => absurd h List.not_mem_nil)⟩)⟩)⟩)⟩) (by decide +kernel)) ggX8_sort_X8_of
theorem dX8_sort_0 : decode cX8_sort 0 = .ok (.aload_n 0, 1) := by decide +kernel
theorem dX8_sort_1 : decode cX8_sort 1 = .ok (.iload_n 1, 1) := by decide +kernel
theorem dX8_sort_2 : decode cX8_sort 2 = .ok (.invokevirtual 252, 3) := by decide +kernel
theorem dX8_sort_5 : decode cX8_sort 5 = .ok (.ifCond .eq 21, 3) := by decide +kernel
theorem dX8_sort_8 : decode cX8_sort 8 = .ok (.iload_n 2, 1) := by decide +kernel
theorem dX8_sort_9 : decode cX8_sort 9 = .ok (.iconst 0, 1) := by decide +kernel
theorem dX8_sort_10 : decode cX8_sort 10 = .ok (.iconst 5, 1) := by decide +kernel
theorem dX8_sort_11 : decode cX8_sort 11 = .ok (.invokestatic 92, 3) := by decide +kernel
theorem dX8_sort_14 : decode cX8_sort 14 = .ok (.ifCond .eq 12, 3) := by decide +kernel
theorem dX8_sort_17 : decode cX8_sort 17 = .ok (.aload_n 0, 1) := by decide +kernel
theorem dX8_sort_18 : decode cX8_sort 18 = .ok (.iload_n 1, 1) := by decide +kernel
theorem dX8_sort_19 : decode cX8_sort 19 = .ok (.iload_n 2, 1) := by decide +kernel
theorem dX8_sort_20 : decode cX8_sort 20 = .ok (.invokevirtual 217, 3) := by decide +kernel
theorem dX8_sort_23 : decode cX8_sort 23 = .ok (.goto 4, 3) := by decide +kernel
theorem dX8_sort_26 : decode cX8_sort 26 = .ok (.iconst (-1), 1) := by decide +kernel
theorem dX8_sort_27 : decode cX8_sort 27 = .ok (.ireturn, 1) := by decide +kernel
theorem dX8_isStruck_0 : decode cX8_isStruck 0 = .ok (.iload_n 1, 1) := by decide +kernel
theorem dX8_isStruck_1 : decode cX8_isStruck 1 = .ok (.ifCond .le 27, 3) := by decide +kernel
theorem dX8_isStruck_4 : decode cX8_isStruck 4 = .ok (.iload_n 1, 1) := by decide +kernel
theorem dX8_isStruck_5 : decode cX8_isStruck 5 = .ok (.aload_n 0, 1) := by decide +kernel
theorem dX8_isStruck_6 : decode cX8_isStruck 6 = .ok (.getfield 224, 3) := by decide +kernel
theorem dX8_isStruck_9 : decode cX8_isStruck 9 = .ok (.irem, 1) := by decide +kernel
theorem dX8_isStruck_10 : decode cX8_isStruck 10 = .ok (.ifCond .ne 18, 3) := by decide +kernel
theorem dX8_isStruck_13 : decode cX8_isStruck 13 = .ok (.iload_n 1, 1) := by decide +kernel
theorem dX8_isStruck_14 : decode cX8_isStruck 14 = .ok (.aload_n 0, 1) := by decide +kernel
theorem dX8_isStruck_15 : decode cX8_isStruck 15 = .ok (.getfield 224, 3) := by decide +kernel
theorem dX8_isStruck_18 : decode cX8_isStruck 18 = .ok (.idiv, 1) := by decide +kernel
theorem dX8_isStruck_19 : decode cX8_isStruck 19 = .ok (.iload_n 2, 1) := by decide +kernel
theorem dX8_isStruck_20 : decode cX8_isStruck 20 = .ok (.irem, 1) := by decide +kernel
theorem dX8_isStruck_21 : decode cX8_isStruck 21 = .ok (.ifCond .ne 7, 3) := by decide +kernel
theorem dX8_isStruck_24 : decode cX8_isStruck 24 = .ok (.iconst 1, 1) := by decide +kernel
theorem dX8_isStruck_25 : decode cX8_isStruck 25 = .ok (.goto 4, 3) := by decide +kernel
theorem dX8_isStruck_28 : decode cX8_isStruck 28 = .ok (.iconst 0, 1) := by decide +kernel
theorem dX8_isStruck_29 : decode cX8_isStruck 29 = .ok (.ireturn, 1) := by decide +kernel
theorem ilX8_backOf_wsX80 : ∀ w ∈ wsX80, w ∈ wsX8_backOf := fun _ h => List.mem_cons_of_mem _ (List.mem_append_right _ (h))
set_option maxRecDepth 20000 in
theorem ggX8_backOf_X8_of : GoodIn wsX8_backOf wsX8_of := goodIn_sub (List.forall_mem_cons.mpr ⟨List.mem_cons_of_mem _ (List.mem_append_left _ (List.mem_of_getElem? (i := 5) rfl)), (List.forall_mem_append.mpr ⟨(List.forall_mem_cons.mpr ⟨List.mem_cons_of_mem _ (List.mem_append_left _ (List.mem_of_getElem? (i := 6) rfl)), (fun _ h => absurd h List.not_mem_nil)⟩), ilX8_backOf_wsX80⟩)⟩) (by decide +kernel)
set_option maxRecDepth 20000 in
theorem gX8_backOf_X8_of : GoodIn wsX8_backOf (wsV RX8 217 RX8 yX8_of wsX8_of) := goodIn_app (goodIn_sub (List.forall_mem_cons.mpr ⟨List.mem_cons_of_mem _ (List.mem_append_left _ (List.mem_of_getElem? (i := 1) rfl)), (List.forall_mem_cons.mpr ⟨List.mem_cons_of_mem _ (List.mem_append_left _ (List.mem_of_getElem? (i := 2) rfl)), (List.forall_mem_cons.mpr ⟨List.mem_cons_of_mem _ (List.mem_append_left _ (List.mem_of_getElem? (i := 3) rfl)), (List.forall_mem_cons.mpr ⟨List.mem_cons_of_mem _ (List.mem_append_left _ (List.mem_of_getElem? (i := 4) rfl)), (fun _ h => absurd h List.not_mem_nil)⟩)⟩)⟩)⟩) (by decide +kernel)) ggX8_backOf_X8_of
set_option maxRecDepth 20000 in
theorem ggX8_backOf_X8_isStruck : GoodIn wsX8_backOf wsX8_isStruck := goodIn_sub (List.forall_mem_cons.mpr ⟨List.mem_cons_of_mem _ (List.mem_append_left _ (List.mem_of_getElem? (i := 10) rfl)), (List.forall_mem_append.mpr ⟨(List.forall_mem_cons.mpr ⟨List.mem_cons_of_mem _ (List.mem_append_left _ (List.mem_of_getElem? (i := 11) rfl)), (fun _ h => absurd h List.not_mem_nil)⟩), ilX8_backOf_wsX80⟩)⟩) (by decide +kernel)
set_option maxRecDepth 20000 in
theorem gX8_backOf_X8_isStruck : GoodIn wsX8_backOf (wsV RX8 255 RX8 yX8_isStruck wsX8_isStruck) := goodIn_app (goodIn_sub (List.forall_mem_cons.mpr ⟨List.mem_cons_of_mem _ (List.mem_append_left _ (List.mem_of_getElem? (i := 7) rfl)), (List.forall_mem_cons.mpr ⟨List.mem_cons_of_mem _ (List.mem_append_left _ (List.mem_of_getElem? (i := 8) rfl)), (List.forall_mem_cons.mpr ⟨List.mem_cons_of_mem _ (List.mem_append_left _ (List.mem_of_getElem? (i := 9) rfl)), (List.forall_mem_cons.mpr ⟨List.mem_cons_of_mem _ (List.mem_append_left _ (List.mem_of_getElem? (i := 4) rfl)), (fun _ h => absurd h List.not_mem_nil)⟩)⟩)⟩)⟩) (by decide +kernel)) ggX8_backOf_X8_isStruck
theorem dX8_backOf_0 : decode cX8_backOf 0 = .ok (.sipush 1000, 3) := by decide +kernel
theorem dX8_backOf_3 : decode cX8_backOf 3 = .ok (.istore 5, 2) := by decide +kernel
theorem dX8_backOf_5 : decode cX8_backOf 5 = .ok (.iload_n 2, 1) := by decide +kernel
theorem dX8_backOf_6 : decode cX8_backOf 6 = .ok (.iconst 1, 1) := by decide +kernel
theorem dX8_backOf_7 : decode cX8_backOf 7 = .ok (.iadd, 1) := by decide +kernel
theorem dX8_backOf_8 : decode cX8_backOf 8 = .ok (.istore 6, 2) := by decide +kernel
theorem dX8_backOf_10 : decode cX8_backOf 10 = .ok (.iload 6, 2) := by decide +kernel
theorem dX8_backOf_12 : decode cX8_backOf 12 = .ok (.iload_n 2, 1) := by decide +kernel
theorem dX8_backOf_13 : decode cX8_backOf 13 = .ok (.aload_n 0, 1) := by decide +kernel
theorem dX8_backOf_14 : decode cX8_backOf 14 = .ok (.iload_n 1, 1) := by decide +kernel
theorem dX8_backOf_15 : decode cX8_backOf 15 = .ok (.iconst 3, 1) := by decide +kernel
theorem dX8_backOf_16 : decode cX8_backOf 16 = .ok (.invokevirtual 217, 3) := by decide +kernel
theorem dX8_backOf_19 : decode cX8_backOf 19 = .ok (.iadd, 1) := by decide +kernel
theorem dX8_backOf_20 : decode cX8_backOf 20 = .ok (.if_icmp .ge 42, 3) := by decide +kernel
theorem dX8_backOf_23 : decode cX8_backOf 23 = .ok (.aload_n 0, 1) := by decide +kernel
theorem dX8_backOf_24 : decode cX8_backOf 24 = .ok (.iload 6, 2) := by decide +kernel
theorem dX8_backOf_26 : decode cX8_backOf 26 = .ok (.iload 4, 2) := by decide +kernel
theorem dX8_backOf_28 : decode cX8_backOf 28 = .ok (.invokevirtual 255, 3) := by decide +kernel
theorem dX8_backOf_31 : decode cX8_backOf 31 = .ok (.ifCond .eq 25, 3) := by decide +kernel
theorem dX8_backOf_34 : decode cX8_backOf 34 = .ok (.iload 5, 2) := by decide +kernel
theorem dX8_backOf_36 : decode cX8_backOf 36 = .ok (.sipush 256, 3) := by decide +kernel
theorem dX8_backOf_39 : decode cX8_backOf 39 = .ok (.iload_n 3, 1) := by decide +kernel
theorem dX8_backOf_40 : decode cX8_backOf 40 = .ok (.bipush 16, 2) := by decide +kernel
theorem dX8_backOf_42 : decode cX8_backOf 42 = .ok (.aload_n 0, 1) := by decide +kernel
theorem dX8_backOf_43 : decode cX8_backOf 43 = .ok (.getfield 227, 3) := by decide +kernel
theorem dX8_backOf_46 : decode cX8_backOf 46 = .ok (.isub, 1) := by decide +kernel
theorem dX8_backOf_47 : decode cX8_backOf 47 = .ok (.imul, 1) := by decide +kernel
theorem dX8_backOf_48 : decode cX8_backOf 48 = .ok (.isub, 1) := by decide +kernel
theorem dX8_backOf_49 : decode cX8_backOf 49 = .ok (.imul, 1) := by decide +kernel
theorem dX8_backOf_50 : decode cX8_backOf 50 = .ok (.sipush 256, 3) := by decide +kernel
theorem dX8_backOf_53 : decode cX8_backOf 53 = .ok (.idiv, 1) := by decide +kernel
theorem dX8_backOf_54 : decode cX8_backOf 54 = .ok (.istore 5, 2) := by decide +kernel
theorem dX8_backOf_56 : decode cX8_backOf 56 = .ok (.iinc 6 1, 3) := by decide +kernel
theorem dX8_backOf_59 : decode cX8_backOf 59 = .ok (.goto (-49), 3) := by decide +kernel
theorem dX8_backOf_62 : decode cX8_backOf 62 = .ok (.iload 5, 2) := by decide +kernel
theorem dX8_backOf_64 : decode cX8_backOf 64 = .ok (.sipush 1000, 3) := by decide +kernel
theorem dX8_backOf_67 : decode cX8_backOf 67 = .ok (.iload 5, 2) := by decide +kernel
theorem dX8_backOf_69 : decode cX8_backOf 69 = .ok (.isub, 1) := by decide +kernel
theorem dX8_backOf_70 : decode cX8_backOf 70 = .ok (.aload_n 0, 1) := by decide +kernel
theorem dX8_backOf_71 : decode cX8_backOf 71 = .ok (.iload_n 1, 1) := by decide +kernel
theorem dX8_backOf_72 : decode cX8_backOf 72 = .ok (.iconst 5, 1) := by decide +kernel
theorem dX8_backOf_73 : decode cX8_backOf 73 = .ok (.invokevirtual 217, 3) := by decide +kernel
theorem dX8_backOf_76 : decode cX8_backOf 76 = .ok (.imul, 1) := by decide +kernel
theorem dX8_backOf_77 : decode cX8_backOf 77 = .ok (.bipush 16, 2) := by decide +kernel
theorem dX8_backOf_79 : decode cX8_backOf 79 = .ok (.idiv, 1) := by decide +kernel
theorem dX8_backOf_80 : decode cX8_backOf 80 = .ok (.iadd, 1) := by decide +kernel
theorem dX8_backOf_81 : decode cX8_backOf 81 = .ok (.ireturn, 1) := by decide +kernel
theorem ilX8_leastOf_wsX80 : ∀ w ∈ wsX80, w ∈ wsX8_leastOf := fun _ h => List.mem_cons_of_mem _ (List.mem_append_right _ (h))
set_option maxRecDepth 20000 in
theorem ggX8_leastOf_X8_of : GoodIn wsX8_leastOf wsX8_of := goodIn_sub (List.forall_mem_cons.mpr ⟨List.mem_cons_of_mem _ (List.mem_append_left _ (List.mem_of_getElem? (i := 5) rfl)), (List.forall_mem_append.mpr ⟨(List.forall_mem_cons.mpr ⟨List.mem_cons_of_mem _ (List.mem_append_left _ (List.mem_of_getElem? (i := 6) rfl)), (fun _ h => absurd h List.not_mem_nil)⟩), ilX8_leastOf_wsX80⟩)⟩) (by decide +kernel)
set_option maxRecDepth 20000 in
theorem gX8_leastOf_X8_of : GoodIn wsX8_leastOf (wsV RX8 217 RX8 yX8_of wsX8_of) := goodIn_app (goodIn_sub (List.forall_mem_cons.mpr ⟨List.mem_cons_of_mem _ (List.mem_append_left _ (List.mem_of_getElem? (i := 1) rfl)), (List.forall_mem_cons.mpr ⟨List.mem_cons_of_mem _ (List.mem_append_left _ (List.mem_of_getElem? (i := 2) rfl)), (List.forall_mem_cons.mpr ⟨List.mem_cons_of_mem _ (List.mem_append_left _ (List.mem_of_getElem? (i := 3) rfl)), (List.forall_mem_cons.mpr ⟨List.mem_cons_of_mem _ (List.mem_append_left _ (List.mem_of_getElem? (i := 4) rfl)), (fun _ h => absurd h List.not_mem_nil)⟩)⟩)⟩)⟩) (by decide +kernel)) ggX8_leastOf_X8_of
theorem dX8_leastOf_0 : decode cX8_leastOf 0 = .ok (.iconst 0, 1) := by decide +kernel
theorem dX8_leastOf_1 : decode cX8_leastOf 1 = .ok (.istore_n 3, 1) := by decide +kernel
theorem dX8_leastOf_2 : decode cX8_leastOf 2 = .ok (.iload_n 3, 1) := by decide +kernel
theorem dX8_leastOf_3 : decode cX8_leastOf 3 = .ok (.sipush 400, 3) := by decide +kernel
theorem dX8_leastOf_6 : decode cX8_leastOf 6 = .ok (.if_icmp .gt 39, 3) := by decide +kernel
theorem dX8_leastOf_9 : decode cX8_leastOf 9 = .ok (.bipush 100, 2) := by decide +kernel
theorem dX8_leastOf_11 : decode cX8_leastOf 11 = .ok (.iload_n 3, 1) := by decide +kernel
theorem dX8_leastOf_12 : decode cX8_leastOf 12 = .ok (.iadd, 1) := by decide +kernel
theorem dX8_leastOf_13 : decode cX8_leastOf 13 = .ok (.iload_n 2, 1) := by decide +kernel
theorem dX8_leastOf_14 : decode cX8_leastOf 14 = .ok (.imul, 1) := by decide +kernel
theorem dX8_leastOf_15 : decode cX8_leastOf 15 = .ok (.sipush 1000, 3) := by decide +kernel
theorem dX8_leastOf_18 : decode cX8_leastOf 18 = .ok (.idiv, 1) := by decide +kernel
theorem dX8_leastOf_19 : decode cX8_leastOf 19 = .ok (.bipush 100, 2) := by decide +kernel
theorem dX8_leastOf_21 : decode cX8_leastOf 21 = .ok (.aload_n 0, 1) := by decide +kernel
theorem dX8_leastOf_22 : decode cX8_leastOf 22 = .ok (.getfield 235, 3) := by decide +kernel
theorem dX8_leastOf_25 : decode cX8_leastOf 25 = .ok (.aload_n 0, 1) := by decide +kernel
theorem dX8_leastOf_26 : decode cX8_leastOf 26 = .ok (.iload_n 1, 1) := by decide +kernel
theorem dX8_leastOf_27 : decode cX8_leastOf 27 = .ok (.iconst 3, 1) := by decide +kernel
theorem dX8_leastOf_28 : decode cX8_leastOf 28 = .ok (.invokevirtual 217, 3) := by decide +kernel
theorem dX8_leastOf_31 : decode cX8_leastOf 31 = .ok (.imul, 1) := by decide +kernel
theorem dX8_leastOf_32 : decode cX8_leastOf 32 = .ok (.bipush 10, 2) := by decide +kernel
theorem dX8_leastOf_34 : decode cX8_leastOf 34 = .ok (.idiv, 1) := by decide +kernel
theorem dX8_leastOf_35 : decode cX8_leastOf 35 = .ok (.iadd, 1) := by decide +kernel
theorem dX8_leastOf_36 : decode cX8_leastOf 36 = .ok (.if_icmp .ge 9, 3) := by decide +kernel
theorem dX8_leastOf_39 : decode cX8_leastOf 39 = .ok (.iinc 3 1, 3) := by decide +kernel
theorem dX8_leastOf_42 : decode cX8_leastOf 42 = .ok (.goto (-40), 3) := by decide +kernel
theorem dX8_leastOf_45 : decode cX8_leastOf 45 = .ok (.iload_n 3, 1) := by decide +kernel
theorem dX8_leastOf_46 : decode cX8_leastOf 46 = .ok (.sipush 400, 3) := by decide +kernel
theorem dX8_leastOf_49 : decode cX8_leastOf 49 = .ok (.if_icmp .le 7, 3) := by decide +kernel
theorem dX8_leastOf_52 : decode cX8_leastOf 52 = .ok (.iconst (-1), 1) := by decide +kernel
theorem dX8_leastOf_53 : decode cX8_leastOf 53 = .ok (.goto 4, 3) := by decide +kernel
theorem dX8_leastOf_56 : decode cX8_leastOf 56 = .ok (.iload_n 3, 1) := by decide +kernel
theorem dX8_leastOf_57 : decode cX8_leastOf 57 = .ok (.ireturn, 1) := by decide +kernel
theorem ilX8_mostPrice_wsX80 : ∀ w ∈ wsX80, w ∈ wsX8_mostPrice := fun _ h => List.mem_cons_of_mem _ (List.mem_append_right _ (h))
set_option maxRecDepth 20000 in
theorem ggX8_mostPrice_X8_of : GoodIn wsX8_mostPrice wsX8_of := goodIn_sub (List.forall_mem_cons.mpr ⟨List.mem_cons_of_mem _ (List.mem_append_left _ (List.mem_of_getElem? (i := 8) rfl)), (List.forall_mem_append.mpr ⟨(List.forall_mem_cons.mpr ⟨List.mem_cons_of_mem _ (List.mem_append_left _ (List.mem_of_getElem? (i := 9) rfl)), (fun _ h => absurd h List.not_mem_nil)⟩), ilX8_mostPrice_wsX80⟩)⟩) (by decide +kernel)
set_option maxRecDepth 20000 in
theorem gX8_mostPrice_X8_of : GoodIn wsX8_mostPrice (wsV RX8 217 RX8 yX8_of wsX8_of) := goodIn_app (goodIn_sub (List.forall_mem_cons.mpr ⟨List.mem_cons_of_mem _ (List.mem_append_left _ (List.mem_of_getElem? (i := 4) rfl)), (List.forall_mem_cons.mpr ⟨List.mem_cons_of_mem _ (List.mem_append_left _ (List.mem_of_getElem? (i := 5) rfl)), (List.forall_mem_cons.mpr ⟨List.mem_cons_of_mem _ (List.mem_append_left _ (List.mem_of_getElem? (i := 6) rfl)), (List.forall_mem_cons.mpr ⟨List.mem_cons_of_mem _ (List.mem_append_left _ (List.mem_of_getElem? (i := 7) rfl)), (fun _ h => absurd h List.not_mem_nil)⟩)⟩)⟩)⟩) (by decide +kernel)) ggX8_mostPrice_X8_of
theorem dX8_mostPrice_0 : decode cX8_mostPrice 0 = .ok (.aload_n 0, 1) := by decide +kernel
theorem dX8_mostPrice_1 : decode cX8_mostPrice 1 = .ok (.iload_n 1, 1) := by decide +kernel
theorem dX8_mostPrice_2 : decode cX8_mostPrice 2 = .ok (.iconst 2, 1) := by decide +kernel
theorem dX8_mostPrice_3 : decode cX8_mostPrice 3 = .ok (.invokevirtual 217, 3) := by decide +kernel
theorem dX8_mostPrice_6 : decode cX8_mostPrice 6 = .ok (.istore_n 2, 1) := by decide +kernel
theorem dX8_mostPrice_7 : decode cX8_mostPrice 7 = .ok (.iload_n 2, 1) := by decide +kernel
theorem dX8_mostPrice_8 : decode cX8_mostPrice 8 = .ok (.ifCond .ne 7, 3) := by decide +kernel
theorem dX8_mostPrice_11 : decode cX8_mostPrice 11 = .ok (.iconst (-1), 1) := by decide +kernel
theorem dX8_mostPrice_12 : decode cX8_mostPrice 12 = .ok (.goto 20, 3) := by decide +kernel
theorem dX8_mostPrice_15 : decode cX8_mostPrice 15 = .ok (.sipush 400, 3) := by decide +kernel
theorem dX8_mostPrice_18 : decode cX8_mostPrice 18 = .ok (.aload_n 0, 1) := by decide +kernel
theorem dX8_mostPrice_19 : decode cX8_mostPrice 19 = .ok (.iload_n 1, 1) := by decide +kernel
theorem dX8_mostPrice_20 : decode cX8_mostPrice 20 = .ok (.iconst 4, 1) := by decide +kernel
theorem dX8_mostPrice_21 : decode cX8_mostPrice 21 = .ok (.invokevirtual 217, 3) := by decide +kernel
theorem dX8_mostPrice_24 : decode cX8_mostPrice 24 = .ok (.bipush 100, 2) := by decide +kernel
theorem dX8_mostPrice_26 : decode cX8_mostPrice 26 = .ok (.imul, 1) := by decide +kernel
theorem dX8_mostPrice_27 : decode cX8_mostPrice 27 = .ok (.iload_n 2, 1) := by decide +kernel
theorem dX8_mostPrice_28 : decode cX8_mostPrice 28 = .ok (.idiv, 1) := by decide +kernel
theorem dX8_mostPrice_29 : decode cX8_mostPrice 29 = .ok (.invokestatic 258, 3) := by decide +kernel
theorem dX8_mostPrice_32 : decode cX8_mostPrice 32 = .ok (.ireturn, 1) := by decide +kernel
theorem ilX8_back_wsX8_back_r1 : ∀ w ∈ wsX8_back_r1, w ∈ wsX8_back := fun _ h => List.mem_cons_of_mem _ (List.mem_append_left _ (List.mem_append_left _ (h)))
theorem ilX8_back_wsX8_back_r2 : ∀ w ∈ wsX8_back_r2, w ∈ wsX8_back := fun _ h => List.mem_cons_of_mem _ (List.mem_append_left _ (List.mem_append_right _ (h)))
theorem ilX8_back_wsX80 : ∀ w ∈ wsX80, w ∈ wsX8_back := fun _ h => List.mem_cons_of_mem _ (List.mem_append_right _ (h))
set_option maxRecDepth 20000 in
theorem ggX8_back_X8_isSort : GoodIn wsX8_back wsX8_isSort := goodIn_sub (List.forall_mem_cons.mpr ⟨ilX8_back_wsX8_back_r1 _ (List.mem_of_getElem? (i := 6) rfl), (List.forall_mem_append.mpr ⟨(List.forall_mem_cons.mpr ⟨ilX8_back_wsX8_back_r1 _ (List.mem_of_getElem? (i := 7) rfl), (List.forall_mem_cons.mpr ⟨ilX8_back_wsX8_back_r1 _ (List.mem_of_getElem? (i := 8) rfl), (List.forall_mem_cons.mpr ⟨ilX8_back_wsX8_back_r1 _ (List.mem_of_getElem? (i := 9) rfl), (List.forall_mem_cons.mpr ⟨ilX8_back_wsX8_back_r1 _ (List.mem_of_getElem? (i := 5) rfl), (List.forall_mem_cons.mpr ⟨ilX8_back_wsX8_back_r1 _ (List.mem_of_getElem? (i := 10) rfl), (fun _ h => absurd h List.not_mem_nil)⟩)⟩)⟩)⟩)⟩), ilX8_back_wsX80⟩)⟩) (by decide +kernel)
set_option maxRecDepth 20000 in
theorem gX8_back_X8_isSort : GoodIn wsX8_back (wsV RX8 252 RX8 yX8_isSort wsX8_isSort) := goodIn_app (goodIn_sub (List.forall_mem_cons.mpr ⟨ilX8_back_wsX8_back_r1 _ (List.mem_of_getElem? (i := 2) rfl), (List.forall_mem_cons.mpr ⟨ilX8_back_wsX8_back_r1 _ (List.mem_of_getElem? (i := 3) rfl), (List.forall_mem_cons.mpr ⟨ilX8_back_wsX8_back_r1 _ (List.mem_of_getElem? (i := 4) rfl), (List.forall_mem_cons.mpr ⟨ilX8_back_wsX8_back_r1 _ (List.mem_of_getElem? (i := 5) rfl), (fun _ h => absurd h List.not_mem_nil)⟩)⟩)⟩)⟩) (by decide +kernel)) ggX8_back_X8_isSort
set_option maxRecDepth 20000 in
theorem ggX8_back_X8_isNight : GoodIn wsX8_back wsX8_isNight := goodIn_sub (List.forall_mem_cons.mpr ⟨ilX8_back_wsX8_back_r1 _ (List.mem_of_getElem? (i := 14) rfl), (List.forall_mem_append.mpr ⟨(List.forall_mem_cons.mpr ⟨ilX8_back_wsX8_back_r1 _ (List.mem_of_getElem? (i := 7) rfl), (List.forall_mem_cons.mpr ⟨ilX8_back_wsX8_back_r1 _ (List.mem_of_getElem? (i := 8) rfl), (List.forall_mem_cons.mpr ⟨ilX8_back_wsX8_back_r1 _ (List.mem_of_getElem? (i := 9) rfl), (List.forall_mem_cons.mpr ⟨ilX8_back_wsX8_back_r1 _ (List.mem_of_getElem? (i := 5) rfl), (List.forall_mem_cons.mpr ⟨ilX8_back_wsX8_back_r1 _ (List.mem_of_getElem? (i := 10) rfl), (fun _ h => absurd h List.not_mem_nil)⟩)⟩)⟩)⟩)⟩), ilX8_back_wsX80⟩)⟩) (by decide +kernel)
set_option maxRecDepth 20000 in
theorem gX8_back_X8_isNight : GoodIn wsX8_back (wsV RX8 263 RX8 yX8_isNight wsX8_isNight) := goodIn_app (goodIn_sub (List.forall_mem_cons.mpr ⟨ilX8_back_wsX8_back_r1 _ (List.mem_of_getElem? (i := 11) rfl), (List.forall_mem_cons.mpr ⟨ilX8_back_wsX8_back_r1 _ (List.mem_of_getElem? (i := 12) rfl), (List.forall_mem_cons.mpr ⟨ilX8_back_wsX8_back_r1 _ (List.mem_of_getElem? (i := 13) rfl), (List.forall_mem_cons.mpr ⟨ilX8_back_wsX8_back_r1 _ (List.mem_of_getElem? (i := 5) rfl), (fun _ h => absurd h List.not_mem_nil)⟩)⟩)⟩)⟩) (by decide +kernel)) ggX8_back_X8_isNight
set_option maxRecDepth 20000 in
theorem ggX8_back_X8_in : GoodIn wsX8_back wsX8_in := goodIn_sub (List.forall_mem_cons.mpr ⟨ilX8_back_wsX8_back_r1 _ (List.mem_of_getElem? (i := 10) rfl), (fun _ h => absurd h List.not_mem_nil)⟩) (by decide +kernel)
set_option maxRecDepth 20000 in
theorem gX8_back_X8_in : GoodIn wsX8_back (va_wsS RX8 92 yX8_in wsX8_in) := goodIn_app (goodIn_of _ (by decide +kernel)) ggX8_back_X8_in
set_option maxRecDepth 20000 in
theorem ggX8_back_X8_backOf : GoodIn wsX8_back wsX8_backOf := goodIn_sub (List.forall_mem_cons.mpr ⟨ilX8_back_wsX8_back_r1 _ (List.mem_of_getElem? (i := 18) rfl), (List.forall_mem_append.mpr ⟨(List.forall_mem_cons.mpr ⟨ilX8_back_wsX8_back_r1 _ (List.mem_of_getElem? (i := 19) rfl), (List.forall_mem_cons.mpr ⟨ilX8_back_wsX8_back_r1 _ (List.mem_of_getElem? (i := 20) rfl), (List.forall_mem_cons.mpr ⟨ilX8_back_wsX8_back_r1 _ (List.mem_of_getElem? (i := 21) rfl), (List.forall_mem_cons.mpr ⟨ilX8_back_wsX8_back_r1 _ (List.mem_of_getElem? (i := 22) rfl), (List.forall_mem_cons.mpr ⟨ilX8_back_wsX8_back_r1 _ (List.mem_of_getElem? (i := 5) rfl), (List.forall_mem_cons.mpr ⟨ilX8_back_wsX8_back_r1 _ (List.mem_of_getElem? (i := 23) rfl), (List.forall_mem_cons.mpr ⟨ilX8_back_wsX8_back_r2 _ (List.mem_of_getElem? (i := 0) rfl), (List.forall_mem_cons.mpr ⟨ilX8_back_wsX8_back_r2 _ (List.mem_of_getElem? (i := 1) rfl), (List.forall_mem_cons.mpr ⟨ilX8_back_wsX8_back_r2 _ (List.mem_of_getElem? (i := 2) rfl), (List.forall_mem_cons.mpr ⟨ilX8_back_wsX8_back_r2 _ (List.mem_of_getElem? (i := 3) rfl), (List.forall_mem_cons.mpr ⟨ilX8_back_wsX8_back_r2 _ (List.mem_of_getElem? (i := 4) rfl), (List.forall_mem_cons.mpr ⟨ilX8_back_wsX8_back_r2 _ (List.mem_of_getElem? (i := 5) rfl), (fun _ h => absurd h List.not_mem_nil)⟩)⟩)⟩)⟩)⟩)⟩)⟩)⟩)⟩)⟩)⟩)⟩), ilX8_back_wsX80⟩)⟩) (by decide +kernel)
set_option maxRecDepth 20000 in
theorem gX8_back_X8_backOf : GoodIn wsX8_back (wsV RX8 266 RX8 yX8_backOf wsX8_backOf) := goodIn_app (goodIn_sub (List.forall_mem_cons.mpr ⟨ilX8_back_wsX8_back_r1 _ (List.mem_of_getElem? (i := 15) rfl), (List.forall_mem_cons.mpr ⟨ilX8_back_wsX8_back_r1 _ (List.mem_of_getElem? (i := 16) rfl), (List.forall_mem_cons.mpr ⟨ilX8_back_wsX8_back_r1 _ (List.mem_of_getElem? (i := 17) rfl), (List.forall_mem_cons.mpr ⟨ilX8_back_wsX8_back_r1 _ (List.mem_of_getElem? (i := 5) rfl), (fun _ h => absurd h List.not_mem_nil)⟩)⟩)⟩)⟩) (by decide +kernel)) ggX8_back_X8_backOf
set_option maxRecDepth 20000 in
theorem ggX8_back_X8_leastOf : GoodIn wsX8_back wsX8_leastOf := goodIn_sub (List.forall_mem_cons.mpr ⟨ilX8_back_wsX8_back_r2 _ (List.mem_of_getElem? (i := 9) rfl), (List.forall_mem_append.mpr ⟨(List.forall_mem_cons.mpr ⟨ilX8_back_wsX8_back_r2 _ (List.mem_of_getElem? (i := 10) rfl), (List.forall_mem_cons.mpr ⟨ilX8_back_wsX8_back_r1 _ (List.mem_of_getElem? (i := 20) rfl), (List.forall_mem_cons.mpr ⟨ilX8_back_wsX8_back_r1 _ (List.mem_of_getElem? (i := 21) rfl), (List.forall_mem_cons.mpr ⟨ilX8_back_wsX8_back_r1 _ (List.mem_of_getElem? (i := 22) rfl), (List.forall_mem_cons.mpr ⟨ilX8_back_wsX8_back_r1 _ (List.mem_of_getElem? (i := 5) rfl), (List.forall_mem_cons.mpr ⟨ilX8_back_wsX8_back_r1 _ (List.mem_of_getElem? (i := 23) rfl), (List.forall_mem_cons.mpr ⟨ilX8_back_wsX8_back_r2 _ (List.mem_of_getElem? (i := 0) rfl), (fun _ h => absurd h List.not_mem_nil)⟩)⟩)⟩)⟩)⟩)⟩)⟩), ilX8_back_wsX80⟩)⟩) (by decide +kernel)
set_option maxRecDepth 20000 in
theorem gX8_back_X8_leastOf : GoodIn wsX8_back (wsV RX8 270 RX8 yX8_leastOf wsX8_leastOf) := goodIn_app (goodIn_sub (List.forall_mem_cons.mpr ⟨ilX8_back_wsX8_back_r2 _ (List.mem_of_getElem? (i := 6) rfl), (List.forall_mem_cons.mpr ⟨ilX8_back_wsX8_back_r2 _ (List.mem_of_getElem? (i := 7) rfl), (List.forall_mem_cons.mpr ⟨ilX8_back_wsX8_back_r2 _ (List.mem_of_getElem? (i := 8) rfl), (List.forall_mem_cons.mpr ⟨ilX8_back_wsX8_back_r1 _ (List.mem_of_getElem? (i := 5) rfl), (fun _ h => absurd h List.not_mem_nil)⟩)⟩)⟩)⟩) (by decide +kernel)) ggX8_back_X8_leastOf
set_option maxRecDepth 20000 in
theorem ggX8_back_X8_mostPrice : GoodIn wsX8_back wsX8_mostPrice := goodIn_sub (List.forall_mem_cons.mpr ⟨ilX8_back_wsX8_back_r2 _ (List.mem_of_getElem? (i := 14) rfl), (List.forall_mem_append.mpr ⟨(List.forall_mem_cons.mpr ⟨ilX8_back_wsX8_back_r2 _ (List.mem_of_getElem? (i := 15) rfl), (List.forall_mem_cons.mpr ⟨ilX8_back_wsX8_back_r2 _ (List.mem_of_getElem? (i := 16) rfl), (List.forall_mem_cons.mpr ⟨ilX8_back_wsX8_back_r2 _ (List.mem_of_getElem? (i := 17) rfl), (List.forall_mem_cons.mpr ⟨ilX8_back_wsX8_back_r2 _ (List.mem_of_getElem? (i := 18) rfl), (List.forall_mem_cons.mpr ⟨ilX8_back_wsX8_back_r1 _ (List.mem_of_getElem? (i := 20) rfl), (List.forall_mem_cons.mpr ⟨ilX8_back_wsX8_back_r1 _ (List.mem_of_getElem? (i := 21) rfl), (List.forall_mem_cons.mpr ⟨ilX8_back_wsX8_back_r1 _ (List.mem_of_getElem? (i := 22) rfl), (List.forall_mem_cons.mpr ⟨ilX8_back_wsX8_back_r1 _ (List.mem_of_getElem? (i := 5) rfl), (List.forall_mem_cons.mpr ⟨ilX8_back_wsX8_back_r1 _ (List.mem_of_getElem? (i := 23) rfl), (List.forall_mem_cons.mpr ⟨ilX8_back_wsX8_back_r2 _ (List.mem_of_getElem? (i := 0) rfl), (fun _ h => absurd h List.not_mem_nil)⟩)⟩)⟩)⟩)⟩)⟩)⟩)⟩)⟩)⟩), ilX8_back_wsX80⟩)⟩) (by decide +kernel)
set_option maxRecDepth 20000 in
theorem gX8_back_X8_mostPrice : GoodIn wsX8_back (wsV RX8 273 RX8 yX8_mostPrice wsX8_mostPrice) := goodIn_app (goodIn_sub (List.forall_mem_cons.mpr ⟨ilX8_back_wsX8_back_r2 _ (List.mem_of_getElem? (i := 11) rfl), (List.forall_mem_cons.mpr ⟨ilX8_back_wsX8_back_r2 _ (List.mem_of_getElem? (i := 12) rfl), (List.forall_mem_cons.mpr ⟨ilX8_back_wsX8_back_r2 _ (List.mem_of_getElem? (i := 13) rfl), (List.forall_mem_cons.mpr ⟨ilX8_back_wsX8_back_r1 _ (List.mem_of_getElem? (i := 5) rfl), (fun _ h => absurd h List.not_mem_nil)⟩)⟩)⟩)⟩) (by decide +kernel)) ggX8_back_X8_mostPrice
theorem dX8_back_0 : decode cX8_back 0 = .ok (.aload_n 0, 1) := by decide +kernel
theorem dX8_back_1 : decode cX8_back 1 = .ok (.iload_n 1, 1) := by decide +kernel
theorem dX8_back_2 : decode cX8_back 2 = .ok (.invokevirtual 252, 3) := by decide +kernel
theorem dX8_back_5 : decode cX8_back 5 = .ok (.ifCond .eq 20, 3) := by decide +kernel
theorem dX8_back_8 : decode cX8_back 8 = .ok (.aload_n 0, 1) := by decide +kernel
theorem dX8_back_9 : decode cX8_back 9 = .ok (.iload_n 2, 1) := by decide +kernel
theorem dX8_back_10 : decode cX8_back 10 = .ok (.invokevirtual 263, 3) := by decide +kernel
theorem dX8_back_13 : decode cX8_back 13 = .ok (.ifCond .eq 12, 3) := by decide +kernel
theorem dX8_back_16 : decode cX8_back 16 = .ok (.iload_n 3, 1) := by decide +kernel
theorem dX8_back_17 : decode cX8_back 17 = .ok (.iconst 0, 1) := by decide +kernel
theorem dX8_back_18 : decode cX8_back 18 = .ok (.iconst 2, 1) := by decide +kernel
theorem dX8_back_19 : decode cX8_back 19 = .ok (.invokestatic 92, 3) := by decide +kernel
theorem dX8_back_22 : decode cX8_back 22 = .ok (.ifCond .ne 5, 3) := by decide +kernel
theorem dX8_back_25 : decode cX8_back 25 = .ok (.iconst (-1), 1) := by decide +kernel
theorem dX8_back_26 : decode cX8_back 26 = .ok (.ireturn, 1) := by decide +kernel
theorem dX8_back_27 : decode cX8_back 27 = .ok (.aload_n 0, 1) := by decide +kernel
theorem dX8_back_28 : decode cX8_back 28 = .ok (.iload_n 1, 1) := by decide +kernel
theorem dX8_back_29 : decode cX8_back 29 = .ok (.iload_n 2, 1) := by decide +kernel
theorem dX8_back_30 : decode cX8_back 30 = .ok (.aload_n 0, 1) := by decide +kernel
theorem dX8_back_31 : decode cX8_back 31 = .ok (.getfield 230, 3) := by decide +kernel
theorem dX8_back_34 : decode cX8_back 34 = .ok (.aload_n 0, 1) := by decide +kernel
theorem dX8_back_35 : decode cX8_back 35 = .ok (.getfield 232, 3) := by decide +kernel
theorem dX8_back_38 : decode cX8_back 38 = .ok (.invokevirtual 266, 3) := by decide +kernel
theorem dX8_back_41 : decode cX8_back 41 = .ok (.istore 4, 2) := by decide +kernel
theorem dX8_back_43 : decode cX8_back 43 = .ok (.iload_n 3, 1) := by decide +kernel
theorem dX8_back_44 : decode cX8_back 44 = .ok (.ifCond .ne 8, 3) := by decide +kernel
theorem dX8_back_47 : decode cX8_back 47 = .ok (.iload 4, 2) := by decide +kernel
theorem dX8_back_49 : decode cX8_back 49 = .ok (.goto 23, 3) := by decide +kernel
theorem dX8_back_52 : decode cX8_back 52 = .ok (.iload_n 3, 1) := by decide +kernel
theorem dX8_back_53 : decode cX8_back 53 = .ok (.iconst 1, 1) := by decide +kernel
theorem dX8_back_54 : decode cX8_back 54 = .ok (.if_icmp .ne 13, 3) := by decide +kernel
theorem dX8_back_57 : decode cX8_back 57 = .ok (.aload_n 0, 1) := by decide +kernel
theorem dX8_back_58 : decode cX8_back 58 = .ok (.iload_n 1, 1) := by decide +kernel
theorem dX8_back_59 : decode cX8_back 59 = .ok (.iload 4, 2) := by decide +kernel
theorem dX8_back_61 : decode cX8_back 61 = .ok (.invokevirtual 270, 3) := by decide +kernel
theorem dX8_back_64 : decode cX8_back 64 = .ok (.goto 8, 3) := by decide +kernel
theorem dX8_back_67 : decode cX8_back 67 = .ok (.aload_n 0, 1) := by decide +kernel
theorem dX8_back_68 : decode cX8_back 68 = .ok (.iload_n 1, 1) := by decide +kernel
theorem dX8_back_69 : decode cX8_back 69 = .ok (.invokevirtual 273, 3) := by decide +kernel
theorem dX8_back_72 : decode cX8_back 72 = .ok (.ireturn, 1) := by decide +kernel
theorem ilX8_lends_wsX8_lends_r1 : ∀ w ∈ wsX8_lends_r1, w ∈ wsX8_lends := fun _ h => List.mem_cons_of_mem _ (List.mem_append_left _ (List.mem_append_left _ (h)))
theorem ilX8_lends_wsX8_lends_r2 : ∀ w ∈ wsX8_lends_r2, w ∈ wsX8_lends := fun _ h => List.mem_cons_of_mem _ (List.mem_append_left _ (List.mem_append_right _ (h)))
theorem ilX8_lends_wsX80 : ∀ w ∈ wsX80, w ∈ wsX8_lends := fun _ h => List.mem_cons_of_mem _ (List.mem_append_right _ (h))
set_option maxRecDepth 20000 in
theorem ggX8_lends_X8_of : GoodIn wsX8_lends wsX8_of := goodIn_sub (List.forall_mem_cons.mpr ⟨ilX8_lends_wsX8_lends_r1 _ (List.mem_of_getElem? (i := 11) rfl), (List.forall_mem_append.mpr ⟨(List.forall_mem_cons.mpr ⟨ilX8_lends_wsX8_lends_r1 _ (List.mem_of_getElem? (i := 12) rfl), (fun _ h => absurd h List.not_mem_nil)⟩), ilX8_lends_wsX80⟩)⟩) (by decide +kernel)
set_option maxRecDepth 20000 in
theorem gX8_lends_X8_of : GoodIn wsX8_lends (wsV RX8 217 RX8 yX8_of wsX8_of) := goodIn_app (goodIn_sub (List.forall_mem_cons.mpr ⟨ilX8_lends_wsX8_lends_r1 _ (List.mem_of_getElem? (i := 7) rfl), (List.forall_mem_cons.mpr ⟨ilX8_lends_wsX8_lends_r1 _ (List.mem_of_getElem? (i := 8) rfl), (List.forall_mem_cons.mpr ⟨ilX8_lends_wsX8_lends_r1 _ (List.mem_of_getElem? (i := 9) rfl), (List.forall_mem_cons.mpr ⟨ilX8_lends_wsX8_lends_r1 _ (List.mem_of_getElem? (i := 10) rfl), (fun _ h => absurd h List.not_mem_nil)⟩)⟩)⟩)⟩) (by decide +kernel)) ggX8_lends_X8_of
set_option maxRecDepth 20000 in
theorem ggX8_lends_X8_backOf : GoodIn wsX8_lends wsX8_backOf := goodIn_sub (List.forall_mem_cons.mpr ⟨ilX8_lends_wsX8_lends_r1 _ (List.mem_of_getElem? (i := 16) rfl), (List.forall_mem_append.mpr ⟨(List.forall_mem_cons.mpr ⟨ilX8_lends_wsX8_lends_r1 _ (List.mem_of_getElem? (i := 17) rfl), (List.forall_mem_cons.mpr ⟨ilX8_lends_wsX8_lends_r1 _ (List.mem_of_getElem? (i := 7) rfl), (List.forall_mem_cons.mpr ⟨ilX8_lends_wsX8_lends_r1 _ (List.mem_of_getElem? (i := 8) rfl), (List.forall_mem_cons.mpr ⟨ilX8_lends_wsX8_lends_r1 _ (List.mem_of_getElem? (i := 9) rfl), (List.forall_mem_cons.mpr ⟨ilX8_lends_wsX8_lends_r1 _ (List.mem_of_getElem? (i := 10) rfl), (List.forall_mem_cons.mpr ⟨ilX8_lends_wsX8_lends_r1 _ (List.mem_of_getElem? (i := 11) rfl), (List.forall_mem_cons.mpr ⟨ilX8_lends_wsX8_lends_r1 _ (List.mem_of_getElem? (i := 12) rfl), (List.forall_mem_cons.mpr ⟨ilX8_lends_wsX8_lends_r1 _ (List.mem_of_getElem? (i := 18) rfl), (List.forall_mem_cons.mpr ⟨ilX8_lends_wsX8_lends_r1 _ (List.mem_of_getElem? (i := 19) rfl), (List.forall_mem_cons.mpr ⟨ilX8_lends_wsX8_lends_r1 _ (List.mem_of_getElem? (i := 20) rfl), (List.forall_mem_cons.mpr ⟨ilX8_lends_wsX8_lends_r1 _ (List.mem_of_getElem? (i := 21) rfl), (List.forall_mem_cons.mpr ⟨ilX8_lends_wsX8_lends_r1 _ (List.mem_of_getElem? (i := 22) rfl), (fun _ h => absurd h List.not_mem_nil)⟩)⟩)⟩)⟩)⟩)⟩)⟩)⟩)⟩)⟩)⟩)⟩), ilX8_lends_wsX80⟩)⟩) (by decide +kernel)
set_option maxRecDepth 20000 in
theorem gX8_lends_X8_backOf : GoodIn wsX8_lends (wsV RX8 266 RX8 yX8_backOf wsX8_backOf) := goodIn_app (goodIn_sub (List.forall_mem_cons.mpr ⟨ilX8_lends_wsX8_lends_r1 _ (List.mem_of_getElem? (i := 13) rfl), (List.forall_mem_cons.mpr ⟨ilX8_lends_wsX8_lends_r1 _ (List.mem_of_getElem? (i := 14) rfl), (List.forall_mem_cons.mpr ⟨ilX8_lends_wsX8_lends_r1 _ (List.mem_of_getElem? (i := 15) rfl), (List.forall_mem_cons.mpr ⟨ilX8_lends_wsX8_lends_r1 _ (List.mem_of_getElem? (i := 10) rfl), (fun _ h => absurd h List.not_mem_nil)⟩)⟩)⟩)⟩) (by decide +kernel)) ggX8_lends_X8_backOf
set_option maxRecDepth 20000 in
theorem ggX8_lends_X8_leastOf : GoodIn wsX8_lends wsX8_leastOf := goodIn_sub (List.forall_mem_cons.mpr ⟨ilX8_lends_wsX8_lends_r2 _ (List.mem_of_getElem? (i := 2) rfl), (List.forall_mem_append.mpr ⟨(List.forall_mem_cons.mpr ⟨ilX8_lends_wsX8_lends_r2 _ (List.mem_of_getElem? (i := 3) rfl), (List.forall_mem_cons.mpr ⟨ilX8_lends_wsX8_lends_r1 _ (List.mem_of_getElem? (i := 7) rfl), (List.forall_mem_cons.mpr ⟨ilX8_lends_wsX8_lends_r1 _ (List.mem_of_getElem? (i := 8) rfl), (List.forall_mem_cons.mpr ⟨ilX8_lends_wsX8_lends_r1 _ (List.mem_of_getElem? (i := 9) rfl), (List.forall_mem_cons.mpr ⟨ilX8_lends_wsX8_lends_r1 _ (List.mem_of_getElem? (i := 10) rfl), (List.forall_mem_cons.mpr ⟨ilX8_lends_wsX8_lends_r1 _ (List.mem_of_getElem? (i := 11) rfl), (List.forall_mem_cons.mpr ⟨ilX8_lends_wsX8_lends_r1 _ (List.mem_of_getElem? (i := 12) rfl), (fun _ h => absurd h List.not_mem_nil)⟩)⟩)⟩)⟩)⟩)⟩)⟩), ilX8_lends_wsX80⟩)⟩) (by decide +kernel)
set_option maxRecDepth 20000 in
theorem gX8_lends_X8_leastOf : GoodIn wsX8_lends (wsV RX8 270 RX8 yX8_leastOf wsX8_leastOf) := goodIn_app (goodIn_sub (List.forall_mem_cons.mpr ⟨ilX8_lends_wsX8_lends_r1 _ (List.mem_of_getElem? (i := 23) rfl), (List.forall_mem_cons.mpr ⟨ilX8_lends_wsX8_lends_r2 _ (List.mem_of_getElem? (i := 0) rfl), (List.forall_mem_cons.mpr ⟨ilX8_lends_wsX8_lends_r2 _ (List.mem_of_getElem? (i := 1) rfl), (List.forall_mem_cons.mpr ⟨ilX8_lends_wsX8_lends_r1 _ (List.mem_of_getElem? (i := 10) rfl), (fun _ h => absurd h List.not_mem_nil)⟩)⟩)⟩)⟩) (by decide +kernel)) ggX8_lends_X8_leastOf
set_option maxRecDepth 20000 in
theorem ggX8_lends_X8_mostPrice : GoodIn wsX8_lends wsX8_mostPrice := goodIn_sub (List.forall_mem_cons.mpr ⟨ilX8_lends_wsX8_lends_r2 _ (List.mem_of_getElem? (i := 7) rfl), (List.forall_mem_append.mpr ⟨(List.forall_mem_cons.mpr ⟨ilX8_lends_wsX8_lends_r1 _ (List.mem_of_getElem? (i := 3) rfl), (List.forall_mem_cons.mpr ⟨ilX8_lends_wsX8_lends_r1 _ (List.mem_of_getElem? (i := 4) rfl), (List.forall_mem_cons.mpr ⟨ilX8_lends_wsX8_lends_r1 _ (List.mem_of_getElem? (i := 5) rfl), (List.forall_mem_cons.mpr ⟨ilX8_lends_wsX8_lends_r1 _ (List.mem_of_getElem? (i := 6) rfl), (List.forall_mem_cons.mpr ⟨ilX8_lends_wsX8_lends_r1 _ (List.mem_of_getElem? (i := 7) rfl), (List.forall_mem_cons.mpr ⟨ilX8_lends_wsX8_lends_r1 _ (List.mem_of_getElem? (i := 8) rfl), (List.forall_mem_cons.mpr ⟨ilX8_lends_wsX8_lends_r1 _ (List.mem_of_getElem? (i := 9) rfl), (List.forall_mem_cons.mpr ⟨ilX8_lends_wsX8_lends_r1 _ (List.mem_of_getElem? (i := 10) rfl), (List.forall_mem_cons.mpr ⟨ilX8_lends_wsX8_lends_r1 _ (List.mem_of_getElem? (i := 11) rfl), (List.forall_mem_cons.mpr ⟨ilX8_lends_wsX8_lends_r1 _ (List.mem_of_getElem? (i := 12) rfl), (fun _ h => absurd h List.not_mem_nil)⟩)⟩)⟩)⟩)⟩)⟩)⟩)⟩)⟩)⟩), ilX8_lends_wsX80⟩)⟩) (by decide +kernel)
set_option maxRecDepth 20000 in
theorem gX8_lends_X8_mostPrice : GoodIn wsX8_lends (wsV RX8 273 RX8 yX8_mostPrice wsX8_mostPrice) := goodIn_app (goodIn_sub (List.forall_mem_cons.mpr ⟨ilX8_lends_wsX8_lends_r2 _ (List.mem_of_getElem? (i := 4) rfl), (List.forall_mem_cons.mpr ⟨ilX8_lends_wsX8_lends_r2 _ (List.mem_of_getElem? (i := 5) rfl), (List.forall_mem_cons.mpr ⟨ilX8_lends_wsX8_lends_r2 _ (List.mem_of_getElem? (i := 6) rfl), (List.forall_mem_cons.mpr ⟨ilX8_lends_wsX8_lends_r1 _ (List.mem_of_getElem? (i := 10) rfl), (fun _ h => absurd h List.not_mem_nil)⟩)⟩)⟩)⟩) (by decide +kernel)) ggX8_lends_X8_mostPrice
theorem dX8_lends_0 : decode cX8_lends 0 = .ok (.iconst 0, 1) := by decide +kernel
theorem dX8_lends_1 : decode cX8_lends 1 = .ok (.istore 4, 2) := by decide +kernel
theorem dX8_lends_3 : decode cX8_lends 3 = .ok (.iconst 0, 1) := by decide +kernel
theorem dX8_lends_4 : decode cX8_lends 4 = .ok (.istore 5, 2) := by decide +kernel
theorem dX8_lends_6 : decode cX8_lends 6 = .ok (.iload 5, 2) := by decide +kernel
theorem dX8_lends_8 : decode cX8_lends 8 = .ok (.aload_n 0, 1) := by decide +kernel
theorem dX8_lends_9 : decode cX8_lends 9 = .ok (.getfield 214, 3) := by decide +kernel
theorem dX8_lends_12 : decode cX8_lends 12 = .ok (.if_icmp .ge 90, 3) := by decide +kernel
theorem dX8_lends_15 : decode cX8_lends 15 = .ok (.iload 4, 2) := by decide +kernel
theorem dX8_lends_17 : decode cX8_lends 17 = .ok (.aload_n 0, 1) := by decide +kernel
theorem dX8_lends_18 : decode cX8_lends 18 = .ok (.iload 5, 2) := by decide +kernel
theorem dX8_lends_20 : decode cX8_lends 20 = .ok (.iconst 0, 1) := by decide +kernel
theorem dX8_lends_21 : decode cX8_lends 21 = .ok (.invokevirtual 217, 3) := by decide +kernel
theorem dX8_lends_24 : decode cX8_lends 24 = .ok (.aload_n 0, 1) := by decide +kernel
theorem dX8_lends_25 : decode cX8_lends 25 = .ok (.iload 5, 2) := by decide +kernel
theorem dX8_lends_27 : decode cX8_lends 27 = .ok (.iconst 1, 1) := by decide +kernel
theorem dX8_lends_28 : decode cX8_lends 28 = .ok (.invokevirtual 217, 3) := by decide +kernel
theorem dX8_lends_31 : decode cX8_lends 31 = .ok (.imul, 1) := by decide +kernel
theorem dX8_lends_32 : decode cX8_lends 32 = .ok (.iadd, 1) := by decide +kernel
theorem dX8_lends_33 : decode cX8_lends 33 = .ok (.istore 4, 2) := by decide +kernel
theorem dX8_lends_35 : decode cX8_lends 35 = .ok (.aload_n 0, 1) := by decide +kernel
theorem dX8_lends_36 : decode cX8_lends 36 = .ok (.getfield 64, 3) := by decide +kernel
theorem dX8_lends_39 : decode cX8_lends 39 = .ok (.iload 5, 2) := by decide +kernel
theorem dX8_lends_41 : decode cX8_lends 41 = .ok (.iconst 0, 1) := by decide +kernel
theorem dX8_lends_42 : decode cX8_lends 42 = .ok (.iastore, 1) := by decide +kernel
theorem dX8_lends_43 : decode cX8_lends 43 = .ok (.aload_n 0, 1) := by decide +kernel
theorem dX8_lends_44 : decode cX8_lends 44 = .ok (.iload 5, 2) := by decide +kernel
theorem dX8_lends_46 : decode cX8_lends 46 = .ok (.aload_n 0, 1) := by decide +kernel
theorem dX8_lends_47 : decode cX8_lends 47 = .ok (.iload 5, 2) := by decide +kernel
theorem dX8_lends_49 : decode cX8_lends 49 = .ok (.iload_n 1, 1) := by decide +kernel
theorem dX8_lends_50 : decode cX8_lends 50 = .ok (.iload_n 2, 1) := by decide +kernel
theorem dX8_lends_51 : decode cX8_lends 51 = .ok (.iload_n 3, 1) := by decide +kernel
theorem dX8_lends_52 : decode cX8_lends 52 = .ok (.invokevirtual 266, 3) := by decide +kernel
theorem dX8_lends_55 : decode cX8_lends 55 = .ok (.invokevirtual 270, 3) := by decide +kernel
theorem dX8_lends_58 : decode cX8_lends 58 = .ok (.istore 6, 2) := by decide +kernel
theorem dX8_lends_60 : decode cX8_lends 60 = .ok (.aload_n 0, 1) := by decide +kernel
theorem dX8_lends_61 : decode cX8_lends 61 = .ok (.getfield 67, 3) := by decide +kernel
theorem dX8_lends_64 : decode cX8_lends 64 = .ok (.iload 5, 2) := by decide +kernel
theorem dX8_lends_66 : decode cX8_lends 66 = .ok (.iload 6, 2) := by decide +kernel
theorem dX8_lends_68 : decode cX8_lends 68 = .ok (.iconst (-1), 1) := by decide +kernel
theorem dX8_lends_69 : decode cX8_lends 69 = .ok (.if_icmp .eq 13, 3) := by decide +kernel
theorem dX8_lends_72 : decode cX8_lends 72 = .ok (.aload_n 0, 1) := by decide +kernel
theorem dX8_lends_73 : decode cX8_lends 73 = .ok (.iload 5, 2) := by decide +kernel
theorem dX8_lends_75 : decode cX8_lends 75 = .ok (.iconst 2, 1) := by decide +kernel
theorem dX8_lends_76 : decode cX8_lends 76 = .ok (.invokevirtual 217, 3) := by decide +kernel
theorem dX8_lends_79 : decode cX8_lends 79 = .ok (.ifCond .ne 7, 3) := by decide +kernel
theorem dX8_lends_82 : decode cX8_lends 82 = .ok (.iconst (-1), 1) := by decide +kernel
theorem dX8_lends_83 : decode cX8_lends 83 = .ok (.goto 12, 3) := by decide +kernel
theorem dX8_lends_86 : decode cX8_lends 86 = .ok (.aload_n 0, 1) := by decide +kernel
theorem dX8_lends_87 : decode cX8_lends 87 = .ok (.iload 5, 2) := by decide +kernel
theorem dX8_lends_89 : decode cX8_lends 89 = .ok (.invokevirtual 273, 3) := by decide +kernel
theorem dX8_lends_92 : decode cX8_lends 92 = .ok (.iload 6, 2) := by decide +kernel
theorem dX8_lends_94 : decode cX8_lends 94 = .ok (.isub, 1) := by decide +kernel
theorem dX8_lends_95 : decode cX8_lends 95 = .ok (.iastore, 1) := by decide +kernel
theorem dX8_lends_96 : decode cX8_lends 96 = .ok (.iinc 5 1, 3) := by decide +kernel
theorem dX8_lends_99 : decode cX8_lends 99 = .ok (.goto (-93), 3) := by decide +kernel
theorem dX8_lends_102 : decode cX8_lends 102 = .ok (.iconst 0, 1) := by decide +kernel
theorem dX8_lends_103 : decode cX8_lends 103 = .ok (.istore 5, 2) := by decide +kernel
theorem dX8_lends_105 : decode cX8_lends 105 = .ok (.iload 5, 2) := by decide +kernel
theorem dX8_lends_107 : decode cX8_lends 107 = .ok (.aload_n 0, 1) := by decide +kernel
theorem dX8_lends_108 : decode cX8_lends 108 = .ok (.getfield 214, 3) := by decide +kernel
theorem dX8_lends_111 : decode cX8_lends 111 = .ok (.if_icmp .ge 121, 3) := by decide +kernel
theorem dX8_lends_114 : decode cX8_lends 114 = .ok (.iconst (-1), 1) := by decide +kernel
theorem dX8_lends_115 : decode cX8_lends 115 = .ok (.istore 6, 2) := by decide +kernel
theorem dX8_lends_117 : decode cX8_lends 117 = .ok (.iconst 0, 1) := by decide +kernel
theorem dX8_lends_118 : decode cX8_lends 118 = .ok (.istore 7, 2) := by decide +kernel
theorem dX8_lends_120 : decode cX8_lends 120 = .ok (.iload 7, 2) := by decide +kernel
theorem dX8_lends_122 : decode cX8_lends 122 = .ok (.aload_n 0, 1) := by decide +kernel
theorem dX8_lends_123 : decode cX8_lends 123 = .ok (.getfield 214, 3) := by decide +kernel
theorem dX8_lends_126 : decode cX8_lends 126 = .ok (.if_icmp .ge 46, 3) := by decide +kernel
theorem dX8_lends_129 : decode cX8_lends 129 = .ok (.aload_n 0, 1) := by decide +kernel
theorem dX8_lends_130 : decode cX8_lends 130 = .ok (.getfield 67, 3) := by decide +kernel
theorem dX8_lends_133 : decode cX8_lends 133 = .ok (.iload 7, 2) := by decide +kernel
theorem dX8_lends_135 : decode cX8_lends 135 = .ok (.iaload, 1) := by decide +kernel
theorem dX8_lends_136 : decode cX8_lends 136 = .ok (.ifCond .lt 30, 3) := by decide +kernel
theorem dX8_lends_139 : decode cX8_lends 139 = .ok (.iload 6, 2) := by decide +kernel
theorem dX8_lends_141 : decode cX8_lends 141 = .ok (.iconst (-1), 1) := by decide +kernel
theorem dX8_lends_142 : decode cX8_lends 142 = .ok (.if_icmp .eq 20, 3) := by decide +kernel
theorem dX8_lends_145 : decode cX8_lends 145 = .ok (.aload_n 0, 1) := by decide +kernel
theorem dX8_lends_146 : decode cX8_lends 146 = .ok (.getfield 67, 3) := by decide +kernel
theorem dX8_lends_149 : decode cX8_lends 149 = .ok (.iload 7, 2) := by decide +kernel
theorem dX8_lends_151 : decode cX8_lends 151 = .ok (.iaload, 1) := by decide +kernel
theorem dX8_lends_152 : decode cX8_lends 152 = .ok (.aload_n 0, 1) := by decide +kernel
theorem dX8_lends_153 : decode cX8_lends 153 = .ok (.getfield 67, 3) := by decide +kernel
theorem dX8_lends_156 : decode cX8_lends 156 = .ok (.iload 6, 2) := by decide +kernel
theorem dX8_lends_158 : decode cX8_lends 158 = .ok (.iaload, 1) := by decide +kernel
theorem dX8_lends_159 : decode cX8_lends 159 = .ok (.if_icmp .le 7, 3) := by decide +kernel
theorem dX8_lends_162 : decode cX8_lends 162 = .ok (.iload 7, 2) := by decide +kernel
theorem dX8_lends_164 : decode cX8_lends 164 = .ok (.istore 6, 2) := by decide +kernel
theorem dX8_lends_166 : decode cX8_lends 166 = .ok (.iinc 7 1, 3) := by decide +kernel
theorem dX8_lends_169 : decode cX8_lends 169 = .ok (.goto (-49), 3) := by decide +kernel
theorem dX8_lends_172 : decode cX8_lends 172 = .ok (.iload 6, 2) := by decide +kernel
theorem dX8_lends_174 : decode cX8_lends 174 = .ok (.iconst (-1), 1) := by decide +kernel
theorem dX8_lends_175 : decode cX8_lends 175 = .ok (.if_icmp .ne 4, 3) := by decide +kernel
theorem dX8_lends_178 : decode cX8_lends 178 = .ok (.return_, 1) := by decide +kernel
theorem dX8_lends_179 : decode cX8_lends 179 = .ok (.aload_n 0, 1) := by decide +kernel
theorem dX8_lends_180 : decode cX8_lends 180 = .ok (.getfield 64, 3) := by decide +kernel
theorem dX8_lends_183 : decode cX8_lends 183 = .ok (.iload 6, 2) := by decide +kernel
theorem dX8_lends_185 : decode cX8_lends 185 = .ok (.iload 4, 2) := by decide +kernel
theorem dX8_lends_187 : decode cX8_lends 187 = .ok (.aload_n 0, 1) := by decide +kernel
theorem dX8_lends_188 : decode cX8_lends 188 = .ok (.iload 6, 2) := by decide +kernel
theorem dX8_lends_190 : decode cX8_lends 190 = .ok (.iconst 0, 1) := by decide +kernel
theorem dX8_lends_191 : decode cX8_lends 191 = .ok (.invokevirtual 217, 3) := by decide +kernel
theorem dX8_lends_194 : decode cX8_lends 194 = .ok (.aload_n 0, 1) := by decide +kernel
theorem dX8_lends_195 : decode cX8_lends 195 = .ok (.iload 6, 2) := by decide +kernel
theorem dX8_lends_197 : decode cX8_lends 197 = .ok (.iconst 2, 1) := by decide +kernel
theorem dX8_lends_198 : decode cX8_lends 198 = .ok (.invokevirtual 217, 3) := by decide +kernel
theorem dX8_lends_201 : decode cX8_lends 201 = .ok (.imul, 1) := by decide +kernel
theorem dX8_lends_202 : decode cX8_lends 202 = .ok (.invokestatic 258, 3) := by decide +kernel
theorem dX8_lends_205 : decode cX8_lends 205 = .ok (.iastore, 1) := by decide +kernel
theorem dX8_lends_206 : decode cX8_lends 206 = .ok (.iload 4, 2) := by decide +kernel
theorem dX8_lends_208 : decode cX8_lends 208 = .ok (.aload_n 0, 1) := by decide +kernel
theorem dX8_lends_209 : decode cX8_lends 209 = .ok (.getfield 64, 3) := by decide +kernel
theorem dX8_lends_212 : decode cX8_lends 212 = .ok (.iload 6, 2) := by decide +kernel
theorem dX8_lends_214 : decode cX8_lends 214 = .ok (.iaload, 1) := by decide +kernel
theorem dX8_lends_215 : decode cX8_lends 215 = .ok (.isub, 1) := by decide +kernel
theorem dX8_lends_216 : decode cX8_lends 216 = .ok (.istore 4, 2) := by decide +kernel
theorem dX8_lends_218 : decode cX8_lends 218 = .ok (.aload_n 0, 1) := by decide +kernel
theorem dX8_lends_219 : decode cX8_lends 219 = .ok (.getfield 67, 3) := by decide +kernel
theorem dX8_lends_222 : decode cX8_lends 222 = .ok (.iload 6, 2) := by decide +kernel
theorem dX8_lends_224 : decode cX8_lends 224 = .ok (.iconst (-1), 1) := by decide +kernel
theorem dX8_lends_225 : decode cX8_lends 225 = .ok (.iastore, 1) := by decide +kernel
theorem dX8_lends_226 : decode cX8_lends 226 = .ok (.iinc 5 1, 3) := by decide +kernel
theorem dX8_lends_229 : decode cX8_lends 229 = .ok (.goto (-124), 3) := by decide +kernel
theorem dX8_lends_232 : decode cX8_lends 232 = .ok (.return_, 1) := by decide +kernel
theorem dX8_sown_0 : decode cX8_sown 0 = .ok (.iconst 0, 1) := by decide +kernel
theorem dX8_sown_1 : decode cX8_sown 1 = .ok (.istore_n 1, 1) := by decide +kernel
theorem dX8_sown_2 : decode cX8_sown 2 = .ok (.iconst 0, 1) := by decide +kernel
theorem dX8_sown_3 : decode cX8_sown 3 = .ok (.istore_n 2, 1) := by decide +kernel
theorem dX8_sown_4 : decode cX8_sown 4 = .ok (.iload_n 2, 1) := by decide +kernel
theorem dX8_sown_5 : decode cX8_sown 5 = .ok (.aload_n 0, 1) := by decide +kernel
theorem dX8_sown_6 : decode cX8_sown 6 = .ok (.getfield 214, 3) := by decide +kernel
theorem dX8_sown_9 : decode cX8_sown 9 = .ok (.if_icmp .ge 18, 3) := by decide +kernel
theorem dX8_sown_12 : decode cX8_sown 12 = .ok (.iload_n 1, 1) := by decide +kernel
theorem dX8_sown_13 : decode cX8_sown 13 = .ok (.aload_n 0, 1) := by decide +kernel
theorem dX8_sown_14 : decode cX8_sown 14 = .ok (.getfield 64, 3) := by decide +kernel
theorem dX8_sown_17 : decode cX8_sown 17 = .ok (.iload_n 2, 1) := by decide +kernel
theorem dX8_sown_18 : decode cX8_sown 18 = .ok (.iaload, 1) := by decide +kernel
theorem dX8_sown_19 : decode cX8_sown 19 = .ok (.iadd, 1) := by decide +kernel
theorem dX8_sown_20 : decode cX8_sown 20 = .ok (.istore_n 1, 1) := by decide +kernel
theorem dX8_sown_21 : decode cX8_sown 21 = .ok (.iinc 2 1, 3) := by decide +kernel
theorem dX8_sown_24 : decode cX8_sown 24 = .ok (.goto (-20), 3) := by decide +kernel
theorem dX8_sown_27 : decode cX8_sown 27 = .ok (.iload_n 1, 1) := by decide +kernel
theorem dX8_sown_28 : decode cX8_sown 28 = .ok (.ireturn, 1) := by decide +kernel
theorem ilX8_yields_wsX80 : ∀ w ∈ wsX80, w ∈ wsX8_yields := fun _ h => List.mem_cons_of_mem _ (List.mem_append_right _ (h))
set_option maxRecDepth 20000 in
theorem ggX8_yields_X8_of : GoodIn wsX8_yields wsX8_of := goodIn_sub (List.forall_mem_cons.mpr ⟨List.mem_cons_of_mem _ (List.mem_append_left _ (List.mem_of_getElem? (i := 6) rfl)), (List.forall_mem_append.mpr ⟨(List.forall_mem_cons.mpr ⟨List.mem_cons_of_mem _ (List.mem_append_left _ (List.mem_of_getElem? (i := 7) rfl)), (fun _ h => absurd h List.not_mem_nil)⟩), ilX8_yields_wsX80⟩)⟩) (by decide +kernel)
set_option maxRecDepth 20000 in
theorem gX8_yields_X8_of : GoodIn wsX8_yields (wsV RX8 217 RX8 yX8_of wsX8_of) := goodIn_app (goodIn_sub (List.forall_mem_cons.mpr ⟨List.mem_cons_of_mem _ (List.mem_append_left _ (List.mem_of_getElem? (i := 2) rfl)), (List.forall_mem_cons.mpr ⟨List.mem_cons_of_mem _ (List.mem_append_left _ (List.mem_of_getElem? (i := 3) rfl)), (List.forall_mem_cons.mpr ⟨List.mem_cons_of_mem _ (List.mem_append_left _ (List.mem_of_getElem? (i := 4) rfl)), (List.forall_mem_cons.mpr ⟨List.mem_cons_of_mem _ (List.mem_append_left _ (List.mem_of_getElem? (i := 5) rfl)), (fun _ h => absurd h List.not_mem_nil)⟩)⟩)⟩)⟩) (by decide +kernel)) ggX8_yields_X8_of
theorem dX8_yields_0 : decode cX8_yields 0 = .ok (.iconst 0, 1) := by decide +kernel
theorem dX8_yields_1 : decode cX8_yields 1 = .ok (.istore_n 1, 1) := by decide +kernel
theorem dX8_yields_2 : decode cX8_yields 2 = .ok (.iconst 0, 1) := by decide +kernel
theorem dX8_yields_3 : decode cX8_yields 3 = .ok (.istore_n 2, 1) := by decide +kernel
theorem dX8_yields_4 : decode cX8_yields 4 = .ok (.iload_n 2, 1) := by decide +kernel
theorem dX8_yields_5 : decode cX8_yields 5 = .ok (.aload_n 0, 1) := by decide +kernel
theorem dX8_yields_6 : decode cX8_yields 6 = .ok (.getfield 214, 3) := by decide +kernel
theorem dX8_yields_9 : decode cX8_yields 9 = .ok (.if_icmp .ge 45, 3) := by decide +kernel
theorem dX8_yields_12 : decode cX8_yields 12 = .ok (.iload_n 1, 1) := by decide +kernel
theorem dX8_yields_13 : decode cX8_yields 13 = .ok (.aload_n 0, 1) := by decide +kernel
theorem dX8_yields_14 : decode cX8_yields 14 = .ok (.getfield 64, 3) := by decide +kernel
theorem dX8_yields_17 : decode cX8_yields 17 = .ok (.iload_n 2, 1) := by decide +kernel
theorem dX8_yields_18 : decode cX8_yields 18 = .ok (.iaload, 1) := by decide +kernel
theorem dX8_yields_19 : decode cX8_yields 19 = .ok (.ifCond .ne 7, 3) := by decide +kernel
theorem dX8_yields_22 : decode cX8_yields 22 = .ok (.iconst 0, 1) := by decide +kernel
theorem dX8_yields_23 : decode cX8_yields 23 = .ok (.goto 23, 3) := by decide +kernel
theorem dX8_yields_26 : decode cX8_yields 26 = .ok (.aload_n 0, 1) := by decide +kernel
theorem dX8_yields_27 : decode cX8_yields 27 = .ok (.getfield 64, 3) := by decide +kernel
theorem dX8_yields_30 : decode cX8_yields 30 = .ok (.iload_n 2, 1) := by decide +kernel
theorem dX8_yields_31 : decode cX8_yields 31 = .ok (.iaload, 1) := by decide +kernel
theorem dX8_yields_32 : decode cX8_yields 32 = .ok (.aload_n 0, 1) := by decide +kernel
theorem dX8_yields_33 : decode cX8_yields 33 = .ok (.iload_n 2, 1) := by decide +kernel
theorem dX8_yields_34 : decode cX8_yields 34 = .ok (.iconst 4, 1) := by decide +kernel
theorem dX8_yields_35 : decode cX8_yields 35 = .ok (.invokevirtual 217, 3) := by decide +kernel
theorem dX8_yields_38 : decode cX8_yields 38 = .ok (.imul, 1) := by decide +kernel
theorem dX8_yields_39 : decode cX8_yields 39 = .ok (.aload_n 0, 1) := by decide +kernel
theorem dX8_yields_40 : decode cX8_yields 40 = .ok (.iload_n 2, 1) := by decide +kernel
theorem dX8_yields_41 : decode cX8_yields 41 = .ok (.iconst 2, 1) := by decide +kernel
theorem dX8_yields_42 : decode cX8_yields 42 = .ok (.invokevirtual 217, 3) := by decide +kernel
theorem dX8_yields_45 : decode cX8_yields 45 = .ok (.idiv, 1) := by decide +kernel
theorem dX8_yields_46 : decode cX8_yields 46 = .ok (.iadd, 1) := by decide +kernel
theorem dX8_yields_47 : decode cX8_yields 47 = .ok (.istore_n 1, 1) := by decide +kernel
theorem dX8_yields_48 : decode cX8_yields 48 = .ok (.iinc 2 1, 3) := by decide +kernel
theorem dX8_yields_51 : decode cX8_yields 51 = .ok (.goto (-47), 3) := by decide +kernel
theorem dX8_yields_54 : decode cX8_yields 54 = .ok (.iload_n 1, 1) := by decide +kernel
theorem dX8_yields_55 : decode cX8_yields 55 = .ok (.ireturn, 1) := by decide +kernel
theorem ilX8_lent_wsX8_lent_r1 : ∀ w ∈ wsX8_lent_r1, w ∈ wsX8_lent := fun _ h => List.mem_cons_of_mem _ (List.mem_append_left _ (List.mem_append_left _ (h)))
theorem ilX8_lent_wsX8_lent_r2 : ∀ w ∈ wsX8_lent_r2, w ∈ wsX8_lent := fun _ h => List.mem_cons_of_mem _ (List.mem_append_left _ (List.mem_append_right _ (List.mem_append_left _ (h))))
theorem ilX8_lent_wsX8_lent_r3 : ∀ w ∈ wsX8_lent_r3, w ∈ wsX8_lent := fun _ h => List.mem_cons_of_mem _ (List.mem_append_left _ (List.mem_append_right _ (List.mem_append_right _ (h))))
theorem ilX8_lent_wsX80 : ∀ w ∈ wsX80, w ∈ wsX8_lent := fun _ h => List.mem_cons_of_mem _ (List.mem_append_right _ (h))
set_option maxRecDepth 20000 in
theorem ggX8_lent_X8_isNight : GoodIn wsX8_lent wsX8_isNight := goodIn_sub (List.forall_mem_cons.mpr ⟨ilX8_lent_wsX8_lent_r1 _ (List.mem_of_getElem? (i := 7) rfl), (List.forall_mem_append.mpr ⟨(List.forall_mem_cons.mpr ⟨ilX8_lent_wsX8_lent_r1 _ (List.mem_of_getElem? (i := 8) rfl), (List.forall_mem_cons.mpr ⟨ilX8_lent_wsX8_lent_r1 _ (List.mem_of_getElem? (i := 9) rfl), (List.forall_mem_cons.mpr ⟨ilX8_lent_wsX8_lent_r1 _ (List.mem_of_getElem? (i := 10) rfl), (List.forall_mem_cons.mpr ⟨ilX8_lent_wsX8_lent_r1 _ (List.mem_of_getElem? (i := 6) rfl), (List.forall_mem_cons.mpr ⟨ilX8_lent_wsX8_lent_r1 _ (List.mem_of_getElem? (i := 11) rfl), (fun _ h => absurd h List.not_mem_nil)⟩)⟩)⟩)⟩)⟩), ilX8_lent_wsX80⟩)⟩) (by decide +kernel)
set_option maxRecDepth 20000 in
theorem gX8_lent_X8_isNight : GoodIn wsX8_lent (wsV RX8 263 RX8 yX8_isNight wsX8_isNight) := goodIn_app (goodIn_sub (List.forall_mem_cons.mpr ⟨ilX8_lent_wsX8_lent_r1 _ (List.mem_of_getElem? (i := 3) rfl), (List.forall_mem_cons.mpr ⟨ilX8_lent_wsX8_lent_r1 _ (List.mem_of_getElem? (i := 4) rfl), (List.forall_mem_cons.mpr ⟨ilX8_lent_wsX8_lent_r1 _ (List.mem_of_getElem? (i := 5) rfl), (List.forall_mem_cons.mpr ⟨ilX8_lent_wsX8_lent_r1 _ (List.mem_of_getElem? (i := 6) rfl), (fun _ h => absurd h List.not_mem_nil)⟩)⟩)⟩)⟩) (by decide +kernel)) ggX8_lent_X8_isNight
set_option maxRecDepth 20000 in
theorem ggX8_lent_X8_isSort : GoodIn wsX8_lent wsX8_isSort := goodIn_sub (List.forall_mem_cons.mpr ⟨ilX8_lent_wsX8_lent_r1 _ (List.mem_of_getElem? (i := 15) rfl), (List.forall_mem_append.mpr ⟨(List.forall_mem_cons.mpr ⟨ilX8_lent_wsX8_lent_r1 _ (List.mem_of_getElem? (i := 8) rfl), (List.forall_mem_cons.mpr ⟨ilX8_lent_wsX8_lent_r1 _ (List.mem_of_getElem? (i := 9) rfl), (List.forall_mem_cons.mpr ⟨ilX8_lent_wsX8_lent_r1 _ (List.mem_of_getElem? (i := 10) rfl), (List.forall_mem_cons.mpr ⟨ilX8_lent_wsX8_lent_r1 _ (List.mem_of_getElem? (i := 6) rfl), (List.forall_mem_cons.mpr ⟨ilX8_lent_wsX8_lent_r1 _ (List.mem_of_getElem? (i := 11) rfl), (fun _ h => absurd h List.not_mem_nil)⟩)⟩)⟩)⟩)⟩), ilX8_lent_wsX80⟩)⟩) (by decide +kernel)
set_option maxRecDepth 20000 in
theorem gX8_lent_X8_isSort : GoodIn wsX8_lent (wsV RX8 252 RX8 yX8_isSort wsX8_isSort) := goodIn_app (goodIn_sub (List.forall_mem_cons.mpr ⟨ilX8_lent_wsX8_lent_r1 _ (List.mem_of_getElem? (i := 12) rfl), (List.forall_mem_cons.mpr ⟨ilX8_lent_wsX8_lent_r1 _ (List.mem_of_getElem? (i := 13) rfl), (List.forall_mem_cons.mpr ⟨ilX8_lent_wsX8_lent_r1 _ (List.mem_of_getElem? (i := 14) rfl), (List.forall_mem_cons.mpr ⟨ilX8_lent_wsX8_lent_r1 _ (List.mem_of_getElem? (i := 6) rfl), (fun _ h => absurd h List.not_mem_nil)⟩)⟩)⟩)⟩) (by decide +kernel)) ggX8_lent_X8_isSort
set_option maxRecDepth 20000 in
theorem ggX8_lent_X8_lends : GoodIn wsX8_lent wsX8_lends := goodIn_sub (List.forall_mem_cons.mpr ⟨ilX8_lent_wsX8_lent_r1 _ (List.mem_of_getElem? (i := 19) rfl), (List.forall_mem_append.mpr ⟨(List.forall_mem_append.mpr ⟨(List.forall_mem_cons.mpr ⟨ilX8_lent_wsX8_lent_r1 _ (List.mem_of_getElem? (i := 8) rfl), (List.forall_mem_cons.mpr ⟨ilX8_lent_wsX8_lent_r1 _ (List.mem_of_getElem? (i := 2) rfl), (List.forall_mem_cons.mpr ⟨ilX8_lent_wsX8_lent_r1 _ (List.mem_of_getElem? (i := 20) rfl), (List.forall_mem_cons.mpr ⟨ilX8_lent_wsX8_lent_r1 _ (List.mem_of_getElem? (i := 21) rfl), (List.forall_mem_cons.mpr ⟨ilX8_lent_wsX8_lent_r1 _ (List.mem_of_getElem? (i := 22) rfl), (List.forall_mem_cons.mpr ⟨ilX8_lent_wsX8_lent_r1 _ (List.mem_of_getElem? (i := 23) rfl), (List.forall_mem_cons.mpr ⟨ilX8_lent_wsX8_lent_r2 _ (List.mem_of_getElem? (i := 0) rfl), (List.forall_mem_cons.mpr ⟨ilX8_lent_wsX8_lent_r2 _ (List.mem_of_getElem? (i := 1) rfl), (List.forall_mem_cons.mpr ⟨ilX8_lent_wsX8_lent_r2 _ (List.mem_of_getElem? (i := 2) rfl), (List.forall_mem_cons.mpr ⟨ilX8_lent_wsX8_lent_r2 _ (List.mem_of_getElem? (i := 3) rfl), (List.forall_mem_cons.mpr ⟨ilX8_lent_wsX8_lent_r1 _ (List.mem_of_getElem? (i := 6) rfl), (List.forall_mem_cons.mpr ⟨ilX8_lent_wsX8_lent_r2 _ (List.mem_of_getElem? (i := 4) rfl), (List.forall_mem_cons.mpr ⟨ilX8_lent_wsX8_lent_r2 _ (List.mem_of_getElem? (i := 5) rfl), (List.forall_mem_cons.mpr ⟨ilX8_lent_wsX8_lent_r2 _ (List.mem_of_getElem? (i := 6) rfl), (List.forall_mem_cons.mpr ⟨ilX8_lent_wsX8_lent_r2 _ (List.mem_of_getElem? (i := 7) rfl), (List.forall_mem_cons.mpr ⟨ilX8_lent_wsX8_lent_r2 _ (List.mem_of_getElem? (i := 8) rfl), (List.forall_mem_cons.mpr ⟨ilX8_lent_wsX8_lent_r2 _ (List.mem_of_getElem? (i := 9) rfl), (List.forall_mem_cons.mpr ⟨ilX8_lent_wsX8_lent_r2 _ (List.mem_of_getElem? (i := 10) rfl), (List.forall_mem_cons.mpr ⟨ilX8_lent_wsX8_lent_r2 _ (List.mem_of_getElem? (i := 11) rfl), (List.forall_mem_cons.mpr ⟨ilX8_lent_wsX8_lent_r2 _ (List.mem_of_getElem? (i := 12) rfl), (List.forall_mem_cons.mpr ⟨ilX8_lent_wsX8_lent_r2 _ (List.mem_of_getElem? (i := 13) rfl), (List.forall_mem_cons.mpr ⟨ilX8_lent_wsX8_lent_r2 _ (List.mem_of_getElem? (i := 14) rfl), (List.forall_mem_cons.mpr ⟨ilX8_lent_wsX8_lent_r2 _ (List.mem_of_getElem? (i := 15) rfl), (List.forall_mem_cons.mpr ⟨ilX8_lent_wsX8_lent_r2 _ (List.mem_of_getElem? (i := 16) rfl), (fun _ h => absurd h List.not_mem_nil)⟩)⟩)⟩)⟩)⟩)⟩)⟩)⟩)⟩)⟩)⟩)⟩)⟩)⟩)⟩)⟩)⟩)⟩)⟩)⟩)⟩)⟩)⟩)⟩), (List.forall_mem_cons.mpr ⟨ilX8_lent_wsX8_lent_r2 _ (List.mem_of_getElem? (i := 17) rfl), (List.forall_mem_cons.mpr ⟨ilX8_lent_wsX8_lent_r2 _ (List.mem_of_getElem? (i := 18) rfl), (List.forall_mem_cons.mpr ⟨ilX8_lent_wsX8_lent_r2 _ (List.mem_of_getElem? (i := 19) rfl), (List.forall_mem_cons.mpr ⟨ilX8_lent_wsX8_lent_r2 _ (List.mem_of_getElem? (i := 20) rfl), (List.forall_mem_cons.mpr ⟨ilX8_lent_wsX8_lent_r2 _ (List.mem_of_getElem? (i := 21) rfl), (List.forall_mem_cons.mpr ⟨ilX8_lent_wsX8_lent_r2 _ (List.mem_of_getElem? (i := 22) rfl), (List.forall_mem_cons.mpr ⟨ilX8_lent_wsX8_lent_r2 _ (List.mem_of_getElem? (i := 23) rfl), (List.forall_mem_cons.mpr ⟨ilX8_lent_wsX8_lent_r3 _ (List.mem_of_getElem? (i := 0) rfl), (fun _ h => absurd h List.not_mem_nil)⟩)⟩)⟩)⟩)⟩)⟩)⟩)⟩)⟩), ilX8_lent_wsX80⟩)⟩) (by decide +kernel)
set_option maxRecDepth 20000 in
theorem gX8_lent_X8_lends : GoodIn wsX8_lent (wsV RX8 276 RX8 yX8_lends wsX8_lends) := goodIn_app (goodIn_sub (List.forall_mem_cons.mpr ⟨ilX8_lent_wsX8_lent_r1 _ (List.mem_of_getElem? (i := 16) rfl), (List.forall_mem_cons.mpr ⟨ilX8_lent_wsX8_lent_r1 _ (List.mem_of_getElem? (i := 17) rfl), (List.forall_mem_cons.mpr ⟨ilX8_lent_wsX8_lent_r1 _ (List.mem_of_getElem? (i := 18) rfl), (List.forall_mem_cons.mpr ⟨ilX8_lent_wsX8_lent_r1 _ (List.mem_of_getElem? (i := 6) rfl), (fun _ h => absurd h List.not_mem_nil)⟩)⟩)⟩)⟩) (by decide +kernel)) ggX8_lent_X8_lends
set_option maxRecDepth 20000 in
theorem ggX8_lent_X8_sown : GoodIn wsX8_lent wsX8_sown := goodIn_sub (List.forall_mem_cons.mpr ⟨ilX8_lent_wsX8_lent_r3 _ (List.mem_of_getElem? (i := 4) rfl), (List.forall_mem_append.mpr ⟨(List.forall_mem_cons.mpr ⟨ilX8_lent_wsX8_lent_r1 _ (List.mem_of_getElem? (i := 8) rfl), (List.forall_mem_cons.mpr ⟨ilX8_lent_wsX8_lent_r1 _ (List.mem_of_getElem? (i := 2) rfl), (fun _ h => absurd h List.not_mem_nil)⟩)⟩), ilX8_lent_wsX80⟩)⟩) (by decide +kernel)
set_option maxRecDepth 20000 in
theorem gX8_lent_X8_sown : GoodIn wsX8_lent (wsV RX8 280 RX8 yX8_sown wsX8_sown) := goodIn_app (goodIn_sub (List.forall_mem_cons.mpr ⟨ilX8_lent_wsX8_lent_r3 _ (List.mem_of_getElem? (i := 1) rfl), (List.forall_mem_cons.mpr ⟨ilX8_lent_wsX8_lent_r3 _ (List.mem_of_getElem? (i := 2) rfl), (List.forall_mem_cons.mpr ⟨ilX8_lent_wsX8_lent_r3 _ (List.mem_of_getElem? (i := 3) rfl), (List.forall_mem_cons.mpr ⟨ilX8_lent_wsX8_lent_r1 _ (List.mem_of_getElem? (i := 6) rfl), (fun _ h => absurd h List.not_mem_nil)⟩)⟩)⟩)⟩) (by decide +kernel)) ggX8_lent_X8_sown
theorem dX8_lent_0 : decode cX8_lent 0 = .ok (.aload_n 0, 1) := by decide +kernel
theorem dX8_lent_1 : decode cX8_lent 1 = .ok (.iload_n 2, 1) := by decide +kernel
theorem dX8_lent_2 : decode cX8_lent 2 = .ok (.invokevirtual 263, 3) := by decide +kernel
theorem dX8_lent_5 : decode cX8_lent 5 = .ok (.ifCond .eq 16, 3) := by decide +kernel
theorem dX8_lent_8 : decode cX8_lent 8 = .ok (.iload_n 1, 1) := by decide +kernel
theorem dX8_lent_9 : decode cX8_lent 9 = .ok (.iconst (-1), 1) := by decide +kernel
theorem dX8_lent_10 : decode cX8_lent 10 = .ok (.if_icmp .eq 13, 3) := by decide +kernel
theorem dX8_lent_13 : decode cX8_lent 13 = .ok (.aload_n 0, 1) := by decide +kernel
theorem dX8_lent_14 : decode cX8_lent 14 = .ok (.iload_n 1, 1) := by decide +kernel
theorem dX8_lent_15 : decode cX8_lent 15 = .ok (.invokevirtual 252, 3) := by decide +kernel
theorem dX8_lent_18 : decode cX8_lent 18 = .ok (.ifCond .ne 5, 3) := by decide +kernel
theorem dX8_lent_21 : decode cX8_lent 21 = .ok (.iconst (-1), 1) := by decide +kernel
theorem dX8_lent_22 : decode cX8_lent 22 = .ok (.ireturn, 1) := by decide +kernel
theorem dX8_lent_23 : decode cX8_lent 23 = .ok (.aload_n 0, 1) := by decide +kernel
theorem dX8_lent_24 : decode cX8_lent 24 = .ok (.iload_n 2, 1) := by decide +kernel
theorem dX8_lent_25 : decode cX8_lent 25 = .ok (.aload_n 0, 1) := by decide +kernel
theorem dX8_lent_26 : decode cX8_lent 26 = .ok (.getfield 230, 3) := by decide +kernel
theorem dX8_lent_29 : decode cX8_lent 29 = .ok (.aload_n 0, 1) := by decide +kernel
theorem dX8_lent_30 : decode cX8_lent 30 = .ok (.getfield 232, 3) := by decide +kernel
theorem dX8_lent_33 : decode cX8_lent 33 = .ok (.invokevirtual 276, 3) := by decide +kernel
theorem dX8_lent_36 : decode cX8_lent 36 = .ok (.iload_n 1, 1) := by decide +kernel
theorem dX8_lent_37 : decode cX8_lent 37 = .ok (.iconst (-1), 1) := by decide +kernel
theorem dX8_lent_38 : decode cX8_lent 38 = .ok (.if_icmp .ne 10, 3) := by decide +kernel
theorem dX8_lent_41 : decode cX8_lent 41 = .ok (.aload_n 0, 1) := by decide +kernel
theorem dX8_lent_42 : decode cX8_lent 42 = .ok (.invokevirtual 280, 3) := by decide +kernel
theorem dX8_lent_45 : decode cX8_lent 45 = .ok (.goto 9, 3) := by decide +kernel
theorem dX8_lent_48 : decode cX8_lent 48 = .ok (.aload_n 0, 1) := by decide +kernel
theorem dX8_lent_49 : decode cX8_lent 49 = .ok (.getfield 64, 3) := by decide +kernel
theorem dX8_lent_52 : decode cX8_lent 52 = .ok (.iload_n 1, 1) := by decide +kernel
theorem dX8_lent_53 : decode cX8_lent 53 = .ok (.iaload, 1) := by decide +kernel
theorem dX8_lent_54 : decode cX8_lent 54 = .ok (.ireturn, 1) := by decide +kernel
theorem ilX8_brought_wsX8_brought_r1 : ∀ w ∈ wsX8_brought_r1, w ∈ wsX8_brought := fun _ h => List.mem_cons_of_mem _ (List.mem_append_left _ (List.mem_append_left _ (h)))
theorem ilX8_brought_wsX8_brought_r2 : ∀ w ∈ wsX8_brought_r2, w ∈ wsX8_brought := fun _ h => List.mem_cons_of_mem _ (List.mem_append_left _ (List.mem_append_right _ (List.mem_append_left _ (h))))
theorem ilX8_brought_wsX8_brought_r3 : ∀ w ∈ wsX8_brought_r3, w ∈ wsX8_brought := fun _ h => List.mem_cons_of_mem _ (List.mem_append_left _ (List.mem_append_right _ (List.mem_append_right _ (h))))
theorem ilX8_brought_wsX80 : ∀ w ∈ wsX80, w ∈ wsX8_brought := fun _ h => List.mem_cons_of_mem _ (List.mem_append_right _ (h))
set_option maxRecDepth 20000 in
theorem ggX8_brought_X8_isNight : GoodIn wsX8_brought wsX8_isNight := goodIn_sub (List.forall_mem_cons.mpr ⟨ilX8_brought_wsX8_brought_r1 _ (List.mem_of_getElem? (i := 6) rfl), (List.forall_mem_append.mpr ⟨(List.forall_mem_cons.mpr ⟨ilX8_brought_wsX8_brought_r1 _ (List.mem_of_getElem? (i := 7) rfl), (List.forall_mem_cons.mpr ⟨ilX8_brought_wsX8_brought_r1 _ (List.mem_of_getElem? (i := 8) rfl), (List.forall_mem_cons.mpr ⟨ilX8_brought_wsX8_brought_r1 _ (List.mem_of_getElem? (i := 9) rfl), (List.forall_mem_cons.mpr ⟨ilX8_brought_wsX8_brought_r1 _ (List.mem_of_getElem? (i := 5) rfl), (List.forall_mem_cons.mpr ⟨ilX8_brought_wsX8_brought_r1 _ (List.mem_of_getElem? (i := 10) rfl), (fun _ h => absurd h List.not_mem_nil)⟩)⟩)⟩)⟩)⟩), ilX8_brought_wsX80⟩)⟩) (by decide +kernel)
set_option maxRecDepth 20000 in
theorem gX8_brought_X8_isNight : GoodIn wsX8_brought (wsV RX8 263 RX8 yX8_isNight wsX8_isNight) := goodIn_app (goodIn_sub (List.forall_mem_cons.mpr ⟨ilX8_brought_wsX8_brought_r1 _ (List.mem_of_getElem? (i := 2) rfl), (List.forall_mem_cons.mpr ⟨ilX8_brought_wsX8_brought_r1 _ (List.mem_of_getElem? (i := 3) rfl), (List.forall_mem_cons.mpr ⟨ilX8_brought_wsX8_brought_r1 _ (List.mem_of_getElem? (i := 4) rfl), (List.forall_mem_cons.mpr ⟨ilX8_brought_wsX8_brought_r1 _ (List.mem_of_getElem? (i := 5) rfl), (fun _ h => absurd h List.not_mem_nil)⟩)⟩)⟩)⟩) (by decide +kernel)) ggX8_brought_X8_isNight
set_option maxRecDepth 20000 in
theorem ggX8_brought_X8_lends : GoodIn wsX8_brought wsX8_lends := goodIn_sub (List.forall_mem_cons.mpr ⟨ilX8_brought_wsX8_brought_r1 _ (List.mem_of_getElem? (i := 14) rfl), (List.forall_mem_append.mpr ⟨(List.forall_mem_append.mpr ⟨(List.forall_mem_cons.mpr ⟨ilX8_brought_wsX8_brought_r1 _ (List.mem_of_getElem? (i := 7) rfl), (List.forall_mem_cons.mpr ⟨ilX8_brought_wsX8_brought_r1 _ (List.mem_of_getElem? (i := 15) rfl), (List.forall_mem_cons.mpr ⟨ilX8_brought_wsX8_brought_r1 _ (List.mem_of_getElem? (i := 16) rfl), (List.forall_mem_cons.mpr ⟨ilX8_brought_wsX8_brought_r1 _ (List.mem_of_getElem? (i := 17) rfl), (List.forall_mem_cons.mpr ⟨ilX8_brought_wsX8_brought_r1 _ (List.mem_of_getElem? (i := 18) rfl), (List.forall_mem_cons.mpr ⟨ilX8_brought_wsX8_brought_r1 _ (List.mem_of_getElem? (i := 19) rfl), (List.forall_mem_cons.mpr ⟨ilX8_brought_wsX8_brought_r1 _ (List.mem_of_getElem? (i := 20) rfl), (List.forall_mem_cons.mpr ⟨ilX8_brought_wsX8_brought_r1 _ (List.mem_of_getElem? (i := 21) rfl), (List.forall_mem_cons.mpr ⟨ilX8_brought_wsX8_brought_r1 _ (List.mem_of_getElem? (i := 22) rfl), (List.forall_mem_cons.mpr ⟨ilX8_brought_wsX8_brought_r1 _ (List.mem_of_getElem? (i := 23) rfl), (List.forall_mem_cons.mpr ⟨ilX8_brought_wsX8_brought_r1 _ (List.mem_of_getElem? (i := 5) rfl), (List.forall_mem_cons.mpr ⟨ilX8_brought_wsX8_brought_r2 _ (List.mem_of_getElem? (i := 0) rfl), (List.forall_mem_cons.mpr ⟨ilX8_brought_wsX8_brought_r2 _ (List.mem_of_getElem? (i := 1) rfl), (List.forall_mem_cons.mpr ⟨ilX8_brought_wsX8_brought_r2 _ (List.mem_of_getElem? (i := 2) rfl), (List.forall_mem_cons.mpr ⟨ilX8_brought_wsX8_brought_r2 _ (List.mem_of_getElem? (i := 3) rfl), (List.forall_mem_cons.mpr ⟨ilX8_brought_wsX8_brought_r2 _ (List.mem_of_getElem? (i := 4) rfl), (List.forall_mem_cons.mpr ⟨ilX8_brought_wsX8_brought_r2 _ (List.mem_of_getElem? (i := 5) rfl), (List.forall_mem_cons.mpr ⟨ilX8_brought_wsX8_brought_r2 _ (List.mem_of_getElem? (i := 6) rfl), (List.forall_mem_cons.mpr ⟨ilX8_brought_wsX8_brought_r2 _ (List.mem_of_getElem? (i := 7) rfl), (List.forall_mem_cons.mpr ⟨ilX8_brought_wsX8_brought_r2 _ (List.mem_of_getElem? (i := 8) rfl), (List.forall_mem_cons.mpr ⟨ilX8_brought_wsX8_brought_r2 _ (List.mem_of_getElem? (i := 9) rfl), (List.forall_mem_cons.mpr ⟨ilX8_brought_wsX8_brought_r2 _ (List.mem_of_getElem? (i := 10) rfl), (List.forall_mem_cons.mpr ⟨ilX8_brought_wsX8_brought_r2 _ (List.mem_of_getElem? (i := 11) rfl), (List.forall_mem_cons.mpr ⟨ilX8_brought_wsX8_brought_r2 _ (List.mem_of_getElem? (i := 12) rfl), (fun _ h => absurd h List.not_mem_nil)⟩)⟩)⟩)⟩)⟩)⟩)⟩)⟩)⟩)⟩)⟩)⟩)⟩)⟩)⟩)⟩)⟩)⟩)⟩)⟩)⟩)⟩)⟩)⟩), (List.forall_mem_cons.mpr ⟨ilX8_brought_wsX8_brought_r2 _ (List.mem_of_getElem? (i := 13) rfl), (List.forall_mem_cons.mpr ⟨ilX8_brought_wsX8_brought_r2 _ (List.mem_of_getElem? (i := 14) rfl), (List.forall_mem_cons.mpr ⟨ilX8_brought_wsX8_brought_r2 _ (List.mem_of_getElem? (i := 15) rfl), (List.forall_mem_cons.mpr ⟨ilX8_brought_wsX8_brought_r2 _ (List.mem_of_getElem? (i := 16) rfl), (List.forall_mem_cons.mpr ⟨ilX8_brought_wsX8_brought_r2 _ (List.mem_of_getElem? (i := 17) rfl), (List.forall_mem_cons.mpr ⟨ilX8_brought_wsX8_brought_r2 _ (List.mem_of_getElem? (i := 18) rfl), (List.forall_mem_cons.mpr ⟨ilX8_brought_wsX8_brought_r2 _ (List.mem_of_getElem? (i := 19) rfl), (List.forall_mem_cons.mpr ⟨ilX8_brought_wsX8_brought_r2 _ (List.mem_of_getElem? (i := 20) rfl), (fun _ h => absurd h List.not_mem_nil)⟩)⟩)⟩)⟩)⟩)⟩)⟩)⟩)⟩), ilX8_brought_wsX80⟩)⟩) (by decide +kernel)
set_option maxRecDepth 20000 in
theorem gX8_brought_X8_lends : GoodIn wsX8_brought (wsV RX8 276 RX8 yX8_lends wsX8_lends) := goodIn_app (goodIn_sub (List.forall_mem_cons.mpr ⟨ilX8_brought_wsX8_brought_r1 _ (List.mem_of_getElem? (i := 11) rfl), (List.forall_mem_cons.mpr ⟨ilX8_brought_wsX8_brought_r1 _ (List.mem_of_getElem? (i := 12) rfl), (List.forall_mem_cons.mpr ⟨ilX8_brought_wsX8_brought_r1 _ (List.mem_of_getElem? (i := 13) rfl), (List.forall_mem_cons.mpr ⟨ilX8_brought_wsX8_brought_r1 _ (List.mem_of_getElem? (i := 5) rfl), (fun _ h => absurd h List.not_mem_nil)⟩)⟩)⟩)⟩) (by decide +kernel)) ggX8_brought_X8_lends
set_option maxRecDepth 20000 in
theorem ggX8_brought_X8_yields : GoodIn wsX8_brought wsX8_yields := goodIn_sub (List.forall_mem_cons.mpr ⟨ilX8_brought_wsX8_brought_r3 _ (List.mem_of_getElem? (i := 0) rfl), (List.forall_mem_append.mpr ⟨(List.forall_mem_cons.mpr ⟨ilX8_brought_wsX8_brought_r1 _ (List.mem_of_getElem? (i := 7) rfl), (List.forall_mem_cons.mpr ⟨ilX8_brought_wsX8_brought_r1 _ (List.mem_of_getElem? (i := 15) rfl), (List.forall_mem_cons.mpr ⟨ilX8_brought_wsX8_brought_r1 _ (List.mem_of_getElem? (i := 21) rfl), (List.forall_mem_cons.mpr ⟨ilX8_brought_wsX8_brought_r1 _ (List.mem_of_getElem? (i := 22) rfl), (List.forall_mem_cons.mpr ⟨ilX8_brought_wsX8_brought_r1 _ (List.mem_of_getElem? (i := 23) rfl), (List.forall_mem_cons.mpr ⟨ilX8_brought_wsX8_brought_r1 _ (List.mem_of_getElem? (i := 5) rfl), (List.forall_mem_cons.mpr ⟨ilX8_brought_wsX8_brought_r2 _ (List.mem_of_getElem? (i := 0) rfl), (List.forall_mem_cons.mpr ⟨ilX8_brought_wsX8_brought_r2 _ (List.mem_of_getElem? (i := 1) rfl), (fun _ h => absurd h List.not_mem_nil)⟩)⟩)⟩)⟩)⟩)⟩)⟩)⟩), ilX8_brought_wsX80⟩)⟩) (by decide +kernel)
set_option maxRecDepth 20000 in
theorem gX8_brought_X8_yields : GoodIn wsX8_brought (wsV RX8 283 RX8 yX8_yields wsX8_yields) := goodIn_app (goodIn_sub (List.forall_mem_cons.mpr ⟨ilX8_brought_wsX8_brought_r2 _ (List.mem_of_getElem? (i := 21) rfl), (List.forall_mem_cons.mpr ⟨ilX8_brought_wsX8_brought_r2 _ (List.mem_of_getElem? (i := 22) rfl), (List.forall_mem_cons.mpr ⟨ilX8_brought_wsX8_brought_r2 _ (List.mem_of_getElem? (i := 23) rfl), (List.forall_mem_cons.mpr ⟨ilX8_brought_wsX8_brought_r1 _ (List.mem_of_getElem? (i := 5) rfl), (fun _ h => absurd h List.not_mem_nil)⟩)⟩)⟩)⟩) (by decide +kernel)) ggX8_brought_X8_yields
theorem dX8_brought_0 : decode cX8_brought 0 = .ok (.aload_n 0, 1) := by decide +kernel
theorem dX8_brought_1 : decode cX8_brought 1 = .ok (.iload_n 1, 1) := by decide +kernel
theorem dX8_brought_2 : decode cX8_brought 2 = .ok (.invokevirtual 263, 3) := by decide +kernel
theorem dX8_brought_5 : decode cX8_brought 5 = .ok (.ifCond .ne 5, 3) := by decide +kernel
theorem dX8_brought_8 : decode cX8_brought 8 = .ok (.iconst (-1), 1) := by decide +kernel
theorem dX8_brought_9 : decode cX8_brought 9 = .ok (.ireturn, 1) := by decide +kernel
theorem dX8_brought_10 : decode cX8_brought 10 = .ok (.aload_n 0, 1) := by decide +kernel
theorem dX8_brought_11 : decode cX8_brought 11 = .ok (.iload_n 1, 1) := by decide +kernel
theorem dX8_brought_12 : decode cX8_brought 12 = .ok (.aload_n 0, 1) := by decide +kernel
theorem dX8_brought_13 : decode cX8_brought 13 = .ok (.getfield 230, 3) := by decide +kernel
theorem dX8_brought_16 : decode cX8_brought 16 = .ok (.aload_n 0, 1) := by decide +kernel
theorem dX8_brought_17 : decode cX8_brought 17 = .ok (.getfield 232, 3) := by decide +kernel
theorem dX8_brought_20 : decode cX8_brought 20 = .ok (.invokevirtual 276, 3) := by decide +kernel
theorem dX8_brought_23 : decode cX8_brought 23 = .ok (.aload_n 0, 1) := by decide +kernel
theorem dX8_brought_24 : decode cX8_brought 24 = .ok (.invokevirtual 283, 3) := by decide +kernel
theorem dX8_brought_27 : decode cX8_brought 27 = .ok (.ireturn, 1) := by decide +kernel
theorem ilX8_moonOf_wsX8_moonOf_r1 : ∀ w ∈ wsX8_moonOf_r1, w ∈ wsX8_moonOf := fun _ h => List.mem_cons_of_mem _ (List.mem_append_left _ (List.mem_append_left _ (h)))
theorem ilX8_moonOf_wsX8_moonOf_r2 : ∀ w ∈ wsX8_moonOf_r2, w ∈ wsX8_moonOf := fun _ h => List.mem_cons_of_mem _ (List.mem_append_left _ (List.mem_append_right _ (h)))
theorem ilX8_moonOf_wsX80 : ∀ w ∈ wsX80, w ∈ wsX8_moonOf := fun _ h => List.mem_cons_of_mem _ (List.mem_append_right _ (h))
set_option maxRecDepth 20000 in
theorem ggX8_moonOf_X8_lends : GoodIn wsX8_moonOf wsX8_lends := goodIn_sub (List.forall_mem_cons.mpr ⟨ilX8_moonOf_wsX8_moonOf_r1 _ (List.mem_of_getElem? (i := 5) rfl), (List.forall_mem_append.mpr ⟨(List.forall_mem_append.mpr ⟨(List.forall_mem_cons.mpr ⟨ilX8_moonOf_wsX8_moonOf_r1 _ (List.mem_of_getElem? (i := 6) rfl), (List.forall_mem_cons.mpr ⟨ilX8_moonOf_wsX8_moonOf_r1 _ (List.mem_of_getElem? (i := 7) rfl), (List.forall_mem_cons.mpr ⟨ilX8_moonOf_wsX8_moonOf_r1 _ (List.mem_of_getElem? (i := 8) rfl), (List.forall_mem_cons.mpr ⟨ilX8_moonOf_wsX8_moonOf_r1 _ (List.mem_of_getElem? (i := 9) rfl), (List.forall_mem_cons.mpr ⟨ilX8_moonOf_wsX8_moonOf_r1 _ (List.mem_of_getElem? (i := 10) rfl), (List.forall_mem_cons.mpr ⟨ilX8_moonOf_wsX8_moonOf_r1 _ (List.mem_of_getElem? (i := 11) rfl), (List.forall_mem_cons.mpr ⟨ilX8_moonOf_wsX8_moonOf_r1 _ (List.mem_of_getElem? (i := 12) rfl), (List.forall_mem_cons.mpr ⟨ilX8_moonOf_wsX8_moonOf_r1 _ (List.mem_of_getElem? (i := 13) rfl), (List.forall_mem_cons.mpr ⟨ilX8_moonOf_wsX8_moonOf_r1 _ (List.mem_of_getElem? (i := 14) rfl), (List.forall_mem_cons.mpr ⟨ilX8_moonOf_wsX8_moonOf_r1 _ (List.mem_of_getElem? (i := 15) rfl), (List.forall_mem_cons.mpr ⟨ilX8_moonOf_wsX8_moonOf_r1 _ (List.mem_of_getElem? (i := 4) rfl), (List.forall_mem_cons.mpr ⟨ilX8_moonOf_wsX8_moonOf_r1 _ (List.mem_of_getElem? (i := 16) rfl), (List.forall_mem_cons.mpr ⟨ilX8_moonOf_wsX8_moonOf_r1 _ (List.mem_of_getElem? (i := 17) rfl), (List.forall_mem_cons.mpr ⟨ilX8_moonOf_wsX8_moonOf_r1 _ (List.mem_of_getElem? (i := 18) rfl), (List.forall_mem_cons.mpr ⟨ilX8_moonOf_wsX8_moonOf_r1 _ (List.mem_of_getElem? (i := 19) rfl), (List.forall_mem_cons.mpr ⟨ilX8_moonOf_wsX8_moonOf_r1 _ (List.mem_of_getElem? (i := 20) rfl), (List.forall_mem_cons.mpr ⟨ilX8_moonOf_wsX8_moonOf_r1 _ (List.mem_of_getElem? (i := 21) rfl), (List.forall_mem_cons.mpr ⟨ilX8_moonOf_wsX8_moonOf_r1 _ (List.mem_of_getElem? (i := 22) rfl), (List.forall_mem_cons.mpr ⟨ilX8_moonOf_wsX8_moonOf_r1 _ (List.mem_of_getElem? (i := 23) rfl), (List.forall_mem_cons.mpr ⟨ilX8_moonOf_wsX8_moonOf_r2 _ (List.mem_of_getElem? (i := 0) rfl), (List.forall_mem_cons.mpr ⟨ilX8_moonOf_wsX8_moonOf_r2 _ (List.mem_of_getElem? (i := 1) rfl), (List.forall_mem_cons.mpr ⟨ilX8_moonOf_wsX8_moonOf_r2 _ (List.mem_of_getElem? (i := 2) rfl), (List.forall_mem_cons.mpr ⟨ilX8_moonOf_wsX8_moonOf_r1 _ (List.mem_of_getElem? (i := 0) rfl), (List.forall_mem_cons.mpr ⟨ilX8_moonOf_wsX8_moonOf_r2 _ (List.mem_of_getElem? (i := 3) rfl), (fun _ h => absurd h List.not_mem_nil)⟩)⟩)⟩)⟩)⟩)⟩)⟩)⟩)⟩)⟩)⟩)⟩)⟩)⟩)⟩)⟩)⟩)⟩)⟩)⟩)⟩)⟩)⟩)⟩), (List.forall_mem_cons.mpr ⟨ilX8_moonOf_wsX8_moonOf_r2 _ (List.mem_of_getElem? (i := 4) rfl), (List.forall_mem_cons.mpr ⟨ilX8_moonOf_wsX8_moonOf_r2 _ (List.mem_of_getElem? (i := 5) rfl), (List.forall_mem_cons.mpr ⟨ilX8_moonOf_wsX8_moonOf_r2 _ (List.mem_of_getElem? (i := 6) rfl), (List.forall_mem_cons.mpr ⟨ilX8_moonOf_wsX8_moonOf_r2 _ (List.mem_of_getElem? (i := 7) rfl), (List.forall_mem_cons.mpr ⟨ilX8_moonOf_wsX8_moonOf_r2 _ (List.mem_of_getElem? (i := 8) rfl), (List.forall_mem_cons.mpr ⟨ilX8_moonOf_wsX8_moonOf_r2 _ (List.mem_of_getElem? (i := 9) rfl), (List.forall_mem_cons.mpr ⟨ilX8_moonOf_wsX8_moonOf_r2 _ (List.mem_of_getElem? (i := 10) rfl), (List.forall_mem_cons.mpr ⟨ilX8_moonOf_wsX8_moonOf_r2 _ (List.mem_of_getElem? (i := 11) rfl), (fun _ h => absurd h List.not_mem_nil)⟩)⟩)⟩)⟩)⟩)⟩)⟩)⟩)⟩), ilX8_moonOf_wsX80⟩)⟩) (by decide +kernel)
set_option maxRecDepth 20000 in
theorem gX8_moonOf_X8_lends : GoodIn wsX8_moonOf (wsV RX8 276 RX8 yX8_lends wsX8_lends) := goodIn_app (goodIn_sub (List.forall_mem_cons.mpr ⟨ilX8_moonOf_wsX8_moonOf_r1 _ (List.mem_of_getElem? (i := 1) rfl), (List.forall_mem_cons.mpr ⟨ilX8_moonOf_wsX8_moonOf_r1 _ (List.mem_of_getElem? (i := 2) rfl), (List.forall_mem_cons.mpr ⟨ilX8_moonOf_wsX8_moonOf_r1 _ (List.mem_of_getElem? (i := 3) rfl), (List.forall_mem_cons.mpr ⟨ilX8_moonOf_wsX8_moonOf_r1 _ (List.mem_of_getElem? (i := 4) rfl), (fun _ h => absurd h List.not_mem_nil)⟩)⟩)⟩)⟩) (by decide +kernel)) ggX8_moonOf_X8_lends
set_option maxRecDepth 20000 in
theorem ggX8_moonOf_X8_yields : GoodIn wsX8_moonOf wsX8_yields := goodIn_sub (List.forall_mem_cons.mpr ⟨ilX8_moonOf_wsX8_moonOf_r2 _ (List.mem_of_getElem? (i := 15) rfl), (List.forall_mem_append.mpr ⟨(List.forall_mem_cons.mpr ⟨ilX8_moonOf_wsX8_moonOf_r1 _ (List.mem_of_getElem? (i := 6) rfl), (List.forall_mem_cons.mpr ⟨ilX8_moonOf_wsX8_moonOf_r1 _ (List.mem_of_getElem? (i := 7) rfl), (List.forall_mem_cons.mpr ⟨ilX8_moonOf_wsX8_moonOf_r1 _ (List.mem_of_getElem? (i := 13) rfl), (List.forall_mem_cons.mpr ⟨ilX8_moonOf_wsX8_moonOf_r1 _ (List.mem_of_getElem? (i := 14) rfl), (List.forall_mem_cons.mpr ⟨ilX8_moonOf_wsX8_moonOf_r1 _ (List.mem_of_getElem? (i := 15) rfl), (List.forall_mem_cons.mpr ⟨ilX8_moonOf_wsX8_moonOf_r1 _ (List.mem_of_getElem? (i := 4) rfl), (List.forall_mem_cons.mpr ⟨ilX8_moonOf_wsX8_moonOf_r1 _ (List.mem_of_getElem? (i := 16) rfl), (List.forall_mem_cons.mpr ⟨ilX8_moonOf_wsX8_moonOf_r1 _ (List.mem_of_getElem? (i := 17) rfl), (fun _ h => absurd h List.not_mem_nil)⟩)⟩)⟩)⟩)⟩)⟩)⟩)⟩), ilX8_moonOf_wsX80⟩)⟩) (by decide +kernel)
set_option maxRecDepth 20000 in
theorem gX8_moonOf_X8_yields : GoodIn wsX8_moonOf (wsV RX8 283 RX8 yX8_yields wsX8_yields) := goodIn_app (goodIn_sub (List.forall_mem_cons.mpr ⟨ilX8_moonOf_wsX8_moonOf_r2 _ (List.mem_of_getElem? (i := 12) rfl), (List.forall_mem_cons.mpr ⟨ilX8_moonOf_wsX8_moonOf_r2 _ (List.mem_of_getElem? (i := 13) rfl), (List.forall_mem_cons.mpr ⟨ilX8_moonOf_wsX8_moonOf_r2 _ (List.mem_of_getElem? (i := 14) rfl), (List.forall_mem_cons.mpr ⟨ilX8_moonOf_wsX8_moonOf_r1 _ (List.mem_of_getElem? (i := 4) rfl), (fun _ h => absurd h List.not_mem_nil)⟩)⟩)⟩)⟩) (by decide +kernel)) ggX8_moonOf_X8_yields
set_option maxRecDepth 20000 in
theorem ggX8_moonOf_X8_sown : GoodIn wsX8_moonOf wsX8_sown := goodIn_sub (List.forall_mem_cons.mpr ⟨ilX8_moonOf_wsX8_moonOf_r2 _ (List.mem_of_getElem? (i := 19) rfl), (List.forall_mem_append.mpr ⟨(List.forall_mem_cons.mpr ⟨ilX8_moonOf_wsX8_moonOf_r1 _ (List.mem_of_getElem? (i := 6) rfl), (List.forall_mem_cons.mpr ⟨ilX8_moonOf_wsX8_moonOf_r1 _ (List.mem_of_getElem? (i := 7) rfl), (fun _ h => absurd h List.not_mem_nil)⟩)⟩), ilX8_moonOf_wsX80⟩)⟩) (by decide +kernel)
set_option maxRecDepth 20000 in
theorem gX8_moonOf_X8_sown : GoodIn wsX8_moonOf (wsV RX8 280 RX8 yX8_sown wsX8_sown) := goodIn_app (goodIn_sub (List.forall_mem_cons.mpr ⟨ilX8_moonOf_wsX8_moonOf_r2 _ (List.mem_of_getElem? (i := 16) rfl), (List.forall_mem_cons.mpr ⟨ilX8_moonOf_wsX8_moonOf_r2 _ (List.mem_of_getElem? (i := 17) rfl), (List.forall_mem_cons.mpr ⟨ilX8_moonOf_wsX8_moonOf_r2 _ (List.mem_of_getElem? (i := 18) rfl), (List.forall_mem_cons.mpr ⟨ilX8_moonOf_wsX8_moonOf_r1 _ (List.mem_of_getElem? (i := 4) rfl), (fun _ h => absurd h List.not_mem_nil)⟩)⟩)⟩)⟩) (by decide +kernel)) ggX8_moonOf_X8_sown
theorem dX8_moonOf_0 : decode cX8_moonOf 0 = .ok (.iconst 0, 1) := by decide +kernel
theorem dX8_moonOf_1 : decode cX8_moonOf 1 = .ok (.istore 4, 2) := by decide +kernel
theorem dX8_moonOf_3 : decode cX8_moonOf 3 = .ok (.iconst 0, 1) := by decide +kernel
theorem dX8_moonOf_4 : decode cX8_moonOf 4 = .ok (.istore 5, 2) := by decide +kernel
theorem dX8_moonOf_6 : decode cX8_moonOf 6 = .ok (.iload 5, 2) := by decide +kernel
theorem dX8_moonOf_8 : decode cX8_moonOf 8 = .ok (.aload_n 0, 1) := by decide +kernel
theorem dX8_moonOf_9 : decode cX8_moonOf 9 = .ok (.getfield 224, 3) := by decide +kernel
theorem dX8_moonOf_12 : decode cX8_moonOf 12 = .ok (.if_icmp .ge 37, 3) := by decide +kernel
theorem dX8_moonOf_15 : decode cX8_moonOf 15 = .ok (.aload_n 0, 1) := by decide +kernel
theorem dX8_moonOf_16 : decode cX8_moonOf 16 = .ok (.iload 5, 2) := by decide +kernel
theorem dX8_moonOf_18 : decode cX8_moonOf 18 = .ok (.iload_n 1, 1) := by decide +kernel
theorem dX8_moonOf_19 : decode cX8_moonOf 19 = .ok (.iload_n 2, 1) := by decide +kernel
theorem dX8_moonOf_20 : decode cX8_moonOf 20 = .ok (.invokevirtual 276, 3) := by decide +kernel
theorem dX8_moonOf_23 : decode cX8_moonOf 23 = .ok (.iload 4, 2) := by decide +kernel
theorem dX8_moonOf_25 : decode cX8_moonOf 25 = .ok (.iload_n 3, 1) := by decide +kernel
theorem dX8_moonOf_26 : decode cX8_moonOf 26 = .ok (.ifCond .eq 10, 3) := by decide +kernel
theorem dX8_moonOf_29 : decode cX8_moonOf 29 = .ok (.aload_n 0, 1) := by decide +kernel
theorem dX8_moonOf_30 : decode cX8_moonOf 30 = .ok (.invokevirtual 283, 3) := by decide +kernel
theorem dX8_moonOf_33 : decode cX8_moonOf 33 = .ok (.goto 7, 3) := by decide +kernel
theorem dX8_moonOf_36 : decode cX8_moonOf 36 = .ok (.aload_n 0, 1) := by decide +kernel
theorem dX8_moonOf_37 : decode cX8_moonOf 37 = .ok (.invokevirtual 280, 3) := by decide +kernel
theorem dX8_moonOf_40 : decode cX8_moonOf 40 = .ok (.iadd, 1) := by decide +kernel
theorem dX8_moonOf_41 : decode cX8_moonOf 41 = .ok (.istore 4, 2) := by decide +kernel
theorem dX8_moonOf_43 : decode cX8_moonOf 43 = .ok (.iinc 5 1, 3) := by decide +kernel
theorem dX8_moonOf_46 : decode cX8_moonOf 46 = .ok (.goto (-40), 3) := by decide +kernel
theorem dX8_moonOf_49 : decode cX8_moonOf 49 = .ok (.iload 4, 2) := by decide +kernel
theorem dX8_moonOf_51 : decode cX8_moonOf 51 = .ok (.ireturn, 1) := by decide +kernel
set_option maxRecDepth 20000 in
theorem ggX8_isLaw_X8_in : GoodIn wsX8_isLaw wsX8_in := goodIn_sub (List.forall_mem_cons.mpr ⟨List.mem_cons_of_mem _ (List.mem_of_getElem? (i := 3) rfl), (fun _ h => absurd h List.not_mem_nil)⟩) (by decide +kernel)
set_option maxRecDepth 20000 in
theorem gX8_isLaw_X8_in : GoodIn wsX8_isLaw (va_wsS RX8 92 yX8_in wsX8_in) := goodIn_app (goodIn_of _ (by decide +kernel)) ggX8_isLaw_X8_in
theorem dX8_isLaw_0 : decode cX8_isLaw 0 = .ok (.iload_n 0, 1) := by decide +kernel
theorem dX8_isLaw_1 : decode cX8_isLaw 1 = .ok (.iconst 0, 1) := by decide +kernel
theorem dX8_isLaw_2 : decode cX8_isLaw 2 = .ok (.bipush 16, 2) := by decide +kernel
theorem dX8_isLaw_4 : decode cX8_isLaw 4 = .ok (.invokestatic 92, 3) := by decide +kernel
theorem dX8_isLaw_7 : decode cX8_isLaw 7 = .ok (.ifCond .eq 17, 3) := by decide +kernel
theorem dX8_isLaw_10 : decode cX8_isLaw 10 = .ok (.iload_n 1, 1) := by decide +kernel
theorem dX8_isLaw_11 : decode cX8_isLaw 11 = .ok (.iconst 1, 1) := by decide +kernel
theorem dX8_isLaw_12 : decode cX8_isLaw 12 = .ok (.bipush 9, 2) := by decide +kernel
theorem dX8_isLaw_14 : decode cX8_isLaw 14 = .ok (.invokestatic 92, 3) := by decide +kernel
theorem dX8_isLaw_17 : decode cX8_isLaw 17 = .ok (.ifCond .eq 7, 3) := by decide +kernel
theorem dX8_isLaw_20 : decode cX8_isLaw 20 = .ok (.iconst 1, 1) := by decide +kernel
theorem dX8_isLaw_21 : decode cX8_isLaw 21 = .ok (.goto 4, 3) := by decide +kernel
theorem dX8_isLaw_24 : decode cX8_isLaw 24 = .ok (.iconst 0, 1) := by decide +kernel
theorem dX8_isLaw_25 : decode cX8_isLaw 25 = .ok (.ireturn, 1) := by decide +kernel
theorem ilX8_moon_wsX8_moon_r1 : ∀ w ∈ wsX8_moon_r1, w ∈ wsX8_moon := fun _ h => List.mem_cons_of_mem _ (List.mem_append_left _ (List.mem_append_left _ (h)))
theorem ilX8_moon_wsX8_moon_r2 : ∀ w ∈ wsX8_moon_r2, w ∈ wsX8_moon := fun _ h => List.mem_cons_of_mem _ (List.mem_append_left _ (List.mem_append_right _ (List.mem_append_left _ (h))))
theorem ilX8_moon_wsX8_moon_r3 : ∀ w ∈ wsX8_moon_r3, w ∈ wsX8_moon := fun _ h => List.mem_cons_of_mem _ (List.mem_append_left _ (List.mem_append_right _ (List.mem_append_right _ (h))))
theorem ilX8_moon_wsX80 : ∀ w ∈ wsX80, w ∈ wsX8_moon := fun _ h => List.mem_cons_of_mem _ (List.mem_append_right _ (h))
set_option maxRecDepth 20000 in
theorem ggX8_moon_X8_isLaw : GoodIn wsX8_moon wsX8_isLaw := goodIn_sub (List.forall_mem_cons.mpr ⟨ilX8_moon_wsX8_moon_r1 _ (List.mem_of_getElem? (i := 4) rfl), (List.forall_mem_cons.mpr ⟨ilX8_moon_wsX8_moon_r1 _ (List.mem_of_getElem? (i := 5) rfl), (List.forall_mem_cons.mpr ⟨ilX8_moon_wsX8_moon_r1 _ (List.mem_of_getElem? (i := 6) rfl), (List.forall_mem_cons.mpr ⟨ilX8_moon_wsX8_moon_r1 _ (List.mem_of_getElem? (i := 3) rfl), (List.forall_mem_cons.mpr ⟨ilX8_moon_wsX8_moon_r1 _ (List.mem_of_getElem? (i := 7) rfl), (fun _ h => absurd h List.not_mem_nil)⟩)⟩)⟩)⟩)⟩) (by decide +kernel)
set_option maxRecDepth 20000 in
theorem gX8_moon_X8_isLaw : GoodIn wsX8_moon (va_wsS RX8 286 yX8_isLaw wsX8_isLaw) := goodIn_app (goodIn_of _ (by decide +kernel)) ggX8_moon_X8_isLaw
set_option maxRecDepth 20000 in
theorem ggX8_moon_X8_in : GoodIn wsX8_moon wsX8_in := goodIn_sub (List.forall_mem_cons.mpr ⟨ilX8_moon_wsX8_moon_r1 _ (List.mem_of_getElem? (i := 7) rfl), (fun _ h => absurd h List.not_mem_nil)⟩) (by decide +kernel)
set_option maxRecDepth 20000 in
theorem gX8_moon_X8_in : GoodIn wsX8_moon (va_wsS RX8 92 yX8_in wsX8_in) := goodIn_app (goodIn_of _ (by decide +kernel)) ggX8_moon_X8_in
set_option maxRecDepth 20000 in
theorem ggX8_moon_X8_moonOf : GoodIn wsX8_moon wsX8_moonOf := goodIn_sub (List.forall_mem_cons.mpr ⟨ilX8_moon_wsX8_moon_r1 _ (List.mem_of_getElem? (i := 11) rfl), (List.forall_mem_append.mpr ⟨(List.forall_mem_append.mpr ⟨(List.forall_mem_cons.mpr ⟨ilX8_moon_wsX8_moon_r1 _ (List.mem_of_getElem? (i := 12) rfl), (List.forall_mem_cons.mpr ⟨ilX8_moon_wsX8_moon_r1 _ (List.mem_of_getElem? (i := 13) rfl), (List.forall_mem_cons.mpr ⟨ilX8_moon_wsX8_moon_r1 _ (List.mem_of_getElem? (i := 14) rfl), (List.forall_mem_cons.mpr ⟨ilX8_moon_wsX8_moon_r1 _ (List.mem_of_getElem? (i := 15) rfl), (List.forall_mem_cons.mpr ⟨ilX8_moon_wsX8_moon_r1 _ (List.mem_of_getElem? (i := 3) rfl), (List.forall_mem_cons.mpr ⟨ilX8_moon_wsX8_moon_r1 _ (List.mem_of_getElem? (i := 16) rfl), (List.forall_mem_cons.mpr ⟨ilX8_moon_wsX8_moon_r1 _ (List.mem_of_getElem? (i := 0) rfl), (List.forall_mem_cons.mpr ⟨ilX8_moon_wsX8_moon_r1 _ (List.mem_of_getElem? (i := 17) rfl), (List.forall_mem_cons.mpr ⟨ilX8_moon_wsX8_moon_r1 _ (List.mem_of_getElem? (i := 18) rfl), (List.forall_mem_cons.mpr ⟨ilX8_moon_wsX8_moon_r1 _ (List.mem_of_getElem? (i := 19) rfl), (List.forall_mem_cons.mpr ⟨ilX8_moon_wsX8_moon_r1 _ (List.mem_of_getElem? (i := 20) rfl), (List.forall_mem_cons.mpr ⟨ilX8_moon_wsX8_moon_r1 _ (List.mem_of_getElem? (i := 21) rfl), (List.forall_mem_cons.mpr ⟨ilX8_moon_wsX8_moon_r1 _ (List.mem_of_getElem? (i := 22) rfl), (List.forall_mem_cons.mpr ⟨ilX8_moon_wsX8_moon_r1 _ (List.mem_of_getElem? (i := 23) rfl), (List.forall_mem_cons.mpr ⟨ilX8_moon_wsX8_moon_r2 _ (List.mem_of_getElem? (i := 0) rfl), (List.forall_mem_cons.mpr ⟨ilX8_moon_wsX8_moon_r2 _ (List.mem_of_getElem? (i := 1) rfl), (List.forall_mem_cons.mpr ⟨ilX8_moon_wsX8_moon_r2 _ (List.mem_of_getElem? (i := 2) rfl), (List.forall_mem_cons.mpr ⟨ilX8_moon_wsX8_moon_r2 _ (List.mem_of_getElem? (i := 3) rfl), (List.forall_mem_cons.mpr ⟨ilX8_moon_wsX8_moon_r2 _ (List.mem_of_getElem? (i := 4) rfl), (List.forall_mem_cons.mpr ⟨ilX8_moon_wsX8_moon_r2 _ (List.mem_of_getElem? (i := 5) rfl), (List.forall_mem_cons.mpr ⟨ilX8_moon_wsX8_moon_r2 _ (List.mem_of_getElem? (i := 6) rfl), (List.forall_mem_cons.mpr ⟨ilX8_moon_wsX8_moon_r2 _ (List.mem_of_getElem? (i := 7) rfl), (List.forall_mem_cons.mpr ⟨ilX8_moon_wsX8_moon_r2 _ (List.mem_of_getElem? (i := 8) rfl), (List.forall_mem_cons.mpr ⟨ilX8_moon_wsX8_moon_r2 _ (List.mem_of_getElem? (i := 9) rfl), (fun _ h => absurd h List.not_mem_nil)⟩)⟩)⟩)⟩)⟩)⟩)⟩)⟩)⟩)⟩)⟩)⟩)⟩)⟩)⟩)⟩)⟩)⟩)⟩)⟩)⟩)⟩)⟩)⟩), (List.forall_mem_cons.mpr ⟨ilX8_moon_wsX8_moon_r2 _ (List.mem_of_getElem? (i := 10) rfl), (List.forall_mem_cons.mpr ⟨ilX8_moon_wsX8_moon_r2 _ (List.mem_of_getElem? (i := 11) rfl), (List.forall_mem_cons.mpr ⟨ilX8_moon_wsX8_moon_r2 _ (List.mem_of_getElem? (i := 12) rfl), (List.forall_mem_cons.mpr ⟨ilX8_moon_wsX8_moon_r2 _ (List.mem_of_getElem? (i := 13) rfl), (List.forall_mem_cons.mpr ⟨ilX8_moon_wsX8_moon_r2 _ (List.mem_of_getElem? (i := 14) rfl), (List.forall_mem_cons.mpr ⟨ilX8_moon_wsX8_moon_r2 _ (List.mem_of_getElem? (i := 15) rfl), (List.forall_mem_cons.mpr ⟨ilX8_moon_wsX8_moon_r2 _ (List.mem_of_getElem? (i := 16) rfl), (List.forall_mem_cons.mpr ⟨ilX8_moon_wsX8_moon_r2 _ (List.mem_of_getElem? (i := 17) rfl), (List.forall_mem_cons.mpr ⟨ilX8_moon_wsX8_moon_r2 _ (List.mem_of_getElem? (i := 18) rfl), (List.forall_mem_cons.mpr ⟨ilX8_moon_wsX8_moon_r2 _ (List.mem_of_getElem? (i := 19) rfl), (List.forall_mem_cons.mpr ⟨ilX8_moon_wsX8_moon_r2 _ (List.mem_of_getElem? (i := 20) rfl), (List.forall_mem_cons.mpr ⟨ilX8_moon_wsX8_moon_r2 _ (List.mem_of_getElem? (i := 21) rfl), (List.forall_mem_cons.mpr ⟨ilX8_moon_wsX8_moon_r2 _ (List.mem_of_getElem? (i := 22) rfl), (List.forall_mem_cons.mpr ⟨ilX8_moon_wsX8_moon_r2 _ (List.mem_of_getElem? (i := 23) rfl), (List.forall_mem_cons.mpr ⟨ilX8_moon_wsX8_moon_r3 _ (List.mem_of_getElem? (i := 0) rfl), (List.forall_mem_cons.mpr ⟨ilX8_moon_wsX8_moon_r3 _ (List.mem_of_getElem? (i := 1) rfl), (List.forall_mem_cons.mpr ⟨ilX8_moon_wsX8_moon_r3 _ (List.mem_of_getElem? (i := 2) rfl), (List.forall_mem_cons.mpr ⟨ilX8_moon_wsX8_moon_r3 _ (List.mem_of_getElem? (i := 3) rfl), (List.forall_mem_cons.mpr ⟨ilX8_moon_wsX8_moon_r3 _ (List.mem_of_getElem? (i := 4) rfl), (List.forall_mem_cons.mpr ⟨ilX8_moon_wsX8_moon_r3 _ (List.mem_of_getElem? (i := 5) rfl), (fun _ h => absurd h List.not_mem_nil)⟩)⟩)⟩)⟩)⟩)⟩)⟩)⟩)⟩)⟩)⟩)⟩)⟩)⟩)⟩)⟩)⟩)⟩)⟩)⟩)⟩), ilX8_moon_wsX80⟩)⟩) (by decide +kernel)
set_option maxRecDepth 20000 in
theorem gX8_moon_X8_moonOf : GoodIn wsX8_moon (wsV RX8 289 RX8 yX8_moonOf wsX8_moonOf) := goodIn_app (goodIn_sub (List.forall_mem_cons.mpr ⟨ilX8_moon_wsX8_moon_r1 _ (List.mem_of_getElem? (i := 8) rfl), (List.forall_mem_cons.mpr ⟨ilX8_moon_wsX8_moon_r1 _ (List.mem_of_getElem? (i := 9) rfl), (List.forall_mem_cons.mpr ⟨ilX8_moon_wsX8_moon_r1 _ (List.mem_of_getElem? (i := 10) rfl), (List.forall_mem_cons.mpr ⟨ilX8_moon_wsX8_moon_r1 _ (List.mem_of_getElem? (i := 3) rfl), (fun _ h => absurd h List.not_mem_nil)⟩)⟩)⟩)⟩) (by decide +kernel)) ggX8_moon_X8_moonOf
theorem dX8_moon_0 : decode cX8_moon 0 = .ok (.aload_n 0, 1) := by decide +kernel
theorem dX8_moon_1 : decode cX8_moon 1 = .ok (.getfield 214, 3) := by decide +kernel
theorem dX8_moon_4 : decode cX8_moon 4 = .ok (.ifCond .le 39, 3) := by decide +kernel
theorem dX8_moon_7 : decode cX8_moon 7 = .ok (.iload_n 1, 1) := by decide +kernel
theorem dX8_moon_8 : decode cX8_moon 8 = .ok (.iload_n 2, 1) := by decide +kernel
theorem dX8_moon_9 : decode cX8_moon 9 = .ok (.invokestatic 286, 3) := by decide +kernel
theorem dX8_moon_12 : decode cX8_moon 12 = .ok (.ifCond .eq 31, 3) := by decide +kernel
theorem dX8_moon_15 : decode cX8_moon 15 = .ok (.iload_n 3, 1) := by decide +kernel
theorem dX8_moon_16 : decode cX8_moon 16 = .ok (.iconst 0, 1) := by decide +kernel
theorem dX8_moon_17 : decode cX8_moon 17 = .ok (.iconst 1, 1) := by decide +kernel
theorem dX8_moon_18 : decode cX8_moon 18 = .ok (.invokestatic 92, 3) := by decide +kernel
theorem dX8_moon_21 : decode cX8_moon 21 = .ok (.ifCond .eq 22, 3) := by decide +kernel
theorem dX8_moon_24 : decode cX8_moon 24 = .ok (.aload_n 0, 1) := by decide +kernel
theorem dX8_moon_25 : decode cX8_moon 25 = .ok (.iload_n 1, 1) := by decide +kernel
theorem dX8_moon_26 : decode cX8_moon 26 = .ok (.iload_n 2, 1) := by decide +kernel
theorem dX8_moon_27 : decode cX8_moon 27 = .ok (.iload_n 3, 1) := by decide +kernel
theorem dX8_moon_28 : decode cX8_moon 28 = .ok (.iconst 1, 1) := by decide +kernel
theorem dX8_moon_29 : decode cX8_moon 29 = .ok (.if_icmp .ne 7, 3) := by decide +kernel
theorem dX8_moon_32 : decode cX8_moon 32 = .ok (.iconst 1, 1) := by decide +kernel
theorem dX8_moon_33 : decode cX8_moon 33 = .ok (.goto 4, 3) := by decide +kernel
theorem dX8_moon_36 : decode cX8_moon 36 = .ok (.iconst 0, 1) := by decide +kernel
theorem dX8_moon_37 : decode cX8_moon 37 = .ok (.invokevirtual 289, 3) := by decide +kernel
theorem dX8_moon_40 : decode cX8_moon 40 = .ok (.goto 4, 3) := by decide +kernel
theorem dX8_moon_43 : decode cX8_moon 43 = .ok (.iconst (-1), 1) := by decide +kernel
theorem dX8_moon_44 : decode cX8_moon 44 = .ok (.ireturn, 1) := by decide +kernel
theorem ilX8_best_wsX8_best_r1 : ∀ w ∈ wsX8_best_r1, w ∈ wsX8_best := fun _ h => List.mem_cons_of_mem _ (List.mem_append_left _ (List.mem_append_left _ (h)))
theorem ilX8_best_wsX8_best_r2 : ∀ w ∈ wsX8_best_r2, w ∈ wsX8_best := fun _ h => List.mem_cons_of_mem _ (List.mem_append_left _ (List.mem_append_right _ (List.mem_append_left _ (h))))
theorem ilX8_best_wsX8_best_r3 : ∀ w ∈ wsX8_best_r3, w ∈ wsX8_best := fun _ h => List.mem_cons_of_mem _ (List.mem_append_left _ (List.mem_append_right _ (List.mem_append_right _ (h))))
theorem ilX8_best_wsX80 : ∀ w ∈ wsX80, w ∈ wsX8_best := fun _ h => List.mem_cons_of_mem _ (List.mem_append_right _ (h))
set_option maxRecDepth 20000 in
theorem ggX8_best_X8_in : GoodIn wsX8_best wsX8_in := goodIn_sub (List.forall_mem_cons.mpr ⟨ilX8_best_wsX8_best_r1 _ (List.mem_of_getElem? (i := 4) rfl), (fun _ h => absurd h List.not_mem_nil)⟩) (by decide +kernel)
set_option maxRecDepth 20000 in
theorem gX8_best_X8_in : GoodIn wsX8_best (va_wsS RX8 92 yX8_in wsX8_in) := goodIn_app (goodIn_of _ (by decide +kernel)) ggX8_best_X8_in
set_option maxRecDepth 20000 in
theorem ggX8_best_X8_moonOf : GoodIn wsX8_best wsX8_moonOf := goodIn_sub (List.forall_mem_cons.mpr ⟨ilX8_best_wsX8_best_r1 _ (List.mem_of_getElem? (i := 8) rfl), (List.forall_mem_append.mpr ⟨(List.forall_mem_append.mpr ⟨(List.forall_mem_cons.mpr ⟨ilX8_best_wsX8_best_r1 _ (List.mem_of_getElem? (i := 9) rfl), (List.forall_mem_cons.mpr ⟨ilX8_best_wsX8_best_r1 _ (List.mem_of_getElem? (i := 10) rfl), (List.forall_mem_cons.mpr ⟨ilX8_best_wsX8_best_r1 _ (List.mem_of_getElem? (i := 11) rfl), (List.forall_mem_cons.mpr ⟨ilX8_best_wsX8_best_r1 _ (List.mem_of_getElem? (i := 12) rfl), (List.forall_mem_cons.mpr ⟨ilX8_best_wsX8_best_r1 _ (List.mem_of_getElem? (i := 3) rfl), (List.forall_mem_cons.mpr ⟨ilX8_best_wsX8_best_r1 _ (List.mem_of_getElem? (i := 13) rfl), (List.forall_mem_cons.mpr ⟨ilX8_best_wsX8_best_r1 _ (List.mem_of_getElem? (i := 0) rfl), (List.forall_mem_cons.mpr ⟨ilX8_best_wsX8_best_r1 _ (List.mem_of_getElem? (i := 14) rfl), (List.forall_mem_cons.mpr ⟨ilX8_best_wsX8_best_r1 _ (List.mem_of_getElem? (i := 15) rfl), (List.forall_mem_cons.mpr ⟨ilX8_best_wsX8_best_r1 _ (List.mem_of_getElem? (i := 16) rfl), (List.forall_mem_cons.mpr ⟨ilX8_best_wsX8_best_r1 _ (List.mem_of_getElem? (i := 17) rfl), (List.forall_mem_cons.mpr ⟨ilX8_best_wsX8_best_r1 _ (List.mem_of_getElem? (i := 18) rfl), (List.forall_mem_cons.mpr ⟨ilX8_best_wsX8_best_r1 _ (List.mem_of_getElem? (i := 19) rfl), (List.forall_mem_cons.mpr ⟨ilX8_best_wsX8_best_r1 _ (List.mem_of_getElem? (i := 20) rfl), (List.forall_mem_cons.mpr ⟨ilX8_best_wsX8_best_r1 _ (List.mem_of_getElem? (i := 21) rfl), (List.forall_mem_cons.mpr ⟨ilX8_best_wsX8_best_r1 _ (List.mem_of_getElem? (i := 22) rfl), (List.forall_mem_cons.mpr ⟨ilX8_best_wsX8_best_r1 _ (List.mem_of_getElem? (i := 23) rfl), (List.forall_mem_cons.mpr ⟨ilX8_best_wsX8_best_r2 _ (List.mem_of_getElem? (i := 0) rfl), (List.forall_mem_cons.mpr ⟨ilX8_best_wsX8_best_r2 _ (List.mem_of_getElem? (i := 1) rfl), (List.forall_mem_cons.mpr ⟨ilX8_best_wsX8_best_r2 _ (List.mem_of_getElem? (i := 2) rfl), (List.forall_mem_cons.mpr ⟨ilX8_best_wsX8_best_r2 _ (List.mem_of_getElem? (i := 3) rfl), (List.forall_mem_cons.mpr ⟨ilX8_best_wsX8_best_r2 _ (List.mem_of_getElem? (i := 4) rfl), (List.forall_mem_cons.mpr ⟨ilX8_best_wsX8_best_r2 _ (List.mem_of_getElem? (i := 5) rfl), (List.forall_mem_cons.mpr ⟨ilX8_best_wsX8_best_r2 _ (List.mem_of_getElem? (i := 6) rfl), (fun _ h => absurd h List.not_mem_nil)⟩)⟩)⟩)⟩)⟩)⟩)⟩)⟩)⟩)⟩)⟩)⟩)⟩)⟩)⟩)⟩)⟩)⟩)⟩)⟩)⟩)⟩)⟩)⟩), (List.forall_mem_cons.mpr ⟨ilX8_best_wsX8_best_r2 _ (List.mem_of_getElem? (i := 7) rfl), (List.forall_mem_cons.mpr ⟨ilX8_best_wsX8_best_r2 _ (List.mem_of_getElem? (i := 8) rfl), (List.forall_mem_cons.mpr ⟨ilX8_best_wsX8_best_r2 _ (List.mem_of_getElem? (i := 9) rfl), (List.forall_mem_cons.mpr ⟨ilX8_best_wsX8_best_r2 _ (List.mem_of_getElem? (i := 10) rfl), (List.forall_mem_cons.mpr ⟨ilX8_best_wsX8_best_r2 _ (List.mem_of_getElem? (i := 11) rfl), (List.forall_mem_cons.mpr ⟨ilX8_best_wsX8_best_r2 _ (List.mem_of_getElem? (i := 12) rfl), (List.forall_mem_cons.mpr ⟨ilX8_best_wsX8_best_r2 _ (List.mem_of_getElem? (i := 13) rfl), (List.forall_mem_cons.mpr ⟨ilX8_best_wsX8_best_r2 _ (List.mem_of_getElem? (i := 14) rfl), (List.forall_mem_cons.mpr ⟨ilX8_best_wsX8_best_r2 _ (List.mem_of_getElem? (i := 15) rfl), (List.forall_mem_cons.mpr ⟨ilX8_best_wsX8_best_r2 _ (List.mem_of_getElem? (i := 16) rfl), (List.forall_mem_cons.mpr ⟨ilX8_best_wsX8_best_r2 _ (List.mem_of_getElem? (i := 17) rfl), (List.forall_mem_cons.mpr ⟨ilX8_best_wsX8_best_r2 _ (List.mem_of_getElem? (i := 18) rfl), (List.forall_mem_cons.mpr ⟨ilX8_best_wsX8_best_r2 _ (List.mem_of_getElem? (i := 19) rfl), (List.forall_mem_cons.mpr ⟨ilX8_best_wsX8_best_r2 _ (List.mem_of_getElem? (i := 20) rfl), (List.forall_mem_cons.mpr ⟨ilX8_best_wsX8_best_r2 _ (List.mem_of_getElem? (i := 21) rfl), (List.forall_mem_cons.mpr ⟨ilX8_best_wsX8_best_r2 _ (List.mem_of_getElem? (i := 22) rfl), (List.forall_mem_cons.mpr ⟨ilX8_best_wsX8_best_r2 _ (List.mem_of_getElem? (i := 23) rfl), (List.forall_mem_cons.mpr ⟨ilX8_best_wsX8_best_r3 _ (List.mem_of_getElem? (i := 0) rfl), (List.forall_mem_cons.mpr ⟨ilX8_best_wsX8_best_r3 _ (List.mem_of_getElem? (i := 1) rfl), (List.forall_mem_cons.mpr ⟨ilX8_best_wsX8_best_r3 _ (List.mem_of_getElem? (i := 2) rfl), (fun _ h => absurd h List.not_mem_nil)⟩)⟩)⟩)⟩)⟩)⟩)⟩)⟩)⟩)⟩)⟩)⟩)⟩)⟩)⟩)⟩)⟩)⟩)⟩)⟩)⟩), ilX8_best_wsX80⟩)⟩) (by decide +kernel)
set_option maxRecDepth 20000 in
theorem gX8_best_X8_moonOf : GoodIn wsX8_best (wsV RX8 289 RX8 yX8_moonOf wsX8_moonOf) := goodIn_app (goodIn_sub (List.forall_mem_cons.mpr ⟨ilX8_best_wsX8_best_r1 _ (List.mem_of_getElem? (i := 5) rfl), (List.forall_mem_cons.mpr ⟨ilX8_best_wsX8_best_r1 _ (List.mem_of_getElem? (i := 6) rfl), (List.forall_mem_cons.mpr ⟨ilX8_best_wsX8_best_r1 _ (List.mem_of_getElem? (i := 7) rfl), (List.forall_mem_cons.mpr ⟨ilX8_best_wsX8_best_r1 _ (List.mem_of_getElem? (i := 3) rfl), (fun _ h => absurd h List.not_mem_nil)⟩)⟩)⟩)⟩) (by decide +kernel)) ggX8_best_X8_moonOf
theorem dX8_best_0 : decode cX8_best 0 = .ok (.aload_n 0, 1) := by decide +kernel
theorem dX8_best_1 : decode cX8_best 1 = .ok (.getfield 214, 3) := by decide +kernel
theorem dX8_best_4 : decode cX8_best 4 = .ok (.ifCond .eq 12, 3) := by decide +kernel
theorem dX8_best_7 : decode cX8_best 7 = .ok (.iload_n 1, 1) := by decide +kernel
theorem dX8_best_8 : decode cX8_best 8 = .ok (.iconst 0, 1) := by decide +kernel
theorem dX8_best_9 : decode cX8_best 9 = .ok (.iconst 2, 1) := by decide +kernel
theorem dX8_best_10 : decode cX8_best 10 = .ok (.invokestatic 92, 3) := by decide +kernel
theorem dX8_best_13 : decode cX8_best 13 = .ok (.ifCond .ne 5, 3) := by decide +kernel
theorem dX8_best_16 : decode cX8_best 16 = .ok (.iconst (-1), 1) := by decide +kernel
theorem dX8_best_17 : decode cX8_best 17 = .ok (.ireturn, 1) := by decide +kernel
theorem dX8_best_18 : decode cX8_best 18 = .ok (.iconst 0, 1) := by decide +kernel
theorem dX8_best_19 : decode cX8_best 19 = .ok (.istore_n 2, 1) := by decide +kernel
theorem dX8_best_20 : decode cX8_best 20 = .ok (.iconst 0, 1) := by decide +kernel
theorem dX8_best_21 : decode cX8_best 21 = .ok (.istore_n 3, 1) := by decide +kernel
theorem dX8_best_22 : decode cX8_best 22 = .ok (.iconst (-1), 1) := by decide +kernel
theorem dX8_best_23 : decode cX8_best 23 = .ok (.istore 4, 2) := by decide +kernel
theorem dX8_best_25 : decode cX8_best 25 = .ok (.iconst 0, 1) := by decide +kernel
theorem dX8_best_26 : decode cX8_best 26 = .ok (.istore 5, 2) := by decide +kernel
theorem dX8_best_28 : decode cX8_best 28 = .ok (.iload 5, 2) := by decide +kernel
theorem dX8_best_30 : decode cX8_best 30 = .ok (.bipush 16, 2) := by decide +kernel
theorem dX8_best_32 : decode cX8_best 32 = .ok (.if_icmp .gt 56, 3) := by decide +kernel
theorem dX8_best_35 : decode cX8_best 35 = .ok (.iconst 1, 1) := by decide +kernel
theorem dX8_best_36 : decode cX8_best 36 = .ok (.istore 6, 2) := by decide +kernel
theorem dX8_best_38 : decode cX8_best 38 = .ok (.iload 6, 2) := by decide +kernel
theorem dX8_best_40 : decode cX8_best 40 = .ok (.bipush 9, 2) := by decide +kernel
theorem dX8_best_42 : decode cX8_best 42 = .ok (.if_icmp .gt 40, 3) := by decide +kernel
theorem dX8_best_45 : decode cX8_best 45 = .ok (.aload_n 0, 1) := by decide +kernel
theorem dX8_best_46 : decode cX8_best 46 = .ok (.iload 5, 2) := by decide +kernel
theorem dX8_best_48 : decode cX8_best 48 = .ok (.iload 6, 2) := by decide +kernel
theorem dX8_best_50 : decode cX8_best 50 = .ok (.iconst 1, 1) := by decide +kernel
theorem dX8_best_51 : decode cX8_best 51 = .ok (.invokevirtual 289, 3) := by decide +kernel
theorem dX8_best_54 : decode cX8_best 54 = .ok (.istore 7, 2) := by decide +kernel
theorem dX8_best_56 : decode cX8_best 56 = .ok (.iload 7, 2) := by decide +kernel
theorem dX8_best_58 : decode cX8_best 58 = .ok (.iload 4, 2) := by decide +kernel
theorem dX8_best_60 : decode cX8_best 60 = .ok (.if_icmp .gt 6, 3) := by decide +kernel
theorem dX8_best_63 : decode cX8_best 63 = .ok (.goto 13, 3) := by decide +kernel
theorem dX8_best_66 : decode cX8_best 66 = .ok (.iload 7, 2) := by decide +kernel
theorem dX8_best_68 : decode cX8_best 68 = .ok (.istore 4, 2) := by decide +kernel
theorem dX8_best_70 : decode cX8_best 70 = .ok (.iload 5, 2) := by decide +kernel
theorem dX8_best_72 : decode cX8_best 72 = .ok (.istore_n 2, 1) := by decide +kernel
theorem dX8_best_73 : decode cX8_best 73 = .ok (.iload 6, 2) := by decide +kernel
theorem dX8_best_75 : decode cX8_best 75 = .ok (.istore_n 3, 1) := by decide +kernel
theorem dX8_best_76 : decode cX8_best 76 = .ok (.iinc 6 1, 3) := by decide +kernel
theorem dX8_best_79 : decode cX8_best 79 = .ok (.goto (-41), 3) := by decide +kernel
theorem dX8_best_82 : decode cX8_best 82 = .ok (.iinc 5 1, 3) := by decide +kernel
theorem dX8_best_85 : decode cX8_best 85 = .ok (.goto (-57), 3) := by decide +kernel
theorem dX8_best_88 : decode cX8_best 88 = .ok (.iload_n 1, 1) := by decide +kernel
theorem dX8_best_89 : decode cX8_best 89 = .ok (.ifCond .ne 7, 3) := by decide +kernel
theorem dX8_best_92 : decode cX8_best 92 = .ok (.iload_n 2, 1) := by decide +kernel
theorem dX8_best_93 : decode cX8_best 93 = .ok (.goto 14, 3) := by decide +kernel
theorem dX8_best_96 : decode cX8_best 96 = .ok (.iload_n 1, 1) := by decide +kernel
theorem dX8_best_97 : decode cX8_best 97 = .ok (.iconst 1, 1) := by decide +kernel
theorem dX8_best_98 : decode cX8_best 98 = .ok (.if_icmp .ne 7, 3) := by decide +kernel
theorem dX8_best_101 : decode cX8_best 101 = .ok (.iload_n 3, 1) := by decide +kernel
theorem dX8_best_102 : decode cX8_best 102 = .ok (.goto 5, 3) := by decide +kernel
theorem dX8_best_105 : decode cX8_best 105 = .ok (.iload 4, 2) := by decide +kernel
theorem dX8_best_107 : decode cX8_best 107 = .ok (.ireturn, 1) := by decide +kernel
theorem ilX8_gains_wsX8_gains_r1 : ∀ w ∈ wsX8_gains_r1, w ∈ wsX8_gains := fun _ h => List.mem_cons_of_mem _ (List.mem_append_left _ (List.mem_append_left _ (h)))
theorem ilX8_gains_wsX8_gains_r2 : ∀ w ∈ wsX8_gains_r2, w ∈ wsX8_gains := fun _ h => List.mem_cons_of_mem _ (List.mem_append_left _ (List.mem_append_right _ (h)))
theorem ilX8_gains_wsX80 : ∀ w ∈ wsX80, w ∈ wsX8_gains := fun _ h => List.mem_cons_of_mem _ (List.mem_append_right _ (h))
set_option maxRecDepth 20000 in
theorem ggX8_gains_X8_isSort : GoodIn wsX8_gains wsX8_isSort := goodIn_sub (List.forall_mem_cons.mpr ⟨ilX8_gains_wsX8_gains_r1 _ (List.mem_of_getElem? (i := 9) rfl), (List.forall_mem_append.mpr ⟨(List.forall_mem_cons.mpr ⟨ilX8_gains_wsX8_gains_r1 _ (List.mem_of_getElem? (i := 10) rfl), (List.forall_mem_cons.mpr ⟨ilX8_gains_wsX8_gains_r1 _ (List.mem_of_getElem? (i := 11) rfl), (List.forall_mem_cons.mpr ⟨ilX8_gains_wsX8_gains_r1 _ (List.mem_of_getElem? (i := 12) rfl), (List.forall_mem_cons.mpr ⟨ilX8_gains_wsX8_gains_r1 _ (List.mem_of_getElem? (i := 8) rfl), (List.forall_mem_cons.mpr ⟨ilX8_gains_wsX8_gains_r1 _ (List.mem_of_getElem? (i := 13) rfl), (fun _ h => absurd h List.not_mem_nil)⟩)⟩)⟩)⟩)⟩), ilX8_gains_wsX80⟩)⟩) (by decide +kernel)
set_option maxRecDepth 20000 in
theorem gX8_gains_X8_isSort : GoodIn wsX8_gains (wsV RX8 252 RX8 yX8_isSort wsX8_isSort) := goodIn_app (goodIn_sub (List.forall_mem_cons.mpr ⟨ilX8_gains_wsX8_gains_r1 _ (List.mem_of_getElem? (i := 5) rfl), (List.forall_mem_cons.mpr ⟨ilX8_gains_wsX8_gains_r1 _ (List.mem_of_getElem? (i := 6) rfl), (List.forall_mem_cons.mpr ⟨ilX8_gains_wsX8_gains_r1 _ (List.mem_of_getElem? (i := 7) rfl), (List.forall_mem_cons.mpr ⟨ilX8_gains_wsX8_gains_r1 _ (List.mem_of_getElem? (i := 8) rfl), (fun _ h => absurd h List.not_mem_nil)⟩)⟩)⟩)⟩) (by decide +kernel)) ggX8_gains_X8_isSort
set_option maxRecDepth 20000 in
theorem ggX8_gains_X8_lends : GoodIn wsX8_gains wsX8_lends := goodIn_sub (List.forall_mem_cons.mpr ⟨ilX8_gains_wsX8_gains_r1 _ (List.mem_of_getElem? (i := 17) rfl), (List.forall_mem_append.mpr ⟨(List.forall_mem_append.mpr ⟨(List.forall_mem_cons.mpr ⟨ilX8_gains_wsX8_gains_r1 _ (List.mem_of_getElem? (i := 10) rfl), (List.forall_mem_cons.mpr ⟨ilX8_gains_wsX8_gains_r1 _ (List.mem_of_getElem? (i := 4) rfl), (List.forall_mem_cons.mpr ⟨ilX8_gains_wsX8_gains_r1 _ (List.mem_of_getElem? (i := 18) rfl), (List.forall_mem_cons.mpr ⟨ilX8_gains_wsX8_gains_r1 _ (List.mem_of_getElem? (i := 19) rfl), (List.forall_mem_cons.mpr ⟨ilX8_gains_wsX8_gains_r1 _ (List.mem_of_getElem? (i := 20) rfl), (List.forall_mem_cons.mpr ⟨ilX8_gains_wsX8_gains_r1 _ (List.mem_of_getElem? (i := 21) rfl), (List.forall_mem_cons.mpr ⟨ilX8_gains_wsX8_gains_r1 _ (List.mem_of_getElem? (i := 22) rfl), (List.forall_mem_cons.mpr ⟨ilX8_gains_wsX8_gains_r1 _ (List.mem_of_getElem? (i := 23) rfl), (List.forall_mem_cons.mpr ⟨ilX8_gains_wsX8_gains_r2 _ (List.mem_of_getElem? (i := 0) rfl), (List.forall_mem_cons.mpr ⟨ilX8_gains_wsX8_gains_r2 _ (List.mem_of_getElem? (i := 1) rfl), (List.forall_mem_cons.mpr ⟨ilX8_gains_wsX8_gains_r1 _ (List.mem_of_getElem? (i := 8) rfl), (List.forall_mem_cons.mpr ⟨ilX8_gains_wsX8_gains_r2 _ (List.mem_of_getElem? (i := 2) rfl), (List.forall_mem_cons.mpr ⟨ilX8_gains_wsX8_gains_r2 _ (List.mem_of_getElem? (i := 3) rfl), (List.forall_mem_cons.mpr ⟨ilX8_gains_wsX8_gains_r2 _ (List.mem_of_getElem? (i := 4) rfl), (List.forall_mem_cons.mpr ⟨ilX8_gains_wsX8_gains_r2 _ (List.mem_of_getElem? (i := 5) rfl), (List.forall_mem_cons.mpr ⟨ilX8_gains_wsX8_gains_r2 _ (List.mem_of_getElem? (i := 6) rfl), (List.forall_mem_cons.mpr ⟨ilX8_gains_wsX8_gains_r2 _ (List.mem_of_getElem? (i := 7) rfl), (List.forall_mem_cons.mpr ⟨ilX8_gains_wsX8_gains_r2 _ (List.mem_of_getElem? (i := 8) rfl), (List.forall_mem_cons.mpr ⟨ilX8_gains_wsX8_gains_r2 _ (List.mem_of_getElem? (i := 9) rfl), (List.forall_mem_cons.mpr ⟨ilX8_gains_wsX8_gains_r2 _ (List.mem_of_getElem? (i := 10) rfl), (List.forall_mem_cons.mpr ⟨ilX8_gains_wsX8_gains_r2 _ (List.mem_of_getElem? (i := 11) rfl), (List.forall_mem_cons.mpr ⟨ilX8_gains_wsX8_gains_r2 _ (List.mem_of_getElem? (i := 12) rfl), (List.forall_mem_cons.mpr ⟨ilX8_gains_wsX8_gains_r1 _ (List.mem_of_getElem? (i := 1) rfl), (List.forall_mem_cons.mpr ⟨ilX8_gains_wsX8_gains_r2 _ (List.mem_of_getElem? (i := 13) rfl), (fun _ h => absurd h List.not_mem_nil)⟩)⟩)⟩)⟩)⟩)⟩)⟩)⟩)⟩)⟩)⟩)⟩)⟩)⟩)⟩)⟩)⟩)⟩)⟩)⟩)⟩)⟩)⟩)⟩), (List.forall_mem_cons.mpr ⟨ilX8_gains_wsX8_gains_r2 _ (List.mem_of_getElem? (i := 14) rfl), (List.forall_mem_cons.mpr ⟨ilX8_gains_wsX8_gains_r2 _ (List.mem_of_getElem? (i := 15) rfl), (List.forall_mem_cons.mpr ⟨ilX8_gains_wsX8_gains_r2 _ (List.mem_of_getElem? (i := 16) rfl), (List.forall_mem_cons.mpr ⟨ilX8_gains_wsX8_gains_r2 _ (List.mem_of_getElem? (i := 17) rfl), (List.forall_mem_cons.mpr ⟨ilX8_gains_wsX8_gains_r2 _ (List.mem_of_getElem? (i := 18) rfl), (List.forall_mem_cons.mpr ⟨ilX8_gains_wsX8_gains_r2 _ (List.mem_of_getElem? (i := 19) rfl), (List.forall_mem_cons.mpr ⟨ilX8_gains_wsX8_gains_r2 _ (List.mem_of_getElem? (i := 20) rfl), (List.forall_mem_cons.mpr ⟨ilX8_gains_wsX8_gains_r2 _ (List.mem_of_getElem? (i := 21) rfl), (fun _ h => absurd h List.not_mem_nil)⟩)⟩)⟩)⟩)⟩)⟩)⟩)⟩)⟩), ilX8_gains_wsX80⟩)⟩) (by decide +kernel)
set_option maxRecDepth 20000 in
theorem gX8_gains_X8_lends : GoodIn wsX8_gains (wsV RX8 276 RX8 yX8_lends wsX8_lends) := goodIn_app (goodIn_sub (List.forall_mem_cons.mpr ⟨ilX8_gains_wsX8_gains_r1 _ (List.mem_of_getElem? (i := 14) rfl), (List.forall_mem_cons.mpr ⟨ilX8_gains_wsX8_gains_r1 _ (List.mem_of_getElem? (i := 15) rfl), (List.forall_mem_cons.mpr ⟨ilX8_gains_wsX8_gains_r1 _ (List.mem_of_getElem? (i := 16) rfl), (List.forall_mem_cons.mpr ⟨ilX8_gains_wsX8_gains_r1 _ (List.mem_of_getElem? (i := 8) rfl), (fun _ h => absurd h List.not_mem_nil)⟩)⟩)⟩)⟩) (by decide +kernel)) ggX8_gains_X8_lends
theorem dX8_gains_0 : decode cX8_gains 0 = .ok (.aload_n 0, 1) := by decide +kernel
theorem dX8_gains_1 : decode cX8_gains 1 = .ok (.iload_n 1, 1) := by decide +kernel
theorem dX8_gains_2 : decode cX8_gains 2 = .ok (.invokevirtual 252, 3) := by decide +kernel
theorem dX8_gains_5 : decode cX8_gains 5 = .ok (.ifCond .ne 7, 3) := by decide +kernel
theorem dX8_gains_8 : decode cX8_gains 8 = .ok (.ldc_w 293, 3) := by decide +kernel
theorem dX8_gains_11 : decode cX8_gains 11 = .ok (.ireturn, 1) := by decide +kernel
theorem dX8_gains_12 : decode cX8_gains 12 = .ok (.iconst 0, 1) := by decide +kernel
theorem dX8_gains_13 : decode cX8_gains 13 = .ok (.istore_n 2, 1) := by decide +kernel
theorem dX8_gains_14 : decode cX8_gains 14 = .ok (.iconst 0, 1) := by decide +kernel
theorem dX8_gains_15 : decode cX8_gains 15 = .ok (.istore_n 3, 1) := by decide +kernel
theorem dX8_gains_16 : decode cX8_gains 16 = .ok (.iload_n 3, 1) := by decide +kernel
theorem dX8_gains_17 : decode cX8_gains 17 = .ok (.aload_n 0, 1) := by decide +kernel
theorem dX8_gains_18 : decode cX8_gains 18 = .ok (.getfield 224, 3) := by decide +kernel
theorem dX8_gains_21 : decode cX8_gains 21 = .ok (.if_icmp .ge 50, 3) := by decide +kernel
theorem dX8_gains_24 : decode cX8_gains 24 = .ok (.aload_n 0, 1) := by decide +kernel
theorem dX8_gains_25 : decode cX8_gains 25 = .ok (.iload_n 3, 1) := by decide +kernel
theorem dX8_gains_26 : decode cX8_gains 26 = .ok (.aload_n 0, 1) := by decide +kernel
theorem dX8_gains_27 : decode cX8_gains 27 = .ok (.getfield 230, 3) := by decide +kernel
theorem dX8_gains_30 : decode cX8_gains 30 = .ok (.aload_n 0, 1) := by decide +kernel
theorem dX8_gains_31 : decode cX8_gains 31 = .ok (.getfield 232, 3) := by decide +kernel
theorem dX8_gains_34 : decode cX8_gains 34 = .ok (.invokevirtual 276, 3) := by decide +kernel
theorem dX8_gains_37 : decode cX8_gains 37 = .ok (.iload_n 2, 1) := by decide +kernel
theorem dX8_gains_38 : decode cX8_gains 38 = .ok (.aload_n 0, 1) := by decide +kernel
theorem dX8_gains_39 : decode cX8_gains 39 = .ok (.getfield 64, 3) := by decide +kernel
theorem dX8_gains_42 : decode cX8_gains 42 = .ok (.iload_n 1, 1) := by decide +kernel
theorem dX8_gains_43 : decode cX8_gains 43 = .ok (.iaload, 1) := by decide +kernel
theorem dX8_gains_44 : decode cX8_gains 44 = .ok (.iadd, 1) := by decide +kernel
theorem dX8_gains_45 : decode cX8_gains 45 = .ok (.istore_n 2, 1) := by decide +kernel
theorem dX8_gains_46 : decode cX8_gains 46 = .ok (.aload_n 0, 1) := by decide +kernel
theorem dX8_gains_47 : decode cX8_gains 47 = .ok (.iload_n 3, 1) := by decide +kernel
theorem dX8_gains_48 : decode cX8_gains 48 = .ok (.iconst 0, 1) := by decide +kernel
theorem dX8_gains_49 : decode cX8_gains 49 = .ok (.aload_n 0, 1) := by decide +kernel
theorem dX8_gains_50 : decode cX8_gains 50 = .ok (.getfield 232, 3) := by decide +kernel
theorem dX8_gains_53 : decode cX8_gains 53 = .ok (.invokevirtual 276, 3) := by decide +kernel
theorem dX8_gains_56 : decode cX8_gains 56 = .ok (.iload_n 2, 1) := by decide +kernel
theorem dX8_gains_57 : decode cX8_gains 57 = .ok (.aload_n 0, 1) := by decide +kernel
theorem dX8_gains_58 : decode cX8_gains 58 = .ok (.getfield 64, 3) := by decide +kernel
theorem dX8_gains_61 : decode cX8_gains 61 = .ok (.iload_n 1, 1) := by decide +kernel
theorem dX8_gains_62 : decode cX8_gains 62 = .ok (.iaload, 1) := by decide +kernel
theorem dX8_gains_63 : decode cX8_gains 63 = .ok (.isub, 1) := by decide +kernel
theorem dX8_gains_64 : decode cX8_gains 64 = .ok (.istore_n 2, 1) := by decide +kernel
theorem dX8_gains_65 : decode cX8_gains 65 = .ok (.iinc 3 1, 3) := by decide +kernel
theorem dX8_gains_68 : decode cX8_gains 68 = .ok (.goto (-52), 3) := by decide +kernel
theorem dX8_gains_71 : decode cX8_gains 71 = .ok (.iload_n 2, 1) := by decide +kernel
theorem dX8_gains_72 : decode cX8_gains 72 = .ok (.ireturn, 1) := by decide +kernel
theorem ilX8_seed_wsX80 : ∀ w ∈ wsX80, w ∈ wsX8_seed := fun _ h => List.mem_cons_of_mem _ (List.mem_append_right _ (h))
set_option maxRecDepth 20000 in
theorem ggX8_seed_X8_in : GoodIn wsX8_seed wsX8_in := goodIn_sub (List.forall_mem_cons.mpr ⟨List.mem_cons_of_mem _ (List.mem_append_left _ (List.mem_of_getElem? (i := 5) rfl)), (fun _ h => absurd h List.not_mem_nil)⟩) (by decide +kernel)
set_option maxRecDepth 20000 in
theorem gX8_seed_X8_in : GoodIn wsX8_seed (va_wsS RX8 92 yX8_in wsX8_in) := goodIn_app (goodIn_of _ (by decide +kernel)) ggX8_seed_X8_in
theorem dX8_seed_0 : decode cX8_seed 0 = .ok (.iload_n 1, 1) := by decide +kernel
theorem dX8_seed_1 : decode cX8_seed 1 = .ok (.iconst 0, 1) := by decide +kernel
theorem dX8_seed_2 : decode cX8_seed 2 = .ok (.ldc_w 294, 3) := by decide +kernel
theorem dX8_seed_5 : decode cX8_seed 5 = .ok (.invokestatic 92, 3) := by decide +kernel
theorem dX8_seed_8 : decode cX8_seed 8 = .ok (.ifCond .ne 5, 3) := by decide +kernel
theorem dX8_seed_11 : decode cX8_seed 11 = .ok (.iconst 0, 1) := by decide +kernel
theorem dX8_seed_12 : decode cX8_seed 12 = .ok (.ireturn, 1) := by decide +kernel
theorem dX8_seed_13 : decode cX8_seed 13 = .ok (.aload_n 0, 1) := by decide +kernel
theorem dX8_seed_14 : decode cX8_seed 14 = .ok (.iload_n 1, 1) := by decide +kernel
theorem dX8_seed_15 : decode cX8_seed 15 = .ok (.i2l, 1) := by decide +kernel
theorem dX8_seed_16 : decode cX8_seed 16 = .ok (.putfield 246, 3) := by decide +kernel
theorem dX8_seed_19 : decode cX8_seed 19 = .ok (.iconst 1, 1) := by decide +kernel
theorem dX8_seed_20 : decode cX8_seed 20 = .ok (.ireturn, 1) := by decide +kernel
theorem dX8_draws_0 : decode cX8_draws 0 = .ok (.aload_n 0, 1) := by decide +kernel
theorem dX8_draws_1 : decode cX8_draws 1 = .ok (.aload_n 0, 1) := by decide +kernel
theorem dX8_draws_2 : decode cX8_draws 2 = .ok (.getfield 246, 3) := by decide +kernel
theorem dX8_draws_5 : decode cX8_draws 5 = .ok (.ldc2_w 295, 3) := by decide +kernel
theorem dX8_draws_8 : decode cX8_draws 8 = .ok (.lmul, 1) := by decide +kernel
theorem dX8_draws_9 : decode cX8_draws 9 = .ok (.ldc2_w 297, 3) := by decide +kernel
theorem dX8_draws_12 : decode cX8_draws 12 = .ok (.ladd, 1) := by decide +kernel
theorem dX8_draws_13 : decode cX8_draws 13 = .ok (.ldc2_w 299, 3) := by decide +kernel
theorem dX8_draws_16 : decode cX8_draws 16 = .ok (.land, 1) := by decide +kernel
theorem dX8_draws_17 : decode cX8_draws 17 = .ok (.putfield 246, 3) := by decide +kernel
theorem dX8_draws_20 : decode cX8_draws 20 = .ok (.aload_n 0, 1) := by decide +kernel
theorem dX8_draws_21 : decode cX8_draws 21 = .ok (.getfield 246, 3) := by decide +kernel
theorem dX8_draws_24 : decode cX8_draws 24 = .ok (.ldc2_w 301, 3) := by decide +kernel
theorem dX8_draws_27 : decode cX8_draws 27 = .ok (.ldiv, 1) := by decide +kernel
theorem dX8_draws_28 : decode cX8_draws 28 = .ok (.ldc2_w 303, 3) := by decide +kernel
theorem dX8_draws_31 : decode cX8_draws 31 = .ok (.lrem, 1) := by decide +kernel
theorem dX8_draws_32 : decode cX8_draws 32 = .ok (.l2i, 1) := by decide +kernel
theorem dX8_draws_33 : decode cX8_draws 33 = .ok (.ireturn, 1) := by decide +kernel
theorem dX8_loanAt_0 : decode cX8_loanAt 0 = .ok (.aload_n 0, 1) := by decide +kernel
theorem dX8_loanAt_1 : decode cX8_loanAt 1 = .ok (.getfield 39, 3) := by decide +kernel
theorem dX8_loanAt_4 : decode cX8_loanAt 4 = .ok (.bipush 6, 2) := by decide +kernel
theorem dX8_loanAt_6 : decode cX8_loanAt 6 = .ok (.iload_n 1, 1) := by decide +kernel
theorem dX8_loanAt_7 : decode cX8_loanAt 7 = .ok (.imul, 1) := by decide +kernel
theorem dX8_loanAt_8 : decode cX8_loanAt 8 = .ok (.iload_n 2, 1) := by decide +kernel
theorem dX8_loanAt_9 : decode cX8_loanAt 9 = .ok (.iadd, 1) := by decide +kernel
theorem dX8_loanAt_10 : decode cX8_loanAt 10 = .ok (.iaload, 1) := by decide +kernel
theorem dX8_loanAt_11 : decode cX8_loanAt 11 = .ok (.ireturn, 1) := by decide +kernel
theorem ilX8_makes_wsX80 : ∀ w ∈ wsX80, w ∈ wsX8_makes := fun _ h => List.mem_cons_of_mem _ (List.mem_append_right _ (h))
set_option maxRecDepth 20000 in
theorem ggX8_makes_X8_loanAt : GoodIn wsX8_makes wsX8_loanAt := goodIn_sub (List.forall_mem_cons.mpr ⟨List.mem_cons_of_mem _ (List.mem_append_left _ (List.mem_of_getElem? (i := 7) rfl)), (List.forall_mem_append.mpr ⟨(List.forall_mem_cons.mpr ⟨List.mem_cons_of_mem _ (List.mem_append_left _ (List.mem_of_getElem? (i := 1) rfl)), (fun _ h => absurd h List.not_mem_nil)⟩), ilX8_makes_wsX80⟩)⟩) (by decide +kernel)
set_option maxRecDepth 20000 in
theorem gX8_makes_X8_loanAt : GoodIn wsX8_makes (wsV RX8 305 RX8 yX8_loanAt wsX8_loanAt) := goodIn_app (goodIn_sub (List.forall_mem_cons.mpr ⟨List.mem_cons_of_mem _ (List.mem_append_left _ (List.mem_of_getElem? (i := 3) rfl)), (List.forall_mem_cons.mpr ⟨List.mem_cons_of_mem _ (List.mem_append_left _ (List.mem_of_getElem? (i := 4) rfl)), (List.forall_mem_cons.mpr ⟨List.mem_cons_of_mem _ (List.mem_append_left _ (List.mem_of_getElem? (i := 5) rfl)), (List.forall_mem_cons.mpr ⟨List.mem_cons_of_mem _ (List.mem_append_left _ (List.mem_of_getElem? (i := 6) rfl)), (fun _ h => absurd h List.not_mem_nil)⟩)⟩)⟩)⟩) (by decide +kernel)) ggX8_makes_X8_loanAt
set_option maxRecDepth 20000 in
theorem ggX8_makes_X8_of : GoodIn wsX8_makes wsX8_of := goodIn_sub (List.forall_mem_cons.mpr ⟨List.mem_cons_of_mem _ (List.mem_append_left _ (List.mem_of_getElem? (i := 11) rfl)), (List.forall_mem_append.mpr ⟨(List.forall_mem_cons.mpr ⟨List.mem_cons_of_mem _ (List.mem_append_left _ (List.mem_of_getElem? (i := 12) rfl)), (fun _ h => absurd h List.not_mem_nil)⟩), ilX8_makes_wsX80⟩)⟩) (by decide +kernel)
set_option maxRecDepth 20000 in
theorem gX8_makes_X8_of : GoodIn wsX8_makes (wsV RX8 217 RX8 yX8_of wsX8_of) := goodIn_app (goodIn_sub (List.forall_mem_cons.mpr ⟨List.mem_cons_of_mem _ (List.mem_append_left _ (List.mem_of_getElem? (i := 8) rfl)), (List.forall_mem_cons.mpr ⟨List.mem_cons_of_mem _ (List.mem_append_left _ (List.mem_of_getElem? (i := 9) rfl)), (List.forall_mem_cons.mpr ⟨List.mem_cons_of_mem _ (List.mem_append_left _ (List.mem_of_getElem? (i := 10) rfl)), (List.forall_mem_cons.mpr ⟨List.mem_cons_of_mem _ (List.mem_append_left _ (List.mem_of_getElem? (i := 6) rfl)), (fun _ h => absurd h List.not_mem_nil)⟩)⟩)⟩)⟩) (by decide +kernel)) ggX8_makes_X8_of
theorem dX8_makes_0 : decode cX8_makes 0 = .ok (.iconst 0, 1) := by decide +kernel
theorem dX8_makes_1 : decode cX8_makes 1 = .ok (.istore 6, 2) := by decide +kernel
theorem dX8_makes_3 : decode cX8_makes 3 = .ok (.iload 6, 2) := by decide +kernel
theorem dX8_makes_5 : decode cX8_makes 5 = .ok (.bipush 40, 2) := by decide +kernel
theorem dX8_makes_7 : decode cX8_makes 7 = .ok (.if_icmp .ge 19, 3) := by decide +kernel
theorem dX8_makes_10 : decode cX8_makes 10 = .ok (.aload_n 0, 1) := by decide +kernel
theorem dX8_makes_11 : decode cX8_makes 11 = .ok (.iload 6, 2) := by decide +kernel
theorem dX8_makes_13 : decode cX8_makes 13 = .ok (.iconst 3, 1) := by decide +kernel
theorem dX8_makes_14 : decode cX8_makes 14 = .ok (.invokevirtual 305, 3) := by decide +kernel
theorem dX8_makes_17 : decode cX8_makes 17 = .ok (.ifCond .le 9, 3) := by decide +kernel
theorem dX8_makes_20 : decode cX8_makes 20 = .ok (.iinc 6 1, 3) := by decide +kernel
theorem dX8_makes_23 : decode cX8_makes 23 = .ok (.goto (-20), 3) := by decide +kernel
theorem dX8_makes_26 : decode cX8_makes 26 = .ok (.iload 6, 2) := by decide +kernel
theorem dX8_makes_28 : decode cX8_makes 28 = .ok (.bipush 40, 2) := by decide +kernel
theorem dX8_makes_30 : decode cX8_makes 30 = .ok (.if_icmp .eq 14, 3) := by decide +kernel
theorem dX8_makes_33 : decode cX8_makes 33 = .ok (.aload_n 0, 1) := by decide +kernel
theorem dX8_makes_34 : decode cX8_makes 34 = .ok (.getfield 33, 3) := by decide +kernel
theorem dX8_makes_37 : decode cX8_makes 37 = .ok (.iload_n 1, 1) := by decide +kernel
theorem dX8_makes_38 : decode cX8_makes 38 = .ok (.iaload, 1) := by decide +kernel
theorem dX8_makes_39 : decode cX8_makes 39 = .ok (.iload 4, 2) := by decide +kernel
theorem dX8_makes_41 : decode cX8_makes 41 = .ok (.if_icmp .ge 5, 3) := by decide +kernel
theorem dX8_makes_44 : decode cX8_makes 44 = .ok (.iconst (-1), 1) := by decide +kernel
theorem dX8_makes_45 : decode cX8_makes 45 = .ok (.ireturn, 1) := by decide +kernel
theorem dX8_makes_46 : decode cX8_makes 46 = .ok (.aload_n 0, 1) := by decide +kernel
theorem dX8_makes_47 : decode cX8_makes 47 = .ok (.getfield 33, 3) := by decide +kernel
theorem dX8_makes_50 : decode cX8_makes 50 = .ok (.iload_n 1, 1) := by decide +kernel
theorem dX8_makes_51 : decode cX8_makes 51 = .ok (.dup2, 1) := by decide +kernel
theorem dX8_makes_52 : decode cX8_makes 52 = .ok (.iaload, 1) := by decide +kernel
theorem dX8_makes_53 : decode cX8_makes 53 = .ok (.iload 4, 2) := by decide +kernel
theorem dX8_makes_55 : decode cX8_makes 55 = .ok (.isub, 1) := by decide +kernel
theorem dX8_makes_56 : decode cX8_makes 56 = .ok (.iastore, 1) := by decide +kernel
theorem dX8_makes_57 : decode cX8_makes 57 = .ok (.aload_n 0, 1) := by decide +kernel
theorem dX8_makes_58 : decode cX8_makes 58 = .ok (.getfield 39, 3) := by decide +kernel
theorem dX8_makes_61 : decode cX8_makes 61 = .ok (.bipush 6, 2) := by decide +kernel
theorem dX8_makes_63 : decode cX8_makes 63 = .ok (.iload 6, 2) := by decide +kernel
theorem dX8_makes_65 : decode cX8_makes 65 = .ok (.imul, 1) := by decide +kernel
theorem dX8_makes_66 : decode cX8_makes 66 = .ok (.iload_n 1, 1) := by decide +kernel
theorem dX8_makes_67 : decode cX8_makes 67 = .ok (.iastore, 1) := by decide +kernel
theorem dX8_makes_68 : decode cX8_makes 68 = .ok (.aload_n 0, 1) := by decide +kernel
theorem dX8_makes_69 : decode cX8_makes 69 = .ok (.getfield 39, 3) := by decide +kernel
theorem dX8_makes_72 : decode cX8_makes 72 = .ok (.bipush 6, 2) := by decide +kernel
theorem dX8_makes_74 : decode cX8_makes 74 = .ok (.iload 6, 2) := by decide +kernel
theorem dX8_makes_76 : decode cX8_makes 76 = .ok (.imul, 1) := by decide +kernel
theorem dX8_makes_77 : decode cX8_makes 77 = .ok (.iconst 1, 1) := by decide +kernel
theorem dX8_makes_78 : decode cX8_makes 78 = .ok (.iadd, 1) := by decide +kernel
theorem dX8_makes_79 : decode cX8_makes 79 = .ok (.iload_n 2, 1) := by decide +kernel
theorem dX8_makes_80 : decode cX8_makes 80 = .ok (.iastore, 1) := by decide +kernel
theorem dX8_makes_81 : decode cX8_makes 81 = .ok (.aload_n 0, 1) := by decide +kernel
theorem dX8_makes_82 : decode cX8_makes 82 = .ok (.getfield 39, 3) := by decide +kernel
theorem dX8_makes_85 : decode cX8_makes 85 = .ok (.bipush 6, 2) := by decide +kernel
theorem dX8_makes_87 : decode cX8_makes 87 = .ok (.iload 6, 2) := by decide +kernel
theorem dX8_makes_89 : decode cX8_makes 89 = .ok (.imul, 1) := by decide +kernel
theorem dX8_makes_90 : decode cX8_makes 90 = .ok (.iconst 2, 1) := by decide +kernel
theorem dX8_makes_91 : decode cX8_makes 91 = .ok (.iadd, 1) := by decide +kernel
theorem dX8_makes_92 : decode cX8_makes 92 = .ok (.iload_n 3, 1) := by decide +kernel
theorem dX8_makes_93 : decode cX8_makes 93 = .ok (.iastore, 1) := by decide +kernel
theorem dX8_makes_94 : decode cX8_makes 94 = .ok (.aload_n 0, 1) := by decide +kernel
theorem dX8_makes_95 : decode cX8_makes 95 = .ok (.getfield 39, 3) := by decide +kernel
theorem dX8_makes_98 : decode cX8_makes 98 = .ok (.bipush 6, 2) := by decide +kernel
theorem dX8_makes_100 : decode cX8_makes 100 = .ok (.iload 6, 2) := by decide +kernel
theorem dX8_makes_102 : decode cX8_makes 102 = .ok (.imul, 1) := by decide +kernel
theorem dX8_makes_103 : decode cX8_makes 103 = .ok (.iconst 3, 1) := by decide +kernel
theorem dX8_makes_104 : decode cX8_makes 104 = .ok (.iadd, 1) := by decide +kernel
theorem dX8_makes_105 : decode cX8_makes 105 = .ok (.iload 4, 2) := by decide +kernel
theorem dX8_makes_107 : decode cX8_makes 107 = .ok (.iastore, 1) := by decide +kernel
theorem dX8_makes_108 : decode cX8_makes 108 = .ok (.aload_n 0, 1) := by decide +kernel
theorem dX8_makes_109 : decode cX8_makes 109 = .ok (.getfield 39, 3) := by decide +kernel
theorem dX8_makes_112 : decode cX8_makes 112 = .ok (.bipush 6, 2) := by decide +kernel
theorem dX8_makes_114 : decode cX8_makes 114 = .ok (.iload 6, 2) := by decide +kernel
theorem dX8_makes_116 : decode cX8_makes 116 = .ok (.imul, 1) := by decide +kernel
theorem dX8_makes_117 : decode cX8_makes 117 = .ok (.iconst 4, 1) := by decide +kernel
theorem dX8_makes_118 : decode cX8_makes 118 = .ok (.iadd, 1) := by decide +kernel
theorem dX8_makes_119 : decode cX8_makes 119 = .ok (.iload 4, 2) := by decide +kernel
theorem dX8_makes_121 : decode cX8_makes 121 = .ok (.iload 4, 2) := by decide +kernel
theorem dX8_makes_123 : decode cX8_makes 123 = .ok (.iload 5, 2) := by decide +kernel
theorem dX8_makes_125 : decode cX8_makes 125 = .ok (.imul, 1) := by decide +kernel
theorem dX8_makes_126 : decode cX8_makes 126 = .ok (.bipush 100, 2) := by decide +kernel
theorem dX8_makes_128 : decode cX8_makes 128 = .ok (.idiv, 1) := by decide +kernel
theorem dX8_makes_129 : decode cX8_makes 129 = .ok (.iadd, 1) := by decide +kernel
theorem dX8_makes_130 : decode cX8_makes 130 = .ok (.iastore, 1) := by decide +kernel
theorem dX8_makes_131 : decode cX8_makes 131 = .ok (.aload_n 0, 1) := by decide +kernel
theorem dX8_makes_132 : decode cX8_makes 132 = .ok (.getfield 39, 3) := by decide +kernel
theorem dX8_makes_135 : decode cX8_makes 135 = .ok (.bipush 6, 2) := by decide +kernel
theorem dX8_makes_137 : decode cX8_makes 137 = .ok (.iload 6, 2) := by decide +kernel
theorem dX8_makes_139 : decode cX8_makes 139 = .ok (.imul, 1) := by decide +kernel
theorem dX8_makes_140 : decode cX8_makes 140 = .ok (.iconst 5, 1) := by decide +kernel
theorem dX8_makes_141 : decode cX8_makes 141 = .ok (.iadd, 1) := by decide +kernel
theorem dX8_makes_142 : decode cX8_makes 142 = .ok (.aload_n 0, 1) := by decide +kernel
theorem dX8_makes_143 : decode cX8_makes 143 = .ok (.getfield 211, 3) := by decide +kernel
theorem dX8_makes_146 : decode cX8_makes 146 = .ok (.aload_n 0, 1) := by decide +kernel
theorem dX8_makes_147 : decode cX8_makes 147 = .ok (.iload_n 2, 1) := by decide +kernel
theorem dX8_makes_148 : decode cX8_makes 148 = .ok (.iconst 3, 1) := by decide +kernel
theorem dX8_makes_149 : decode cX8_makes 149 = .ok (.invokevirtual 217, 3) := by decide +kernel
theorem dX8_makes_152 : decode cX8_makes 152 = .ok (.iadd, 1) := by decide +kernel
theorem dX8_makes_153 : decode cX8_makes 153 = .ok (.iastore, 1) := by decide +kernel
theorem dX8_makes_154 : decode cX8_makes 154 = .ok (.iload 6, 2) := by decide +kernel
theorem dX8_makes_156 : decode cX8_makes 156 = .ok (.ireturn, 1) := by decide +kernel
theorem ilX8_isLoan_wsX80 : ∀ w ∈ wsX80, w ∈ wsX8_isLoan := fun _ h => List.mem_cons_of_mem _ (List.mem_append_right _ (h))
set_option maxRecDepth 20000 in
theorem ggX8_isLoan_X8_isSort : GoodIn wsX8_isLoan wsX8_isSort := goodIn_sub (List.forall_mem_cons.mpr ⟨List.mem_cons_of_mem _ (List.mem_append_left _ (List.mem_of_getElem? (i := 4) rfl)), (List.forall_mem_append.mpr ⟨(List.forall_mem_cons.mpr ⟨List.mem_cons_of_mem _ (List.mem_append_left _ (List.mem_of_getElem? (i := 5) rfl)), (List.forall_mem_cons.mpr ⟨List.mem_cons_of_mem _ (List.mem_append_left _ (List.mem_of_getElem? (i := 6) rfl)), (List.forall_mem_cons.mpr ⟨List.mem_cons_of_mem _ (List.mem_append_left _ (List.mem_of_getElem? (i := 7) rfl)), (List.forall_mem_cons.mpr ⟨List.mem_cons_of_mem _ (List.mem_append_left _ (List.mem_of_getElem? (i := 3) rfl)), (List.forall_mem_cons.mpr ⟨List.mem_cons_of_mem _ (List.mem_append_left _ (List.mem_of_getElem? (i := 8) rfl)), (fun _ h => absurd h List.not_mem_nil)⟩)⟩)⟩)⟩)⟩), ilX8_isLoan_wsX80⟩)⟩) (by decide +kernel)
set_option maxRecDepth 20000 in
theorem gX8_isLoan_X8_isSort : GoodIn wsX8_isLoan (wsV RX8 252 RX8 yX8_isSort wsX8_isSort) := goodIn_app (goodIn_sub (List.forall_mem_cons.mpr ⟨List.mem_cons_of_mem _ (List.mem_append_left _ (List.mem_of_getElem? (i := 0) rfl)), (List.forall_mem_cons.mpr ⟨List.mem_cons_of_mem _ (List.mem_append_left _ (List.mem_of_getElem? (i := 1) rfl)), (List.forall_mem_cons.mpr ⟨List.mem_cons_of_mem _ (List.mem_append_left _ (List.mem_of_getElem? (i := 2) rfl)), (List.forall_mem_cons.mpr ⟨List.mem_cons_of_mem _ (List.mem_append_left _ (List.mem_of_getElem? (i := 3) rfl)), (fun _ h => absurd h List.not_mem_nil)⟩)⟩)⟩)⟩) (by decide +kernel)) ggX8_isLoan_X8_isSort
set_option maxRecDepth 20000 in
theorem ggX8_isLoan_X8_in : GoodIn wsX8_isLoan wsX8_in := goodIn_sub (List.forall_mem_cons.mpr ⟨List.mem_cons_of_mem _ (List.mem_append_left _ (List.mem_of_getElem? (i := 8) rfl)), (fun _ h => absurd h List.not_mem_nil)⟩) (by decide +kernel)
set_option maxRecDepth 20000 in
theorem gX8_isLoan_X8_in : GoodIn wsX8_isLoan (va_wsS RX8 92 yX8_in wsX8_in) := goodIn_app (goodIn_of _ (by decide +kernel)) ggX8_isLoan_X8_in
theorem dX8_isLoan_0 : decode cX8_isLoan 0 = .ok (.iload_n 1, 1) := by decide +kernel
theorem dX8_isLoan_1 : decode cX8_isLoan 1 = .ok (.ifCond .lt 72, 3) := by decide +kernel
theorem dX8_isLoan_4 : decode cX8_isLoan 4 = .ok (.aload_n 0, 1) := by decide +kernel
theorem dX8_isLoan_5 : decode cX8_isLoan 5 = .ok (.iload_n 1, 1) := by decide +kernel
theorem dX8_isLoan_6 : decode cX8_isLoan 6 = .ok (.bipush 10, 2) := by decide +kernel
theorem dX8_isLoan_8 : decode cX8_isLoan 8 = .ok (.idiv, 1) := by decide +kernel
theorem dX8_isLoan_9 : decode cX8_isLoan 9 = .ok (.invokevirtual 252, 3) := by decide +kernel
theorem dX8_isLoan_12 : decode cX8_isLoan 12 = .ok (.ifCond .eq 61, 3) := by decide +kernel
theorem dX8_isLoan_15 : decode cX8_isLoan 15 = .ok (.aload_n 0, 1) := by decide +kernel
theorem dX8_isLoan_16 : decode cX8_isLoan 16 = .ok (.iload_n 1, 1) := by decide +kernel
theorem dX8_isLoan_17 : decode cX8_isLoan 17 = .ok (.bipush 10, 2) := by decide +kernel
theorem dX8_isLoan_19 : decode cX8_isLoan 19 = .ok (.irem, 1) := by decide +kernel
theorem dX8_isLoan_20 : decode cX8_isLoan 20 = .ok (.invokevirtual 252, 3) := by decide +kernel
theorem dX8_isLoan_23 : decode cX8_isLoan 23 = .ok (.ifCond .eq 50, 3) := by decide +kernel
theorem dX8_isLoan_26 : decode cX8_isLoan 26 = .ok (.iload_n 1, 1) := by decide +kernel
theorem dX8_isLoan_27 : decode cX8_isLoan 27 = .ok (.bipush 10, 2) := by decide +kernel
theorem dX8_isLoan_29 : decode cX8_isLoan 29 = .ok (.idiv, 1) := by decide +kernel
theorem dX8_isLoan_30 : decode cX8_isLoan 30 = .ok (.iload_n 1, 1) := by decide +kernel
theorem dX8_isLoan_31 : decode cX8_isLoan 31 = .ok (.bipush 10, 2) := by decide +kernel
theorem dX8_isLoan_33 : decode cX8_isLoan 33 = .ok (.irem, 1) := by decide +kernel
theorem dX8_isLoan_34 : decode cX8_isLoan 34 = .ok (.if_icmp .eq 39, 3) := by decide +kernel
theorem dX8_isLoan_37 : decode cX8_isLoan 37 = .ok (.iload_n 2, 1) := by decide +kernel
theorem dX8_isLoan_38 : decode cX8_isLoan 38 = .ok (.iconst 0, 1) := by decide +kernel
theorem dX8_isLoan_39 : decode cX8_isLoan 39 = .ok (.iconst 4, 1) := by decide +kernel
theorem dX8_isLoan_40 : decode cX8_isLoan 40 = .ok (.invokestatic 92, 3) := by decide +kernel
theorem dX8_isLoan_43 : decode cX8_isLoan 43 = .ok (.ifCond .eq 30, 3) := by decide +kernel
theorem dX8_isLoan_46 : decode cX8_isLoan 46 = .ok (.iload_n 3, 1) := by decide +kernel
theorem dX8_isLoan_47 : decode cX8_isLoan 47 = .ok (.iconst 1, 1) := by decide +kernel
theorem dX8_isLoan_48 : decode cX8_isLoan 48 = .ok (.sipush 9999, 3) := by decide +kernel
theorem dX8_isLoan_51 : decode cX8_isLoan 51 = .ok (.invokestatic 92, 3) := by decide +kernel
theorem dX8_isLoan_54 : decode cX8_isLoan 54 = .ok (.ifCond .eq 19, 3) := by decide +kernel
theorem dX8_isLoan_57 : decode cX8_isLoan 57 = .ok (.iload 4, 2) := by decide +kernel
theorem dX8_isLoan_59 : decode cX8_isLoan 59 = .ok (.iconst 0, 1) := by decide +kernel
theorem dX8_isLoan_60 : decode cX8_isLoan 60 = .ok (.sipush 400, 3) := by decide +kernel
theorem dX8_isLoan_63 : decode cX8_isLoan 63 = .ok (.invokestatic 92, 3) := by decide +kernel
theorem dX8_isLoan_66 : decode cX8_isLoan 66 = .ok (.ifCond .eq 7, 3) := by decide +kernel
theorem dX8_isLoan_69 : decode cX8_isLoan 69 = .ok (.iconst 1, 1) := by decide +kernel
theorem dX8_isLoan_70 : decode cX8_isLoan 70 = .ok (.goto 4, 3) := by decide +kernel
theorem dX8_isLoan_73 : decode cX8_isLoan 73 = .ok (.iconst 0, 1) := by decide +kernel
theorem dX8_isLoan_74 : decode cX8_isLoan 74 = .ok (.ireturn, 1) := by decide +kernel
theorem ilX8_lend_wsX8_lend_r1 : ∀ w ∈ wsX8_lend_r1, w ∈ wsX8_lend := fun _ h => List.mem_cons_of_mem _ (List.mem_append_left _ (List.mem_append_left _ (h)))
theorem ilX8_lend_wsX8_lend_r2 : ∀ w ∈ wsX8_lend_r2, w ∈ wsX8_lend := fun _ h => List.mem_cons_of_mem _ (List.mem_append_left _ (List.mem_append_right _ (h)))
theorem ilX8_lend_wsX80 : ∀ w ∈ wsX80, w ∈ wsX8_lend := fun _ h => List.mem_cons_of_mem _ (List.mem_append_right _ (h))
set_option maxRecDepth 20000 in
theorem ggX8_lend_X8_isLoan : GoodIn wsX8_lend wsX8_isLoan := goodIn_sub (List.forall_mem_cons.mpr ⟨ilX8_lend_wsX8_lend_r1 _ (List.mem_of_getElem? (i := 4) rfl), (List.forall_mem_append.mpr ⟨(List.forall_mem_cons.mpr ⟨ilX8_lend_wsX8_lend_r1 _ (List.mem_of_getElem? (i := 5) rfl), (List.forall_mem_cons.mpr ⟨ilX8_lend_wsX8_lend_r1 _ (List.mem_of_getElem? (i := 6) rfl), (List.forall_mem_cons.mpr ⟨ilX8_lend_wsX8_lend_r1 _ (List.mem_of_getElem? (i := 7) rfl), (List.forall_mem_cons.mpr ⟨ilX8_lend_wsX8_lend_r1 _ (List.mem_of_getElem? (i := 3) rfl), (List.forall_mem_cons.mpr ⟨ilX8_lend_wsX8_lend_r1 _ (List.mem_of_getElem? (i := 8) rfl), (List.forall_mem_cons.mpr ⟨ilX8_lend_wsX8_lend_r1 _ (List.mem_of_getElem? (i := 9) rfl), (List.forall_mem_cons.mpr ⟨ilX8_lend_wsX8_lend_r1 _ (List.mem_of_getElem? (i := 10) rfl), (List.forall_mem_cons.mpr ⟨ilX8_lend_wsX8_lend_r1 _ (List.mem_of_getElem? (i := 11) rfl), (List.forall_mem_cons.mpr ⟨ilX8_lend_wsX8_lend_r1 _ (List.mem_of_getElem? (i := 12) rfl), (fun _ h => absurd h List.not_mem_nil)⟩)⟩)⟩)⟩)⟩)⟩)⟩)⟩)⟩), ilX8_lend_wsX80⟩)⟩) (by decide +kernel)
set_option maxRecDepth 20000 in
theorem gX8_lend_X8_isLoan : GoodIn wsX8_lend (wsV RX8 308 RX8 yX8_isLoan wsX8_isLoan) := goodIn_app (goodIn_sub (List.forall_mem_cons.mpr ⟨ilX8_lend_wsX8_lend_r1 _ (List.mem_of_getElem? (i := 0) rfl), (List.forall_mem_cons.mpr ⟨ilX8_lend_wsX8_lend_r1 _ (List.mem_of_getElem? (i := 1) rfl), (List.forall_mem_cons.mpr ⟨ilX8_lend_wsX8_lend_r1 _ (List.mem_of_getElem? (i := 2) rfl), (List.forall_mem_cons.mpr ⟨ilX8_lend_wsX8_lend_r1 _ (List.mem_of_getElem? (i := 3) rfl), (fun _ h => absurd h List.not_mem_nil)⟩)⟩)⟩)⟩) (by decide +kernel)) ggX8_lend_X8_isLoan
set_option maxRecDepth 20000 in
theorem ggX8_lend_X8_makes : GoodIn wsX8_lend wsX8_makes := goodIn_sub (List.forall_mem_cons.mpr ⟨ilX8_lend_wsX8_lend_r1 _ (List.mem_of_getElem? (i := 16) rfl), (List.forall_mem_append.mpr ⟨(List.forall_mem_cons.mpr ⟨ilX8_lend_wsX8_lend_r1 _ (List.mem_of_getElem? (i := 17) rfl), (List.forall_mem_cons.mpr ⟨ilX8_lend_wsX8_lend_r1 _ (List.mem_of_getElem? (i := 18) rfl), (List.forall_mem_cons.mpr ⟨ilX8_lend_wsX8_lend_r1 _ (List.mem_of_getElem? (i := 19) rfl), (List.forall_mem_cons.mpr ⟨ilX8_lend_wsX8_lend_r1 _ (List.mem_of_getElem? (i := 20) rfl), (List.forall_mem_cons.mpr ⟨ilX8_lend_wsX8_lend_r1 _ (List.mem_of_getElem? (i := 21) rfl), (List.forall_mem_cons.mpr ⟨ilX8_lend_wsX8_lend_r1 _ (List.mem_of_getElem? (i := 22) rfl), (List.forall_mem_cons.mpr ⟨ilX8_lend_wsX8_lend_r1 _ (List.mem_of_getElem? (i := 3) rfl), (List.forall_mem_cons.mpr ⟨ilX8_lend_wsX8_lend_r1 _ (List.mem_of_getElem? (i := 23) rfl), (List.forall_mem_cons.mpr ⟨ilX8_lend_wsX8_lend_r2 _ (List.mem_of_getElem? (i := 0) rfl), (List.forall_mem_cons.mpr ⟨ilX8_lend_wsX8_lend_r2 _ (List.mem_of_getElem? (i := 1) rfl), (List.forall_mem_cons.mpr ⟨ilX8_lend_wsX8_lend_r2 _ (List.mem_of_getElem? (i := 2) rfl), (List.forall_mem_cons.mpr ⟨ilX8_lend_wsX8_lend_r2 _ (List.mem_of_getElem? (i := 3) rfl), (List.forall_mem_cons.mpr ⟨ilX8_lend_wsX8_lend_r2 _ (List.mem_of_getElem? (i := 4) rfl), (fun _ h => absurd h List.not_mem_nil)⟩)⟩)⟩)⟩)⟩)⟩)⟩)⟩)⟩)⟩)⟩)⟩)⟩), ilX8_lend_wsX80⟩)⟩) (by decide +kernel)
set_option maxRecDepth 20000 in
theorem gX8_lend_X8_makes : GoodIn wsX8_lend (wsV RX8 312 RX8 yX8_makes wsX8_makes) := goodIn_app (goodIn_sub (List.forall_mem_cons.mpr ⟨ilX8_lend_wsX8_lend_r1 _ (List.mem_of_getElem? (i := 13) rfl), (List.forall_mem_cons.mpr ⟨ilX8_lend_wsX8_lend_r1 _ (List.mem_of_getElem? (i := 14) rfl), (List.forall_mem_cons.mpr ⟨ilX8_lend_wsX8_lend_r1 _ (List.mem_of_getElem? (i := 15) rfl), (List.forall_mem_cons.mpr ⟨ilX8_lend_wsX8_lend_r1 _ (List.mem_of_getElem? (i := 3) rfl), (fun _ h => absurd h List.not_mem_nil)⟩)⟩)⟩)⟩) (by decide +kernel)) ggX8_lend_X8_makes
theorem dX8_lend_0 : decode cX8_lend 0 = .ok (.aload_n 0, 1) := by decide +kernel
theorem dX8_lend_1 : decode cX8_lend 1 = .ok (.iload_n 1, 1) := by decide +kernel
theorem dX8_lend_2 : decode cX8_lend 2 = .ok (.iload_n 2, 1) := by decide +kernel
theorem dX8_lend_3 : decode cX8_lend 3 = .ok (.iload_n 3, 1) := by decide +kernel
theorem dX8_lend_4 : decode cX8_lend 4 = .ok (.iload 4, 2) := by decide +kernel
theorem dX8_lend_6 : decode cX8_lend 6 = .ok (.invokevirtual 308, 3) := by decide +kernel
theorem dX8_lend_9 : decode cX8_lend 9 = .ok (.ifCond .eq 22, 3) := by decide +kernel
theorem dX8_lend_12 : decode cX8_lend 12 = .ok (.aload_n 0, 1) := by decide +kernel
theorem dX8_lend_13 : decode cX8_lend 13 = .ok (.iload_n 1, 1) := by decide +kernel
theorem dX8_lend_14 : decode cX8_lend 14 = .ok (.bipush 10, 2) := by decide +kernel
theorem dX8_lend_16 : decode cX8_lend 16 = .ok (.idiv, 1) := by decide +kernel
theorem dX8_lend_17 : decode cX8_lend 17 = .ok (.iload_n 1, 1) := by decide +kernel
theorem dX8_lend_18 : decode cX8_lend 18 = .ok (.bipush 10, 2) := by decide +kernel
theorem dX8_lend_20 : decode cX8_lend 20 = .ok (.irem, 1) := by decide +kernel
theorem dX8_lend_21 : decode cX8_lend 21 = .ok (.iload_n 2, 1) := by decide +kernel
theorem dX8_lend_22 : decode cX8_lend 22 = .ok (.iload_n 3, 1) := by decide +kernel
theorem dX8_lend_23 : decode cX8_lend 23 = .ok (.iload 4, 2) := by decide +kernel
theorem dX8_lend_25 : decode cX8_lend 25 = .ok (.invokevirtual 312, 3) := by decide +kernel
theorem dX8_lend_28 : decode cX8_lend 28 = .ok (.goto 4, 3) := by decide +kernel
theorem dX8_lend_31 : decode cX8_lend 31 = .ok (.iconst (-1), 1) := by decide +kernel
theorem dX8_lend_32 : decode cX8_lend 32 = .ok (.ireturn, 1) := by decide +kernel
theorem ilX8_pays_wsX80 : ∀ w ∈ wsX80, w ∈ wsX8_pays := fun _ h => List.mem_cons_of_mem _ (List.mem_append_right _ (h))
set_option maxRecDepth 20000 in
theorem ggX8_pays_X8_loanAt : GoodIn wsX8_pays wsX8_loanAt := goodIn_sub (List.forall_mem_cons.mpr ⟨List.mem_cons_of_mem _ (List.mem_append_left _ (List.mem_of_getElem? (i := 10) rfl)), (List.forall_mem_append.mpr ⟨(List.forall_mem_cons.mpr ⟨List.mem_cons_of_mem _ (List.mem_append_left _ (List.mem_of_getElem? (i := 5) rfl)), (fun _ h => absurd h List.not_mem_nil)⟩), ilX8_pays_wsX80⟩)⟩) (by decide +kernel)
set_option maxRecDepth 20000 in
theorem gX8_pays_X8_loanAt : GoodIn wsX8_pays (wsV RX8 305 RX8 yX8_loanAt wsX8_loanAt) := goodIn_app (goodIn_sub (List.forall_mem_cons.mpr ⟨List.mem_cons_of_mem _ (List.mem_append_left _ (List.mem_of_getElem? (i := 6) rfl)), (List.forall_mem_cons.mpr ⟨List.mem_cons_of_mem _ (List.mem_append_left _ (List.mem_of_getElem? (i := 7) rfl)), (List.forall_mem_cons.mpr ⟨List.mem_cons_of_mem _ (List.mem_append_left _ (List.mem_of_getElem? (i := 8) rfl)), (List.forall_mem_cons.mpr ⟨List.mem_cons_of_mem _ (List.mem_append_left _ (List.mem_of_getElem? (i := 9) rfl)), (fun _ h => absurd h List.not_mem_nil)⟩)⟩)⟩)⟩) (by decide +kernel)) ggX8_pays_X8_loanAt
set_option maxRecDepth 20000 in
theorem ggX8_pays_X8_of : GoodIn wsX8_pays wsX8_of := goodIn_sub (List.forall_mem_cons.mpr ⟨List.mem_cons_of_mem _ (List.mem_append_left _ (List.mem_of_getElem? (i := 14) rfl)), (List.forall_mem_append.mpr ⟨(List.forall_mem_cons.mpr ⟨List.mem_cons_of_mem _ (List.mem_append_left _ (List.mem_of_getElem? (i := 15) rfl)), (fun _ h => absurd h List.not_mem_nil)⟩), ilX8_pays_wsX80⟩)⟩) (by decide +kernel)
set_option maxRecDepth 20000 in
theorem gX8_pays_X8_of : GoodIn wsX8_pays (wsV RX8 217 RX8 yX8_of wsX8_of) := goodIn_app (goodIn_sub (List.forall_mem_cons.mpr ⟨List.mem_cons_of_mem _ (List.mem_append_left _ (List.mem_of_getElem? (i := 11) rfl)), (List.forall_mem_cons.mpr ⟨List.mem_cons_of_mem _ (List.mem_append_left _ (List.mem_of_getElem? (i := 12) rfl)), (List.forall_mem_cons.mpr ⟨List.mem_cons_of_mem _ (List.mem_append_left _ (List.mem_of_getElem? (i := 13) rfl)), (List.forall_mem_cons.mpr ⟨List.mem_cons_of_mem _ (List.mem_append_left _ (List.mem_of_getElem? (i := 9) rfl)), (fun _ h => absurd h List.not_mem_nil)⟩)⟩)⟩)⟩) (by decide +kernel)) ggX8_pays_X8_of
theorem dX8_pays_0 : decode cX8_pays 0 = .ok (.aload_n 0, 1) := by decide +kernel
theorem dX8_pays_1 : decode cX8_pays 1 = .ok (.iload_n 1, 1) := by decide +kernel
theorem dX8_pays_2 : decode cX8_pays 2 = .ok (.iconst 1, 1) := by decide +kernel
theorem dX8_pays_3 : decode cX8_pays 3 = .ok (.invokevirtual 305, 3) := by decide +kernel
theorem dX8_pays_6 : decode cX8_pays 6 = .ok (.istore_n 2, 1) := by decide +kernel
theorem dX8_pays_7 : decode cX8_pays 7 = .ok (.aload_n 0, 1) := by decide +kernel
theorem dX8_pays_8 : decode cX8_pays 8 = .ok (.iload_n 1, 1) := by decide +kernel
theorem dX8_pays_9 : decode cX8_pays 9 = .ok (.iconst 3, 1) := by decide +kernel
theorem dX8_pays_10 : decode cX8_pays 10 = .ok (.invokevirtual 305, 3) := by decide +kernel
theorem dX8_pays_13 : decode cX8_pays 13 = .ok (.istore_n 3, 1) := by decide +kernel
theorem dX8_pays_14 : decode cX8_pays 14 = .ok (.aload_n 0, 1) := by decide +kernel
theorem dX8_pays_15 : decode cX8_pays 15 = .ok (.iload_n 2, 1) := by decide +kernel
theorem dX8_pays_16 : decode cX8_pays 16 = .ok (.iconst 2, 1) := by decide +kernel
theorem dX8_pays_17 : decode cX8_pays 17 = .ok (.invokevirtual 217, 3) := by decide +kernel
theorem dX8_pays_20 : decode cX8_pays 20 = .ok (.istore 4, 2) := by decide +kernel
theorem dX8_pays_22 : decode cX8_pays 22 = .ok (.aload_n 0, 1) := by decide +kernel
theorem dX8_pays_23 : decode cX8_pays 23 = .ok (.getfield 33, 3) := by decide +kernel
theorem dX8_pays_26 : decode cX8_pays 26 = .ok (.iload_n 2, 1) := by decide +kernel
theorem dX8_pays_27 : decode cX8_pays 27 = .ok (.dup2, 1) := by decide +kernel
theorem dX8_pays_28 : decode cX8_pays 28 = .ok (.iaload, 1) := by decide +kernel
theorem dX8_pays_29 : decode cX8_pays 29 = .ok (.iload_n 3, 1) := by decide +kernel
theorem dX8_pays_30 : decode cX8_pays 30 = .ok (.iload 4, 2) := by decide +kernel
theorem dX8_pays_32 : decode cX8_pays 32 = .ok (.ifCond .ne 7, 3) := by decide +kernel
theorem dX8_pays_35 : decode cX8_pays 35 = .ok (.iconst 0, 1) := by decide +kernel
theorem dX8_pays_36 : decode cX8_pays 36 = .ok (.goto 14, 3) := by decide +kernel
theorem dX8_pays_39 : decode cX8_pays 39 = .ok (.iload_n 3, 1) := by decide +kernel
theorem dX8_pays_40 : decode cX8_pays 40 = .ok (.aload_n 0, 1) := by decide +kernel
theorem dX8_pays_41 : decode cX8_pays 41 = .ok (.iload_n 2, 1) := by decide +kernel
theorem dX8_pays_42 : decode cX8_pays 42 = .ok (.iconst 4, 1) := by decide +kernel
theorem dX8_pays_43 : decode cX8_pays 43 = .ok (.invokevirtual 217, 3) := by decide +kernel
theorem dX8_pays_46 : decode cX8_pays 46 = .ok (.imul, 1) := by decide +kernel
theorem dX8_pays_47 : decode cX8_pays 47 = .ok (.iload 4, 2) := by decide +kernel
theorem dX8_pays_49 : decode cX8_pays 49 = .ok (.idiv, 1) := by decide +kernel
theorem dX8_pays_50 : decode cX8_pays 50 = .ok (.iadd, 1) := by decide +kernel
theorem dX8_pays_51 : decode cX8_pays 51 = .ok (.iadd, 1) := by decide +kernel
theorem dX8_pays_52 : decode cX8_pays 52 = .ok (.iastore, 1) := by decide +kernel
theorem dX8_pays_53 : decode cX8_pays 53 = .ok (.aload_n 0, 1) := by decide +kernel
theorem dX8_pays_54 : decode cX8_pays 54 = .ok (.getfield 33, 3) := by decide +kernel
theorem dX8_pays_57 : decode cX8_pays 57 = .ok (.iload_n 2, 1) := by decide +kernel
theorem dX8_pays_58 : decode cX8_pays 58 = .ok (.iaload, 1) := by decide +kernel
theorem dX8_pays_59 : decode cX8_pays 59 = .ok (.aload_n 0, 1) := by decide +kernel
theorem dX8_pays_60 : decode cX8_pays 60 = .ok (.iload_n 1, 1) := by decide +kernel
theorem dX8_pays_61 : decode cX8_pays 61 = .ok (.iconst 4, 1) := by decide +kernel
theorem dX8_pays_62 : decode cX8_pays 62 = .ok (.invokevirtual 305, 3) := by decide +kernel
theorem dX8_pays_65 : decode cX8_pays 65 = .ok (.invokestatic 258, 3) := by decide +kernel
theorem dX8_pays_68 : decode cX8_pays 68 = .ok (.istore 5, 2) := by decide +kernel
theorem dX8_pays_70 : decode cX8_pays 70 = .ok (.aload_n 0, 1) := by decide +kernel
theorem dX8_pays_71 : decode cX8_pays 71 = .ok (.getfield 33, 3) := by decide +kernel
theorem dX8_pays_74 : decode cX8_pays 74 = .ok (.iload_n 2, 1) := by decide +kernel
theorem dX8_pays_75 : decode cX8_pays 75 = .ok (.dup2, 1) := by decide +kernel
theorem dX8_pays_76 : decode cX8_pays 76 = .ok (.iaload, 1) := by decide +kernel
theorem dX8_pays_77 : decode cX8_pays 77 = .ok (.iload 5, 2) := by decide +kernel
theorem dX8_pays_79 : decode cX8_pays 79 = .ok (.isub, 1) := by decide +kernel
theorem dX8_pays_80 : decode cX8_pays 80 = .ok (.iastore, 1) := by decide +kernel
theorem dX8_pays_81 : decode cX8_pays 81 = .ok (.aload_n 0, 1) := by decide +kernel
theorem dX8_pays_82 : decode cX8_pays 82 = .ok (.getfield 33, 3) := by decide +kernel
theorem dX8_pays_85 : decode cX8_pays 85 = .ok (.aload_n 0, 1) := by decide +kernel
theorem dX8_pays_86 : decode cX8_pays 86 = .ok (.iload_n 1, 1) := by decide +kernel
theorem dX8_pays_87 : decode cX8_pays 87 = .ok (.iconst 0, 1) := by decide +kernel
theorem dX8_pays_88 : decode cX8_pays 88 = .ok (.invokevirtual 305, 3) := by decide +kernel
theorem dX8_pays_91 : decode cX8_pays 91 = .ok (.dup2, 1) := by decide +kernel
theorem dX8_pays_92 : decode cX8_pays 92 = .ok (.iaload, 1) := by decide +kernel
theorem dX8_pays_93 : decode cX8_pays 93 = .ok (.iload 5, 2) := by decide +kernel
theorem dX8_pays_95 : decode cX8_pays 95 = .ok (.iadd, 1) := by decide +kernel
theorem dX8_pays_96 : decode cX8_pays 96 = .ok (.iastore, 1) := by decide +kernel
theorem dX8_pays_97 : decode cX8_pays 97 = .ok (.aload_n 0, 1) := by decide +kernel
theorem dX8_pays_98 : decode cX8_pays 98 = .ok (.getfield 39, 3) := by decide +kernel
theorem dX8_pays_101 : decode cX8_pays 101 = .ok (.bipush 6, 2) := by decide +kernel
theorem dX8_pays_103 : decode cX8_pays 103 = .ok (.iload_n 1, 1) := by decide +kernel
theorem dX8_pays_104 : decode cX8_pays 104 = .ok (.imul, 1) := by decide +kernel
theorem dX8_pays_105 : decode cX8_pays 105 = .ok (.iconst 3, 1) := by decide +kernel
theorem dX8_pays_106 : decode cX8_pays 106 = .ok (.iadd, 1) := by decide +kernel
theorem dX8_pays_107 : decode cX8_pays 107 = .ok (.iconst 0, 1) := by decide +kernel
theorem dX8_pays_108 : decode cX8_pays 108 = .ok (.iastore, 1) := by decide +kernel
theorem dX8_pays_109 : decode cX8_pays 109 = .ok (.return_, 1) := by decide +kernel
theorem ilX8_strikes_wsX80 : ∀ w ∈ wsX80, w ∈ wsX8_strikes := fun _ h => List.mem_cons_of_mem _ (List.mem_append_right _ (h))
set_option maxRecDepth 20000 in
theorem ggX8_strikes_X8_loanAt : GoodIn wsX8_strikes wsX8_loanAt := goodIn_sub (List.forall_mem_cons.mpr ⟨List.mem_cons_of_mem _ (List.mem_append_left _ (List.mem_of_getElem? (i := 9) rfl)), (List.forall_mem_append.mpr ⟨(List.forall_mem_cons.mpr ⟨List.mem_cons_of_mem _ (List.mem_append_left _ (List.mem_of_getElem? (i := 1) rfl)), (fun _ h => absurd h List.not_mem_nil)⟩), ilX8_strikes_wsX80⟩)⟩) (by decide +kernel)
set_option maxRecDepth 20000 in
theorem gX8_strikes_X8_loanAt : GoodIn wsX8_strikes (wsV RX8 305 RX8 yX8_loanAt wsX8_loanAt) := goodIn_app (goodIn_sub (List.forall_mem_cons.mpr ⟨List.mem_cons_of_mem _ (List.mem_append_left _ (List.mem_of_getElem? (i := 5) rfl)), (List.forall_mem_cons.mpr ⟨List.mem_cons_of_mem _ (List.mem_append_left _ (List.mem_of_getElem? (i := 6) rfl)), (List.forall_mem_cons.mpr ⟨List.mem_cons_of_mem _ (List.mem_append_left _ (List.mem_of_getElem? (i := 7) rfl)), (List.forall_mem_cons.mpr ⟨List.mem_cons_of_mem _ (List.mem_append_left _ (List.mem_of_getElem? (i := 8) rfl)), (fun _ h => absurd h List.not_mem_nil)⟩)⟩)⟩)⟩) (by decide +kernel)) ggX8_strikes_X8_loanAt
theorem dX8_strikes_0 : decode cX8_strikes 0 = .ok (.aload_n 0, 1) := by decide +kernel
theorem dX8_strikes_1 : decode cX8_strikes 1 = .ok (.iload_n 1, 1) := by decide +kernel
theorem dX8_strikes_2 : decode cX8_strikes 2 = .ok (.iconst 4, 1) := by decide +kernel
theorem dX8_strikes_3 : decode cX8_strikes 3 = .ok (.invokevirtual 305, 3) := by decide +kernel
theorem dX8_strikes_6 : decode cX8_strikes 6 = .ok (.aload_n 0, 1) := by decide +kernel
theorem dX8_strikes_7 : decode cX8_strikes 7 = .ok (.getfield 230, 3) := by decide +kernel
theorem dX8_strikes_10 : decode cX8_strikes 10 = .ok (.imul, 1) := by decide +kernel
theorem dX8_strikes_11 : decode cX8_strikes 11 = .ok (.bipush 16, 2) := by decide +kernel
theorem dX8_strikes_13 : decode cX8_strikes 13 = .ok (.idiv, 1) := by decide +kernel
theorem dX8_strikes_14 : decode cX8_strikes 14 = .ok (.istore_n 3, 1) := by decide +kernel
theorem dX8_strikes_15 : decode cX8_strikes 15 = .ok (.aload_n 0, 1) := by decide +kernel
theorem dX8_strikes_16 : decode cX8_strikes 16 = .ok (.getfield 39, 3) := by decide +kernel
theorem dX8_strikes_19 : decode cX8_strikes 19 = .ok (.bipush 6, 2) := by decide +kernel
theorem dX8_strikes_21 : decode cX8_strikes 21 = .ok (.iload_n 1, 1) := by decide +kernel
theorem dX8_strikes_22 : decode cX8_strikes 22 = .ok (.imul, 1) := by decide +kernel
theorem dX8_strikes_23 : decode cX8_strikes 23 = .ok (.iconst 4, 1) := by decide +kernel
theorem dX8_strikes_24 : decode cX8_strikes 24 = .ok (.iadd, 1) := by decide +kernel
theorem dX8_strikes_25 : decode cX8_strikes 25 = .ok (.dup2, 1) := by decide +kernel
theorem dX8_strikes_26 : decode cX8_strikes 26 = .ok (.iaload, 1) := by decide +kernel
theorem dX8_strikes_27 : decode cX8_strikes 27 = .ok (.iload_n 3, 1) := by decide +kernel
theorem dX8_strikes_28 : decode cX8_strikes 28 = .ok (.isub, 1) := by decide +kernel
theorem dX8_strikes_29 : decode cX8_strikes 29 = .ok (.iastore, 1) := by decide +kernel
theorem dX8_strikes_30 : decode cX8_strikes 30 = .ok (.aload_n 0, 1) := by decide +kernel
theorem dX8_strikes_31 : decode cX8_strikes 31 = .ok (.getfield 36, 3) := by decide +kernel
theorem dX8_strikes_34 : decode cX8_strikes 34 = .ok (.aload_n 0, 1) := by decide +kernel
theorem dX8_strikes_35 : decode cX8_strikes 35 = .ok (.iload_n 1, 1) := by decide +kernel
theorem dX8_strikes_36 : decode cX8_strikes 36 = .ok (.iconst 0, 1) := by decide +kernel
theorem dX8_strikes_37 : decode cX8_strikes 37 = .ok (.invokevirtual 305, 3) := by decide +kernel
theorem dX8_strikes_40 : decode cX8_strikes 40 = .ok (.dup2, 1) := by decide +kernel
theorem dX8_strikes_41 : decode cX8_strikes 41 = .ok (.iaload, 1) := by decide +kernel
theorem dX8_strikes_42 : decode cX8_strikes 42 = .ok (.iload_n 3, 1) := by decide +kernel
theorem dX8_strikes_43 : decode cX8_strikes 43 = .ok (.iadd, 1) := by decide +kernel
theorem dX8_strikes_44 : decode cX8_strikes 44 = .ok (.iastore, 1) := by decide +kernel
theorem dX8_strikes_45 : decode cX8_strikes 45 = .ok (.iload_n 2, 1) := by decide +kernel
theorem dX8_strikes_46 : decode cX8_strikes 46 = .ok (.ifCond .eq 18, 3) := by decide +kernel
theorem dX8_strikes_49 : decode cX8_strikes 49 = .ok (.aload_n 0, 1) := by decide +kernel
theorem dX8_strikes_50 : decode cX8_strikes 50 = .ok (.getfield 73, 3) := by decide +kernel
theorem dX8_strikes_53 : decode cX8_strikes 53 = .ok (.aload_n 0, 1) := by decide +kernel
theorem dX8_strikes_54 : decode cX8_strikes 54 = .ok (.getfield 70, 3) := by decide +kernel
theorem dX8_strikes_57 : decode cX8_strikes 57 = .ok (.iload_n 1, 1) := by decide +kernel
theorem dX8_strikes_58 : decode cX8_strikes 58 = .ok (.iaload, 1) := by decide +kernel
theorem dX8_strikes_59 : decode cX8_strikes 59 = .ok (.dup2, 1) := by decide +kernel
theorem dX8_strikes_60 : decode cX8_strikes 60 = .ok (.iaload, 1) := by decide +kernel
theorem dX8_strikes_61 : decode cX8_strikes 61 = .ok (.iload_n 3, 1) := by decide +kernel
theorem dX8_strikes_62 : decode cX8_strikes 62 = .ok (.iadd, 1) := by decide +kernel
theorem dX8_strikes_63 : decode cX8_strikes 63 = .ok (.iastore, 1) := by decide +kernel
theorem dX8_strikes_64 : decode cX8_strikes 64 = .ok (.return_, 1) := by decide +kernel
theorem ilX8_goesOn_wsX8_goesOn_r1 : ∀ w ∈ wsX8_goesOn_r1, w ∈ wsX8_goesOn := fun _ h => List.mem_cons_of_mem _ (List.mem_append_left _ (List.mem_append_left _ (h)))
theorem ilX8_goesOn_wsX8_goesOn_r2 : ∀ w ∈ wsX8_goesOn_r2, w ∈ wsX8_goesOn := fun _ h => List.mem_cons_of_mem _ (List.mem_append_left _ (List.mem_append_right _ (h)))
theorem ilX8_goesOn_wsX80 : ∀ w ∈ wsX80, w ∈ wsX8_goesOn := fun _ h => List.mem_cons_of_mem _ (List.mem_append_right _ (h))
set_option maxRecDepth 20000 in
theorem ggX8_goesOn_X8_loanAt : GoodIn wsX8_goesOn wsX8_loanAt := goodIn_sub (List.forall_mem_cons.mpr ⟨ilX8_goesOn_wsX8_goesOn_r1 _ (List.mem_of_getElem? (i := 8) rfl), (List.forall_mem_append.mpr ⟨(List.forall_mem_cons.mpr ⟨ilX8_goesOn_wsX8_goesOn_r1 _ (List.mem_of_getElem? (i := 9) rfl), (fun _ h => absurd h List.not_mem_nil)⟩), ilX8_goesOn_wsX80⟩)⟩) (by decide +kernel)
set_option maxRecDepth 20000 in
theorem gX8_goesOn_X8_loanAt : GoodIn wsX8_goesOn (wsV RX8 305 RX8 yX8_loanAt wsX8_loanAt) := goodIn_app (goodIn_sub (List.forall_mem_cons.mpr ⟨ilX8_goesOn_wsX8_goesOn_r1 _ (List.mem_of_getElem? (i := 4) rfl), (List.forall_mem_cons.mpr ⟨ilX8_goesOn_wsX8_goesOn_r1 _ (List.mem_of_getElem? (i := 5) rfl), (List.forall_mem_cons.mpr ⟨ilX8_goesOn_wsX8_goesOn_r1 _ (List.mem_of_getElem? (i := 6) rfl), (List.forall_mem_cons.mpr ⟨ilX8_goesOn_wsX8_goesOn_r1 _ (List.mem_of_getElem? (i := 7) rfl), (fun _ h => absurd h List.not_mem_nil)⟩)⟩)⟩)⟩) (by decide +kernel)) ggX8_goesOn_X8_loanAt
set_option maxRecDepth 20000 in
theorem ggX8_goesOn_X8_pays : GoodIn wsX8_goesOn wsX8_pays := goodIn_sub (List.forall_mem_cons.mpr ⟨ilX8_goesOn_wsX8_goesOn_r1 _ (List.mem_of_getElem? (i := 13) rfl), (List.forall_mem_append.mpr ⟨(List.forall_mem_cons.mpr ⟨ilX8_goesOn_wsX8_goesOn_r1 _ (List.mem_of_getElem? (i := 14) rfl), (List.forall_mem_cons.mpr ⟨ilX8_goesOn_wsX8_goesOn_r1 _ (List.mem_of_getElem? (i := 15) rfl), (List.forall_mem_cons.mpr ⟨ilX8_goesOn_wsX8_goesOn_r1 _ (List.mem_of_getElem? (i := 16) rfl), (List.forall_mem_cons.mpr ⟨ilX8_goesOn_wsX8_goesOn_r1 _ (List.mem_of_getElem? (i := 17) rfl), (List.forall_mem_cons.mpr ⟨ilX8_goesOn_wsX8_goesOn_r1 _ (List.mem_of_getElem? (i := 18) rfl), (List.forall_mem_cons.mpr ⟨ilX8_goesOn_wsX8_goesOn_r1 _ (List.mem_of_getElem? (i := 9) rfl), (List.forall_mem_cons.mpr ⟨ilX8_goesOn_wsX8_goesOn_r1 _ (List.mem_of_getElem? (i := 4) rfl), (List.forall_mem_cons.mpr ⟨ilX8_goesOn_wsX8_goesOn_r1 _ (List.mem_of_getElem? (i := 5) rfl), (List.forall_mem_cons.mpr ⟨ilX8_goesOn_wsX8_goesOn_r1 _ (List.mem_of_getElem? (i := 6) rfl), (List.forall_mem_cons.mpr ⟨ilX8_goesOn_wsX8_goesOn_r1 _ (List.mem_of_getElem? (i := 7) rfl), (List.forall_mem_cons.mpr ⟨ilX8_goesOn_wsX8_goesOn_r1 _ (List.mem_of_getElem? (i := 8) rfl), (List.forall_mem_cons.mpr ⟨ilX8_goesOn_wsX8_goesOn_r1 _ (List.mem_of_getElem? (i := 19) rfl), (List.forall_mem_cons.mpr ⟨ilX8_goesOn_wsX8_goesOn_r1 _ (List.mem_of_getElem? (i := 20) rfl), (List.forall_mem_cons.mpr ⟨ilX8_goesOn_wsX8_goesOn_r1 _ (List.mem_of_getElem? (i := 21) rfl), (List.forall_mem_cons.mpr ⟨ilX8_goesOn_wsX8_goesOn_r1 _ (List.mem_of_getElem? (i := 22) rfl), (List.forall_mem_cons.mpr ⟨ilX8_goesOn_wsX8_goesOn_r1 _ (List.mem_of_getElem? (i := 23) rfl), (fun _ h => absurd h List.not_mem_nil)⟩)⟩)⟩)⟩)⟩)⟩)⟩)⟩)⟩)⟩)⟩)⟩)⟩)⟩)⟩)⟩), ilX8_goesOn_wsX80⟩)⟩) (by decide +kernel)
