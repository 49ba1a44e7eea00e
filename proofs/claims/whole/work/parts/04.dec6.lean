theorem dX6_init_0 : decode cX6_init 0 = .ok (.aload_n 0, 1) := by decide +kernel
theorem dX6_init_1 : decode cX6_init 1 = .ok (.invokespecial 1, 3) := by decide +kernel
theorem dX6_init_4 : decode cX6_init 4 = .ok (.aload_n 0, 1) := by decide +kernel
theorem dX6_init_5 : decode cX6_init 5 = .ok (.new 7, 3) := by decide +kernel
theorem dX6_init_8 : decode cX6_init 8 = .ok (.dup, 1) := by decide +kernel
theorem dX6_init_9 : decode cX6_init 9 = .ok (.invokespecial 9, 3) := by decide +kernel
theorem dX6_init_12 : decode cX6_init 12 = .ok (.putfield 10, 3) := by decide +kernel
theorem dX6_init_15 : decode cX6_init 15 = .ok (.aload_n 0, 1) := by decide +kernel
theorem dX6_init_16 : decode cX6_init 16 = .ok (.new 7, 3) := by decide +kernel
theorem dX6_init_19 : decode cX6_init 19 = .ok (.dup, 1) := by decide +kernel
theorem dX6_init_20 : decode cX6_init 20 = .ok (.invokespecial 9, 3) := by decide +kernel
theorem dX6_init_23 : decode cX6_init 23 = .ok (.putfield 16, 3) := by decide +kernel
theorem dX6_init_26 : decode cX6_init 26 = .ok (.aload_n 0, 1) := by decide +kernel
theorem dX6_init_27 : decode cX6_init 27 = .ok (.new 7, 3) := by decide +kernel
theorem dX6_init_30 : decode cX6_init 30 = .ok (.dup, 1) := by decide +kernel
theorem dX6_init_31 : decode cX6_init 31 = .ok (.invokespecial 9, 3) := by decide +kernel
theorem dX6_init_34 : decode cX6_init 34 = .ok (.putfield 19, 3) := by decide +kernel
theorem dX6_init_37 : decode cX6_init 37 = .ok (.aload_n 0, 1) := by decide +kernel
theorem dX6_init_38 : decode cX6_init 38 = .ok (.new 22, 3) := by decide +kernel
theorem dX6_init_41 : decode cX6_init 41 = .ok (.dup, 1) := by decide +kernel
theorem dX6_init_42 : decode cX6_init 42 = .ok (.invokespecial 24, 3) := by decide +kernel
theorem dX6_init_45 : decode cX6_init 45 = .ok (.putfield 25, 3) := by decide +kernel
theorem dX6_init_48 : decode cX6_init 48 = .ok (.aload_n 0, 1) := by decide +kernel
theorem dX6_init_49 : decode cX6_init 49 = .ok (.new 29, 3) := by decide +kernel
theorem dX6_init_52 : decode cX6_init 52 = .ok (.dup, 1) := by decide +kernel
theorem dX6_init_53 : decode cX6_init 53 = .ok (.invokespecial 31, 3) := by decide +kernel
theorem dX6_init_56 : decode cX6_init 56 = .ok (.putfield 32, 3) := by decide +kernel
theorem dX6_init_59 : decode cX6_init 59 = .ok (.aload_n 0, 1) := by decide +kernel
theorem dX6_init_60 : decode cX6_init 60 = .ok (.new 36, 3) := by decide +kernel
theorem dX6_init_63 : decode cX6_init 63 = .ok (.dup, 1) := by decide +kernel
theorem dX6_init_64 : decode cX6_init 64 = .ok (.iconst 3, 1) := by decide +kernel
theorem dX6_init_65 : decode cX6_init 65 = .ok (.newarray .int, 2) := by decide +kernel
theorem dX6_init_67 : decode cX6_init 67 = .ok (.dup, 1) := by decide +kernel
theorem dX6_init_68 : decode cX6_init 68 = .ok (.iconst 0, 1) := by decide +kernel
theorem dX6_init_69 : decode cX6_init 69 = .ok (.iconst 2, 1) := by decide +kernel
theorem dX6_init_70 : decode cX6_init 70 = .ok (.iastore, 1) := by decide +kernel
theorem dX6_init_71 : decode cX6_init 71 = .ok (.dup, 1) := by decide +kernel
theorem dX6_init_72 : decode cX6_init 72 = .ok (.iconst 1, 1) := by decide +kernel
theorem dX6_init_73 : decode cX6_init 73 = .ok (.iconst 3, 1) := by decide +kernel
theorem dX6_init_74 : decode cX6_init 74 = .ok (.iastore, 1) := by decide +kernel
theorem dX6_init_75 : decode cX6_init 75 = .ok (.dup, 1) := by decide +kernel
theorem dX6_init_76 : decode cX6_init 76 = .ok (.iconst 2, 1) := by decide +kernel
theorem dX6_init_77 : decode cX6_init 77 = .ok (.bipush 50, 2) := by decide +kernel
theorem dX6_init_79 : decode cX6_init 79 = .ok (.iastore, 1) := by decide +kernel
theorem dX6_init_80 : decode cX6_init 80 = .ok (.iconst 3, 1) := by decide +kernel
theorem dX6_init_81 : decode cX6_init 81 = .ok (.newarray .int, 2) := by decide +kernel
theorem dX6_init_83 : decode cX6_init 83 = .ok (.dup, 1) := by decide +kernel
theorem dX6_init_84 : decode cX6_init 84 = .ok (.iconst 0, 1) := by decide +kernel
theorem dX6_init_85 : decode cX6_init 85 = .ok (.iconst 1, 1) := by decide +kernel
theorem dX6_init_86 : decode cX6_init 86 = .ok (.iastore, 1) := by decide +kernel
theorem dX6_init_87 : decode cX6_init 87 = .ok (.dup, 1) := by decide +kernel
theorem dX6_init_88 : decode cX6_init 88 = .ok (.iconst 1, 1) := by decide +kernel
theorem dX6_init_89 : decode cX6_init 89 = .ok (.iconst 2, 1) := by decide +kernel
theorem dX6_init_90 : decode cX6_init 90 = .ok (.iastore, 1) := by decide +kernel
theorem dX6_init_91 : decode cX6_init 91 = .ok (.dup, 1) := by decide +kernel
theorem dX6_init_92 : decode cX6_init 92 = .ok (.iconst 2, 1) := by decide +kernel
theorem dX6_init_93 : decode cX6_init 93 = .ok (.iconst 3, 1) := by decide +kernel
theorem dX6_init_94 : decode cX6_init 94 = .ok (.iastore, 1) := by decide +kernel
theorem dX6_init_95 : decode cX6_init 95 = .ok (.invokespecial 38, 3) := by decide +kernel
theorem dX6_init_98 : decode cX6_init 98 = .ok (.putfield 41, 3) := by decide +kernel
theorem dX6_init_101 : decode cX6_init 101 = .ok (.aload_n 0, 1) := by decide +kernel
theorem dX6_init_102 : decode cX6_init 102 = .ok (.bipush 6, 2) := by decide +kernel
theorem dX6_init_104 : decode cX6_init 104 = .ok (.anewarray 36, 3) := by decide +kernel
theorem dX6_init_107 : decode cX6_init 107 = .ok (.putfield 45, 3) := by decide +kernel
theorem dX6_init_110 : decode cX6_init 110 = .ok (.aload_n 0, 1) := by decide +kernel
theorem dX6_init_111 : decode cX6_init 111 = .ok (.iconst 1, 1) := by decide +kernel
theorem dX6_init_112 : decode cX6_init 112 = .ok (.putfield 49, 3) := by decide +kernel
theorem dX6_init_115 : decode cX6_init 115 = .ok (.aload_n 0, 1) := by decide +kernel
theorem dX6_init_116 : decode cX6_init 116 = .ok (.new 53, 3) := by decide +kernel
theorem dX6_init_119 : decode cX6_init 119 = .ok (.dup, 1) := by decide +kernel
theorem dX6_init_120 : decode cX6_init 120 = .ok (.invokespecial 55, 3) := by decide +kernel
theorem dX6_init_123 : decode cX6_init 123 = .ok (.putfield 56, 3) := by decide +kernel
theorem dX6_init_126 : decode cX6_init 126 = .ok (.aload_n 0, 1) := by decide +kernel
theorem dX6_init_127 : decode cX6_init 127 = .ok (.iconst 4, 1) := by decide +kernel
theorem dX6_init_128 : decode cX6_init 128 = .ok (.anewarray 60, 3) := by decide +kernel
theorem dX6_init_131 : decode cX6_init 131 = .ok (.putfield 62, 3) := by decide +kernel
theorem dX6_init_134 : decode cX6_init 134 = .ok (.aload_n 0, 1) := by decide +kernel
theorem dX6_init_135 : decode cX6_init 135 = .ok (.bipush 6, 2) := by decide +kernel
theorem dX6_init_137 : decode cX6_init 137 = .ok (.newarray .int, 2) := by decide +kernel
theorem dX6_init_139 : decode cX6_init 139 = .ok (.putfield 66, 3) := by decide +kernel
theorem dX6_init_142 : decode cX6_init 142 = .ok (.aload_n 0, 1) := by decide +kernel
theorem dX6_init_143 : decode cX6_init 143 = .ok (.getfield 45, 3) := by decide +kernel
theorem dX6_init_146 : decode cX6_init 146 = .ok (.iconst 0, 1) := by decide +kernel
theorem dX6_init_147 : decode cX6_init 147 = .ok (.aload_n 0, 1) := by decide +kernel
theorem dX6_init_148 : decode cX6_init 148 = .ok (.getfield 41, 3) := by decide +kernel
theorem dX6_init_151 : decode cX6_init 151 = .ok (.aastore, 1) := by decide +kernel
theorem dX6_init_152 : decode cX6_init 152 = .ok (.iconst 0, 1) := by decide +kernel
theorem dX6_init_153 : decode cX6_init 153 = .ok (.istore_n 1, 1) := by decide +kernel
theorem dX6_init_154 : decode cX6_init 154 = .ok (.iload_n 1, 1) := by decide +kernel
theorem dX6_init_155 : decode cX6_init 155 = .ok (.iconst 4, 1) := by decide +kernel
theorem dX6_init_156 : decode cX6_init 156 = .ok (.if_icmp .ge 22, 3) := by decide +kernel
theorem dX6_init_159 : decode cX6_init 159 = .ok (.aload_n 0, 1) := by decide +kernel
theorem dX6_init_160 : decode cX6_init 160 = .ok (.getfield 62, 3) := by decide +kernel
theorem dX6_init_163 : decode cX6_init 163 = .ok (.iload_n 1, 1) := by decide +kernel
theorem dX6_init_164 : decode cX6_init 164 = .ok (.new 60, 3) := by decide +kernel
theorem dX6_init_167 : decode cX6_init 167 = .ok (.dup, 1) := by decide +kernel
theorem dX6_init_168 : decode cX6_init 168 = .ok (.invokespecial 70, 3) := by decide +kernel
theorem dX6_init_171 : decode cX6_init 171 = .ok (.aastore, 1) := by decide +kernel
theorem dX6_init_172 : decode cX6_init 172 = .ok (.iinc 1 1, 3) := by decide +kernel
theorem dX6_init_175 : decode cX6_init 175 = .ok (.goto (-21), 3) := by decide +kernel
theorem dX6_init_178 : decode cX6_init 178 = .ok (.return_, 1) := by decide +kernel
theorem dX6_count_0 : decode cX6_count 0 = .ok (.iload_n 1, 1) := by decide +kernel
theorem dX6_count_1 : decode cX6_count 1 = .ok (.tableswitch 84 0 5 #[39, 47, 55, 63, 68, 76], 39) := by decide +kernel
theorem dX6_count_40 : decode cX6_count 40 = .ok (.aload_n 0, 1) := by decide +kernel
theorem dX6_count_41 : decode cX6_count 41 = .ok (.getfield 10, 3) := by decide +kernel
theorem dX6_count_44 : decode cX6_count 44 = .ok (.getfield 71, 3) := by decide +kernel
theorem dX6_count_47 : decode cX6_count 47 = .ok (.ireturn, 1) := by decide +kernel
theorem dX6_count_48 : decode cX6_count 48 = .ok (.aload_n 0, 1) := by decide +kernel
theorem dX6_count_49 : decode cX6_count 49 = .ok (.getfield 10, 3) := by decide +kernel
theorem dX6_count_52 : decode cX6_count 52 = .ok (.getfield 74, 3) := by decide +kernel
theorem dX6_count_55 : decode cX6_count 55 = .ok (.ireturn, 1) := by decide +kernel
theorem dX6_count_56 : decode cX6_count 56 = .ok (.aload_n 0, 1) := by decide +kernel
theorem dX6_count_57 : decode cX6_count 57 = .ok (.getfield 10, 3) := by decide +kernel
theorem dX6_count_60 : decode cX6_count 60 = .ok (.getfield 77, 3) := by decide +kernel
theorem dX6_count_63 : decode cX6_count 63 = .ok (.ireturn, 1) := by decide +kernel
theorem dX6_count_64 : decode cX6_count 64 = .ok (.aload_n 0, 1) := by decide +kernel
theorem dX6_count_65 : decode cX6_count 65 = .ok (.getfield 49, 3) := by decide +kernel
theorem dX6_count_68 : decode cX6_count 68 = .ok (.ireturn, 1) := by decide +kernel
theorem dX6_count_69 : decode cX6_count 69 = .ok (.aload_n 0, 1) := by decide +kernel
theorem dX6_count_70 : decode cX6_count 70 = .ok (.getfield 10, 3) := by decide +kernel
theorem dX6_count_73 : decode cX6_count 73 = .ok (.getfield 80, 3) := by decide +kernel
theorem dX6_count_76 : decode cX6_count 76 = .ok (.ireturn, 1) := by decide +kernel
theorem dX6_count_77 : decode cX6_count 77 = .ok (.aload_n 0, 1) := by decide +kernel
theorem dX6_count_78 : decode cX6_count 78 = .ok (.getfield 56, 3) := by decide +kernel
theorem dX6_count_81 : decode cX6_count 81 = .ok (.getfield 83, 3) := by decide +kernel
theorem dX6_count_84 : decode cX6_count 84 = .ok (.ireturn, 1) := by decide +kernel
theorem dX6_count_85 : decode cX6_count 85 = .ok (.bipush (-2), 2) := by decide +kernel
theorem dX6_count_87 : decode cX6_count 87 = .ok (.ireturn, 1) := by decide +kernel
set_option maxRecDepth 20000 in
theorem ggX6_brings_X6_isWithin : GoodIn wsX6_brings wsX6_isWithin := goodIn_q _ [5] [] rfl (by decide +kernel) (by decide +kernel)
set_option maxRecDepth 20000 in
theorem gX6_brings_X6_isWithin : GoodIn wsX6_brings (va_wsS RX6 86 yX6_isWithin wsX6_isWithin) := goodIn_app (goodIn_of _ (by decide +kernel)) ggX6_brings_X6_isWithin
theorem dX6_brings_0 : decode cX6_brings 0 = .ok (.iload_n 1, 1) := by decide +kernel
theorem dX6_brings_1 : decode cX6_brings 1 = .ok (.iconst 0, 1) := by decide +kernel
theorem dX6_brings_2 : decode cX6_brings 2 = .ok (.iconst 1, 1) := by decide +kernel
theorem dX6_brings_3 : decode cX6_brings 3 = .ok (.invokestatic 86, 3) := by decide +kernel
theorem dX6_brings_6 : decode cX6_brings 6 = .ok (.ifCond .eq 23, 3) := by decide +kernel
theorem dX6_brings_9 : decode cX6_brings 9 = .ok (.iload_n 2, 1) := by decide +kernel
theorem dX6_brings_10 : decode cX6_brings 10 = .ok (.iconst 0, 1) := by decide +kernel
theorem dX6_brings_11 : decode cX6_brings 11 = .ok (.iload_n 1, 1) := by decide +kernel
theorem dX6_brings_12 : decode cX6_brings 12 = .ok (.ifCond .ne 9, 3) := by decide +kernel
theorem dX6_brings_15 : decode cX6_brings 15 = .ok (.sipush 999, 3) := by decide +kernel
theorem dX6_brings_18 : decode cX6_brings 18 = .ok (.goto 5, 3) := by decide +kernel
theorem dX6_brings_21 : decode cX6_brings 21 = .ok (.bipush 99, 2) := by decide +kernel
theorem dX6_brings_23 : decode cX6_brings 23 = .ok (.invokestatic 86, 3) := by decide +kernel
theorem dX6_brings_26 : decode cX6_brings 26 = .ok (.ifCond .ne 6, 3) := by decide +kernel
theorem dX6_brings_29 : decode cX6_brings 29 = .ok (.bipush (-2), 2) := by decide +kernel
theorem dX6_brings_31 : decode cX6_brings 31 = .ok (.ireturn, 1) := by decide +kernel
theorem dX6_brings_32 : decode cX6_brings 32 = .ok (.iload_n 1, 1) := by decide +kernel
theorem dX6_brings_33 : decode cX6_brings 33 = .ok (.ifCond .ne 13, 3) := by decide +kernel
theorem dX6_brings_36 : decode cX6_brings 36 = .ok (.aload_n 0, 1) := by decide +kernel
theorem dX6_brings_37 : decode cX6_brings 37 = .ok (.getfield 10, 3) := by decide +kernel
theorem dX6_brings_40 : decode cX6_brings 40 = .ok (.getfield 74, 3) := by decide +kernel
theorem dX6_brings_43 : decode cX6_brings 43 = .ok (.goto 10, 3) := by decide +kernel
theorem dX6_brings_46 : decode cX6_brings 46 = .ok (.aload_n 0, 1) := by decide +kernel
theorem dX6_brings_47 : decode cX6_brings 47 = .ok (.getfield 10, 3) := by decide +kernel
theorem dX6_brings_50 : decode cX6_brings 50 = .ok (.getfield 77, 3) := by decide +kernel
theorem dX6_brings_53 : decode cX6_brings 53 = .ok (.istore_n 3, 1) := by decide +kernel
theorem dX6_brings_54 : decode cX6_brings 54 = .ok (.iload_n 1, 1) := by decide +kernel
theorem dX6_brings_55 : decode cX6_brings 55 = .ok (.ifCond .ne 14, 3) := by decide +kernel
theorem dX6_brings_58 : decode cX6_brings 58 = .ok (.aload_n 0, 1) := by decide +kernel
theorem dX6_brings_59 : decode cX6_brings 59 = .ok (.getfield 10, 3) := by decide +kernel
theorem dX6_brings_62 : decode cX6_brings 62 = .ok (.iload_n 2, 1) := by decide +kernel
theorem dX6_brings_63 : decode cX6_brings 63 = .ok (.putfield 74, 3) := by decide +kernel
theorem dX6_brings_66 : decode cX6_brings 66 = .ok (.goto 11, 3) := by decide +kernel
theorem dX6_brings_69 : decode cX6_brings 69 = .ok (.aload_n 0, 1) := by decide +kernel
theorem dX6_brings_70 : decode cX6_brings 70 = .ok (.getfield 10, 3) := by decide +kernel
theorem dX6_brings_73 : decode cX6_brings 73 = .ok (.iload_n 2, 1) := by decide +kernel
theorem dX6_brings_74 : decode cX6_brings 74 = .ok (.putfield 77, 3) := by decide +kernel
theorem dX6_brings_77 : decode cX6_brings 77 = .ok (.iload_n 3, 1) := by decide +kernel
theorem dX6_brings_78 : decode cX6_brings 78 = .ok (.ireturn, 1) := by decide +kernel
set_option maxRecDepth 20000 in
theorem ggX6_feed_X6_isWithin : GoodIn wsX6_feed wsX6_isWithin := goodIn_q _ [5] [] rfl (by decide +kernel) (by decide +kernel)
set_option maxRecDepth 20000 in
theorem gX6_feed_X6_isWithin : GoodIn wsX6_feed (va_wsS RX6 86 yX6_isWithin wsX6_isWithin) := goodIn_app (goodIn_of _ (by decide +kernel)) ggX6_feed_X6_isWithin
set_option maxRecDepth 20000 in
theorem ggX6_feed_X6_isByte : GoodIn wsX6_feed wsX6_isByte := goodIn_q _ [8, 5] [2, 3, 4] rfl (by decide +kernel) (by decide +kernel)
set_option maxRecDepth 20000 in
theorem gX6_feed_X6_isByte : GoodIn wsX6_feed (va_wsS RX6 90 yX6_isByte wsX6_isByte) := goodIn_app (goodIn_of _ (by decide +kernel)) ggX6_feed_X6_isByte
set_option maxRecDepth 20000 in
theorem ggX6_feed_X4_add : GoodIn wsX6_feed wsX4_add := goodIn_q _ [13] [14, 15, 28, 29, 30, 31, 32, 33, 34, 35, 36, 37] rfl (by decide +kernel) (by decide +kernel)
set_option maxRecDepth 20000 in
theorem gX6_feed_X4_add : GoodIn wsX6_feed (wsV RX6 94 RX4 yX4_add wsX4_add) := goodIn_app (goodIn_of _ (by decide +kernel)) ggX6_feed_X4_add
theorem dX6_feed_0 : decode cX6_feed 0 = .ok (.iload_n 1, 1) := by decide +kernel
theorem dX6_feed_1 : decode cX6_feed 1 = .ok (.iconst 1, 1) := by decide +kernel
theorem dX6_feed_2 : decode cX6_feed 2 = .ok (.iconst 5, 1) := by decide +kernel
theorem dX6_feed_3 : decode cX6_feed 3 = .ok (.invokestatic 86, 3) := by decide +kernel
theorem dX6_feed_6 : decode cX6_feed 6 = .ok (.ifCond .eq 41, 3) := by decide +kernel
theorem dX6_feed_9 : decode cX6_feed 9 = .ok (.iload_n 2, 1) := by decide +kernel
theorem dX6_feed_10 : decode cX6_feed 10 = .ok (.invokestatic 90, 3) := by decide +kernel
theorem dX6_feed_13 : decode cX6_feed 13 = .ok (.ifCond .eq 34, 3) := by decide +kernel
theorem dX6_feed_16 : decode cX6_feed 16 = .ok (.iload_n 3, 1) := by decide +kernel
theorem dX6_feed_17 : decode cX6_feed 17 = .ok (.invokestatic 90, 3) := by decide +kernel
theorem dX6_feed_20 : decode cX6_feed 20 = .ok (.ifCond .eq 27, 3) := by decide +kernel
theorem dX6_feed_23 : decode cX6_feed 23 = .ok (.iload 4, 2) := by decide +kernel
theorem dX6_feed_25 : decode cX6_feed 25 = .ok (.invokestatic 90, 3) := by decide +kernel
theorem dX6_feed_28 : decode cX6_feed 28 = .ok (.ifCond .eq 19, 3) := by decide +kernel
theorem dX6_feed_31 : decode cX6_feed 31 = .ok (.iload 5, 2) := by decide +kernel
theorem dX6_feed_33 : decode cX6_feed 33 = .ok (.invokestatic 90, 3) := by decide +kernel
theorem dX6_feed_36 : decode cX6_feed 36 = .ok (.ifCond .eq 11, 3) := by decide +kernel
theorem dX6_feed_39 : decode cX6_feed 39 = .ok (.iload 6, 2) := by decide +kernel
theorem dX6_feed_41 : decode cX6_feed 41 = .ok (.invokestatic 90, 3) := by decide +kernel
theorem dX6_feed_44 : decode cX6_feed 44 = .ok (.ifCond .ne 6, 3) := by decide +kernel
theorem dX6_feed_47 : decode cX6_feed 47 = .ok (.bipush (-2), 2) := by decide +kernel
theorem dX6_feed_49 : decode cX6_feed 49 = .ok (.ireturn, 1) := by decide +kernel
theorem dX6_feed_50 : decode cX6_feed 50 = .ok (.aload_n 0, 1) := by decide +kernel
theorem dX6_feed_51 : decode cX6_feed 51 = .ok (.getfield 56, 3) := by decide +kernel
theorem dX6_feed_54 : decode cX6_feed 54 = .ok (.getfield 83, 3) := by decide +kernel
theorem dX6_feed_57 : decode cX6_feed 57 = .ok (.iload_n 1, 1) := by decide +kernel
theorem dX6_feed_58 : decode cX6_feed 58 = .ok (.iadd, 1) := by decide +kernel
theorem dX6_feed_59 : decode cX6_feed 59 = .ok (.sipush 160, 3) := by decide +kernel
theorem dX6_feed_62 : decode cX6_feed 62 = .ok (.if_icmp .le 6, 3) := by decide +kernel
theorem dX6_feed_65 : decode cX6_feed 65 = .ok (.bipush (-4), 2) := by decide +kernel
theorem dX6_feed_67 : decode cX6_feed 67 = .ok (.ireturn, 1) := by decide +kernel
theorem dX6_feed_68 : decode cX6_feed 68 = .ok (.iconst 0, 1) := by decide +kernel
theorem dX6_feed_69 : decode cX6_feed 69 = .ok (.istore 7, 2) := by decide +kernel
theorem dX6_feed_71 : decode cX6_feed 71 = .ok (.iload 7, 2) := by decide +kernel
theorem dX6_feed_73 : decode cX6_feed 73 = .ok (.iload_n 1, 1) := by decide +kernel
theorem dX6_feed_74 : decode cX6_feed 74 = .ok (.if_icmp .ge 59, 3) := by decide +kernel
theorem dX6_feed_77 : decode cX6_feed 77 = .ok (.aload_n 0, 1) := by decide +kernel
theorem dX6_feed_78 : decode cX6_feed 78 = .ok (.getfield 56, 3) := by decide +kernel
theorem dX6_feed_81 : decode cX6_feed 81 = .ok (.iload 7, 2) := by decide +kernel
theorem dX6_feed_83 : decode cX6_feed 83 = .ok (.ifCond .ne 7, 3) := by decide +kernel
theorem dX6_feed_86 : decode cX6_feed 86 = .ok (.iload_n 2, 1) := by decide +kernel
theorem dX6_feed_87 : decode cX6_feed 87 = .ok (.goto 37, 3) := by decide +kernel
theorem dX6_feed_90 : decode cX6_feed 90 = .ok (.iload 7, 2) := by decide +kernel
theorem dX6_feed_92 : decode cX6_feed 92 = .ok (.iconst 1, 1) := by decide +kernel
theorem dX6_feed_93 : decode cX6_feed 93 = .ok (.if_icmp .ne 7, 3) := by decide +kernel
theorem dX6_feed_96 : decode cX6_feed 96 = .ok (.iload_n 3, 1) := by decide +kernel
theorem dX6_feed_97 : decode cX6_feed 97 = .ok (.goto 27, 3) := by decide +kernel
theorem dX6_feed_100 : decode cX6_feed 100 = .ok (.iload 7, 2) := by decide +kernel
theorem dX6_feed_102 : decode cX6_feed 102 = .ok (.iconst 2, 1) := by decide +kernel
theorem dX6_feed_103 : decode cX6_feed 103 = .ok (.if_icmp .ne 8, 3) := by decide +kernel
theorem dX6_feed_106 : decode cX6_feed 106 = .ok (.iload 4, 2) := by decide +kernel
theorem dX6_feed_108 : decode cX6_feed 108 = .ok (.goto 16, 3) := by decide +kernel
theorem dX6_feed_111 : decode cX6_feed 111 = .ok (.iload 7, 2) := by decide +kernel
theorem dX6_feed_113 : decode cX6_feed 113 = .ok (.iconst 3, 1) := by decide +kernel
theorem dX6_feed_114 : decode cX6_feed 114 = .ok (.if_icmp .ne 8, 3) := by decide +kernel
theorem dX6_feed_117 : decode cX6_feed 117 = .ok (.iload 5, 2) := by decide +kernel
theorem dX6_feed_119 : decode cX6_feed 119 = .ok (.goto 5, 3) := by decide +kernel
theorem dX6_feed_122 : decode cX6_feed 122 = .ok (.iload 6, 2) := by decide +kernel
theorem dX6_feed_124 : decode cX6_feed 124 = .ok (.invokevirtual 94, 3) := by decide +kernel
theorem dX6_feed_127 : decode cX6_feed 127 = .ok (.iinc 7 1, 3) := by decide +kernel
theorem dX6_feed_130 : decode cX6_feed 130 = .ok (.goto (-59), 3) := by decide +kernel
theorem dX6_feed_133 : decode cX6_feed 133 = .ok (.aload_n 0, 1) := by decide +kernel
theorem dX6_feed_134 : decode cX6_feed 134 = .ok (.getfield 56, 3) := by decide +kernel
theorem dX6_feed_137 : decode cX6_feed 137 = .ok (.getfield 83, 3) := by decide +kernel
theorem dX6_feed_140 : decode cX6_feed 140 = .ok (.ireturn, 1) := by decide +kernel
set_option maxRecDepth 20000 in
theorem ggX6_text_X4_read : GoodIn wsX6_text wsX4_read := goodIn_q _ [8, 17, 23, 26, 30, 34, 39, 44, 50, 53, 58, 62, 65, 68, 72, 78, 82, 86, 90, 94, 98, 102, 105, 109, 112, 115, 118, 121, 127, 130, 133, 136, 139, 142, 146, 149, 153, 158, 162, 166, 173, 175, 179, 183, 187, 191, 195] [9, 10, 11, 12, 13, 14, 15, 16, 7, 18, 19, 20, 21, 22, 24, 25, 27, 28, 29, 31, 32, 33, 35, 36, 37, 38, 40, 41, 42, 43, 45, 46, 47, 48, 49, 51, 52, 54, 55, 56, 57, 59, 60, 61, 63, 64, 66, 67, 69, 70, 71, 73, 74, 75, 76, 77, 79, 80, 81, 83, 84, 85, 87, 88, 89, 91, 92, 93, 95, 96, 97, 99, 100, 101, 103, 104, 106, 107, 108, 110, 111, 113, 114, 116, 117, 119, 120, 122, 123, 124, 125, 126, 128, 129, 131, 132, 134, 135, 137, 138, 140, 141, 143, 144, 145, 147, 148, 150, 151, 152, 154, 155, 156, 157, 159, 160, 161, 163, 164, 165, 167, 168, 169, 170, 171, 172, 174, 176, 177, 178, 180, 181, 182, 184, 185, 186, 188, 189, 190, 192, 193, 194, 233, 234, 235, 236, 237, 238, 239, 240, 241, 242] rfl (by decide +kernel) (by decide +kernel)
set_option maxRecDepth 20000 in
theorem gX6_text_X4_read : GoodIn wsX6_text (wsV RX6 98 RX4 yX4_read wsX4_read) := goodIn_app (goodIn_of _ (by decide +kernel)) ggX6_text_X4_read
set_option maxRecDepth 20000 in
theorem ggX6_text_X4_written : GoodIn wsX6_text wsX4_written := goodIn_q _ [199, 205, 112, 109, 215, 218] [200, 201, 202, 174, 9, 12, 203, 204, 7, 206, 111, 108, 207, 107, 208, 209, 210, 211, 212, 213, 214, 216, 217, 219, 220, 243, 244, 233, 234, 235, 236, 237, 238, 239, 240, 241, 242] rfl (by decide +kernel) (by decide +kernel)
set_option maxRecDepth 20000 in
theorem gX6_text_X4_written : GoodIn wsX6_text (wsV RX6 102 RX4 yX4_written wsX4_written) := goodIn_app (goodIn_of _ (by decide +kernel)) ggX6_text_X4_written
theorem dX6_text_0 : decode cX6_text 0 = .ok (.aload_n 0, 1) := by decide +kernel
theorem dX6_text_1 : decode cX6_text 1 = .ok (.getfield 49, 3) := by decide +kernel
theorem dX6_text_4 : decode cX6_text 4 = .ok (.bipush 6, 2) := by decide +kernel
theorem dX6_text_6 : decode cX6_text 6 = .ok (.if_icmp .lt 6, 3) := by decide +kernel
theorem dX6_text_9 : decode cX6_text 9 = .ok (.bipush (-4), 2) := by decide +kernel
theorem dX6_text_11 : decode cX6_text 11 = .ok (.ireturn, 1) := by decide +kernel
theorem dX6_text_12 : decode cX6_text 12 = .ok (.aload_n 0, 1) := by decide +kernel
theorem dX6_text_13 : decode cX6_text 13 = .ok (.getfield 56, 3) := by decide +kernel
theorem dX6_text_16 : decode cX6_text 16 = .ok (.invokevirtual 98, 3) := by decide +kernel
theorem dX6_text_19 : decode cX6_text 19 = .ok (.istore_n 1, 1) := by decide +kernel
theorem dX6_text_20 : decode cX6_text 20 = .ok (.aload_n 0, 1) := by decide +kernel
theorem dX6_text_21 : decode cX6_text 21 = .ok (.getfield 56, 3) := by decide +kernel
theorem dX6_text_24 : decode cX6_text 24 = .ok (.iconst 0, 1) := by decide +kernel
theorem dX6_text_25 : decode cX6_text 25 = .ok (.putfield 83, 3) := by decide +kernel
theorem dX6_text_28 : decode cX6_text 28 = .ok (.iload_n 1, 1) := by decide +kernel
theorem dX6_text_29 : decode cX6_text 29 = .ok (.iconst (-1), 1) := by decide +kernel
theorem dX6_text_30 : decode cX6_text 30 = .ok (.if_icmp .eq 8, 3) := by decide +kernel
theorem dX6_text_33 : decode cX6_text 33 = .ok (.bipush (-100), 2) := by decide +kernel
theorem dX6_text_35 : decode cX6_text 35 = .ok (.iload_n 1, 1) := by decide +kernel
theorem dX6_text_36 : decode cX6_text 36 = .ok (.isub, 1) := by decide +kernel
theorem dX6_text_37 : decode cX6_text 37 = .ok (.ireturn, 1) := by decide +kernel
theorem dX6_text_38 : decode cX6_text 38 = .ok (.aload_n 0, 1) := by decide +kernel
theorem dX6_text_39 : decode cX6_text 39 = .ok (.getfield 45, 3) := by decide +kernel
theorem dX6_text_42 : decode cX6_text 42 = .ok (.aload_n 0, 1) := by decide +kernel
theorem dX6_text_43 : decode cX6_text 43 = .ok (.getfield 49, 3) := by decide +kernel
theorem dX6_text_46 : decode cX6_text 46 = .ok (.aload_n 0, 1) := by decide +kernel
theorem dX6_text_47 : decode cX6_text 47 = .ok (.getfield 56, 3) := by decide +kernel
theorem dX6_text_50 : decode cX6_text 50 = .ok (.invokevirtual 102, 3) := by decide +kernel
theorem dX6_text_53 : decode cX6_text 53 = .ok (.aastore, 1) := by decide +kernel
theorem dX6_text_54 : decode cX6_text 54 = .ok (.aload_n 0, 1) := by decide +kernel
theorem dX6_text_55 : decode cX6_text 55 = .ok (.dup, 1) := by decide +kernel
theorem dX6_text_56 : decode cX6_text 56 = .ok (.getfield 49, 3) := by decide +kernel
theorem dX6_text_59 : decode cX6_text 59 = .ok (.iconst 1, 1) := by decide +kernel
theorem dX6_text_60 : decode cX6_text 60 = .ok (.iadd, 1) := by decide +kernel
theorem dX6_text_61 : decode cX6_text 61 = .ok (.putfield 49, 3) := by decide +kernel
theorem dX6_text_64 : decode cX6_text 64 = .ok (.aload_n 0, 1) := by decide +kernel
theorem dX6_text_65 : decode cX6_text 65 = .ok (.getfield 49, 3) := by decide +kernel
theorem dX6_text_68 : decode cX6_text 68 = .ok (.iconst 1, 1) := by decide +kernel
theorem dX6_text_69 : decode cX6_text 69 = .ok (.isub, 1) := by decide +kernel
theorem dX6_text_70 : decode cX6_text 70 = .ok (.ireturn, 1) := by decide +kernel
set_option maxRecDepth 20000 in
theorem ggX6_force_X6_isWithin : GoodIn wsX6_force wsX6_isWithin := goodIn_q _ [6] [] rfl (by decide +kernel) (by decide +kernel)
set_option maxRecDepth 20000 in
theorem gX6_force_X6_isWithin : GoodIn wsX6_force (va_wsS RX6 86 yX6_isWithin wsX6_isWithin) := goodIn_app (goodIn_of _ (by decide +kernel)) ggX6_force_X6_isWithin
theorem dX6_force_0 : decode cX6_force 0 = .ok (.iload_n 1, 1) := by decide +kernel
theorem dX6_force_1 : decode cX6_force 1 = .ok (.iconst 0, 1) := by decide +kernel
theorem dX6_force_2 : decode cX6_force 2 = .ok (.aload_n 0, 1) := by decide +kernel
theorem dX6_force_3 : decode cX6_force 3 = .ok (.getfield 49, 3) := by decide +kernel
theorem dX6_force_6 : decode cX6_force 6 = .ok (.iconst 1, 1) := by decide +kernel
theorem dX6_force_7 : decode cX6_force 7 = .ok (.isub, 1) := by decide +kernel
theorem dX6_force_8 : decode cX6_force 8 = .ok (.invokestatic 86, 3) := by decide +kernel
theorem dX6_force_11 : decode cX6_force 11 = .ok (.ifCond .ne 6, 3) := by decide +kernel
theorem dX6_force_14 : decode cX6_force 14 = .ok (.bipush (-2), 2) := by decide +kernel
theorem dX6_force_16 : decode cX6_force 16 = .ok (.ireturn, 1) := by decide +kernel
theorem dX6_force_17 : decode cX6_force 17 = .ok (.aload_n 0, 1) := by decide +kernel
theorem dX6_force_18 : decode cX6_force 18 = .ok (.getfield 10, 3) := by decide +kernel
theorem dX6_force_21 : decode cX6_force 21 = .ok (.getfield 80, 3) := by decide +kernel
theorem dX6_force_24 : decode cX6_force 24 = .ok (.istore_n 2, 1) := by decide +kernel
theorem dX6_force_25 : decode cX6_force 25 = .ok (.aload_n 0, 1) := by decide +kernel
theorem dX6_force_26 : decode cX6_force 26 = .ok (.getfield 10, 3) := by decide +kernel
theorem dX6_force_29 : decode cX6_force 29 = .ok (.iload_n 1, 1) := by decide +kernel
theorem dX6_force_30 : decode cX6_force 30 = .ok (.putfield 80, 3) := by decide +kernel
theorem dX6_force_33 : decode cX6_force 33 = .ok (.iload_n 2, 1) := by decide +kernel
theorem dX6_force_34 : decode cX6_force 34 = .ok (.ireturn, 1) := by decide +kernel
set_option maxRecDepth 20000 in
theorem ggX6_asks_X6_isWithin : GoodIn wsX6_asks wsX6_isWithin := goodIn_q _ [6] [] rfl (by decide +kernel) (by decide +kernel)
set_option maxRecDepth 20000 in
theorem gX6_asks_X6_isWithin : GoodIn wsX6_asks (va_wsS RX6 86 yX6_isWithin wsX6_isWithin) := goodIn_app (goodIn_of _ (by decide +kernel)) ggX6_asks_X6_isWithin
set_option maxRecDepth 20000 in
theorem ggX6_asks_X6_isThere : GoodIn wsX6_asks wsX6_isThere := goodIn_q _ [10, 6] [2, 3, 4, 5, 46, 47, 48, 49, 50, 51, 52, 53, 54, 55, 56, 57, 58, 59, 60, 61, 62, 63, 64, 65, 66] rfl (by decide +kernel) (by decide +kernel)
set_option maxRecDepth 20000 in
theorem gX6_asks_X6_isThere : GoodIn wsX6_asks (wsV RX6 106 RX6 yX6_isThere wsX6_isThere) := goodIn_app (goodIn_of _ (by decide +kernel)) ggX6_asks_X6_isThere
set_option maxRecDepth 20000 in
theorem ggX6_asks_X2_speakOf : GoodIn wsX6_asks wsX2_speakOf := goodIn_q _ [15] [16, 67, 68, 69, 70, 71, 72, 73, 74, 75, 76, 77, 58, 59, 60, 61, 62, 63, 64, 65, 66] rfl (by decide +kernel) (by decide +kernel)
set_option maxRecDepth 20000 in
theorem gX6_asks_X2_speakOf : GoodIn wsX6_asks (wsV RX6 109 RX2 yX2_speakOf wsX2_speakOf) := goodIn_app (goodIn_of _ (by decide +kernel)) ggX6_asks_X2_speakOf
set_option maxRecDepth 20000 in
theorem ggX6_asks_X6_lawOf : GoodIn wsX6_asks wsX6_lawOf := goodIn_q _ [20, 6] [21, 22, 23, 3, 4, 5, 58, 59, 60, 61, 62, 63, 64, 65, 66, 46, 47, 48, 49, 50, 51, 52, 53, 54, 55, 56, 57] rfl (by decide +kernel) (by decide +kernel)
set_option maxRecDepth 20000 in
theorem gX6_asks_X6_lawOf : GoodIn wsX6_asks (wsV RX6 113 RX6 yX6_lawOf wsX6_lawOf) := goodIn_app (goodIn_of _ (by decide +kernel)) ggX6_asks_X6_lawOf
set_option maxRecDepth 20000 in
theorem ggX6_asks_X2_says : GoodIn wsX6_asks wsX2_says := goodIn_q _ [27, 32, 35, 40, 45] [16, 28, 29, 30, 31, 33, 34, 36, 37, 38, 39, 41, 42, 43, 44, 67, 68, 69, 70, 71, 72, 73, 74, 75, 76, 77, 78, 79] rfl (by decide +kernel) (by decide +kernel)
set_option maxRecDepth 20000 in
theorem gX6_asks_X2_says : GoodIn wsX6_asks (wsV RX6 117 RX2 yX2_says wsX2_says) := goodIn_app (goodIn_of _ (by decide +kernel)) ggX6_asks_X2_says
theorem dX6_asks_0 : decode cX6_asks 0 = .ok (.iload_n 1, 1) := by decide +kernel
theorem dX6_asks_1 : decode cX6_asks 1 = .ok (.iconst 0, 1) := by decide +kernel
theorem dX6_asks_2 : decode cX6_asks 2 = .ok (.iconst 2, 1) := by decide +kernel
theorem dX6_asks_3 : decode cX6_asks 3 = .ok (.invokestatic 86, 3) := by decide +kernel
theorem dX6_asks_6 : decode cX6_asks 6 = .ok (.ifCond .eq 48, 3) := by decide +kernel
theorem dX6_asks_9 : decode cX6_asks 9 = .ok (.iload_n 2, 1) := by decide +kernel
theorem dX6_asks_10 : decode cX6_asks 10 = .ok (.iconst (-1), 1) := by decide +kernel
theorem dX6_asks_11 : decode cX6_asks 11 = .ok (.if_icmp .eq 11, 3) := by decide +kernel
theorem dX6_asks_14 : decode cX6_asks 14 = .ok (.aload_n 0, 1) := by decide +kernel
theorem dX6_asks_15 : decode cX6_asks 15 = .ok (.iload_n 2, 1) := by decide +kernel
theorem dX6_asks_16 : decode cX6_asks 16 = .ok (.invokevirtual 106, 3) := by decide +kernel
theorem dX6_asks_19 : decode cX6_asks 19 = .ok (.ifCond .eq 35, 3) := by decide +kernel
theorem dX6_asks_22 : decode cX6_asks 22 = .ok (.iload_n 3, 1) := by decide +kernel
theorem dX6_asks_23 : decode cX6_asks 23 = .ok (.iconst 0, 1) := by decide +kernel
theorem dX6_asks_24 : decode cX6_asks 24 = .ok (.bipush 99, 2) := by decide +kernel
theorem dX6_asks_26 : decode cX6_asks 26 = .ok (.invokestatic 86, 3) := by decide +kernel
theorem dX6_asks_29 : decode cX6_asks 29 = .ok (.ifCond .eq 25, 3) := by decide +kernel
theorem dX6_asks_32 : decode cX6_asks 32 = .ok (.iload 4, 2) := by decide +kernel
theorem dX6_asks_34 : decode cX6_asks 34 = .ok (.iconst 0, 1) := by decide +kernel
theorem dX6_asks_35 : decode cX6_asks 35 = .ok (.bipush 60, 2) := by decide +kernel
theorem dX6_asks_37 : decode cX6_asks 37 = .ok (.invokestatic 86, 3) := by decide +kernel
theorem dX6_asks_40 : decode cX6_asks 40 = .ok (.ifCond .eq 14, 3) := by decide +kernel
theorem dX6_asks_43 : decode cX6_asks 43 = .ok (.iload 5, 2) := by decide +kernel
theorem dX6_asks_45 : decode cX6_asks 45 = .ok (.iconst 0, 1) := by decide +kernel
theorem dX6_asks_46 : decode cX6_asks 46 = .ok (.bipush 6, 2) := by decide +kernel
theorem dX6_asks_48 : decode cX6_asks 48 = .ok (.invokestatic 86, 3) := by decide +kernel
theorem dX6_asks_51 : decode cX6_asks 51 = .ok (.ifCond .ne 6, 3) := by decide +kernel
theorem dX6_asks_54 : decode cX6_asks 54 = .ok (.bipush (-2), 2) := by decide +kernel
theorem dX6_asks_56 : decode cX6_asks 56 = .ok (.ireturn, 1) := by decide +kernel
theorem dX6_asks_57 : decode cX6_asks 57 = .ok (.aload_n 0, 1) := by decide +kernel
theorem dX6_asks_58 : decode cX6_asks 58 = .ok (.getfield 25, 3) := by decide +kernel
theorem dX6_asks_61 : decode cX6_asks 61 = .ok (.aload_n 0, 1) := by decide +kernel
theorem dX6_asks_62 : decode cX6_asks 62 = .ok (.getfield 10, 3) := by decide +kernel
theorem dX6_asks_65 : decode cX6_asks 65 = .ok (.iload_n 1, 1) := by decide +kernel
theorem dX6_asks_66 : decode cX6_asks 66 = .ok (.ifCond .ne 7, 3) := by decide +kernel
theorem dX6_asks_69 : decode cX6_asks 69 = .ok (.iconst (-1), 1) := by decide +kernel
theorem dX6_asks_70 : decode cX6_asks 70 = .ok (.goto 4, 3) := by decide +kernel
theorem dX6_asks_73 : decode cX6_asks 73 = .ok (.iload_n 2, 1) := by decide +kernel
theorem dX6_asks_74 : decode cX6_asks 74 = .ok (.invokevirtual 109, 3) := by decide +kernel
theorem dX6_asks_77 : decode cX6_asks 77 = .ok (.aload_n 0, 1) := by decide +kernel
theorem dX6_asks_78 : decode cX6_asks 78 = .ok (.getfield 25, 3) := by decide +kernel
theorem dX6_asks_81 : decode cX6_asks 81 = .ok (.aload_n 0, 1) := by decide +kernel
theorem dX6_asks_82 : decode cX6_asks 82 = .ok (.aload_n 0, 1) := by decide +kernel
theorem dX6_asks_83 : decode cX6_asks 83 = .ok (.getfield 10, 3) := by decide +kernel
theorem dX6_asks_86 : decode cX6_asks 86 = .ok (.invokevirtual 113, 3) := by decide +kernel
theorem dX6_asks_89 : decode cX6_asks 89 = .ok (.iload_n 1, 1) := by decide +kernel
theorem dX6_asks_90 : decode cX6_asks 90 = .ok (.iload_n 3, 1) := by decide +kernel
theorem dX6_asks_91 : decode cX6_asks 91 = .ok (.iload 4, 2) := by decide +kernel
theorem dX6_asks_93 : decode cX6_asks 93 = .ok (.iload 5, 2) := by decide +kernel
theorem dX6_asks_95 : decode cX6_asks 95 = .ok (.invokevirtual 117, 3) := by decide +kernel
theorem dX6_asks_98 : decode cX6_asks 98 = .ok (.ireturn, 1) := by decide +kernel
set_option maxRecDepth 20000 in
theorem ggX6_courtier_X6_isCourtier : GoodIn wsX6_courtier wsX6_isCourtier := goodIn_q _ [5, 8] [6, 7, 4] rfl (by decide +kernel) (by decide +kernel)
set_option maxRecDepth 20000 in
theorem gX6_courtier_X6_isCourtier : GoodIn wsX6_courtier (va_wsS RX6 121 yX6_isCourtier wsX6_isCourtier) := goodIn_app (goodIn_of _ (by decide +kernel)) ggX6_courtier_X6_isCourtier
set_option maxRecDepth 20000 in
theorem ggX6_courtier_X1_admit : GoodIn wsX6_courtier wsX1_admit := goodIn_q _ [13] [14, 15, 16, 17, 18, 31, 32, 33, 34, 35, 36, 37, 38, 39] rfl (by decide +kernel) (by decide +kernel)
set_option maxRecDepth 20000 in
theorem gX6_courtier_X1_admit : GoodIn wsX6_courtier (wsV RX6 125 RX1 yX1_admit wsX1_admit) := goodIn_app (goodIn_of _ (by decide +kernel)) ggX6_courtier_X1_admit
theorem dX6_courtier_0 : decode cX6_courtier 0 = .ok (.iload_n 1, 1) := by decide +kernel
theorem dX6_courtier_1 : decode cX6_courtier 1 = .ok (.iload_n 2, 1) := by decide +kernel
theorem dX6_courtier_2 : decode cX6_courtier 2 = .ok (.invokestatic 121, 3) := by decide +kernel
theorem dX6_courtier_5 : decode cX6_courtier 5 = .ok (.ifCond .ne 6, 3) := by decide +kernel
theorem dX6_courtier_8 : decode cX6_courtier 8 = .ok (.bipush (-2), 2) := by decide +kernel
theorem dX6_courtier_10 : decode cX6_courtier 10 = .ok (.ireturn, 1) := by decide +kernel
theorem dX6_courtier_11 : decode cX6_courtier 11 = .ok (.aload_n 0, 1) := by decide +kernel
theorem dX6_courtier_12 : decode cX6_courtier 12 = .ok (.getfield 10, 3) := by decide +kernel
theorem dX6_courtier_15 : decode cX6_courtier 15 = .ok (.getfield 71, 3) := by decide +kernel
theorem dX6_courtier_18 : decode cX6_courtier 18 = .ok (.bipush 6, 2) := by decide +kernel
theorem dX6_courtier_20 : decode cX6_courtier 20 = .ok (.if_icmp .lt 6, 3) := by decide +kernel
theorem dX6_courtier_23 : decode cX6_courtier 23 = .ok (.bipush (-4), 2) := by decide +kernel
theorem dX6_courtier_25 : decode cX6_courtier 25 = .ok (.ireturn, 1) := by decide +kernel
theorem dX6_courtier_26 : decode cX6_courtier 26 = .ok (.aload_n 0, 1) := by decide +kernel
theorem dX6_courtier_27 : decode cX6_courtier 27 = .ok (.getfield 10, 3) := by decide +kernel
theorem dX6_courtier_30 : decode cX6_courtier 30 = .ok (.iload_n 1, 1) := by decide +kernel
theorem dX6_courtier_31 : decode cX6_courtier 31 = .ok (.bipush 10, 2) := by decide +kernel
theorem dX6_courtier_33 : decode cX6_courtier 33 = .ok (.idiv, 1) := by decide +kernel
theorem dX6_courtier_34 : decode cX6_courtier 34 = .ok (.iload_n 1, 1) := by decide +kernel
theorem dX6_courtier_35 : decode cX6_courtier 35 = .ok (.bipush 10, 2) := by decide +kernel
theorem dX6_courtier_37 : decode cX6_courtier 37 = .ok (.irem, 1) := by decide +kernel
theorem dX6_courtier_38 : decode cX6_courtier 38 = .ok (.iload_n 2, 1) := by decide +kernel
theorem dX6_courtier_39 : decode cX6_courtier 39 = .ok (.invokevirtual 125, 3) := by decide +kernel
theorem dX6_courtier_42 : decode cX6_courtier 42 = .ok (.ireturn, 1) := by decide +kernel
set_option maxRecDepth 20000 in
theorem ggX6_put_X6_isThere : GoodIn wsX6_put wsX6_isThere := goodIn_q _ [6, 9] [1, 7, 8, 5, 10, 11, 12, 13, 14, 15, 16, 17, 18, 19, 20, 21, 22, 23, 24, 25, 26, 27, 28, 29, 30] rfl (by decide +kernel) (by decide +kernel)
set_option maxRecDepth 20000 in
theorem gX6_put_X6_isThere : GoodIn wsX6_put (wsV RX6 106 RX6 yX6_isThere wsX6_isThere) := goodIn_app (goodIn_of _ (by decide +kernel)) ggX6_put_X6_isThere
set_option maxRecDepth 20000 in
theorem ggX6_put_X6_isWithin : GoodIn wsX6_put wsX6_isWithin := goodIn_q _ [9] [] rfl (by decide +kernel) (by decide +kernel)
set_option maxRecDepth 20000 in
theorem gX6_put_X6_isWithin : GoodIn wsX6_put (va_wsS RX6 86 yX6_isWithin wsX6_isWithin) := goodIn_app (goodIn_of _ (by decide +kernel)) ggX6_put_X6_isWithin
theorem dX6_put_0 : decode cX6_put 0 = .ok (.aload_n 0, 1) := by decide +kernel
theorem dX6_put_1 : decode cX6_put 1 = .ok (.iload_n 1, 1) := by decide +kernel
theorem dX6_put_2 : decode cX6_put 2 = .ok (.invokevirtual 106, 3) := by decide +kernel
theorem dX6_put_5 : decode cX6_put 5 = .ok (.ifCond .ne 6, 3) := by decide +kernel
theorem dX6_put_8 : decode cX6_put 8 = .ok (.bipush (-5), 2) := by decide +kernel
theorem dX6_put_10 : decode cX6_put 10 = .ok (.ireturn, 1) := by decide +kernel
theorem dX6_put_11 : decode cX6_put 11 = .ok (.iload_n 2, 1) := by decide +kernel
theorem dX6_put_12 : decode cX6_put 12 = .ok (.iconst 0, 1) := by decide +kernel
theorem dX6_put_13 : decode cX6_put 13 = .ok (.iconst 1, 1) := by decide +kernel
theorem dX6_put_14 : decode cX6_put 14 = .ok (.invokestatic 86, 3) := by decide +kernel
theorem dX6_put_17 : decode cX6_put 17 = .ok (.ifCond .eq 23, 3) := by decide +kernel
theorem dX6_put_20 : decode cX6_put 20 = .ok (.iload_n 3, 1) := by decide +kernel
theorem dX6_put_21 : decode cX6_put 21 = .ok (.iconst 0, 1) := by decide +kernel
theorem dX6_put_22 : decode cX6_put 22 = .ok (.iload_n 2, 1) := by decide +kernel
theorem dX6_put_23 : decode cX6_put 23 = .ok (.ifCond .ne 8, 3) := by decide +kernel
theorem dX6_put_26 : decode cX6_put 26 = .ok (.bipush 99, 2) := by decide +kernel
theorem dX6_put_28 : decode cX6_put 28 = .ok (.goto 6, 3) := by decide +kernel
theorem dX6_put_31 : decode cX6_put 31 = .ok (.sipush 999, 3) := by decide +kernel
theorem dX6_put_34 : decode cX6_put 34 = .ok (.invokestatic 86, 3) := by decide +kernel
theorem dX6_put_37 : decode cX6_put 37 = .ok (.ifCond .ne 6, 3) := by decide +kernel
theorem dX6_put_40 : decode cX6_put 40 = .ok (.bipush (-7), 2) := by decide +kernel
theorem dX6_put_42 : decode cX6_put 42 = .ok (.ireturn, 1) := by decide +kernel
theorem dX6_put_43 : decode cX6_put 43 = .ok (.iload_n 2, 1) := by decide +kernel
theorem dX6_put_44 : decode cX6_put 44 = .ok (.ifCond .ne 13, 3) := by decide +kernel
theorem dX6_put_47 : decode cX6_put 47 = .ok (.aload_n 0, 1) := by decide +kernel
theorem dX6_put_48 : decode cX6_put 48 = .ok (.getfield 10, 3) := by decide +kernel
theorem dX6_put_51 : decode cX6_put 51 = .ok (.getfield 129, 3) := by decide +kernel
theorem dX6_put_54 : decode cX6_put 54 = .ok (.goto 10, 3) := by decide +kernel
theorem dX6_put_57 : decode cX6_put 57 = .ok (.aload_n 0, 1) := by decide +kernel
theorem dX6_put_58 : decode cX6_put 58 = .ok (.getfield 10, 3) := by decide +kernel
theorem dX6_put_61 : decode cX6_put 61 = .ok (.getfield 132, 3) := by decide +kernel
theorem dX6_put_64 : decode cX6_put 64 = .ok (.astore 4, 2) := by decide +kernel
theorem dX6_put_66 : decode cX6_put 66 = .ok (.aload 4, 2) := by decide +kernel
theorem dX6_put_68 : decode cX6_put 68 = .ok (.iload_n 1, 1) := by decide +kernel
theorem dX6_put_69 : decode cX6_put 69 = .ok (.iaload, 1) := by decide +kernel
theorem dX6_put_70 : decode cX6_put 70 = .ok (.istore 5, 2) := by decide +kernel
theorem dX6_put_72 : decode cX6_put 72 = .ok (.aload 4, 2) := by decide +kernel
theorem dX6_put_74 : decode cX6_put 74 = .ok (.iload_n 1, 1) := by decide +kernel
theorem dX6_put_75 : decode cX6_put 75 = .ok (.iload_n 3, 1) := by decide +kernel
theorem dX6_put_76 : decode cX6_put 76 = .ok (.iastore, 1) := by decide +kernel
theorem dX6_put_77 : decode cX6_put 77 = .ok (.iload 5, 2) := by decide +kernel
theorem dX6_put_79 : decode cX6_put 79 = .ok (.ireturn, 1) := by decide +kernel
set_option maxRecDepth 20000 in
theorem ggX6_told_X6_isThere : GoodIn wsX6_told wsX6_isThere := goodIn_q _ [7, 10] [1, 8, 9, 6, 97, 98, 99, 100, 101, 102, 103, 104, 105, 106, 107, 108, 109, 110, 111, 112, 113, 114, 115, 116, 117] rfl (by decide +kernel) (by decide +kernel)
set_option maxRecDepth 20000 in
theorem gX6_told_X6_isThere : GoodIn wsX6_told (wsV RX6 106 RX6 yX6_isThere wsX6_isThere) := goodIn_app (goodIn_of _ (by decide +kernel)) ggX6_told_X6_isThere
set_option maxRecDepth 20000 in
theorem ggX6_told_X6_serve : GoodIn wsX6_told wsX6_serve := goodIn_q _ [14, 18, 10, 26, 34, 38, 46, 51, 57, 62, 66, 71, 76, 78, 81, 84, 87, 89, 92] [2, 15, 16, 17, 6, 19, 20, 21, 8, 9, 22, 23, 24, 25, 27, 28, 29, 30, 31, 32, 33, 35, 36, 37, 39, 40, 41, 42, 43, 44, 45, 47, 48, 49, 50, 52, 53, 54, 55, 56, 58, 59, 60, 61, 63, 64, 65, 67, 68, 69, 70, 72, 73, 74, 75, 77, 79, 80, 82, 83, 85, 86, 88, 90, 91, 97, 98, 99, 100, 101, 102, 103, 104, 105, 106, 107, 108, 109, 110, 111, 112, 113, 114, 115, 116, 117, 118, 119, 120, 121, 122, 123, 124, 125, 126, 127, 128, 129, 130] rfl (by decide +kernel) (by decide +kernel)
set_option maxRecDepth 20000 in
theorem gX6_told_X6_serve : GoodIn wsX6_told (wsV RX6 141 RX6 yX6_serve wsX6_serve) := goodIn_app (goodIn_of _ (by decide +kernel)) ggX6_told_X6_serve
set_option maxRecDepth 20000 in
theorem ggX6_told_X2_hasBegun : GoodIn wsX6_told wsX2_hasBegun := goodIn_q _ [96] [39, 118, 119, 120, 121, 122, 123, 124, 125, 126, 127, 128] rfl (by decide +kernel) (by decide +kernel)
set_option maxRecDepth 20000 in
theorem gX6_told_X2_hasBegun : GoodIn wsX6_told (wsV RX6 154 RX2 yX2_hasBegun wsX2_hasBegun) := goodIn_app (goodIn_of _ (by decide +kernel)) ggX6_told_X2_hasBegun
theorem dX6_told_0 : decode cX6_told 0 = .ok (.aload_n 0, 1) := by decide +kernel
theorem dX6_told_1 : decode cX6_told 1 = .ok (.iload_n 1, 1) := by decide +kernel
theorem dX6_told_2 : decode cX6_told 2 = .ok (.invokevirtual 106, 3) := by decide +kernel
theorem dX6_told_5 : decode cX6_told 5 = .ok (.ifCond .ne 7, 3) := by decide +kernel
theorem dX6_told_8 : decode cX6_told 8 = .ok (.sipush (-5000), 3) := by decide +kernel
theorem dX6_told_11 : decode cX6_told 11 = .ok (.ireturn, 1) := by decide +kernel
theorem dX6_told_12 : decode cX6_told 12 = .ok (.iload_n 2, 1) := by decide +kernel
theorem dX6_told_13 : decode cX6_told 13 = .ok (.tableswitch 71 0 3 #[31, 41, 51, 61], 31) := by decide +kernel
theorem dX6_told_44 : decode cX6_told 44 = .ok (.aload_n 0, 1) := by decide +kernel
theorem dX6_told_45 : decode cX6_told 45 = .ok (.getfield 10, 3) := by decide +kernel
theorem dX6_told_48 : decode cX6_told 48 = .ok (.getfield 129, 3) := by decide +kernel
theorem dX6_told_51 : decode cX6_told 51 = .ok (.iload_n 1, 1) := by decide +kernel
theorem dX6_told_52 : decode cX6_told 52 = .ok (.iaload, 1) := by decide +kernel
theorem dX6_told_53 : decode cX6_told 53 = .ok (.ireturn, 1) := by decide +kernel
theorem dX6_told_54 : decode cX6_told 54 = .ok (.aload_n 0, 1) := by decide +kernel
theorem dX6_told_55 : decode cX6_told 55 = .ok (.getfield 10, 3) := by decide +kernel
theorem dX6_told_58 : decode cX6_told 58 = .ok (.getfield 132, 3) := by decide +kernel
theorem dX6_told_61 : decode cX6_told 61 = .ok (.iload_n 1, 1) := by decide +kernel
theorem dX6_told_62 : decode cX6_told 62 = .ok (.iaload, 1) := by decide +kernel
theorem dX6_told_63 : decode cX6_told 63 = .ok (.ireturn, 1) := by decide +kernel
theorem dX6_told_64 : decode cX6_told 64 = .ok (.aload_n 0, 1) := by decide +kernel
theorem dX6_told_65 : decode cX6_told 65 = .ok (.getfield 10, 3) := by decide +kernel
theorem dX6_told_68 : decode cX6_told 68 = .ok (.getfield 135, 3) := by decide +kernel
theorem dX6_told_71 : decode cX6_told 71 = .ok (.iload_n 1, 1) := by decide +kernel
theorem dX6_told_72 : decode cX6_told 72 = .ok (.iaload, 1) := by decide +kernel
theorem dX6_told_73 : decode cX6_told 73 = .ok (.ireturn, 1) := by decide +kernel
theorem dX6_told_74 : decode cX6_told 74 = .ok (.aload_n 0, 1) := by decide +kernel
theorem dX6_told_75 : decode cX6_told 75 = .ok (.getfield 10, 3) := by decide +kernel
theorem dX6_told_78 : decode cX6_told 78 = .ok (.getfield 138, 3) := by decide +kernel
theorem dX6_told_81 : decode cX6_told 81 = .ok (.iload_n 1, 1) := by decide +kernel
theorem dX6_told_82 : decode cX6_told 82 = .ok (.iaload, 1) := by decide +kernel
theorem dX6_told_83 : decode cX6_told 83 = .ok (.ireturn, 1) := by decide +kernel
theorem dX6_told_84 : decode cX6_told 84 = .ok (.aload_n 0, 1) := by decide +kernel
theorem dX6_told_85 : decode cX6_told 85 = .ok (.aload_n 0, 1) := by decide +kernel
theorem dX6_told_86 : decode cX6_told 86 = .ok (.getfield 10, 3) := by decide +kernel
theorem dX6_told_89 : decode cX6_told 89 = .ok (.invokevirtual 141, 3) := by decide +kernel
theorem dX6_told_92 : decode cX6_told 92 = .ok (.pop, 1) := by decide +kernel
theorem dX6_told_93 : decode cX6_told 93 = .ok (.iload_n 2, 1) := by decide +kernel
theorem dX6_told_94 : decode cX6_told 94 = .ok (.tableswitch 118 4 8 #[34, 44, 54, 64, 91], 34) := by decide +kernel
theorem dX6_told_128 : decode cX6_told 128 = .ok (.aload_n 0, 1) := by decide +kernel
theorem dX6_told_129 : decode cX6_told 129 = .ok (.getfield 25, 3) := by decide +kernel
theorem dX6_told_132 : decode cX6_told 132 = .ok (.getfield 145, 3) := by decide +kernel
theorem dX6_told_135 : decode cX6_told 135 = .ok (.iload_n 1, 1) := by decide +kernel
theorem dX6_told_136 : decode cX6_told 136 = .ok (.iaload, 1) := by decide +kernel
theorem dX6_told_137 : decode cX6_told 137 = .ok (.ireturn, 1) := by decide +kernel
theorem dX6_told_138 : decode cX6_told 138 = .ok (.aload_n 0, 1) := by decide +kernel
theorem dX6_told_139 : decode cX6_told 139 = .ok (.getfield 25, 3) := by decide +kernel
theorem dX6_told_142 : decode cX6_told 142 = .ok (.getfield 148, 3) := by decide +kernel
theorem dX6_told_145 : decode cX6_told 145 = .ok (.iload_n 1, 1) := by decide +kernel
theorem dX6_told_146 : decode cX6_told 146 = .ok (.iaload, 1) := by decide +kernel
theorem dX6_told_147 : decode cX6_told 147 = .ok (.ireturn, 1) := by decide +kernel
theorem dX6_told_148 : decode cX6_told 148 = .ok (.aload_n 0, 1) := by decide +kernel
theorem dX6_told_149 : decode cX6_told 149 = .ok (.getfield 25, 3) := by decide +kernel
theorem dX6_told_152 : decode cX6_told 152 = .ok (.getfield 151, 3) := by decide +kernel
theorem dX6_told_155 : decode cX6_told 155 = .ok (.iload_n 1, 1) := by decide +kernel
theorem dX6_told_156 : decode cX6_told 156 = .ok (.iaload, 1) := by decide +kernel
theorem dX6_told_157 : decode cX6_told 157 = .ok (.ireturn, 1) := by decide +kernel
theorem dX6_told_158 : decode cX6_told 158 = .ok (.aload_n 0, 1) := by decide +kernel
theorem dX6_told_159 : decode cX6_told 159 = .ok (.getfield 25, 3) := by decide +kernel
theorem dX6_told_162 : decode cX6_told 162 = .ok (.iload_n 1, 1) := by decide +kernel
theorem dX6_told_163 : decode cX6_told 163 = .ok (.invokevirtual 154, 3) := by decide +kernel
theorem dX6_told_166 : decode cX6_told 166 = .ok (.ifCond .eq 15, 3) := by decide +kernel
theorem dX6_told_169 : decode cX6_told 169 = .ok (.aload_n 0, 1) := by decide +kernel
theorem dX6_told_170 : decode cX6_told 170 = .ok (.getfield 25, 3) := by decide +kernel
theorem dX6_told_173 : decode cX6_told 173 = .ok (.getfield 157, 3) := by decide +kernel
theorem dX6_told_176 : decode cX6_told 176 = .ok (.iload_n 1, 1) := by decide +kernel
theorem dX6_told_177 : decode cX6_told 177 = .ok (.iaload, 1) := by decide +kernel
theorem dX6_told_178 : decode cX6_told 178 = .ok (.goto 6, 3) := by decide +kernel
theorem dX6_told_181 : decode cX6_told 181 = .ok (.sipush (-6000), 3) := by decide +kernel
theorem dX6_told_184 : decode cX6_told 184 = .ok (.ireturn, 1) := by decide +kernel
theorem dX6_told_185 : decode cX6_told 185 = .ok (.aload_n 0, 1) := by decide +kernel
theorem dX6_told_186 : decode cX6_told 186 = .ok (.getfield 25, 3) := by decide +kernel
theorem dX6_told_189 : decode cX6_told 189 = .ok (.iload_n 1, 1) := by decide +kernel
theorem dX6_told_190 : decode cX6_told 190 = .ok (.invokevirtual 154, 3) := by decide +kernel
theorem dX6_told_193 : decode cX6_told 193 = .ok (.ifCond .eq 15, 3) := by decide +kernel
theorem dX6_told_196 : decode cX6_told 196 = .ok (.aload_n 0, 1) := by decide +kernel
theorem dX6_told_197 : decode cX6_told 197 = .ok (.getfield 25, 3) := by decide +kernel
theorem dX6_told_200 : decode cX6_told 200 = .ok (.getfield 160, 3) := by decide +kernel
theorem dX6_told_203 : decode cX6_told 203 = .ok (.iload_n 1, 1) := by decide +kernel
theorem dX6_told_204 : decode cX6_told 204 = .ok (.iaload, 1) := by decide +kernel
theorem dX6_told_205 : decode cX6_told 205 = .ok (.goto 6, 3) := by decide +kernel
theorem dX6_told_208 : decode cX6_told 208 = .ok (.sipush (-6000), 3) := by decide +kernel
theorem dX6_told_211 : decode cX6_told 211 = .ok (.ireturn, 1) := by decide +kernel
theorem dX6_told_212 : decode cX6_told 212 = .ok (.sipush (-7000), 3) := by decide +kernel
theorem dX6_told_215 : decode cX6_told 215 = .ok (.ireturn, 1) := by decide +kernel
set_option maxRecDepth 20000 in
theorem ggX6_table_X6_serve : GoodIn wsX6_table wsX6_serve := goodIn_q _ [8, 12, 18, 23, 31, 35, 43, 48, 54, 59, 63, 68, 73, 75, 78, 81, 84, 86, 89] [2, 9, 10, 11, 7, 13, 14, 15, 16, 17, 19, 20, 21, 22, 24, 25, 26, 27, 28, 29, 30, 32, 33, 34, 36, 37, 38, 39, 40, 41, 42, 44, 45, 46, 47, 49, 50, 51, 52, 53, 55, 56, 57, 58, 60, 61, 62, 64, 65, 66, 67, 69, 70, 71, 72, 74, 76, 77, 79, 80, 82, 83, 85, 87, 88, 110, 111, 112, 113, 114, 115, 116, 117, 118, 119, 120, 121, 133, 134, 135, 136, 137, 138, 139, 140, 141, 122, 123, 124, 125, 126, 127, 128, 129, 130, 131, 132, 142, 143] rfl (by decide +kernel) (by decide +kernel)
set_option maxRecDepth 20000 in
theorem gX6_table_X6_serve : GoodIn wsX6_table (wsV RX6 141 RX6 yX6_serve wsX6_serve) := goodIn_app (goodIn_of _ (by decide +kernel)) ggX6_table_X6_serve
set_option maxRecDepth 20000 in
theorem ggX6_table_X2_last : GoodIn wsX6_table wsX2_last := goodIn_q _ [93] [24, 27, 122, 123, 124, 125, 126, 127, 128, 129, 130, 131, 132] rfl (by decide +kernel) (by decide +kernel)
set_option maxRecDepth 20000 in
theorem gX6_table_X2_last : GoodIn wsX6_table (wsV RX6 163 RX2 yX2_last wsX2_last) := goodIn_app (goodIn_of _ (by decide +kernel)) ggX6_table_X2_last
set_option maxRecDepth 20000 in
theorem ggX6_table_X2_lastMinute : GoodIn wsX6_table wsX2_lastMinute := goodIn_q _ [97] [24, 36, 27, 122, 123, 124, 125, 126, 127, 128, 129, 130, 131, 132] rfl (by decide +kernel) (by decide +kernel)
set_option maxRecDepth 20000 in
theorem gX6_table_X2_lastMinute : GoodIn wsX6_table (wsV RX6 166 RX2 yX2_lastMinute wsX2_lastMinute) := goodIn_app (goodIn_of _ (by decide +kernel)) ggX6_table_X2_lastMinute
set_option maxRecDepth 20000 in
theorem ggX6_table_X2_neverBits : GoodIn wsX6_table wsX2_neverBits := goodIn_q _ [101, 105] [102, 103, 104, 22, 36, 122, 123, 124, 125, 126, 127, 128, 129, 130, 131, 132] rfl (by decide +kernel) (by decide +kernel)
set_option maxRecDepth 20000 in
theorem gX6_table_X2_neverBits : GoodIn wsX6_table (wsV RX6 172 RX2 yX2_neverBits wsX2_neverBits) := goodIn_app (goodIn_of _ (by decide +kernel)) ggX6_table_X2_neverBits
set_option maxRecDepth 20000 in
theorem ggX6_table_X2_mindsMost : GoodIn wsX6_table wsX2_mindsMost := goodIn_q _ [109, 105] [50, 102, 103, 104, 22, 36, 122, 123, 124, 125, 126, 127, 128, 129, 130, 131, 132] rfl (by decide +kernel) (by decide +kernel)
set_option maxRecDepth 20000 in
theorem gX6_table_X2_mindsMost : GoodIn wsX6_table (wsV RX6 176 RX2 yX2_mindsMost wsX2_mindsMost) := goodIn_app (goodIn_of _ (by decide +kernel)) ggX6_table_X2_mindsMost
theorem dX6_table_0 : decode cX6_table 0 = .ok (.aload_n 0, 1) := by decide +kernel
theorem dX6_table_1 : decode cX6_table 1 = .ok (.aload_n 0, 1) := by decide +kernel
theorem dX6_table_2 : decode cX6_table 2 = .ok (.getfield 10, 3) := by decide +kernel
theorem dX6_table_5 : decode cX6_table 5 = .ok (.invokevirtual 141, 3) := by decide +kernel
theorem dX6_table_8 : decode cX6_table 8 = .ok (.pop, 1) := by decide +kernel
theorem dX6_table_9 : decode cX6_table 9 = .ok (.iload_n 1, 1) := by decide +kernel
theorem dX6_table_10 : decode cX6_table 10 = .ok (.tableswitch 88 0 4 #[34, 42, 50, 58, 73], 34) := by decide +kernel
theorem dX6_table_44 : decode cX6_table 44 = .ok (.aload_n 0, 1) := by decide +kernel
theorem dX6_table_45 : decode cX6_table 45 = .ok (.getfield 25, 3) := by decide +kernel
theorem dX6_table_48 : decode cX6_table 48 = .ok (.invokevirtual 163, 3) := by decide +kernel
theorem dX6_table_51 : decode cX6_table 51 = .ok (.ireturn, 1) := by decide +kernel
theorem dX6_table_52 : decode cX6_table 52 = .ok (.aload_n 0, 1) := by decide +kernel
theorem dX6_table_53 : decode cX6_table 53 = .ok (.getfield 25, 3) := by decide +kernel
theorem dX6_table_56 : decode cX6_table 56 = .ok (.invokevirtual 166, 3) := by decide +kernel
theorem dX6_table_59 : decode cX6_table 59 = .ok (.ireturn, 1) := by decide +kernel
theorem dX6_table_60 : decode cX6_table 60 = .ok (.aload_n 0, 1) := by decide +kernel
theorem dX6_table_61 : decode cX6_table 61 = .ok (.getfield 25, 3) := by decide +kernel
theorem dX6_table_64 : decode cX6_table 64 = .ok (.getfield 169, 3) := by decide +kernel
theorem dX6_table_67 : decode cX6_table 67 = .ok (.ireturn, 1) := by decide +kernel
theorem dX6_table_68 : decode cX6_table 68 = .ok (.aload_n 0, 1) := by decide +kernel
theorem dX6_table_69 : decode cX6_table 69 = .ok (.getfield 25, 3) := by decide +kernel
theorem dX6_table_72 : decode cX6_table 72 = .ok (.aload_n 0, 1) := by decide +kernel
theorem dX6_table_73 : decode cX6_table 73 = .ok (.getfield 10, 3) := by decide +kernel
theorem dX6_table_76 : decode cX6_table 76 = .ok (.getfield 71, 3) := by decide +kernel
theorem dX6_table_79 : decode cX6_table 79 = .ok (.invokevirtual 172, 3) := by decide +kernel
theorem dX6_table_82 : decode cX6_table 82 = .ok (.ireturn, 1) := by decide +kernel
theorem dX6_table_83 : decode cX6_table 83 = .ok (.aload_n 0, 1) := by decide +kernel
theorem dX6_table_84 : decode cX6_table 84 = .ok (.getfield 25, 3) := by decide +kernel
theorem dX6_table_87 : decode cX6_table 87 = .ok (.aload_n 0, 1) := by decide +kernel
theorem dX6_table_88 : decode cX6_table 88 = .ok (.getfield 10, 3) := by decide +kernel
theorem dX6_table_91 : decode cX6_table 91 = .ok (.getfield 71, 3) := by decide +kernel
theorem dX6_table_94 : decode cX6_table 94 = .ok (.invokevirtual 176, 3) := by decide +kernel
theorem dX6_table_97 : decode cX6_table 97 = .ok (.ireturn, 1) := by decide +kernel
theorem dX6_table_98 : decode cX6_table 98 = .ok (.ldc 179, 2) := by decide +kernel
theorem dX6_table_100 : decode cX6_table 100 = .ok (.ireturn, 1) := by decide +kernel
set_option maxRecDepth 20000 in
theorem ggX6_sup_X6_serve : GoodIn wsX6_sup wsX6_serve := goodIn_q _ [8, 12, 18, 23, 31, 35, 43, 48, 54, 59, 63, 68, 73, 75, 78, 81, 84, 86, 89] [3, 9, 10, 11, 7, 13, 14, 15, 16, 17, 19, 20, 21, 22, 24, 25, 26, 27, 28, 29, 30, 32, 33, 34, 36, 37, 38, 39, 40, 41, 42, 44, 45, 46, 47, 49, 50, 51, 52, 53, 55, 56, 57, 58, 60, 61, 62, 64, 65, 66, 67, 69, 70, 71, 72, 74, 76, 77, 79, 80, 82, 83, 85, 87, 88, 107, 108, 109, 110, 111, 112, 113, 114, 115, 116, 117, 118, 119, 120, 121, 122, 123, 124, 125, 126, 127, 128, 129, 130, 131, 132, 133, 134, 135, 136, 137, 138, 139, 140] rfl (by decide +kernel) (by decide +kernel)
set_option maxRecDepth 20000 in
theorem gX6_sup_X6_serve : GoodIn wsX6_sup (wsV RX6 141 RX6 yX6_serve wsX6_serve) := goodIn_app (goodIn_of _ (by decide +kernel)) ggX6_sup_X6_serve
set_option maxRecDepth 20000 in
theorem ggX6_sup_X1_rise : GoodIn wsX6_sup wsX1_rise := goodIn_q _ [93, 63, 31, 102, 106] [94, 95, 96, 62, 30, 97, 29, 98, 99, 100, 101, 22, 50, 103, 104, 105, 36, 119, 120, 121, 122, 123, 124, 125, 126, 127, 128, 129, 130, 131, 132, 133, 134, 135, 136, 137, 138] rfl (by decide +kernel) (by decide +kernel)
set_option maxRecDepth 20000 in
theorem gX6_sup_X1_rise : GoodIn wsX6_sup (wsV RX6 180 RX1 yX1_rise wsX1_rise) := goodIn_app (goodIn_of _ (by decide +kernel)) ggX6_sup_X1_rise
theorem dX6_sup_0 : decode cX6_sup 0 = .ok (.aload_n 0, 1) := by decide +kernel
theorem dX6_sup_1 : decode cX6_sup 1 = .ok (.getfield 10, 3) := by decide +kernel
theorem dX6_sup_4 : decode cX6_sup 4 = .ok (.getfield 74, 3) := by decide +kernel
theorem dX6_sup_7 : decode cX6_sup 7 = .ok (.sipush 999, 3) := by decide +kernel
theorem dX6_sup_10 : decode cX6_sup 10 = .ok (.if_icmp .lt 6, 3) := by decide +kernel
theorem dX6_sup_13 : decode cX6_sup 13 = .ok (.ldc 179, 2) := by decide +kernel
theorem dX6_sup_15 : decode cX6_sup 15 = .ok (.ireturn, 1) := by decide +kernel
theorem dX6_sup_16 : decode cX6_sup 16 = .ok (.aload_n 0, 1) := by decide +kernel
theorem dX6_sup_17 : decode cX6_sup 17 = .ok (.aload_n 0, 1) := by decide +kernel
theorem dX6_sup_18 : decode cX6_sup 18 = .ok (.getfield 10, 3) := by decide +kernel
theorem dX6_sup_21 : decode cX6_sup 21 = .ok (.invokevirtual 141, 3) := by decide +kernel
theorem dX6_sup_24 : decode cX6_sup 24 = .ok (.istore_n 1, 1) := by decide +kernel
theorem dX6_sup_25 : decode cX6_sup 25 = .ok (.aload_n 0, 1) := by decide +kernel
theorem dX6_sup_26 : decode cX6_sup 26 = .ok (.getfield 10, 3) := by decide +kernel
theorem dX6_sup_29 : decode cX6_sup 29 = .ok (.aload_n 0, 1) := by decide +kernel
theorem dX6_sup_30 : decode cX6_sup 30 = .ok (.getfield 25, 3) := by decide +kernel
theorem dX6_sup_33 : decode cX6_sup 33 = .ok (.invokevirtual 180, 3) := by decide +kernel
theorem dX6_sup_36 : decode cX6_sup 36 = .ok (.iload_n 1, 1) := by decide +kernel
theorem dX6_sup_37 : decode cX6_sup 37 = .ok (.ireturn, 1) := by decide +kernel
set_option maxRecDepth 20000 in
theorem ggX6_run_X6_isThere : GoodIn wsX6_run wsX6_isThere := goodIn_q _ [9, 12] [3, 10, 11, 8, 122, 123, 124, 125, 126, 127, 128, 129, 130, 131, 132, 133, 134, 135, 136, 137, 138, 139, 140, 141, 142] rfl (by decide +kernel) (by decide +kernel)
set_option maxRecDepth 20000 in
theorem gX6_run_X6_isThere : GoodIn wsX6_run (wsV RX6 106 RX6 yX6_isThere wsX6_isThere) := goodIn_app (goodIn_of _ (by decide +kernel)) ggX6_run_X6_isThere
set_option maxRecDepth 20000 in
theorem ggX6_run_X6_isWithin : GoodIn wsX6_run wsX6_isWithin := goodIn_q _ [12] [] rfl (by decide +kernel) (by decide +kernel)
set_option maxRecDepth 20000 in
theorem gX6_run_X6_isWithin : GoodIn wsX6_run (va_wsS RX6 86 yX6_isWithin wsX6_isWithin) := goodIn_app (goodIn_of _ (by decide +kernel)) ggX6_run_X6_isWithin
set_option maxRecDepth 20000 in
theorem ggX6_run_X1_takeFrom : GoodIn wsX6_run wsX1_takeFrom := goodIn_q _ [17] [18, 19, 20, 21, 22, 23, 24, 25, 26, 134, 135, 136, 137, 138, 139, 140, 141, 142] rfl (by decide +kernel) (by decide +kernel)
set_option maxRecDepth 20000 in
theorem gX6_run_X1_takeFrom : GoodIn wsX6_run (wsV RX6 184 RX1 yX1_takeFrom wsX1_takeFrom) := goodIn_app (goodIn_of _ (by decide +kernel)) ggX6_run_X1_takeFrom
set_option maxRecDepth 20000 in
theorem ggX6_run_X6_serve : GoodIn wsX6_run wsX6_serve := goodIn_q _ [30, 34, 12, 42, 50, 54, 61, 65, 71, 76, 80, 85, 90, 92, 95, 98, 101, 103, 106] [4, 31, 32, 33, 8, 35, 36, 37, 10, 11, 38, 39, 40, 41, 43, 44, 45, 46, 47, 48, 49, 51, 52, 53, 55, 56, 57, 58, 59, 60, 16, 25, 62, 63, 64, 66, 67, 68, 69, 70, 72, 73, 74, 75, 77, 78, 79, 81, 82, 83, 84, 86, 87, 88, 89, 91, 93, 94, 96, 97, 99, 100, 102, 104, 105, 122, 123, 124, 125, 126, 127, 128, 129, 130, 131, 132, 133, 134, 135, 136, 137, 138, 139, 140, 141, 142, 143, 144, 145, 146, 147, 148, 149, 150, 151, 152, 153, 154, 155] rfl (by decide +kernel) (by decide +kernel)
set_option maxRecDepth 20000 in
theorem gX6_run_X6_serve : GoodIn wsX6_run (wsV RX6 141 RX6 yX6_serve wsX6_serve) := goodIn_app (goodIn_of _ (by decide +kernel)) ggX6_run_X6_serve
set_option maxRecDepth 20000 in
theorem ggX6_run_X2_costs : GoodIn wsX6_run wsX2_costs := goodIn_q _ [110, 114] [67, 111, 112, 113, 41, 55, 143, 144, 145, 146, 147, 148, 149, 150, 151, 152, 153] rfl (by decide +kernel) (by decide +kernel)
set_option maxRecDepth 20000 in
theorem gX6_run_X2_costs : GoodIn wsX6_run (wsV RX6 188 RX2 yX2_costs wsX2_costs) := goodIn_app (goodIn_of _ (by decide +kernel)) ggX6_run_X2_costs
set_option maxRecDepth 20000 in
theorem ggX6_run_X1_rise : GoodIn wsX6_run wsX1_rise := goodIn_q _ [118, 80, 50, 110, 114] [18, 26, 119, 79, 49, 120, 48, 19, 121, 108, 109, 41, 67, 111, 112, 113, 55, 134, 135, 136, 137, 138, 139, 140, 141, 142, 143, 144, 145, 146, 147, 148, 149, 150, 151, 152, 153] rfl (by decide +kernel) (by decide +kernel)
set_option maxRecDepth 20000 in
theorem gX6_run_X1_rise : GoodIn wsX6_run (wsV RX6 180 RX1 yX1_rise wsX1_rise) := goodIn_app (goodIn_of _ (by decide +kernel)) ggX6_run_X1_rise
theorem dX6_run_0 : decode cX6_run 0 = .ok (.aload_n 0, 1) := by decide +kernel
theorem dX6_run_1 : decode cX6_run 1 = .ok (.iload_n 1, 1) := by decide +kernel
theorem dX6_run_2 : decode cX6_run 2 = .ok (.invokevirtual 106, 3) := by decide +kernel
theorem dX6_run_5 : decode cX6_run 5 = .ok (.ifCond .eq 22, 3) := by decide +kernel
theorem dX6_run_8 : decode cX6_run 8 = .ok (.iload_n 2, 1) := by decide +kernel
theorem dX6_run_9 : decode cX6_run 9 = .ok (.iconst 0, 1) := by decide +kernel
theorem dX6_run_10 : decode cX6_run 10 = .ok (.bipush 20, 2) := by decide +kernel
theorem dX6_run_12 : decode cX6_run 12 = .ok (.invokestatic 86, 3) := by decide +kernel
theorem dX6_run_15 : decode cX6_run 15 = .ok (.ifCond .eq 12, 3) := by decide +kernel
theorem dX6_run_18 : decode cX6_run 18 = .ok (.iload_n 3, 1) := by decide +kernel
theorem dX6_run_19 : decode cX6_run 19 = .ok (.iconst 0, 1) := by decide +kernel
theorem dX6_run_20 : decode cX6_run 20 = .ok (.iconst 2, 1) := by decide +kernel
theorem dX6_run_21 : decode cX6_run 21 = .ok (.invokestatic 86, 3) := by decide +kernel
theorem dX6_run_24 : decode cX6_run 24 = .ok (.ifCond .ne 6, 3) := by decide +kernel
theorem dX6_run_27 : decode cX6_run 27 = .ok (.ldc 179, 2) := by decide +kernel
theorem dX6_run_29 : decode cX6_run 29 = .ok (.ireturn, 1) := by decide +kernel
theorem dX6_run_30 : decode cX6_run 30 = .ok (.aload_n 0, 1) := by decide +kernel
theorem dX6_run_31 : decode cX6_run 31 = .ok (.getfield 16, 3) := by decide +kernel
theorem dX6_run_34 : decode cX6_run 34 = .ok (.aload_n 0, 1) := by decide +kernel
theorem dX6_run_35 : decode cX6_run 35 = .ok (.getfield 10, 3) := by decide +kernel
theorem dX6_run_38 : decode cX6_run 38 = .ok (.invokevirtual 184, 3) := by decide +kernel
theorem dX6_run_41 : decode cX6_run 41 = .ok (.iconst 0, 1) := by decide +kernel
theorem dX6_run_42 : decode cX6_run 42 = .ok (.istore 4, 2) := by decide +kernel
theorem dX6_run_44 : decode cX6_run 44 = .ok (.iconst 0, 1) := by decide +kernel
theorem dX6_run_45 : decode cX6_run 45 = .ok (.istore 5, 2) := by decide +kernel
theorem dX6_run_47 : decode cX6_run 47 = .ok (.iconst 0, 1) := by decide +kernel
theorem dX6_run_48 : decode cX6_run 48 = .ok (.istore 6, 2) := by decide +kernel
theorem dX6_run_50 : decode cX6_run 50 = .ok (.iload 6, 2) := by decide +kernel
theorem dX6_run_52 : decode cX6_run 52 = .ok (.iload_n 2, 1) := by decide +kernel
theorem dX6_run_53 : decode cX6_run 53 = .ok (.if_icmp .ge 46, 3) := by decide +kernel
theorem dX6_run_56 : decode cX6_run 56 = .ok (.iload 5, 2) := by decide +kernel
theorem dX6_run_58 : decode cX6_run 58 = .ok (.aload_n 0, 1) := by decide +kernel
theorem dX6_run_59 : decode cX6_run 59 = .ok (.aload_n 0, 1) := by decide +kernel
theorem dX6_run_60 : decode cX6_run 60 = .ok (.getfield 16, 3) := by decide +kernel
theorem dX6_run_63 : decode cX6_run 63 = .ok (.invokevirtual 141, 3) := by decide +kernel
theorem dX6_run_66 : decode cX6_run 66 = .ok (.iadd, 1) := by decide +kernel
theorem dX6_run_67 : decode cX6_run 67 = .ok (.istore 5, 2) := by decide +kernel
theorem dX6_run_69 : decode cX6_run 69 = .ok (.iload 4, 2) := by decide +kernel
theorem dX6_run_71 : decode cX6_run 71 = .ok (.aload_n 0, 1) := by decide +kernel
theorem dX6_run_72 : decode cX6_run 72 = .ok (.getfield 25, 3) := by decide +kernel
theorem dX6_run_75 : decode cX6_run 75 = .ok (.iload_n 1, 1) := by decide +kernel
theorem dX6_run_76 : decode cX6_run 76 = .ok (.invokevirtual 188, 3) := by decide +kernel
theorem dX6_run_79 : decode cX6_run 79 = .ok (.iadd, 1) := by decide +kernel
theorem dX6_run_80 : decode cX6_run 80 = .ok (.istore 4, 2) := by decide +kernel
theorem dX6_run_82 : decode cX6_run 82 = .ok (.aload_n 0, 1) := by decide +kernel
theorem dX6_run_83 : decode cX6_run 83 = .ok (.getfield 16, 3) := by decide +kernel
theorem dX6_run_86 : decode cX6_run 86 = .ok (.aload_n 0, 1) := by decide +kernel
theorem dX6_run_87 : decode cX6_run 87 = .ok (.getfield 25, 3) := by decide +kernel
theorem dX6_run_90 : decode cX6_run 90 = .ok (.invokevirtual 180, 3) := by decide +kernel
theorem dX6_run_93 : decode cX6_run 93 = .ok (.iinc 6 1, 3) := by decide +kernel
theorem dX6_run_96 : decode cX6_run 96 = .ok (.goto (-46), 3) := by decide +kernel
theorem dX6_run_99 : decode cX6_run 99 = .ok (.iload_n 3, 1) := by decide +kernel
theorem dX6_run_100 : decode cX6_run 100 = .ok (.lookupswitch 41 #[(0, 28), (1, 38)], 28) := by decide +kernel
theorem dX6_run_128 : decode cX6_run 128 = .ok (.aload_n 0, 1) := by decide +kernel
theorem dX6_run_129 : decode cX6_run 129 = .ok (.getfield 16, 3) := by decide +kernel
theorem dX6_run_132 : decode cX6_run 132 = .ok (.getfield 132, 3) := by decide +kernel
theorem dX6_run_135 : decode cX6_run 135 = .ok (.iload_n 1, 1) := by decide +kernel
theorem dX6_run_136 : decode cX6_run 136 = .ok (.iaload, 1) := by decide +kernel
theorem dX6_run_137 : decode cX6_run 137 = .ok (.ireturn, 1) := by decide +kernel
theorem dX6_run_138 : decode cX6_run 138 = .ok (.iload 4, 2) := by decide +kernel
theorem dX6_run_140 : decode cX6_run 140 = .ok (.ireturn, 1) := by decide +kernel
theorem dX6_run_141 : decode cX6_run 141 = .ok (.iload 5, 2) := by decide +kernel
theorem dX6_run_143 : decode cX6_run 143 = .ok (.ireturn, 1) := by decide +kernel
set_option maxRecDepth 20000 in
theorem ggX6_cook_X6_isWithin : GoodIn wsX6_cook wsX6_isWithin := goodIn_q _ [9] [] rfl (by decide +kernel) (by decide +kernel)
set_option maxRecDepth 20000 in
theorem gX6_cook_X6_isWithin : GoodIn wsX6_cook (va_wsS RX6 86 yX6_isWithin wsX6_isWithin) := goodIn_app (goodIn_of _ (by decide +kernel)) ggX6_cook_X6_isWithin
set_option maxRecDepth 20000 in
theorem ggX6_cook_X1_takeFrom : GoodIn wsX6_cook wsX1_takeFrom := goodIn_q _ [14] [15, 16, 17, 18, 19, 20, 21, 22, 23, 133, 134, 135, 136, 137, 138, 139, 140, 141] rfl (by decide +kernel) (by decide +kernel)
set_option maxRecDepth 20000 in
theorem gX6_cook_X1_takeFrom : GoodIn wsX6_cook (wsV RX6 184 RX1 yX1_takeFrom wsX1_takeFrom) := goodIn_app (goodIn_of _ (by decide +kernel)) ggX6_cook_X1_takeFrom
set_option maxRecDepth 20000 in
theorem ggX6_cook_X0_begin : GoodIn wsX6_cook wsX0_begin := goodIn_q _ [28] [29, 30, 142, 143] rfl (by decide +kernel) (by decide +kernel)
set_option maxRecDepth 20000 in
theorem gX6_cook_X0_begin : GoodIn wsX6_cook (wsV RX6 192 RX0 yX0_begin wsX0_begin) := goodIn_app (goodIn_of _ (by decide +kernel)) ggX6_cook_X0_begin
set_option maxRecDepth 20000 in
theorem ggX6_cook_X6_serve : GoodIn wsX6_cook wsX6_serve := goodIn_q _ [34, 39, 9, 47, 55, 59, 66, 70, 76, 81, 85, 90, 95, 97, 100, 103, 106, 108, 111] [35, 36, 37, 38, 8, 40, 41, 42, 6, 7, 43, 44, 45, 46, 48, 49, 50, 51, 52, 53, 54, 56, 57, 58, 60, 61, 62, 63, 64, 65, 13, 22, 67, 68, 69, 71, 72, 73, 74, 75, 77, 78, 79, 80, 82, 83, 84, 86, 87, 88, 89, 91, 92, 93, 94, 96, 98, 99, 101, 102, 104, 105, 107, 109, 110, 121, 122, 123, 124, 125, 126, 127, 128, 129, 130, 131, 132, 133, 134, 135, 136, 137, 138, 139, 140, 141, 144, 145, 146, 147, 148, 149, 150, 151, 152, 153, 154, 155, 156] rfl (by decide +kernel) (by decide +kernel)
set_option maxRecDepth 20000 in
theorem gX6_cook_X6_serve : GoodIn wsX6_cook (wsV RX6 141 RX6 yX6_serve wsX6_serve) := goodIn_app (goodIn_of _ (by decide +kernel)) ggX6_cook_X6_serve
set_option maxRecDepth 20000 in
theorem ggX6_cook_X0_weigh : GoodIn wsX6_cook wsX0_weigh := goodIn_q _ [115, 28] [30, 116, 25, 26, 27, 29, 142, 143] rfl (by decide +kernel) (by decide +kernel)
set_option maxRecDepth 20000 in
theorem gX6_cook_X0_weigh : GoodIn wsX6_cook (wsV RX6 196 RX0 yX0_weigh wsX0_weigh) := goodIn_app (goodIn_of _ (by decide +kernel)) ggX6_cook_X0_weigh
set_option maxRecDepth 20000 in
theorem ggX6_cook_X0_answer : GoodIn wsX6_cook wsX0_answer := goodIn_q _ [120] [29, 30, 142, 143] rfl (by decide +kernel) (by decide +kernel)
set_option maxRecDepth 20000 in
theorem gX6_cook_X0_answer : GoodIn wsX6_cook (wsV RX6 199 RX0 yX0_answer wsX0_answer) := goodIn_app (goodIn_of _ (by decide +kernel)) ggX6_cook_X0_answer
theorem dX6_cook_0 : decode cX6_cook 0 = .ok (.iload_n 1, 1) := by decide +kernel
theorem dX6_cook_1 : decode cX6_cook 1 = .ok (.iconst 0, 1) := by decide +kernel
theorem dX6_cook_2 : decode cX6_cook 2 = .ok (.iconst 1, 1) := by decide +kernel
theorem dX6_cook_3 : decode cX6_cook 3 = .ok (.invokestatic 86, 3) := by decide +kernel
theorem dX6_cook_6 : decode cX6_cook 6 = .ok (.ifCond .ne 6, 3) := by decide +kernel
theorem dX6_cook_9 : decode cX6_cook 9 = .ok (.ldc 179, 2) := by decide +kernel
theorem dX6_cook_11 : decode cX6_cook 11 = .ok (.ireturn, 1) := by decide +kernel
theorem dX6_cook_12 : decode cX6_cook 12 = .ok (.aload_n 0, 1) := by decide +kernel
theorem dX6_cook_13 : decode cX6_cook 13 = .ok (.getfield 16, 3) := by decide +kernel
theorem dX6_cook_16 : decode cX6_cook 16 = .ok (.aload_n 0, 1) := by decide +kernel
theorem dX6_cook_17 : decode cX6_cook 17 = .ok (.getfield 10, 3) := by decide +kernel
theorem dX6_cook_20 : decode cX6_cook 20 = .ok (.invokevirtual 184, 3) := by decide +kernel
theorem dX6_cook_23 : decode cX6_cook 23 = .ok (.aload_n 0, 1) := by decide +kernel
theorem dX6_cook_24 : decode cX6_cook 24 = .ok (.getfield 32, 3) := by decide +kernel
theorem dX6_cook_27 : decode cX6_cook 27 = .ok (.iconst 0, 1) := by decide +kernel
theorem dX6_cook_28 : decode cX6_cook 28 = .ok (.ldc 191, 2) := by decide +kernel
theorem dX6_cook_30 : decode cX6_cook 30 = .ok (.invokevirtual 192, 3) := by decide +kernel
theorem dX6_cook_33 : decode cX6_cook 33 = .ok (.iconst 0, 1) := by decide +kernel
theorem dX6_cook_34 : decode cX6_cook 34 = .ok (.istore_n 2, 1) := by decide +kernel
theorem dX6_cook_35 : decode cX6_cook 35 = .ok (.iload_n 2, 1) := by decide +kernel
theorem dX6_cook_36 : decode cX6_cook 36 = .ok (.bipush 99, 2) := by decide +kernel
theorem dX6_cook_38 : decode cX6_cook 38 = .ok (.if_icmp .gt 33, 3) := by decide +kernel
theorem dX6_cook_41 : decode cX6_cook 41 = .ok (.aload_n 0, 1) := by decide +kernel
theorem dX6_cook_42 : decode cX6_cook 42 = .ok (.getfield 16, 3) := by decide +kernel
theorem dX6_cook_45 : decode cX6_cook 45 = .ok (.iload_n 2, 1) := by decide +kernel
theorem dX6_cook_46 : decode cX6_cook 46 = .ok (.putfield 77, 3) := by decide +kernel
theorem dX6_cook_49 : decode cX6_cook 49 = .ok (.aload_n 0, 1) := by decide +kernel
theorem dX6_cook_50 : decode cX6_cook 50 = .ok (.getfield 32, 3) := by decide +kernel
theorem dX6_cook_53 : decode cX6_cook 53 = .ok (.iload_n 2, 1) := by decide +kernel
theorem dX6_cook_54 : decode cX6_cook 54 = .ok (.aload_n 0, 1) := by decide +kernel
theorem dX6_cook_55 : decode cX6_cook 55 = .ok (.aload_n 0, 1) := by decide +kernel
theorem dX6_cook_56 : decode cX6_cook 56 = .ok (.getfield 16, 3) := by decide +kernel
theorem dX6_cook_59 : decode cX6_cook 59 = .ok (.invokevirtual 141, 3) := by decide +kernel
theorem dX6_cook_62 : decode cX6_cook 62 = .ok (.invokevirtual 196, 3) := by decide +kernel
theorem dX6_cook_65 : decode cX6_cook 65 = .ok (.iinc 2 1, 3) := by decide +kernel
theorem dX6_cook_68 : decode cX6_cook 68 = .ok (.goto (-33), 3) := by decide +kernel
theorem dX6_cook_71 : decode cX6_cook 71 = .ok (.aload_n 0, 1) := by decide +kernel
theorem dX6_cook_72 : decode cX6_cook 72 = .ok (.getfield 32, 3) := by decide +kernel
theorem dX6_cook_75 : decode cX6_cook 75 = .ok (.iload_n 1, 1) := by decide +kernel
theorem dX6_cook_76 : decode cX6_cook 76 = .ok (.invokevirtual 199, 3) := by decide +kernel
theorem dX6_cook_79 : decode cX6_cook 79 = .ok (.ireturn, 1) := by decide +kernel
set_option maxRecDepth 20000 in
theorem ggX6_raise_X6_isWithin : GoodIn wsX6_raise wsX6_isWithin := goodIn_q _ [8] [] rfl (by decide +kernel) (by decide +kernel)
set_option maxRecDepth 20000 in
theorem gX6_raise_X6_isWithin : GoodIn wsX6_raise (va_wsS RX6 86 yX6_isWithin wsX6_isWithin) := goodIn_app (goodIn_of _ (by decide +kernel)) ggX6_raise_X6_isWithin
set_option maxRecDepth 20000 in
theorem ggX6_raise_X1_takeFrom : GoodIn wsX6_raise wsX1_takeFrom := goodIn_q _ [13] [14, 15, 16, 17, 18, 19, 20, 21, 22, 136, 137, 138, 139, 140, 141, 142, 143, 144] rfl (by decide +kernel) (by decide +kernel)
set_option maxRecDepth 20000 in
theorem gX6_raise_X1_takeFrom : GoodIn wsX6_raise (wsV RX6 184 RX1 yX1_takeFrom wsX1_takeFrom) := goodIn_app (goodIn_of _ (by decide +kernel)) ggX6_raise_X1_takeFrom
set_option maxRecDepth 20000 in
theorem ggX6_raise_X6_serve : GoodIn wsX6_raise wsX6_serve := goodIn_q _ [26, 31, 8, 39, 47, 51, 58, 62, 68, 73, 77, 82, 87, 89, 92, 95, 98, 100, 103] [27, 28, 29, 30, 7, 32, 33, 34, 5, 6, 35, 36, 37, 38, 40, 41, 42, 43, 44, 45, 46, 48, 49, 50, 52, 53, 54, 55, 56, 57, 12, 21, 59, 60, 61, 63, 64, 65, 66, 67, 69, 70, 71, 72, 74, 75, 76, 78, 79, 80, 81, 83, 84, 85, 86, 88, 90, 91, 93, 94, 96, 97, 99, 101, 102, 124, 125, 126, 127, 128, 129, 130, 131, 132, 133, 134, 135, 136, 137, 138, 139, 140, 141, 142, 143, 144, 145, 146, 147, 148, 149, 150, 151, 152, 153, 154, 155, 156, 157] rfl (by decide +kernel) (by decide +kernel)
set_option maxRecDepth 20000 in
theorem gX6_raise_X6_serve : GoodIn wsX6_raise (wsV RX6 141 RX6 yX6_serve wsX6_serve) := goodIn_app (goodIn_of _ (by decide +kernel)) ggX6_raise_X6_serve
set_option maxRecDepth 20000 in
theorem ggX6_raise_X0_begin : GoodIn wsX6_raise wsX0_begin := goodIn_q _ [108] [109, 110, 158, 159] rfl (by decide +kernel) (by decide +kernel)
set_option maxRecDepth 20000 in
theorem gX6_raise_X0_begin : GoodIn wsX6_raise (wsV RX6 192 RX0 yX0_begin wsX0_begin) := goodIn_app (goodIn_of _ (by decide +kernel)) ggX6_raise_X0_begin
set_option maxRecDepth 20000 in
theorem ggX6_raise_X1_changeRanks : GoodIn wsX6_raise wsX1_changeRanks := goodIn_q _ [114] [21, 136, 137, 138, 139, 140, 141, 142, 143, 144] rfl (by decide +kernel) (by decide +kernel)
set_option maxRecDepth 20000 in
theorem gX6_raise_X1_changeRanks : GoodIn wsX6_raise (wsV RX6 202 RX1 yX1_changeRanks wsX1_changeRanks) := goodIn_app (goodIn_of _ (by decide +kernel)) ggX6_raise_X1_changeRanks
set_option maxRecDepth 20000 in
theorem ggX6_raise_X0_weigh : GoodIn wsX6_raise wsX0_weigh := goodIn_q _ [118, 108] [110, 119, 105, 106, 107, 109, 158, 159] rfl (by decide +kernel) (by decide +kernel)
set_option maxRecDepth 20000 in
theorem gX6_raise_X0_weigh : GoodIn wsX6_raise (wsV RX6 196 RX0 yX0_weigh wsX0_weigh) := goodIn_app (goodIn_of _ (by decide +kernel)) ggX6_raise_X0_weigh
set_option maxRecDepth 20000 in
theorem ggX6_raise_X0_answer : GoodIn wsX6_raise wsX0_answer := goodIn_q _ [123] [109, 110, 158, 159] rfl (by decide +kernel) (by decide +kernel)
set_option maxRecDepth 20000 in
theorem gX6_raise_X0_answer : GoodIn wsX6_raise (wsV RX6 199 RX0 yX0_answer wsX0_answer) := goodIn_app (goodIn_of _ (by decide +kernel)) ggX6_raise_X0_answer
theorem dX6_raise_0 : decode cX6_raise 0 = .ok (.iload_n 1, 1) := by decide +kernel
theorem dX6_raise_1 : decode cX6_raise 1 = .ok (.iconst 0, 1) := by decide +kernel
theorem dX6_raise_2 : decode cX6_raise 2 = .ok (.iconst 1, 1) := by decide +kernel
theorem dX6_raise_3 : decode cX6_raise 3 = .ok (.invokestatic 86, 3) := by decide +kernel
theorem dX6_raise_6 : decode cX6_raise 6 = .ok (.ifCond .ne 6, 3) := by decide +kernel
theorem dX6_raise_9 : decode cX6_raise 9 = .ok (.ldc 179, 2) := by decide +kernel
theorem dX6_raise_11 : decode cX6_raise 11 = .ok (.ireturn, 1) := by decide +kernel
theorem dX6_raise_12 : decode cX6_raise 12 = .ok (.aload_n 0, 1) := by decide +kernel
theorem dX6_raise_13 : decode cX6_raise 13 = .ok (.getfield 16, 3) := by decide +kernel
theorem dX6_raise_16 : decode cX6_raise 16 = .ok (.aload_n 0, 1) := by decide +kernel
theorem dX6_raise_17 : decode cX6_raise 17 = .ok (.getfield 10, 3) := by decide +kernel
theorem dX6_raise_20 : decode cX6_raise 20 = .ok (.invokevirtual 184, 3) := by decide +kernel
theorem dX6_raise_23 : decode cX6_raise 23 = .ok (.aload_n 0, 1) := by decide +kernel
theorem dX6_raise_24 : decode cX6_raise 24 = .ok (.getfield 32, 3) := by decide +kernel
theorem dX6_raise_27 : decode cX6_raise 27 = .ok (.iconst (-1), 1) := by decide +kernel
theorem dX6_raise_28 : decode cX6_raise 28 = .ok (.aload_n 0, 1) := by decide +kernel
theorem dX6_raise_29 : decode cX6_raise 29 = .ok (.aload_n 0, 1) := by decide +kernel
theorem dX6_raise_30 : decode cX6_raise 30 = .ok (.getfield 10, 3) := by decide +kernel
theorem dX6_raise_33 : decode cX6_raise 33 = .ok (.invokevirtual 141, 3) := by decide +kernel
theorem dX6_raise_36 : decode cX6_raise 36 = .ok (.invokevirtual 192, 3) := by decide +kernel
theorem dX6_raise_39 : decode cX6_raise 39 = .ok (.iconst 0, 1) := by decide +kernel
theorem dX6_raise_40 : decode cX6_raise 40 = .ok (.istore_n 2, 1) := by decide +kernel
theorem dX6_raise_41 : decode cX6_raise 41 = .ok (.iload_n 2, 1) := by decide +kernel
theorem dX6_raise_42 : decode cX6_raise 42 = .ok (.aload_n 0, 1) := by decide +kernel
theorem dX6_raise_43 : decode cX6_raise 43 = .ok (.getfield 10, 3) := by decide +kernel
theorem dX6_raise_46 : decode cX6_raise 46 = .ok (.getfield 71, 3) := by decide +kernel
theorem dX6_raise_49 : decode cX6_raise 49 = .ok (.if_icmp .ge 69, 3) := by decide +kernel
theorem dX6_raise_52 : decode cX6_raise 52 = .ok (.iload_n 2, 1) := by decide +kernel
theorem dX6_raise_53 : decode cX6_raise 53 = .ok (.iconst 1, 1) := by decide +kernel
theorem dX6_raise_54 : decode cX6_raise 54 = .ok (.iadd, 1) := by decide +kernel
theorem dX6_raise_55 : decode cX6_raise 55 = .ok (.istore_n 3, 1) := by decide +kernel
theorem dX6_raise_56 : decode cX6_raise 56 = .ok (.iload_n 3, 1) := by decide +kernel
theorem dX6_raise_57 : decode cX6_raise 57 = .ok (.aload_n 0, 1) := by decide +kernel
theorem dX6_raise_58 : decode cX6_raise 58 = .ok (.getfield 10, 3) := by decide +kernel
theorem dX6_raise_61 : decode cX6_raise 61 = .ok (.getfield 71, 3) := by decide +kernel
theorem dX6_raise_64 : decode cX6_raise 64 = .ok (.if_icmp .ge 48, 3) := by decide +kernel
theorem dX6_raise_67 : decode cX6_raise 67 = .ok (.aload_n 0, 1) := by decide +kernel
theorem dX6_raise_68 : decode cX6_raise 68 = .ok (.getfield 16, 3) := by decide +kernel
theorem dX6_raise_71 : decode cX6_raise 71 = .ok (.iload_n 2, 1) := by decide +kernel
theorem dX6_raise_72 : decode cX6_raise 72 = .ok (.iload_n 3, 1) := by decide +kernel
theorem dX6_raise_73 : decode cX6_raise 73 = .ok (.invokevirtual 202, 3) := by decide +kernel
theorem dX6_raise_76 : decode cX6_raise 76 = .ok (.aload_n 0, 1) := by decide +kernel
theorem dX6_raise_77 : decode cX6_raise 77 = .ok (.getfield 32, 3) := by decide +kernel
theorem dX6_raise_80 : decode cX6_raise 80 = .ok (.bipush 10, 2) := by decide +kernel
theorem dX6_raise_82 : decode cX6_raise 82 = .ok (.iload_n 2, 1) := by decide +kernel
theorem dX6_raise_83 : decode cX6_raise 83 = .ok (.imul, 1) := by decide +kernel
theorem dX6_raise_84 : decode cX6_raise 84 = .ok (.iload_n 3, 1) := by decide +kernel
theorem dX6_raise_85 : decode cX6_raise 85 = .ok (.iadd, 1) := by decide +kernel
theorem dX6_raise_86 : decode cX6_raise 86 = .ok (.aload_n 0, 1) := by decide +kernel
theorem dX6_raise_87 : decode cX6_raise 87 = .ok (.aload_n 0, 1) := by decide +kernel
theorem dX6_raise_88 : decode cX6_raise 88 = .ok (.getfield 16, 3) := by decide +kernel
theorem dX6_raise_91 : decode cX6_raise 91 = .ok (.invokevirtual 141, 3) := by decide +kernel
theorem dX6_raise_94 : decode cX6_raise 94 = .ok (.invokevirtual 196, 3) := by decide +kernel
theorem dX6_raise_97 : decode cX6_raise 97 = .ok (.aload_n 0, 1) := by decide +kernel
theorem dX6_raise_98 : decode cX6_raise 98 = .ok (.getfield 16, 3) := by decide +kernel
theorem dX6_raise_101 : decode cX6_raise 101 = .ok (.iload_n 2, 1) := by decide +kernel
theorem dX6_raise_102 : decode cX6_raise 102 = .ok (.iload_n 3, 1) := by decide +kernel
theorem dX6_raise_103 : decode cX6_raise 103 = .ok (.invokevirtual 202, 3) := by decide +kernel
theorem dX6_raise_106 : decode cX6_raise 106 = .ok (.iinc 3 1, 3) := by decide +kernel
theorem dX6_raise_109 : decode cX6_raise 109 = .ok (.goto (-53), 3) := by decide +kernel
theorem dX6_raise_112 : decode cX6_raise 112 = .ok (.iinc 2 1, 3) := by decide +kernel
theorem dX6_raise_115 : decode cX6_raise 115 = .ok (.goto (-74), 3) := by decide +kernel
theorem dX6_raise_118 : decode cX6_raise 118 = .ok (.aload_n 0, 1) := by decide +kernel
theorem dX6_raise_119 : decode cX6_raise 119 = .ok (.getfield 32, 3) := by decide +kernel
theorem dX6_raise_122 : decode cX6_raise 122 = .ok (.iload_n 1, 1) := by decide +kernel
theorem dX6_raise_123 : decode cX6_raise 123 = .ok (.invokevirtual 199, 3) := by decide +kernel
theorem dX6_raise_126 : decode cX6_raise 126 = .ok (.ireturn, 1) := by decide +kernel
set_option maxRecDepth 20000 in
theorem ggX6_exile_X6_isWithin : GoodIn wsX6_exile wsX6_isWithin := goodIn_q _ [8] [] rfl (by decide +kernel) (by decide +kernel)
set_option maxRecDepth 20000 in
theorem gX6_exile_X6_isWithin : GoodIn wsX6_exile (va_wsS RX6 86 yX6_isWithin wsX6_isWithin) := goodIn_app (goodIn_of _ (by decide +kernel)) ggX6_exile_X6_isWithin
set_option maxRecDepth 20000 in
theorem ggX6_exile_X1_takeFrom : GoodIn wsX6_exile wsX1_takeFrom := goodIn_q _ [13] [14, 15, 16, 17, 18, 19, 20, 21, 22, 132, 133, 134, 135, 136, 137, 138, 139, 140] rfl (by decide +kernel) (by decide +kernel)
set_option maxRecDepth 20000 in
theorem gX6_exile_X1_takeFrom : GoodIn wsX6_exile (wsV RX6 184 RX1 yX1_takeFrom wsX1_takeFrom) := goodIn_app (goodIn_of _ (by decide +kernel)) ggX6_exile_X1_takeFrom
set_option maxRecDepth 20000 in
theorem ggX6_exile_X6_serve : GoodIn wsX6_exile wsX6_serve := goodIn_q _ [26, 31, 8, 39, 47, 51, 58, 62, 68, 73, 77, 82, 87, 89, 92, 95, 98, 100, 103] [27, 28, 29, 30, 7, 32, 33, 34, 5, 6, 35, 36, 37, 38, 40, 41, 42, 43, 44, 45, 46, 48, 49, 50, 52, 53, 54, 55, 56, 57, 12, 21, 59, 60, 61, 63, 64, 65, 66, 67, 69, 70, 71, 72, 74, 75, 76, 78, 79, 80, 81, 83, 84, 85, 86, 88, 90, 91, 93, 94, 96, 97, 99, 101, 102, 120, 121, 122, 123, 124, 125, 126, 127, 128, 129, 130, 131, 132, 133, 134, 135, 136, 137, 138, 139, 140, 141, 142, 143, 144, 145, 146, 147, 148, 149, 150, 151, 152, 153] rfl (by decide +kernel) (by decide +kernel)
set_option maxRecDepth 20000 in
theorem gX6_exile_X6_serve : GoodIn wsX6_exile (wsV RX6 141 RX6 yX6_serve wsX6_serve) := goodIn_app (goodIn_of _ (by decide +kernel)) ggX6_exile_X6_serve
set_option maxRecDepth 20000 in
theorem ggX6_exile_X0_begin : GoodIn wsX6_exile wsX0_begin := goodIn_q _ [108] [109, 110, 154, 155] rfl (by decide +kernel) (by decide +kernel)
set_option maxRecDepth 20000 in
theorem gX6_exile_X0_begin : GoodIn wsX6_exile (wsV RX6 192 RX0 yX0_begin wsX0_begin) := goodIn_app (goodIn_of _ (by decide +kernel)) ggX6_exile_X0_begin
set_option maxRecDepth 20000 in
theorem ggX6_exile_X0_weigh : GoodIn wsX6_exile wsX0_weigh := goodIn_q _ [114, 108] [110, 115, 105, 106, 107, 109, 154, 155] rfl (by decide +kernel) (by decide +kernel)
set_option maxRecDepth 20000 in
theorem gX6_exile_X0_weigh : GoodIn wsX6_exile (wsV RX6 196 RX0 yX0_weigh wsX0_weigh) := goodIn_app (goodIn_of _ (by decide +kernel)) ggX6_exile_X0_weigh
set_option maxRecDepth 20000 in
theorem ggX6_exile_X0_answer : GoodIn wsX6_exile wsX0_answer := goodIn_q _ [119] [109, 110, 154, 155] rfl (by decide +kernel) (by decide +kernel)
set_option maxRecDepth 20000 in
theorem gX6_exile_X0_answer : GoodIn wsX6_exile (wsV RX6 199 RX0 yX0_answer wsX0_answer) := goodIn_app (goodIn_of _ (by decide +kernel)) ggX6_exile_X0_answer
theorem dX6_exile_0 : decode cX6_exile 0 = .ok (.iload_n 1, 1) := by decide +kernel
theorem dX6_exile_1 : decode cX6_exile 1 = .ok (.iconst 0, 1) := by decide +kernel
theorem dX6_exile_2 : decode cX6_exile 2 = .ok (.iconst 1, 1) := by decide +kernel
theorem dX6_exile_3 : decode cX6_exile 3 = .ok (.invokestatic 86, 3) := by decide +kernel
theorem dX6_exile_6 : decode cX6_exile 6 = .ok (.ifCond .ne 6, 3) := by decide +kernel
theorem dX6_exile_9 : decode cX6_exile 9 = .ok (.ldc 179, 2) := by decide +kernel
theorem dX6_exile_11 : decode cX6_exile 11 = .ok (.ireturn, 1) := by decide +kernel
theorem dX6_exile_12 : decode cX6_exile 12 = .ok (.aload_n 0, 1) := by decide +kernel
theorem dX6_exile_13 : decode cX6_exile 13 = .ok (.getfield 16, 3) := by decide +kernel
theorem dX6_exile_16 : decode cX6_exile 16 = .ok (.aload_n 0, 1) := by decide +kernel
theorem dX6_exile_17 : decode cX6_exile 17 = .ok (.getfield 10, 3) := by decide +kernel
theorem dX6_exile_20 : decode cX6_exile 20 = .ok (.invokevirtual 184, 3) := by decide +kernel
theorem dX6_exile_23 : decode cX6_exile 23 = .ok (.aload_n 0, 1) := by decide +kernel
theorem dX6_exile_24 : decode cX6_exile 24 = .ok (.getfield 32, 3) := by decide +kernel
theorem dX6_exile_27 : decode cX6_exile 27 = .ok (.iconst (-1), 1) := by decide +kernel
theorem dX6_exile_28 : decode cX6_exile 28 = .ok (.aload_n 0, 1) := by decide +kernel
theorem dX6_exile_29 : decode cX6_exile 29 = .ok (.aload_n 0, 1) := by decide +kernel
theorem dX6_exile_30 : decode cX6_exile 30 = .ok (.getfield 10, 3) := by decide +kernel
theorem dX6_exile_33 : decode cX6_exile 33 = .ok (.invokevirtual 141, 3) := by decide +kernel
theorem dX6_exile_36 : decode cX6_exile 36 = .ok (.invokevirtual 192, 3) := by decide +kernel
theorem dX6_exile_39 : decode cX6_exile 39 = .ok (.iconst 0, 1) := by decide +kernel
theorem dX6_exile_40 : decode cX6_exile 40 = .ok (.istore_n 2, 1) := by decide +kernel
theorem dX6_exile_41 : decode cX6_exile 41 = .ok (.iload_n 2, 1) := by decide +kernel
theorem dX6_exile_42 : decode cX6_exile 42 = .ok (.aload_n 0, 1) := by decide +kernel
theorem dX6_exile_43 : decode cX6_exile 43 = .ok (.getfield 10, 3) := by decide +kernel
theorem dX6_exile_46 : decode cX6_exile 46 = .ok (.getfield 71, 3) := by decide +kernel
theorem dX6_exile_49 : decode cX6_exile 49 = .ok (.if_icmp .ge 33, 3) := by decide +kernel
theorem dX6_exile_52 : decode cX6_exile 52 = .ok (.aload_n 0, 1) := by decide +kernel
theorem dX6_exile_53 : decode cX6_exile 53 = .ok (.getfield 16, 3) := by decide +kernel
theorem dX6_exile_56 : decode cX6_exile 56 = .ok (.iload_n 2, 1) := by decide +kernel
theorem dX6_exile_57 : decode cX6_exile 57 = .ok (.putfield 205, 3) := by decide +kernel
theorem dX6_exile_60 : decode cX6_exile 60 = .ok (.aload_n 0, 1) := by decide +kernel
theorem dX6_exile_61 : decode cX6_exile 61 = .ok (.getfield 32, 3) := by decide +kernel
theorem dX6_exile_64 : decode cX6_exile 64 = .ok (.iload_n 2, 1) := by decide +kernel
theorem dX6_exile_65 : decode cX6_exile 65 = .ok (.aload_n 0, 1) := by decide +kernel
theorem dX6_exile_66 : decode cX6_exile 66 = .ok (.aload_n 0, 1) := by decide +kernel
theorem dX6_exile_67 : decode cX6_exile 67 = .ok (.getfield 16, 3) := by decide +kernel
theorem dX6_exile_70 : decode cX6_exile 70 = .ok (.invokevirtual 141, 3) := by decide +kernel
theorem dX6_exile_73 : decode cX6_exile 73 = .ok (.invokevirtual 196, 3) := by decide +kernel
theorem dX6_exile_76 : decode cX6_exile 76 = .ok (.iinc 2 1, 3) := by decide +kernel
theorem dX6_exile_79 : decode cX6_exile 79 = .ok (.goto (-38), 3) := by decide +kernel
theorem dX6_exile_82 : decode cX6_exile 82 = .ok (.aload_n 0, 1) := by decide +kernel
theorem dX6_exile_83 : decode cX6_exile 83 = .ok (.getfield 32, 3) := by decide +kernel
theorem dX6_exile_86 : decode cX6_exile 86 = .ok (.iload_n 1, 1) := by decide +kernel
theorem dX6_exile_87 : decode cX6_exile 87 = .ok (.invokevirtual 199, 3) := by decide +kernel
theorem dX6_exile_90 : decode cX6_exile 90 = .ok (.ireturn, 1) := by decide +kernel
set_option maxRecDepth 20000 in
theorem ggX6_seat_X6_isThere : GoodIn wsX6_seat wsX6_isThere := goodIn_q _ [10, 13] [2, 11, 12, 9, 132, 133, 134, 135, 136, 137, 138, 139, 140, 141, 142, 143, 144, 145, 146, 147, 148, 149, 150, 151, 152] rfl (by decide +kernel) (by decide +kernel)
set_option maxRecDepth 20000 in
theorem gX6_seat_X6_isThere : GoodIn wsX6_seat (wsV RX6 106 RX6 yX6_isThere wsX6_isThere) := goodIn_app (goodIn_of _ (by decide +kernel)) ggX6_seat_X6_isThere
set_option maxRecDepth 20000 in
theorem ggX6_seat_X6_isWithin : GoodIn wsX6_seat wsX6_isWithin := goodIn_q _ [13] [] rfl (by decide +kernel) (by decide +kernel)
set_option maxRecDepth 20000 in
theorem gX6_seat_X6_isWithin : GoodIn wsX6_seat (va_wsS RX6 86 yX6_isWithin wsX6_isWithin) := goodIn_app (goodIn_of _ (by decide +kernel)) ggX6_seat_X6_isWithin
set_option maxRecDepth 20000 in
theorem ggX6_seat_X1_takeFrom : GoodIn wsX6_seat wsX1_takeFrom := goodIn_q _ [18] [19, 20, 21, 22, 23, 24, 25, 26, 27, 144, 145, 146, 147, 148, 149, 150, 151, 152] rfl (by decide +kernel) (by decide +kernel)
set_option maxRecDepth 20000 in
theorem gX6_seat_X1_takeFrom : GoodIn wsX6_seat (wsV RX6 184 RX1 yX1_takeFrom wsX1_takeFrom) := goodIn_app (goodIn_of _ (by decide +kernel)) ggX6_seat_X1_takeFrom
set_option maxRecDepth 20000 in
theorem ggX6_seat_X0_begin : GoodIn wsX6_seat wsX0_begin := goodIn_q _ [32] [33, 34, 153, 154] rfl (by decide +kernel) (by decide +kernel)
set_option maxRecDepth 20000 in
theorem gX6_seat_X0_begin : GoodIn wsX6_seat (wsV RX6 192 RX0 yX0_begin wsX0_begin) := goodIn_app (goodIn_of _ (by decide +kernel)) ggX6_seat_X0_begin
set_option maxRecDepth 20000 in
theorem ggX6_seat_X6_serve : GoodIn wsX6_seat wsX6_serve := goodIn_q _ [38, 42, 13, 50, 58, 62, 69, 73, 79, 84, 88, 93, 98, 100, 103, 106, 109, 111, 114] [5, 39, 40, 41, 9, 43, 44, 45, 11, 12, 46, 47, 48, 49, 51, 52, 53, 54, 55, 56, 57, 59, 60, 61, 63, 64, 65, 66, 67, 68, 17, 26, 70, 71, 72, 74, 75, 76, 77, 78, 80, 81, 82, 83, 85, 86, 87, 89, 90, 91, 92, 94, 95, 96, 97, 99, 101, 102, 104, 105, 107, 108, 110, 112, 113, 132, 133, 134, 135, 136, 137, 138, 139, 140, 141, 142, 143, 144, 145, 146, 147, 148, 149, 150, 151, 152, 155, 156, 157, 158, 159, 160, 161, 162, 163, 164, 165, 166, 167] rfl (by decide +kernel) (by decide +kernel)
set_option maxRecDepth 20000 in
theorem gX6_seat_X6_serve : GoodIn wsX6_seat (wsV RX6 141 RX6 yX6_serve wsX6_serve) := goodIn_app (goodIn_of _ (by decide +kernel)) ggX6_seat_X6_serve
set_option maxRecDepth 20000 in
theorem ggX6_seat_X2_costs : GoodIn wsX6_seat wsX2_costs := goodIn_q _ [118, 122] [75, 119, 120, 121, 49, 63, 155, 156, 157, 158, 159, 160, 161, 162, 163, 164, 165] rfl (by decide +kernel) (by decide +kernel)
set_option maxRecDepth 20000 in
theorem gX6_seat_X2_costs : GoodIn wsX6_seat (wsV RX6 188 RX2 yX2_costs wsX2_costs) := goodIn_app (goodIn_of _ (by decide +kernel)) ggX6_seat_X2_costs
set_option maxRecDepth 20000 in
theorem ggX6_seat_X0_weigh : GoodIn wsX6_seat wsX0_weigh := goodIn_q _ [126, 32] [34, 127, 29, 30, 31, 33, 153, 154] rfl (by decide +kernel) (by decide +kernel)
set_option maxRecDepth 20000 in
theorem gX6_seat_X0_weigh : GoodIn wsX6_seat (wsV RX6 196 RX0 yX0_weigh wsX0_weigh) := goodIn_app (goodIn_of _ (by decide +kernel)) ggX6_seat_X0_weigh
set_option maxRecDepth 20000 in
theorem ggX6_seat_X0_answer : GoodIn wsX6_seat wsX0_answer := goodIn_q _ [131] [33, 34, 153, 154] rfl (by decide +kernel) (by decide +kernel)
set_option maxRecDepth 20000 in
theorem gX6_seat_X0_answer : GoodIn wsX6_seat (wsV RX6 199 RX0 yX0_answer wsX0_answer) := goodIn_app (goodIn_of _ (by decide +kernel)) ggX6_seat_X0_answer
theorem dX6_seat_0 : decode cX6_seat 0 = .ok (.aload_n 0, 1) := by decide +kernel
theorem dX6_seat_1 : decode cX6_seat 1 = .ok (.iload_n 1, 1) := by decide +kernel
theorem dX6_seat_2 : decode cX6_seat 2 = .ok (.invokevirtual 106, 3) := by decide +kernel
theorem dX6_seat_5 : decode cX6_seat 5 = .ok (.ifCond .ne 7, 3) := by decide +kernel
theorem dX6_seat_8 : decode cX6_seat 8 = .ok (.sipush (-5000), 3) := by decide +kernel
theorem dX6_seat_11 : decode cX6_seat 11 = .ok (.ireturn, 1) := by decide +kernel
theorem dX6_seat_12 : decode cX6_seat 12 = .ok (.iload_n 2, 1) := by decide +kernel
theorem dX6_seat_13 : decode cX6_seat 13 = .ok (.iconst 0, 1) := by decide +kernel
theorem dX6_seat_14 : decode cX6_seat 14 = .ok (.iconst 1, 1) := by decide +kernel
theorem dX6_seat_15 : decode cX6_seat 15 = .ok (.invokestatic 86, 3) := by decide +kernel
theorem dX6_seat_18 : decode cX6_seat 18 = .ok (.ifCond .ne 7, 3) := by decide +kernel
theorem dX6_seat_21 : decode cX6_seat 21 = .ok (.sipush (-7000), 3) := by decide +kernel
theorem dX6_seat_24 : decode cX6_seat 24 = .ok (.ireturn, 1) := by decide +kernel
theorem dX6_seat_25 : decode cX6_seat 25 = .ok (.aload_n 0, 1) := by decide +kernel
theorem dX6_seat_26 : decode cX6_seat 26 = .ok (.getfield 16, 3) := by decide +kernel
theorem dX6_seat_29 : decode cX6_seat 29 = .ok (.aload_n 0, 1) := by decide +kernel
theorem dX6_seat_30 : decode cX6_seat 30 = .ok (.getfield 10, 3) := by decide +kernel
theorem dX6_seat_33 : decode cX6_seat 33 = .ok (.invokevirtual 184, 3) := by decide +kernel
theorem dX6_seat_36 : decode cX6_seat 36 = .ok (.aload_n 0, 1) := by decide +kernel
theorem dX6_seat_37 : decode cX6_seat 37 = .ok (.getfield 32, 3) := by decide +kernel
theorem dX6_seat_40 : decode cX6_seat 40 = .ok (.iconst 0, 1) := by decide +kernel
theorem dX6_seat_41 : decode cX6_seat 41 = .ok (.ldc 191, 2) := by decide +kernel
theorem dX6_seat_43 : decode cX6_seat 43 = .ok (.invokevirtual 192, 3) := by decide +kernel
theorem dX6_seat_46 : decode cX6_seat 46 = .ok (.iconst 0, 1) := by decide +kernel
theorem dX6_seat_47 : decode cX6_seat 47 = .ok (.istore_n 3, 1) := by decide +kernel
theorem dX6_seat_48 : decode cX6_seat 48 = .ok (.iload_n 3, 1) := by decide +kernel
theorem dX6_seat_49 : decode cX6_seat 49 = .ok (.bipush 99, 2) := by decide +kernel
theorem dX6_seat_51 : decode cX6_seat 51 = .ok (.if_icmp .gt 44, 3) := by decide +kernel
theorem dX6_seat_54 : decode cX6_seat 54 = .ok (.aload_n 0, 1) := by decide +kernel
theorem dX6_seat_55 : decode cX6_seat 55 = .ok (.getfield 16, 3) := by decide +kernel
theorem dX6_seat_58 : decode cX6_seat 58 = .ok (.getfield 129, 3) := by decide +kernel
theorem dX6_seat_61 : decode cX6_seat 61 = .ok (.iload_n 1, 1) := by decide +kernel
theorem dX6_seat_62 : decode cX6_seat 62 = .ok (.iload_n 3, 1) := by decide +kernel
theorem dX6_seat_63 : decode cX6_seat 63 = .ok (.iastore, 1) := by decide +kernel
theorem dX6_seat_64 : decode cX6_seat 64 = .ok (.aload_n 0, 1) := by decide +kernel
theorem dX6_seat_65 : decode cX6_seat 65 = .ok (.aload_n 0, 1) := by decide +kernel
theorem dX6_seat_66 : decode cX6_seat 66 = .ok (.getfield 16, 3) := by decide +kernel
theorem dX6_seat_69 : decode cX6_seat 69 = .ok (.invokevirtual 141, 3) := by decide +kernel
theorem dX6_seat_72 : decode cX6_seat 72 = .ok (.pop, 1) := by decide +kernel
theorem dX6_seat_73 : decode cX6_seat 73 = .ok (.aload_n 0, 1) := by decide +kernel
theorem dX6_seat_74 : decode cX6_seat 74 = .ok (.getfield 32, 3) := by decide +kernel
theorem dX6_seat_77 : decode cX6_seat 77 = .ok (.iload_n 3, 1) := by decide +kernel
theorem dX6_seat_78 : decode cX6_seat 78 = .ok (.aload_n 0, 1) := by decide +kernel
theorem dX6_seat_79 : decode cX6_seat 79 = .ok (.getfield 25, 3) := by decide +kernel
theorem dX6_seat_82 : decode cX6_seat 82 = .ok (.iload_n 1, 1) := by decide +kernel
theorem dX6_seat_83 : decode cX6_seat 83 = .ok (.invokevirtual 188, 3) := by decide +kernel
theorem dX6_seat_86 : decode cX6_seat 86 = .ok (.invokevirtual 196, 3) := by decide +kernel
theorem dX6_seat_89 : decode cX6_seat 89 = .ok (.iinc 3 1, 3) := by decide +kernel
theorem dX6_seat_92 : decode cX6_seat 92 = .ok (.goto (-44), 3) := by decide +kernel
theorem dX6_seat_95 : decode cX6_seat 95 = .ok (.aload_n 0, 1) := by decide +kernel
theorem dX6_seat_96 : decode cX6_seat 96 = .ok (.getfield 32, 3) := by decide +kernel
theorem dX6_seat_99 : decode cX6_seat 99 = .ok (.iload_n 2, 1) := by decide +kernel
theorem dX6_seat_100 : decode cX6_seat 100 = .ok (.invokevirtual 199, 3) := by decide +kernel
theorem dX6_seat_103 : decode cX6_seat 103 = .ok (.ireturn, 1) := by decide +kernel
set_option maxRecDepth 20000 in
theorem ggX6_order_X6_isWithin : GoodIn wsX6_order wsX6_isWithin := goodIn_q _ [10] [] rfl (by decide +kernel) (by decide +kernel)
set_option maxRecDepth 20000 in
theorem gX6_order_X6_isWithin : GoodIn wsX6_order (va_wsS RX6 86 yX6_isWithin wsX6_isWithin) := goodIn_app (goodIn_of _ (by decide +kernel)) ggX6_order_X6_isWithin
set_option maxRecDepth 20000 in
theorem ggX6_order_X1_takeFrom : GoodIn wsX6_order wsX1_takeFrom := goodIn_q _ [15] [16, 17, 18, 19, 20, 21, 22, 23, 24, 150, 151, 152, 153, 154, 155, 156, 157, 158] rfl (by decide +kernel) (by decide +kernel)
set_option maxRecDepth 20000 in
theorem gX6_order_X1_takeFrom : GoodIn wsX6_order (wsV RX6 184 RX1 yX1_takeFrom wsX1_takeFrom) := goodIn_app (goodIn_of _ (by decide +kernel)) ggX6_order_X1_takeFrom
set_option maxRecDepth 20000 in
theorem ggX6_order_X0_begin : GoodIn wsX6_order wsX0_begin := goodIn_q _ [29] [30, 31, 159, 160] rfl (by decide +kernel) (by decide +kernel)
set_option maxRecDepth 20000 in
theorem gX6_order_X0_begin : GoodIn wsX6_order (wsV RX6 192 RX0 yX0_begin wsX0_begin) := goodIn_app (goodIn_of _ (by decide +kernel)) ggX6_order_X0_begin
set_option maxRecDepth 20000 in
theorem ggX6_order_X6_rankByTurns : GoodIn wsX6_order wsX6_rankByTurns := goodIn_q _ [35] [2, 4, 138, 139, 140, 141, 142, 143, 144, 145, 146, 147, 148, 149, 150, 151, 152, 153, 154, 155, 156, 157, 158] rfl (by decide +kernel) (by decide +kernel)
set_option maxRecDepth 20000 in
theorem gX6_order_X6_rankByTurns : GoodIn wsX6_order (wsV RX6 208 RX6 yX6_rankByTurns wsX6_rankByTurns) := goodIn_app (goodIn_of _ (by decide +kernel)) ggX6_order_X6_rankByTurns
set_option maxRecDepth 20000 in
theorem ggX6_order_X6_digitsOfTurns : GoodIn wsX6_order wsX6_digitsOfTurns := goodIn_q _ [39] [2, 4, 138, 139, 140, 141, 142, 143, 144, 145, 146, 147, 148, 149, 150, 151, 152, 153, 154, 155, 156, 157, 158] rfl (by decide +kernel) (by decide +kernel)
set_option maxRecDepth 20000 in
theorem gX6_order_X6_digitsOfTurns : GoodIn wsX6_order (wsV RX6 211 RX6 yX6_digitsOfTurns wsX6_digitsOfTurns) := goodIn_app (goodIn_of _ (by decide +kernel)) ggX6_order_X6_digitsOfTurns
set_option maxRecDepth 20000 in
theorem ggX6_order_X6_serve : GoodIn wsX6_order wsX6_serve := goodIn_q _ [43, 48, 10, 56, 64, 68, 75, 79, 85, 90, 94, 99, 104, 106, 109, 112, 115, 117, 120] [44, 45, 46, 47, 9, 49, 50, 51, 7, 8, 52, 53, 54, 55, 57, 58, 59, 60, 61, 62, 63, 65, 66, 67, 69, 70, 71, 72, 73, 74, 14, 23, 76, 77, 78, 80, 81, 82, 83, 84, 86, 87, 88, 89, 91, 92, 93, 95, 96, 97, 98, 100, 101, 102, 103, 105, 107, 108, 110, 111, 113, 114, 116, 118, 119, 138, 139, 140, 141, 142, 143, 144, 145, 146, 147, 148, 149, 150, 151, 152, 153, 154, 155, 156, 157, 158, 161, 162, 163, 164, 165, 166, 167, 168, 169, 170, 171, 172, 173] rfl (by decide +kernel) (by decide +kernel)
set_option maxRecDepth 20000 in
theorem gX6_order_X6_serve : GoodIn wsX6_order (wsV RX6 141 RX6 yX6_serve wsX6_serve) := goodIn_app (goodIn_of _ (by decide +kernel)) ggX6_order_X6_serve
set_option maxRecDepth 20000 in
theorem ggX6_order_X0_weigh : GoodIn wsX6_order wsX0_weigh := goodIn_q _ [124, 29] [31, 125, 26, 27, 28, 30, 159, 160] rfl (by decide +kernel) (by decide +kernel)
set_option maxRecDepth 20000 in
theorem gX6_order_X0_weigh : GoodIn wsX6_order (wsV RX6 196 RX0 yX0_weigh wsX0_weigh) := goodIn_app (goodIn_of _ (by decide +kernel)) ggX6_order_X0_weigh
set_option maxRecDepth 20000 in
theorem ggX6_order_X6_turnOn : GoodIn wsX6_order wsX6_turnOn := goodIn_q _ [129, 133] [2, 4, 130, 131, 132, 9, 138, 139, 140, 141, 142, 143, 144, 145, 146, 147, 148, 149, 150, 151, 152, 153, 154, 155, 156, 157, 158] rfl (by decide +kernel) (by decide +kernel)
set_option maxRecDepth 20000 in
theorem gX6_order_X6_turnOn : GoodIn wsX6_order (wsV RX6 214 RX6 yX6_turnOn wsX6_turnOn) := goodIn_app (goodIn_of _ (by decide +kernel)) ggX6_order_X6_turnOn
set_option maxRecDepth 20000 in
theorem ggX6_order_X0_answer : GoodIn wsX6_order wsX0_answer := goodIn_q _ [137] [30, 31, 159, 160] rfl (by decide +kernel) (by decide +kernel)
set_option maxRecDepth 20000 in
theorem gX6_order_X0_answer : GoodIn wsX6_order (wsV RX6 199 RX0 yX0_answer wsX0_answer) := goodIn_app (goodIn_of _ (by decide +kernel)) ggX6_order_X0_answer
theorem dX6_order_0 : decode cX6_order 0 = .ok (.iload_n 1, 1) := by decide +kernel
theorem dX6_order_1 : decode cX6_order 1 = .ok (.iconst 0, 1) := by decide +kernel
theorem dX6_order_2 : decode cX6_order 2 = .ok (.iconst 1, 1) := by decide +kernel
theorem dX6_order_3 : decode cX6_order 3 = .ok (.invokestatic 86, 3) := by decide +kernel
theorem dX6_order_6 : decode cX6_order 6 = .ok (.ifCond .ne 6, 3) := by decide +kernel
theorem dX6_order_9 : decode cX6_order 9 = .ok (.ldc 179, 2) := by decide +kernel
theorem dX6_order_11 : decode cX6_order 11 = .ok (.ireturn, 1) := by decide +kernel
theorem dX6_order_12 : decode cX6_order 12 = .ok (.aload_n 0, 1) := by decide +kernel
theorem dX6_order_13 : decode cX6_order 13 = .ok (.getfield 16, 3) := by decide +kernel
theorem dX6_order_16 : decode cX6_order 16 = .ok (.aload_n 0, 1) := by decide +kernel
theorem dX6_order_17 : decode cX6_order 17 = .ok (.getfield 10, 3) := by decide +kernel
theorem dX6_order_20 : decode cX6_order 20 = .ok (.invokevirtual 184, 3) := by decide +kernel
theorem dX6_order_23 : decode cX6_order 23 = .ok (.iconst 0, 1) := by decide +kernel
theorem dX6_order_24 : decode cX6_order 24 = .ok (.istore_n 2, 1) := by decide +kernel
theorem dX6_order_25 : decode cX6_order 25 = .ok (.iload_n 2, 1) := by decide +kernel
theorem dX6_order_26 : decode cX6_order 26 = .ok (.aload_n 0, 1) := by decide +kernel
theorem dX6_order_27 : decode cX6_order 27 = .ok (.getfield 66, 3) := by decide +kernel
theorem dX6_order_30 : decode cX6_order 30 = .ok (.arraylength, 1) := by decide +kernel
theorem dX6_order_31 : decode cX6_order 31 = .ok (.if_icmp .ge 16, 3) := by decide +kernel
theorem dX6_order_34 : decode cX6_order 34 = .ok (.aload_n 0, 1) := by decide +kernel
theorem dX6_order_35 : decode cX6_order 35 = .ok (.getfield 66, 3) := by decide +kernel
theorem dX6_order_38 : decode cX6_order 38 = .ok (.iload_n 2, 1) := by decide +kernel
theorem dX6_order_39 : decode cX6_order 39 = .ok (.iload_n 2, 1) := by decide +kernel
theorem dX6_order_40 : decode cX6_order 40 = .ok (.iastore, 1) := by decide +kernel
theorem dX6_order_41 : decode cX6_order 41 = .ok (.iinc 2 1, 3) := by decide +kernel
theorem dX6_order_44 : decode cX6_order 44 = .ok (.goto (-19), 3) := by decide +kernel
theorem dX6_order_47 : decode cX6_order 47 = .ok (.aload_n 0, 1) := by decide +kernel
theorem dX6_order_48 : decode cX6_order 48 = .ok (.getfield 32, 3) := by decide +kernel
theorem dX6_order_51 : decode cX6_order 51 = .ok (.iconst 0, 1) := by decide +kernel
theorem dX6_order_52 : decode cX6_order 52 = .ok (.ldc 191, 2) := by decide +kernel
theorem dX6_order_54 : decode cX6_order 54 = .ok (.invokevirtual 192, 3) := by decide +kernel
theorem dX6_order_57 : decode cX6_order 57 = .ok (.iconst 0, 1) := by decide +kernel
theorem dX6_order_58 : decode cX6_order 58 = .ok (.istore_n 2, 1) := by decide +kernel
theorem dX6_order_59 : decode cX6_order 59 = .ok (.iload_n 2, 1) := by decide +kernel
theorem dX6_order_60 : decode cX6_order 60 = .ok (.sipush 720, 3) := by decide +kernel
theorem dX6_order_63 : decode cX6_order 63 = .ok (.if_icmp .ge 42, 3) := by decide +kernel
theorem dX6_order_66 : decode cX6_order 66 = .ok (.aload_n 0, 1) := by decide +kernel
theorem dX6_order_67 : decode cX6_order 67 = .ok (.invokevirtual 208, 3) := by decide +kernel
theorem dX6_order_70 : decode cX6_order 70 = .ok (.aload_n 0, 1) := by decide +kernel
theorem dX6_order_71 : decode cX6_order 71 = .ok (.getfield 32, 3) := by decide +kernel
theorem dX6_order_74 : decode cX6_order 74 = .ok (.aload_n 0, 1) := by decide +kernel
theorem dX6_order_75 : decode cX6_order 75 = .ok (.invokevirtual 211, 3) := by decide +kernel
theorem dX6_order_78 : decode cX6_order 78 = .ok (.aload_n 0, 1) := by decide +kernel
theorem dX6_order_79 : decode cX6_order 79 = .ok (.aload_n 0, 1) := by decide +kernel
theorem dX6_order_80 : decode cX6_order 80 = .ok (.getfield 16, 3) := by decide +kernel
theorem dX6_order_83 : decode cX6_order 83 = .ok (.invokevirtual 141, 3) := by decide +kernel
theorem dX6_order_86 : decode cX6_order 86 = .ok (.invokevirtual 196, 3) := by decide +kernel
theorem dX6_order_89 : decode cX6_order 89 = .ok (.aload_n 0, 1) := by decide +kernel
theorem dX6_order_90 : decode cX6_order 90 = .ok (.invokevirtual 214, 3) := by decide +kernel
theorem dX6_order_93 : decode cX6_order 93 = .ok (.ifCond .ne 6, 3) := by decide +kernel
theorem dX6_order_96 : decode cX6_order 96 = .ok (.goto 9, 3) := by decide +kernel
theorem dX6_order_99 : decode cX6_order 99 = .ok (.iinc 2 1, 3) := by decide +kernel
theorem dX6_order_102 : decode cX6_order 102 = .ok (.goto (-43), 3) := by decide +kernel
theorem dX6_order_105 : decode cX6_order 105 = .ok (.aload_n 0, 1) := by decide +kernel
theorem dX6_order_106 : decode cX6_order 106 = .ok (.getfield 32, 3) := by decide +kernel
theorem dX6_order_109 : decode cX6_order 109 = .ok (.iload_n 1, 1) := by decide +kernel
theorem dX6_order_110 : decode cX6_order 110 = .ok (.invokevirtual 199, 3) := by decide +kernel
theorem dX6_order_113 : decode cX6_order 113 = .ok (.ireturn, 1) := by decide +kernel
set_option maxRecDepth 20000 in
theorem ggX6_mean_X6_serve : GoodIn wsX6_mean wsX6_serve := goodIn_q _ [8, 12, 18, 23, 31, 35, 43, 48, 54, 59, 63, 68, 73, 75, 78, 81, 84, 86, 89] [2, 9, 10, 11, 7, 13, 14, 15, 16, 17, 19, 20, 21, 22, 24, 25, 26, 27, 28, 29, 30, 32, 33, 34, 36, 37, 38, 39, 40, 41, 42, 44, 45, 46, 47, 49, 50, 51, 52, 53, 55, 56, 57, 58, 60, 61, 62, 64, 65, 66, 67, 69, 70, 71, 72, 74, 76, 77, 79, 80, 82, 83, 85, 87, 88, 97, 98, 99, 100, 101, 102, 103, 104, 105, 106, 107, 108, 120, 121, 122, 123, 124, 125, 126, 127, 128, 109, 110, 111, 112, 113, 114, 115, 116, 117, 118, 119, 129, 130] rfl (by decide +kernel) (by decide +kernel)
set_option maxRecDepth 20000 in
theorem gX6_mean_X6_serve : GoodIn wsX6_mean (wsV RX6 141 RX6 yX6_serve wsX6_serve) := goodIn_app (goodIn_of _ (by decide +kernel)) ggX6_mean_X6_serve
set_option maxRecDepth 20000 in
theorem ggX6_mean_X6_isWithin : GoodIn wsX6_mean wsX6_isWithin := goodIn_q _ [18] [] rfl (by decide +kernel) (by decide +kernel)
set_option maxRecDepth 20000 in
theorem gX6_mean_X6_isWithin : GoodIn wsX6_mean (va_wsS RX6 86 yX6_isWithin wsX6_isWithin) := goodIn_app (goodIn_of _ (by decide +kernel)) ggX6_mean_X6_isWithin
set_option maxRecDepth 20000 in
theorem ggX6_mean_X2_hasBegun : GoodIn wsX6_mean wsX2_hasBegun := goodIn_q _ [93] [36, 109, 110, 111, 112, 113, 114, 115, 116, 117, 118, 119] rfl (by decide +kernel) (by decide +kernel)
set_option maxRecDepth 20000 in
theorem gX6_mean_X2_hasBegun : GoodIn wsX6_mean (wsV RX6 154 RX2 yX2_hasBegun wsX2_hasBegun) := goodIn_app (goodIn_of _ (by decide +kernel)) ggX6_mean_X2_hasBegun
set_option maxRecDepth 20000 in
theorem ggX6_mean_X6_inLowestTerms : GoodIn wsX6_mean wsX6_inLowestTerms := goodIn_q _ [96] [] rfl (by decide +kernel) (by decide +kernel)
set_option maxRecDepth 20000 in
theorem gX6_mean_X6_inLowestTerms : GoodIn wsX6_mean (va_wsS RX6 223 yX6_inLowestTerms wsX6_inLowestTerms) := goodIn_app (goodIn_of _ (by decide +kernel)) ggX6_mean_X6_inLowestTerms
theorem dX6_mean_0 : decode cX6_mean 0 = .ok (.aload_n 0, 1) := by decide +kernel
theorem dX6_mean_1 : decode cX6_mean 1 = .ok (.aload_n 0, 1) := by decide +kernel
theorem dX6_mean_2 : decode cX6_mean 2 = .ok (.getfield 10, 3) := by decide +kernel
theorem dX6_mean_5 : decode cX6_mean 5 = .ok (.invokevirtual 141, 3) := by decide +kernel
theorem dX6_mean_8 : decode cX6_mean 8 = .ok (.pop, 1) := by decide +kernel
theorem dX6_mean_9 : decode cX6_mean 9 = .ok (.iload_n 1, 1) := by decide +kernel
theorem dX6_mean_10 : decode cX6_mean 10 = .ok (.iconst 0, 1) := by decide +kernel
theorem dX6_mean_11 : decode cX6_mean 11 = .ok (.iconst 1, 1) := by decide +kernel
theorem dX6_mean_12 : decode cX6_mean 12 = .ok (.invokestatic 86, 3) := by decide +kernel
theorem dX6_mean_15 : decode cX6_mean 15 = .ok (.ifCond .eq 13, 3) := by decide +kernel
theorem dX6_mean_18 : decode cX6_mean 18 = .ok (.aload_n 0, 1) := by decide +kernel
theorem dX6_mean_19 : decode cX6_mean 19 = .ok (.getfield 25, 3) := by decide +kernel
theorem dX6_mean_22 : decode cX6_mean 22 = .ok (.getfield 218, 3) := by decide +kernel
theorem dX6_mean_25 : decode cX6_mean 25 = .ok (.ifCond .ne 7, 3) := by decide +kernel
theorem dX6_mean_28 : decode cX6_mean 28 = .ok (.ldc2_w 221, 3) := by decide +kernel
theorem dX6_mean_31 : decode cX6_mean 31 = .ok (.lreturn, 1) := by decide +kernel
theorem dX6_mean_32 : decode cX6_mean 32 = .ok (.iconst 0, 1) := by decide +kernel
theorem dX6_mean_33 : decode cX6_mean 33 = .ok (.istore_n 2, 1) := by decide +kernel
theorem dX6_mean_34 : decode cX6_mean 34 = .ok (.iconst 0, 1) := by decide +kernel
theorem dX6_mean_35 : decode cX6_mean 35 = .ok (.istore_n 3, 1) := by decide +kernel
theorem dX6_mean_36 : decode cX6_mean 36 = .ok (.iload_n 3, 1) := by decide +kernel
theorem dX6_mean_37 : decode cX6_mean 37 = .ok (.aload_n 0, 1) := by decide +kernel
theorem dX6_mean_38 : decode cX6_mean 38 = .ok (.getfield 10, 3) := by decide +kernel
theorem dX6_mean_41 : decode cX6_mean 41 = .ok (.getfield 71, 3) := by decide +kernel
theorem dX6_mean_44 : decode cX6_mean 44 = .ok (.if_icmp .ge 36, 3) := by decide +kernel
theorem dX6_mean_47 : decode cX6_mean 47 = .ok (.iload_n 2, 1) := by decide +kernel
theorem dX6_mean_48 : decode cX6_mean 48 = .ok (.aload_n 0, 1) := by decide +kernel
theorem dX6_mean_49 : decode cX6_mean 49 = .ok (.getfield 25, 3) := by decide +kernel
theorem dX6_mean_52 : decode cX6_mean 52 = .ok (.iload_n 3, 1) := by decide +kernel
theorem dX6_mean_53 : decode cX6_mean 53 = .ok (.invokevirtual 154, 3) := by decide +kernel
theorem dX6_mean_56 : decode cX6_mean 56 = .ok (.ifCond .eq 15, 3) := by decide +kernel
theorem dX6_mean_59 : decode cX6_mean 59 = .ok (.aload_n 0, 1) := by decide +kernel
theorem dX6_mean_60 : decode cX6_mean 60 = .ok (.getfield 25, 3) := by decide +kernel
theorem dX6_mean_63 : decode cX6_mean 63 = .ok (.getfield 151, 3) := by decide +kernel
theorem dX6_mean_66 : decode cX6_mean 66 = .ok (.iload_n 3, 1) := by decide +kernel
theorem dX6_mean_67 : decode cX6_mean 67 = .ok (.iaload, 1) := by decide +kernel
theorem dX6_mean_68 : decode cX6_mean 68 = .ok (.goto 4, 3) := by decide +kernel
theorem dX6_mean_71 : decode cX6_mean 71 = .ok (.iconst 0, 1) := by decide +kernel
theorem dX6_mean_72 : decode cX6_mean 72 = .ok (.iadd, 1) := by decide +kernel
theorem dX6_mean_73 : decode cX6_mean 73 = .ok (.istore_n 2, 1) := by decide +kernel
theorem dX6_mean_74 : decode cX6_mean 74 = .ok (.iinc 3 1, 3) := by decide +kernel
theorem dX6_mean_77 : decode cX6_mean 77 = .ok (.goto (-41), 3) := by decide +kernel
theorem dX6_mean_80 : decode cX6_mean 80 = .ok (.iload_n 2, 1) := by decide +kernel
theorem dX6_mean_81 : decode cX6_mean 81 = .ok (.aload_n 0, 1) := by decide +kernel
theorem dX6_mean_82 : decode cX6_mean 82 = .ok (.getfield 25, 3) := by decide +kernel
theorem dX6_mean_85 : decode cX6_mean 85 = .ok (.getfield 218, 3) := by decide +kernel
theorem dX6_mean_88 : decode cX6_mean 88 = .ok (.iload_n 1, 1) := by decide +kernel
theorem dX6_mean_89 : decode cX6_mean 89 = .ok (.invokestatic 223, 3) := by decide +kernel
theorem dX6_mean_92 : decode cX6_mean 92 = .ok (.lreturn, 1) := by decide +kernel
set_option maxRecDepth 20000 in
theorem ggX6_judge_X6_refusalOfTold : GoodIn wsX6_judge wsX6_refusalOfTold := goodIn_q _ [7, 10, 13, 18] [1, 2, 8, 9, 6, 11, 12, 14, 15, 16, 17, 19, 103, 104, 105, 106, 107, 108, 109, 110, 111, 112, 113, 114, 115, 116, 117, 118, 119, 120, 121, 122, 123, 124, 125, 126] rfl (by decide +kernel) (by decide +kernel)
set_option maxRecDepth 20000 in
theorem gX6_judge_X6_refusalOfTold : GoodIn wsX6_judge (wsV RX6 227 RX6 yX6_refusalOfTold wsX6_refusalOfTold) := goodIn_app (goodIn_of _ (by decide +kernel)) ggX6_judge_X6_refusalOfTold
set_option maxRecDepth 20000 in
theorem ggX6_judge_X6_firstOtherwise : GoodIn wsX6_judge wsX6_firstOtherwise := goodIn_q _ [23, 28, 13, 36, 44, 48, 56, 61, 67, 72, 76, 81, 86, 88, 91, 94, 97, 99, 102] [24, 25, 26, 27, 6, 29, 30, 31, 11, 12, 32, 33, 34, 35, 37, 38, 39, 40, 41, 42, 43, 45, 46, 47, 49, 50, 51, 52, 53, 54, 55, 57, 58, 59, 60, 62, 63, 64, 65, 66, 68, 69, 70, 71, 73, 74, 75, 77, 78, 79, 80, 82, 83, 84, 85, 87, 89, 90, 92, 93, 95, 96, 98, 100, 101, 103, 104, 105, 106, 107, 108, 109, 110, 111, 112, 113, 114, 115, 116, 117, 127, 128, 129, 130, 131, 132, 133, 134, 135, 136, 137, 118, 119, 120, 121, 122, 123, 124, 125, 126, 138, 139] rfl (by decide +kernel) (by decide +kernel)
set_option maxRecDepth 20000 in
theorem gX6_judge_X6_firstOtherwise : GoodIn wsX6_judge (wsV RX6 230 RX6 yX6_firstOtherwise wsX6_firstOtherwise) := goodIn_app (goodIn_of _ (by decide +kernel)) ggX6_judge_X6_firstOtherwise
theorem dX6_judge_0 : decode cX6_judge 0 = .ok (.aload_n 0, 1) := by decide +kernel
theorem dX6_judge_1 : decode cX6_judge 1 = .ok (.iload_n 1, 1) := by decide +kernel
theorem dX6_judge_2 : decode cX6_judge 2 = .ok (.invokevirtual 227, 3) := by decide +kernel
theorem dX6_judge_5 : decode cX6_judge 5 = .ok (.istore_n 2, 1) := by decide +kernel
theorem dX6_judge_6 : decode cX6_judge 6 = .ok (.iload_n 2, 1) := by decide +kernel
theorem dX6_judge_7 : decode cX6_judge 7 = .ok (.ifCond .ge 7, 3) := by decide +kernel
theorem dX6_judge_10 : decode cX6_judge 10 = .ok (.iload_n 2, 1) := by decide +kernel
theorem dX6_judge_11 : decode cX6_judge 11 = .ok (.goto 17, 3) := by decide +kernel
theorem dX6_judge_14 : decode cX6_judge 14 = .ok (.aload_n 0, 1) := by decide +kernel
theorem dX6_judge_15 : decode cX6_judge 15 = .ok (.aload_n 0, 1) := by decide +kernel
theorem dX6_judge_16 : decode cX6_judge 16 = .ok (.getfield 62, 3) := by decide +kernel
theorem dX6_judge_19 : decode cX6_judge 19 = .ok (.iload_n 1, 1) := by decide +kernel
theorem dX6_judge_20 : decode cX6_judge 20 = .ok (.aaload, 1) := by decide +kernel
theorem dX6_judge_21 : decode cX6_judge 21 = .ok (.aload_n 0, 1) := by decide +kernel
theorem dX6_judge_22 : decode cX6_judge 22 = .ok (.getfield 10, 3) := by decide +kernel
theorem dX6_judge_25 : decode cX6_judge 25 = .ok (.invokevirtual 230, 3) := by decide +kernel
theorem dX6_judge_28 : decode cX6_judge 28 = .ok (.ireturn, 1) := by decide +kernel
set_option maxRecDepth 20000 in
theorem ggX6_kinds_X6_refusalOfOne : GoodIn wsX6_kinds wsX6_refusalOfOne := goodIn_q _ [8, 12, 15, 18, 23, 28] [9, 10, 11, 7, 3, 2, 13, 14, 16, 17, 19, 20, 21, 22, 24, 25, 26, 27, 124, 125, 126, 127, 128, 129, 130, 131, 132, 133, 134, 135, 145, 146, 147, 136, 137, 138, 139, 140, 141, 142, 143, 144] rfl (by decide +kernel) (by decide +kernel)
set_option maxRecDepth 20000 in
theorem gX6_kinds_X6_refusalOfOne : GoodIn wsX6_kinds (wsV RX6 234 RX6 yX6_refusalOfOne wsX6_refusalOfOne) := goodIn_app (goodIn_of _ (by decide +kernel)) ggX6_kinds_X6_refusalOfOne
set_option maxRecDepth 20000 in
theorem ggX6_kinds_X1_takeFrom : GoodIn wsX6_kinds wsX1_takeFrom := goodIn_q _ [33] [34, 35, 36, 37, 38, 39, 40, 41, 42, 136, 137, 138, 139, 140, 141, 142, 143, 144] rfl (by decide +kernel) (by decide +kernel)
set_option maxRecDepth 20000 in
theorem gX6_kinds_X1_takeFrom : GoodIn wsX6_kinds (wsV RX6 184 RX1 yX1_takeFrom wsX1_takeFrom) := goodIn_app (goodIn_of _ (by decide +kernel)) ggX6_kinds_X1_takeFrom
set_option maxRecDepth 20000 in
theorem ggX6_kinds_X6_firstOtherwise : GoodIn wsX6_kinds wsX6_firstOtherwise := goodIn_q _ [46, 51, 18, 59, 67, 71, 78, 82, 88, 93, 97, 102, 107, 109, 112, 115, 118, 120, 123] [47, 48, 49, 50, 7, 52, 53, 54, 16, 17, 55, 56, 57, 58, 60, 61, 62, 63, 64, 65, 66, 68, 69, 70, 72, 73, 74, 75, 76, 77, 32, 41, 79, 80, 81, 83, 84, 85, 86, 87, 89, 90, 91, 92, 94, 95, 96, 98, 99, 100, 101, 103, 104, 105, 106, 108, 110, 111, 113, 114, 116, 117, 119, 121, 122, 124, 125, 126, 127, 128, 129, 130, 131, 132, 133, 134, 135, 145, 146, 147, 148, 149, 150, 151, 152, 153, 154, 155, 156, 157, 158, 136, 137, 138, 139, 140, 141, 142, 143, 144, 159, 160] rfl (by decide +kernel) (by decide +kernel)
set_option maxRecDepth 20000 in
theorem gX6_kinds_X6_firstOtherwise : GoodIn wsX6_kinds (wsV RX6 230 RX6 yX6_firstOtherwise wsX6_firstOtherwise) := goodIn_app (goodIn_of _ (by decide +kernel)) ggX6_kinds_X6_firstOtherwise
theorem dX6_kinds_0 : decode cX6_kinds 0 = .ok (.aload_n 0, 1) := by decide +kernel
theorem dX6_kinds_1 : decode cX6_kinds 1 = .ok (.iload_n 1, 1) := by decide +kernel
theorem dX6_kinds_2 : decode cX6_kinds 2 = .ok (.iload_n 2, 1) := by decide +kernel
theorem dX6_kinds_3 : decode cX6_kinds 3 = .ok (.iload_n 3, 1) := by decide +kernel
theorem dX6_kinds_4 : decode cX6_kinds 4 = .ok (.invokevirtual 234, 3) := by decide +kernel
theorem dX6_kinds_7 : decode cX6_kinds 7 = .ok (.istore 4, 2) := by decide +kernel
theorem dX6_kinds_9 : decode cX6_kinds 9 = .ok (.iload 4, 2) := by decide +kernel
theorem dX6_kinds_11 : decode cX6_kinds 11 = .ok (.ifCond .ge 6, 3) := by decide +kernel
theorem dX6_kinds_14 : decode cX6_kinds 14 = .ok (.iload 4, 2) := by decide +kernel
theorem dX6_kinds_16 : decode cX6_kinds 16 = .ok (.ireturn, 1) := by decide +kernel
theorem dX6_kinds_17 : decode cX6_kinds 17 = .ok (.aload_n 0, 1) := by decide +kernel
theorem dX6_kinds_18 : decode cX6_kinds 18 = .ok (.getfield 16, 3) := by decide +kernel
theorem dX6_kinds_21 : decode cX6_kinds 21 = .ok (.aload_n 0, 1) := by decide +kernel
theorem dX6_kinds_22 : decode cX6_kinds 22 = .ok (.getfield 10, 3) := by decide +kernel
theorem dX6_kinds_25 : decode cX6_kinds 25 = .ok (.invokevirtual 184, 3) := by decide +kernel
theorem dX6_kinds_28 : decode cX6_kinds 28 = .ok (.iload_n 3, 1) := by decide +kernel
theorem dX6_kinds_29 : decode cX6_kinds 29 = .ok (.ifCond .ne 13, 3) := by decide +kernel
theorem dX6_kinds_32 : decode cX6_kinds 32 = .ok (.aload_n 0, 1) := by decide +kernel
theorem dX6_kinds_33 : decode cX6_kinds 33 = .ok (.getfield 16, 3) := by decide +kernel
theorem dX6_kinds_36 : decode cX6_kinds 36 = .ok (.getfield 135, 3) := by decide +kernel
theorem dX6_kinds_39 : decode cX6_kinds 39 = .ok (.goto 10, 3) := by decide +kernel
theorem dX6_kinds_42 : decode cX6_kinds 42 = .ok (.aload_n 0, 1) := by decide +kernel
theorem dX6_kinds_43 : decode cX6_kinds 43 = .ok (.getfield 16, 3) := by decide +kernel
theorem dX6_kinds_46 : decode cX6_kinds 46 = .ok (.getfield 138, 3) := by decide +kernel
theorem dX6_kinds_49 : decode cX6_kinds 49 = .ok (.astore 5, 2) := by decide +kernel
theorem dX6_kinds_51 : decode cX6_kinds 51 = .ok (.iload_n 3, 1) := by decide +kernel
theorem dX6_kinds_52 : decode cX6_kinds 52 = .ok (.ifCond .ne 7, 3) := by decide +kernel
theorem dX6_kinds_55 : decode cX6_kinds 55 = .ok (.iconst 5, 1) := by decide +kernel
theorem dX6_kinds_56 : decode cX6_kinds 56 = .ok (.goto 5, 3) := by decide +kernel
theorem dX6_kinds_59 : decode cX6_kinds 59 = .ok (.bipush 9, 2) := by decide +kernel
theorem dX6_kinds_61 : decode cX6_kinds 61 = .ok (.istore 6, 2) := by decide +kernel
theorem dX6_kinds_63 : decode cX6_kinds 63 = .ok (.iconst 0, 1) := by decide +kernel
theorem dX6_kinds_64 : decode cX6_kinds 64 = .ok (.istore 7, 2) := by decide +kernel
theorem dX6_kinds_66 : decode cX6_kinds 66 = .ok (.iconst 0, 1) := by decide +kernel
theorem dX6_kinds_67 : decode cX6_kinds 67 = .ok (.istore 8, 2) := by decide +kernel
theorem dX6_kinds_69 : decode cX6_kinds 69 = .ok (.iload 8, 2) := by decide +kernel
theorem dX6_kinds_71 : decode cX6_kinds 71 = .ok (.iload 6, 2) := by decide +kernel
theorem dX6_kinds_73 : decode cX6_kinds 73 = .ok (.if_icmp .gt 42, 3) := by decide +kernel
theorem dX6_kinds_76 : decode cX6_kinds 76 = .ok (.aload 5, 2) := by decide +kernel
theorem dX6_kinds_78 : decode cX6_kinds 78 = .ok (.iload_n 2, 1) := by decide +kernel
theorem dX6_kinds_79 : decode cX6_kinds 79 = .ok (.iload 8, 2) := by decide +kernel
theorem dX6_kinds_81 : decode cX6_kinds 81 = .ok (.iastore, 1) := by decide +kernel
theorem dX6_kinds_82 : decode cX6_kinds 82 = .ok (.aload_n 0, 1) := by decide +kernel
theorem dX6_kinds_83 : decode cX6_kinds 83 = .ok (.aload_n 0, 1) := by decide +kernel
theorem dX6_kinds_84 : decode cX6_kinds 84 = .ok (.getfield 62, 3) := by decide +kernel
theorem dX6_kinds_87 : decode cX6_kinds 87 = .ok (.iload_n 1, 1) := by decide +kernel
theorem dX6_kinds_88 : decode cX6_kinds 88 = .ok (.aaload, 1) := by decide +kernel
theorem dX6_kinds_89 : decode cX6_kinds 89 = .ok (.aload_n 0, 1) := by decide +kernel
theorem dX6_kinds_90 : decode cX6_kinds 90 = .ok (.getfield 16, 3) := by decide +kernel
theorem dX6_kinds_93 : decode cX6_kinds 93 = .ok (.invokevirtual 230, 3) := by decide +kernel
theorem dX6_kinds_96 : decode cX6_kinds 96 = .ok (.iconst (-1), 1) := by decide +kernel
theorem dX6_kinds_97 : decode cX6_kinds 97 = .ok (.if_icmp .ne 12, 3) := by decide +kernel
theorem dX6_kinds_100 : decode cX6_kinds 100 = .ok (.iload 7, 2) := by decide +kernel
theorem dX6_kinds_102 : decode cX6_kinds 102 = .ok (.iconst 1, 1) := by decide +kernel
theorem dX6_kinds_103 : decode cX6_kinds 103 = .ok (.iload 8, 2) := by decide +kernel
theorem dX6_kinds_105 : decode cX6_kinds 105 = .ok (.ishl, 1) := by decide +kernel
theorem dX6_kinds_106 : decode cX6_kinds 106 = .ok (.ior, 1) := by decide +kernel
theorem dX6_kinds_107 : decode cX6_kinds 107 = .ok (.istore 7, 2) := by decide +kernel
theorem dX6_kinds_109 : decode cX6_kinds 109 = .ok (.iinc 8 1, 3) := by decide +kernel
theorem dX6_kinds_112 : decode cX6_kinds 112 = .ok (.goto (-43), 3) := by decide +kernel
theorem dX6_kinds_115 : decode cX6_kinds 115 = .ok (.iload 7, 2) := by decide +kernel
theorem dX6_kinds_117 : decode cX6_kinds 117 = .ok (.ireturn, 1) := by decide +kernel
set_option maxRecDepth 20000 in
theorem ggX6_ranks_X6_refusalOfOne : GoodIn wsX6_ranks wsX6_refusalOfOne := goodIn_q _ [8, 12, 15, 18, 23, 28] [9, 10, 11, 7, 3, 2, 13, 14, 16, 17, 19, 20, 21, 22, 24, 25, 26, 27, 124, 125, 126, 127, 128, 129, 130, 131, 132, 133, 134, 135, 145, 146, 147, 136, 137, 138, 139, 140, 141, 142, 143, 144] rfl (by decide +kernel) (by decide +kernel)
set_option maxRecDepth 20000 in
theorem gX6_ranks_X6_refusalOfOne : GoodIn wsX6_ranks (wsV RX6 234 RX6 yX6_refusalOfOne wsX6_refusalOfOne) := goodIn_app (goodIn_of _ (by decide +kernel)) ggX6_ranks_X6_refusalOfOne
set_option maxRecDepth 20000 in
theorem ggX6_ranks_X1_takeFrom : GoodIn wsX6_ranks wsX1_takeFrom := goodIn_q _ [33] [34, 35, 36, 37, 38, 39, 40, 41, 42, 136, 137, 138, 139, 140, 141, 142, 143, 144] rfl (by decide +kernel) (by decide +kernel)
set_option maxRecDepth 20000 in
theorem gX6_ranks_X1_takeFrom : GoodIn wsX6_ranks (wsV RX6 184 RX1 yX1_takeFrom wsX1_takeFrom) := goodIn_app (goodIn_of _ (by decide +kernel)) ggX6_ranks_X1_takeFrom
set_option maxRecDepth 20000 in
theorem ggX6_ranks_X6_firstOtherwise : GoodIn wsX6_ranks wsX6_firstOtherwise := goodIn_q _ [46, 51, 18, 59, 67, 71, 78, 82, 88, 93, 97, 102, 107, 109, 112, 115, 118, 120, 123] [47, 48, 49, 50, 7, 52, 53, 54, 16, 17, 55, 56, 57, 58, 60, 61, 62, 63, 64, 65, 66, 68, 69, 70, 72, 73, 74, 75, 76, 77, 32, 41, 79, 80, 81, 83, 84, 85, 86, 87, 89, 90, 91, 92, 94, 95, 96, 98, 99, 100, 101, 103, 104, 105, 106, 108, 110, 111, 113, 114, 116, 117, 119, 121, 122, 124, 125, 126, 127, 128, 129, 130, 131, 132, 133, 134, 135, 145, 146, 147, 148, 149, 150, 151, 152, 153, 154, 155, 156, 157, 158, 136, 137, 138, 139, 140, 141, 142, 143, 144, 159, 160] rfl (by decide +kernel) (by decide +kernel)
set_option maxRecDepth 20000 in
theorem gX6_ranks_X6_firstOtherwise : GoodIn wsX6_ranks (wsV RX6 230 RX6 yX6_firstOtherwise wsX6_firstOtherwise) := goodIn_app (goodIn_of _ (by decide +kernel)) ggX6_ranks_X6_firstOtherwise
theorem dX6_ranks_0 : decode cX6_ranks 0 = .ok (.aload_n 0, 1) := by decide +kernel
theorem dX6_ranks_1 : decode cX6_ranks 1 = .ok (.iload_n 1, 1) := by decide +kernel
theorem dX6_ranks_2 : decode cX6_ranks 2 = .ok (.iload_n 2, 1) := by decide +kernel
theorem dX6_ranks_3 : decode cX6_ranks 3 = .ok (.iload_n 3, 1) := by decide +kernel
theorem dX6_ranks_4 : decode cX6_ranks 4 = .ok (.invokevirtual 234, 3) := by decide +kernel
theorem dX6_ranks_7 : decode cX6_ranks 7 = .ok (.istore 4, 2) := by decide +kernel
theorem dX6_ranks_9 : decode cX6_ranks 9 = .ok (.iload 4, 2) := by decide +kernel
theorem dX6_ranks_11 : decode cX6_ranks 11 = .ok (.ifCond .ge 6, 3) := by decide +kernel
theorem dX6_ranks_14 : decode cX6_ranks 14 = .ok (.iload 4, 2) := by decide +kernel
theorem dX6_ranks_16 : decode cX6_ranks 16 = .ok (.ireturn, 1) := by decide +kernel
theorem dX6_ranks_17 : decode cX6_ranks 17 = .ok (.aload_n 0, 1) := by decide +kernel
theorem dX6_ranks_18 : decode cX6_ranks 18 = .ok (.getfield 16, 3) := by decide +kernel
theorem dX6_ranks_21 : decode cX6_ranks 21 = .ok (.aload_n 0, 1) := by decide +kernel
theorem dX6_ranks_22 : decode cX6_ranks 22 = .ok (.getfield 10, 3) := by decide +kernel
theorem dX6_ranks_25 : decode cX6_ranks 25 = .ok (.invokevirtual 184, 3) := by decide +kernel
theorem dX6_ranks_28 : decode cX6_ranks 28 = .ok (.iconst 0, 1) := by decide +kernel
theorem dX6_ranks_29 : decode cX6_ranks 29 = .ok (.istore 5, 2) := by decide +kernel
theorem dX6_ranks_31 : decode cX6_ranks 31 = .ok (.iconst (-1), 1) := by decide +kernel
theorem dX6_ranks_32 : decode cX6_ranks 32 = .ok (.istore 6, 2) := by decide +kernel
theorem dX6_ranks_34 : decode cX6_ranks 34 = .ok (.bipush 99, 2) := by decide +kernel
theorem dX6_ranks_36 : decode cX6_ranks 36 = .ok (.istore 7, 2) := by decide +kernel
theorem dX6_ranks_38 : decode cX6_ranks 38 = .ok (.iload 7, 2) := by decide +kernel
theorem dX6_ranks_40 : decode cX6_ranks 40 = .ok (.ifCond .lt 45, 3) := by decide +kernel
theorem dX6_ranks_43 : decode cX6_ranks 43 = .ok (.aload_n 0, 1) := by decide +kernel
theorem dX6_ranks_44 : decode cX6_ranks 44 = .ok (.getfield 16, 3) := by decide +kernel
theorem dX6_ranks_47 : decode cX6_ranks 47 = .ok (.getfield 129, 3) := by decide +kernel
theorem dX6_ranks_50 : decode cX6_ranks 50 = .ok (.iload_n 2, 1) := by decide +kernel
theorem dX6_ranks_51 : decode cX6_ranks 51 = .ok (.iload 7, 2) := by decide +kernel
theorem dX6_ranks_53 : decode cX6_ranks 53 = .ok (.iastore, 1) := by decide +kernel
theorem dX6_ranks_54 : decode cX6_ranks 54 = .ok (.aload_n 0, 1) := by decide +kernel
theorem dX6_ranks_55 : decode cX6_ranks 55 = .ok (.aload_n 0, 1) := by decide +kernel
theorem dX6_ranks_56 : decode cX6_ranks 56 = .ok (.getfield 62, 3) := by decide +kernel
theorem dX6_ranks_59 : decode cX6_ranks 59 = .ok (.iload_n 1, 1) := by decide +kernel
theorem dX6_ranks_60 : decode cX6_ranks 60 = .ok (.aaload, 1) := by decide +kernel
theorem dX6_ranks_61 : decode cX6_ranks 61 = .ok (.aload_n 0, 1) := by decide +kernel
theorem dX6_ranks_62 : decode cX6_ranks 62 = .ok (.getfield 16, 3) := by decide +kernel
theorem dX6_ranks_65 : decode cX6_ranks 65 = .ok (.invokevirtual 230, 3) := by decide +kernel
theorem dX6_ranks_68 : decode cX6_ranks 68 = .ok (.iconst (-1), 1) := by decide +kernel
theorem dX6_ranks_69 : decode cX6_ranks 69 = .ok (.if_icmp .ne 10, 3) := by decide +kernel
theorem dX6_ranks_72 : decode cX6_ranks 72 = .ok (.iinc 5 1, 3) := by decide +kernel
theorem dX6_ranks_75 : decode cX6_ranks 75 = .ok (.iload 7, 2) := by decide +kernel
theorem dX6_ranks_77 : decode cX6_ranks 77 = .ok (.istore 6, 2) := by decide +kernel
theorem dX6_ranks_79 : decode cX6_ranks 79 = .ok (.iinc 7 (-1), 3) := by decide +kernel
theorem dX6_ranks_82 : decode cX6_ranks 82 = .ok (.goto (-44), 3) := by decide +kernel
theorem dX6_ranks_85 : decode cX6_ranks 85 = .ok (.iload_n 3, 1) := by decide +kernel
theorem dX6_ranks_86 : decode cX6_ranks 86 = .ok (.ifCond .ne 8, 3) := by decide +kernel
theorem dX6_ranks_89 : decode cX6_ranks 89 = .ok (.iload 5, 2) := by decide +kernel
theorem dX6_ranks_91 : decode cX6_ranks 91 = .ok (.goto 5, 3) := by decide +kernel
theorem dX6_ranks_94 : decode cX6_ranks 94 = .ok (.iload 6, 2) := by decide +kernel
theorem dX6_ranks_96 : decode cX6_ranks 96 = .ok (.ireturn, 1) := by decide +kernel
set_option maxRecDepth 20000 in
theorem ggX6_heats_X6_refusalOfTold : GoodIn wsX6_heats wsX6_refusalOfTold := goodIn_q _ [8, 11, 14, 19] [3, 2, 9, 10, 7, 12, 13, 15, 16, 17, 18, 20, 116, 117, 118, 119, 120, 121, 122, 123, 124, 125, 126, 127, 137, 138, 139, 128, 129, 130, 131, 132, 133, 134, 135, 136] rfl (by decide +kernel) (by decide +kernel)
set_option maxRecDepth 20000 in
theorem gX6_heats_X6_refusalOfTold : GoodIn wsX6_heats (wsV RX6 227 RX6 yX6_refusalOfTold wsX6_refusalOfTold) := goodIn_app (goodIn_of _ (by decide +kernel)) ggX6_heats_X6_refusalOfTold
set_option maxRecDepth 20000 in
theorem ggX6_heats_X6_isWithin : GoodIn wsX6_heats wsX6_isWithin := goodIn_q _ [14] [] rfl (by decide +kernel) (by decide +kernel)
set_option maxRecDepth 20000 in
theorem gX6_heats_X6_isWithin : GoodIn wsX6_heats (va_wsS RX6 86 yX6_isWithin wsX6_isWithin) := goodIn_app (goodIn_of _ (by decide +kernel)) ggX6_heats_X6_isWithin
set_option maxRecDepth 20000 in
theorem ggX6_heats_X1_takeFrom : GoodIn wsX6_heats wsX1_takeFrom := goodIn_q _ [25] [26, 27, 28, 29, 30, 31, 32, 33, 34, 128, 129, 130, 131, 132, 133, 134, 135, 136] rfl (by decide +kernel) (by decide +kernel)
set_option maxRecDepth 20000 in
theorem gX6_heats_X1_takeFrom : GoodIn wsX6_heats (wsV RX6 184 RX1 yX1_takeFrom wsX1_takeFrom) := goodIn_app (goodIn_of _ (by decide +kernel)) ggX6_heats_X1_takeFrom
set_option maxRecDepth 20000 in
theorem ggX6_heats_X6_firstOtherwise : GoodIn wsX6_heats wsX6_firstOtherwise := goodIn_q _ [38, 43, 14, 51, 59, 63, 70, 74, 80, 85, 89, 94, 99, 101, 104, 107, 110, 112, 115] [39, 40, 41, 42, 7, 44, 45, 46, 12, 13, 47, 48, 49, 50, 52, 53, 54, 55, 56, 57, 58, 60, 61, 62, 64, 65, 66, 67, 68, 69, 24, 33, 71, 72, 73, 75, 76, 77, 78, 79, 81, 82, 83, 84, 86, 87, 88, 90, 91, 92, 93, 95, 96, 97, 98, 100, 102, 103, 105, 106, 108, 109, 111, 113, 114, 116, 117, 118, 119, 120, 121, 122, 123, 124, 125, 126, 127, 137, 138, 139, 140, 141, 142, 143, 144, 145, 146, 147, 148, 149, 150, 128, 129, 130, 131, 132, 133, 134, 135, 136, 151, 152] rfl (by decide +kernel) (by decide +kernel)
set_option maxRecDepth 20000 in
theorem gX6_heats_X6_firstOtherwise : GoodIn wsX6_heats (wsV RX6 230 RX6 yX6_firstOtherwise wsX6_firstOtherwise) := goodIn_app (goodIn_of _ (by decide +kernel)) ggX6_heats_X6_firstOtherwise
theorem dX6_heats_0 : decode cX6_heats 0 = .ok (.aload_n 0, 1) := by decide +kernel
theorem dX6_heats_1 : decode cX6_heats 1 = .ok (.iload_n 1, 1) := by decide +kernel
theorem dX6_heats_2 : decode cX6_heats 2 = .ok (.invokevirtual 227, 3) := by decide +kernel
theorem dX6_heats_5 : decode cX6_heats 5 = .ok (.istore_n 3, 1) := by decide +kernel
theorem dX6_heats_6 : decode cX6_heats 6 = .ok (.iload_n 3, 1) := by decide +kernel
theorem dX6_heats_7 : decode cX6_heats 7 = .ok (.ifCond .ge 5, 3) := by decide +kernel
theorem dX6_heats_10 : decode cX6_heats 10 = .ok (.iload_n 3, 1) := by decide +kernel
theorem dX6_heats_11 : decode cX6_heats 11 = .ok (.ireturn, 1) := by decide +kernel
theorem dX6_heats_12 : decode cX6_heats 12 = .ok (.iload_n 2, 1) := by decide +kernel
theorem dX6_heats_13 : decode cX6_heats 13 = .ok (.iconst 0, 1) := by decide +kernel
theorem dX6_heats_14 : decode cX6_heats 14 = .ok (.iconst 1, 1) := by decide +kernel
theorem dX6_heats_15 : decode cX6_heats 15 = .ok (.invokestatic 86, 3) := by decide +kernel
theorem dX6_heats_18 : decode cX6_heats 18 = .ok (.ifCond .ne 6, 3) := by decide +kernel
theorem dX6_heats_21 : decode cX6_heats 21 = .ok (.bipush (-7), 2) := by decide +kernel
theorem dX6_heats_23 : decode cX6_heats 23 = .ok (.ireturn, 1) := by decide +kernel
theorem dX6_heats_24 : decode cX6_heats 24 = .ok (.aload_n 0, 1) := by decide +kernel
theorem dX6_heats_25 : decode cX6_heats 25 = .ok (.getfield 16, 3) := by decide +kernel
theorem dX6_heats_28 : decode cX6_heats 28 = .ok (.aload_n 0, 1) := by decide +kernel
theorem dX6_heats_29 : decode cX6_heats 29 = .ok (.getfield 10, 3) := by decide +kernel
theorem dX6_heats_32 : decode cX6_heats 32 = .ok (.invokevirtual 184, 3) := by decide +kernel
theorem dX6_heats_35 : decode cX6_heats 35 = .ok (.iconst 0, 1) := by decide +kernel
theorem dX6_heats_36 : decode cX6_heats 36 = .ok (.istore 4, 2) := by decide +kernel
theorem dX6_heats_38 : decode cX6_heats 38 = .ok (.iconst (-1), 1) := by decide +kernel
theorem dX6_heats_39 : decode cX6_heats 39 = .ok (.istore 5, 2) := by decide +kernel
theorem dX6_heats_41 : decode cX6_heats 41 = .ok (.bipush 99, 2) := by decide +kernel
theorem dX6_heats_43 : decode cX6_heats 43 = .ok (.istore 6, 2) := by decide +kernel
theorem dX6_heats_45 : decode cX6_heats 45 = .ok (.iload 6, 2) := by decide +kernel
theorem dX6_heats_47 : decode cX6_heats 47 = .ok (.ifCond .lt 43, 3) := by decide +kernel
theorem dX6_heats_50 : decode cX6_heats 50 = .ok (.aload_n 0, 1) := by decide +kernel
theorem dX6_heats_51 : decode cX6_heats 51 = .ok (.getfield 16, 3) := by decide +kernel
theorem dX6_heats_54 : decode cX6_heats 54 = .ok (.iload 6, 2) := by decide +kernel
theorem dX6_heats_56 : decode cX6_heats 56 = .ok (.putfield 77, 3) := by decide +kernel
theorem dX6_heats_59 : decode cX6_heats 59 = .ok (.aload_n 0, 1) := by decide +kernel
theorem dX6_heats_60 : decode cX6_heats 60 = .ok (.aload_n 0, 1) := by decide +kernel
theorem dX6_heats_61 : decode cX6_heats 61 = .ok (.getfield 62, 3) := by decide +kernel
theorem dX6_heats_64 : decode cX6_heats 64 = .ok (.iload_n 1, 1) := by decide +kernel
theorem dX6_heats_65 : decode cX6_heats 65 = .ok (.aaload, 1) := by decide +kernel
theorem dX6_heats_66 : decode cX6_heats 66 = .ok (.aload_n 0, 1) := by decide +kernel
theorem dX6_heats_67 : decode cX6_heats 67 = .ok (.getfield 16, 3) := by decide +kernel
theorem dX6_heats_70 : decode cX6_heats 70 = .ok (.invokevirtual 230, 3) := by decide +kernel
theorem dX6_heats_73 : decode cX6_heats 73 = .ok (.iconst (-1), 1) := by decide +kernel
theorem dX6_heats_74 : decode cX6_heats 74 = .ok (.if_icmp .ne 10, 3) := by decide +kernel
theorem dX6_heats_77 : decode cX6_heats 77 = .ok (.iinc 4 1, 3) := by decide +kernel
theorem dX6_heats_80 : decode cX6_heats 80 = .ok (.iload 6, 2) := by decide +kernel
theorem dX6_heats_82 : decode cX6_heats 82 = .ok (.istore 5, 2) := by decide +kernel
theorem dX6_heats_84 : decode cX6_heats 84 = .ok (.iinc 6 (-1), 3) := by decide +kernel
theorem dX6_heats_87 : decode cX6_heats 87 = .ok (.goto (-42), 3) := by decide +kernel
theorem dX6_heats_90 : decode cX6_heats 90 = .ok (.iload_n 2, 1) := by decide +kernel
theorem dX6_heats_91 : decode cX6_heats 91 = .ok (.ifCond .ne 8, 3) := by decide +kernel
theorem dX6_heats_94 : decode cX6_heats 94 = .ok (.iload 4, 2) := by decide +kernel
theorem dX6_heats_96 : decode cX6_heats 96 = .ok (.goto 5, 3) := by decide +kernel
theorem dX6_heats_99 : decode cX6_heats 99 = .ok (.iload 5, 2) := by decide +kernel
theorem dX6_heats_101 : decode cX6_heats 101 = .ok (.ireturn, 1) := by decide +kernel
set_option maxRecDepth 20000 in
theorem ggX6_laws_X6_refusalOfTold : GoodIn wsX6_laws wsX6_refusalOfTold := goodIn_q _ [9, 12, 15, 20] [4, 2, 10, 11, 8, 13, 14, 16, 17, 18, 19, 21, 116, 117, 118, 119, 120, 121, 122, 123, 124, 125, 126, 127, 137, 138, 139, 128, 129, 130, 131, 132, 133, 134, 135, 136] rfl (by decide +kernel) (by decide +kernel)
set_option maxRecDepth 20000 in
theorem gX6_laws_X6_refusalOfTold : GoodIn wsX6_laws (wsV RX6 227 RX6 yX6_refusalOfTold wsX6_refusalOfTold) := goodIn_app (goodIn_of _ (by decide +kernel)) ggX6_laws_X6_refusalOfTold
set_option maxRecDepth 20000 in
theorem ggX6_laws_X1_takeFrom : GoodIn wsX6_laws wsX1_takeFrom := goodIn_q _ [26] [27, 28, 29, 30, 31, 32, 33, 34, 35, 128, 129, 130, 131, 132, 133, 134, 135, 136] rfl (by decide +kernel) (by decide +kernel)
set_option maxRecDepth 20000 in
theorem gX6_laws_X1_takeFrom : GoodIn wsX6_laws (wsV RX6 184 RX1 yX1_takeFrom wsX1_takeFrom) := goodIn_app (goodIn_of _ (by decide +kernel)) ggX6_laws_X1_takeFrom
set_option maxRecDepth 20000 in
theorem ggX6_laws_X6_firstOtherwise : GoodIn wsX6_laws wsX6_firstOtherwise := goodIn_q _ [39, 44, 15, 51, 59, 63, 70, 74, 80, 85, 89, 94, 99, 101, 104, 107, 110, 112, 115] [40, 41, 42, 43, 8, 3, 45, 46, 13, 14, 47, 48, 49, 50, 52, 53, 54, 55, 56, 57, 58, 60, 61, 62, 64, 65, 66, 67, 68, 69, 25, 34, 71, 72, 73, 75, 76, 77, 78, 79, 81, 82, 83, 84, 86, 87, 88, 90, 91, 92, 93, 95, 96, 97, 98, 100, 102, 103, 105, 106, 108, 109, 111, 113, 114, 116, 117, 118, 119, 120, 121, 122, 123, 124, 125, 126, 127, 137, 138, 139, 140, 141, 142, 143, 144, 145, 146, 147, 148, 149, 150, 128, 129, 130, 131, 132, 133, 134, 135, 136, 151, 152] rfl (by decide +kernel) (by decide +kernel)
set_option maxRecDepth 20000 in
theorem gX6_laws_X6_firstOtherwise : GoodIn wsX6_laws (wsV RX6 230 RX6 yX6_firstOtherwise wsX6_firstOtherwise) := goodIn_app (goodIn_of _ (by decide +kernel)) ggX6_laws_X6_firstOtherwise
theorem dX6_laws_0 : decode cX6_laws 0 = .ok (.aload_n 0, 1) := by decide +kernel
theorem dX6_laws_1 : decode cX6_laws 1 = .ok (.iload_n 1, 1) := by decide +kernel
theorem dX6_laws_2 : decode cX6_laws 2 = .ok (.invokevirtual 227, 3) := by decide +kernel
theorem dX6_laws_5 : decode cX6_laws 5 = .ok (.istore_n 2, 1) := by decide +kernel
theorem dX6_laws_6 : decode cX6_laws 6 = .ok (.iload_n 2, 1) := by decide +kernel
theorem dX6_laws_7 : decode cX6_laws 7 = .ok (.ifCond .ge 5, 3) := by decide +kernel
theorem dX6_laws_10 : decode cX6_laws 10 = .ok (.iload_n 2, 1) := by decide +kernel
theorem dX6_laws_11 : decode cX6_laws 11 = .ok (.ireturn, 1) := by decide +kernel
theorem dX6_laws_12 : decode cX6_laws 12 = .ok (.aload_n 0, 1) := by decide +kernel
theorem dX6_laws_13 : decode cX6_laws 13 = .ok (.getfield 16, 3) := by decide +kernel
theorem dX6_laws_16 : decode cX6_laws 16 = .ok (.aload_n 0, 1) := by decide +kernel
theorem dX6_laws_17 : decode cX6_laws 17 = .ok (.getfield 10, 3) := by decide +kernel
theorem dX6_laws_20 : decode cX6_laws 20 = .ok (.invokevirtual 184, 3) := by decide +kernel
theorem dX6_laws_23 : decode cX6_laws 23 = .ok (.iconst 0, 1) := by decide +kernel
theorem dX6_laws_24 : decode cX6_laws 24 = .ok (.istore_n 3, 1) := by decide +kernel
theorem dX6_laws_25 : decode cX6_laws 25 = .ok (.iconst 0, 1) := by decide +kernel
theorem dX6_laws_26 : decode cX6_laws 26 = .ok (.istore 4, 2) := by decide +kernel
theorem dX6_laws_28 : decode cX6_laws 28 = .ok (.iload 4, 2) := by decide +kernel
theorem dX6_laws_30 : decode cX6_laws 30 = .ok (.aload_n 0, 1) := by decide +kernel
theorem dX6_laws_31 : decode cX6_laws 31 = .ok (.getfield 49, 3) := by decide +kernel
theorem dX6_laws_34 : decode cX6_laws 34 = .ok (.if_icmp .ge 43, 3) := by decide +kernel
theorem dX6_laws_37 : decode cX6_laws 37 = .ok (.aload_n 0, 1) := by decide +kernel
theorem dX6_laws_38 : decode cX6_laws 38 = .ok (.getfield 16, 3) := by decide +kernel
theorem dX6_laws_41 : decode cX6_laws 41 = .ok (.iload 4, 2) := by decide +kernel
theorem dX6_laws_43 : decode cX6_laws 43 = .ok (.putfield 80, 3) := by decide +kernel
theorem dX6_laws_46 : decode cX6_laws 46 = .ok (.aload_n 0, 1) := by decide +kernel
theorem dX6_laws_47 : decode cX6_laws 47 = .ok (.aload_n 0, 1) := by decide +kernel
theorem dX6_laws_48 : decode cX6_laws 48 = .ok (.getfield 62, 3) := by decide +kernel
theorem dX6_laws_51 : decode cX6_laws 51 = .ok (.iload_n 1, 1) := by decide +kernel
theorem dX6_laws_52 : decode cX6_laws 52 = .ok (.aaload, 1) := by decide +kernel
theorem dX6_laws_53 : decode cX6_laws 53 = .ok (.aload_n 0, 1) := by decide +kernel
theorem dX6_laws_54 : decode cX6_laws 54 = .ok (.getfield 16, 3) := by decide +kernel
theorem dX6_laws_57 : decode cX6_laws 57 = .ok (.invokevirtual 230, 3) := by decide +kernel
theorem dX6_laws_60 : decode cX6_laws 60 = .ok (.iconst (-1), 1) := by decide +kernel
theorem dX6_laws_61 : decode cX6_laws 61 = .ok (.if_icmp .ne 10, 3) := by decide +kernel
theorem dX6_laws_64 : decode cX6_laws 64 = .ok (.iload_n 3, 1) := by decide +kernel
theorem dX6_laws_65 : decode cX6_laws 65 = .ok (.iconst 1, 1) := by decide +kernel
theorem dX6_laws_66 : decode cX6_laws 66 = .ok (.iload 4, 2) := by decide +kernel
theorem dX6_laws_68 : decode cX6_laws 68 = .ok (.ishl, 1) := by decide +kernel
theorem dX6_laws_69 : decode cX6_laws 69 = .ok (.ior, 1) := by decide +kernel
theorem dX6_laws_70 : decode cX6_laws 70 = .ok (.istore_n 3, 1) := by decide +kernel
theorem dX6_laws_71 : decode cX6_laws 71 = .ok (.iinc 4 1, 3) := by decide +kernel
theorem dX6_laws_74 : decode cX6_laws 74 = .ok (.goto (-46), 3) := by decide +kernel
theorem dX6_laws_77 : decode cX6_laws 77 = .ok (.iload_n 3, 1) := by decide +kernel
theorem dX6_laws_78 : decode cX6_laws 78 = .ok (.ireturn, 1) := by decide +kernel
set_option maxRecDepth 20000 in
theorem ggX6_film_X6_isSheet : GoodIn wsX6_film wsX6_isSheet := goodIn_q _ [7, 10] [8, 9, 6] rfl (by decide +kernel) (by decide +kernel)
set_option maxRecDepth 20000 in
theorem gX6_film_X6_isSheet : GoodIn wsX6_film (va_wsS RX6 237 yX6_isSheet wsX6_isSheet) := goodIn_app (goodIn_of _ (by decide +kernel)) ggX6_film_X6_isSheet
set_option maxRecDepth 20000 in
theorem ggX6_film_X6_serve : GoodIn wsX6_film wsX6_serve := goodIn_q _ [14, 18, 10, 26, 34, 38, 46, 51, 57, 62, 66, 71, 76, 78, 81, 84, 87, 89, 92] [3, 15, 16, 17, 6, 19, 20, 21, 8, 9, 22, 23, 24, 25, 27, 28, 29, 30, 31, 32, 33, 35, 36, 37, 39, 40, 41, 42, 43, 44, 45, 47, 48, 49, 50, 52, 53, 54, 55, 56, 58, 59, 60, 61, 63, 64, 65, 67, 68, 69, 70, 72, 73, 74, 75, 77, 79, 80, 82, 83, 85, 86, 88, 90, 91, 111, 112, 113, 114, 115, 116, 117, 118, 119, 120, 121, 122, 123, 124, 125, 126, 127, 128, 129, 130, 131, 132, 133, 134, 135, 136, 137, 138, 139, 140, 141, 142, 143, 144] rfl (by decide +kernel) (by decide +kernel)
set_option maxRecDepth 20000 in
theorem gX6_film_X6_serve : GoodIn wsX6_film (wsV RX6 141 RX6 yX6_serve wsX6_serve) := goodIn_app (goodIn_of _ (by decide +kernel)) ggX6_film_X6_serve
set_option maxRecDepth 20000 in
theorem ggX6_film_X3_become : GoodIn wsX6_film wsX3_become := goodIn_q _ [97, 66, 34] [98, 99, 65, 33, 100, 32, 101, 102, 145, 146, 147] rfl (by decide +kernel) (by decide +kernel)
set_option maxRecDepth 20000 in
theorem gX6_film_X3_become : GoodIn wsX6_film (wsV RX6 240 RX3 yX3_become wsX3_become) := goodIn_app (goodIn_of _ (by decide +kernel)) ggX6_film_X3_become
set_option maxRecDepth 20000 in
theorem ggX6_film_X3_write : GoodIn wsX6_film wsX3_write := goodIn_q _ [106, 110] [102, 98, 107, 108, 109, 96, 101, 145, 146, 147] rfl (by decide +kernel) (by decide +kernel)
set_option maxRecDepth 20000 in
theorem gX6_film_X3_write : GoodIn wsX6_film (wsV RX6 243 RX3 yX3_write wsX3_write) := goodIn_app (goodIn_of _ (by decide +kernel)) ggX6_film_X3_write
theorem dX6_film_0 : decode cX6_film 0 = .ok (.iload_n 1, 1) := by decide +kernel
theorem dX6_film_1 : decode cX6_film 1 = .ok (.invokestatic 237, 3) := by decide +kernel
theorem dX6_film_4 : decode cX6_film 4 = .ok (.ifCond .ne 6, 3) := by decide +kernel
theorem dX6_film_7 : decode cX6_film 7 = .ok (.bipush (-2), 2) := by decide +kernel
theorem dX6_film_9 : decode cX6_film 9 = .ok (.ireturn, 1) := by decide +kernel
theorem dX6_film_10 : decode cX6_film 10 = .ok (.aload_n 0, 1) := by decide +kernel
theorem dX6_film_11 : decode cX6_film 11 = .ok (.aload_n 0, 1) := by decide +kernel
theorem dX6_film_12 : decode cX6_film 12 = .ok (.getfield 10, 3) := by decide +kernel
theorem dX6_film_15 : decode cX6_film 15 = .ok (.invokevirtual 141, 3) := by decide +kernel
theorem dX6_film_18 : decode cX6_film 18 = .ok (.pop, 1) := by decide +kernel
theorem dX6_film_19 : decode cX6_film 19 = .ok (.aload_n 0, 1) := by decide +kernel
theorem dX6_film_20 : decode cX6_film 20 = .ok (.getfield 62, 3) := by decide +kernel
theorem dX6_film_23 : decode cX6_film 23 = .ok (.iload_n 1, 1) := by decide +kernel
theorem dX6_film_24 : decode cX6_film 24 = .ok (.aaload, 1) := by decide +kernel
theorem dX6_film_25 : decode cX6_film 25 = .ok (.iconst 0, 1) := by decide +kernel
theorem dX6_film_26 : decode cX6_film 26 = .ok (.aload_n 0, 1) := by decide +kernel
theorem dX6_film_27 : decode cX6_film 27 = .ok (.getfield 10, 3) := by decide +kernel
theorem dX6_film_30 : decode cX6_film 30 = .ok (.getfield 71, 3) := by decide +kernel
theorem dX6_film_33 : decode cX6_film 33 = .ok (.invokevirtual 240, 3) := by decide +kernel
theorem dX6_film_36 : decode cX6_film 36 = .ok (.iconst 0, 1) := by decide +kernel
theorem dX6_film_37 : decode cX6_film 37 = .ok (.istore_n 2, 1) := by decide +kernel
theorem dX6_film_38 : decode cX6_film 38 = .ok (.iload_n 2, 1) := by decide +kernel
theorem dX6_film_39 : decode cX6_film 39 = .ok (.aload_n 0, 1) := by decide +kernel
theorem dX6_film_40 : decode cX6_film 40 = .ok (.getfield 10, 3) := by decide +kernel
theorem dX6_film_43 : decode cX6_film 43 = .ok (.getfield 71, 3) := by decide +kernel
theorem dX6_film_46 : decode cX6_film 46 = .ok (.if_icmp .ge 28, 3) := by decide +kernel
theorem dX6_film_49 : decode cX6_film 49 = .ok (.aload_n 0, 1) := by decide +kernel
theorem dX6_film_50 : decode cX6_film 50 = .ok (.getfield 62, 3) := by decide +kernel
theorem dX6_film_53 : decode cX6_film 53 = .ok (.iload_n 1, 1) := by decide +kernel
theorem dX6_film_54 : decode cX6_film 54 = .ok (.aaload, 1) := by decide +kernel
theorem dX6_film_55 : decode cX6_film 55 = .ok (.iload_n 2, 1) := by decide +kernel
theorem dX6_film_56 : decode cX6_film 56 = .ok (.aload_n 0, 1) := by decide +kernel
theorem dX6_film_57 : decode cX6_film 57 = .ok (.getfield 25, 3) := by decide +kernel
theorem dX6_film_60 : decode cX6_film 60 = .ok (.getfield 151, 3) := by decide +kernel
theorem dX6_film_63 : decode cX6_film 63 = .ok (.iload_n 2, 1) := by decide +kernel
theorem dX6_film_64 : decode cX6_film 64 = .ok (.iaload, 1) := by decide +kernel
theorem dX6_film_65 : decode cX6_film 65 = .ok (.invokevirtual 243, 3) := by decide +kernel
theorem dX6_film_68 : decode cX6_film 68 = .ok (.iinc 2 1, 3) := by decide +kernel
theorem dX6_film_71 : decode cX6_film 71 = .ok (.goto (-33), 3) := by decide +kernel
theorem dX6_film_74 : decode cX6_film 74 = .ok (.aload_n 0, 1) := by decide +kernel
theorem dX6_film_75 : decode cX6_film 75 = .ok (.getfield 10, 3) := by decide +kernel
theorem dX6_film_78 : decode cX6_film 78 = .ok (.getfield 71, 3) := by decide +kernel
theorem dX6_film_81 : decode cX6_film 81 = .ok (.ireturn, 1) := by decide +kernel
set_option maxRecDepth 20000 in
theorem ggX6_drawn_X6_isWithin : GoodIn wsX6_drawn wsX6_isWithin := goodIn_q _ [9] [] rfl (by decide +kernel) (by decide +kernel)
set_option maxRecDepth 20000 in
theorem gX6_drawn_X6_isWithin : GoodIn wsX6_drawn (va_wsS RX6 86 yX6_isWithin wsX6_isWithin) := goodIn_app (goodIn_of _ (by decide +kernel)) ggX6_drawn_X6_isWithin
set_option maxRecDepth 20000 in
theorem ggX6_drawn_X1_takeFrom : GoodIn wsX6_drawn wsX1_takeFrom := goodIn_q _ [14] [15, 16, 17, 18, 19, 20, 21, 22, 23, 127, 128, 129, 130, 131, 132, 133, 134, 135] rfl (by decide +kernel) (by decide +kernel)
set_option maxRecDepth 20000 in
theorem gX6_drawn_X1_takeFrom : GoodIn wsX6_drawn (wsV RX6 184 RX1 yX1_takeFrom wsX1_takeFrom) := goodIn_app (goodIn_of _ (by decide +kernel)) ggX6_drawn_X1_takeFrom
set_option maxRecDepth 20000 in
theorem ggX6_drawn_X1_drawRanks : GoodIn wsX6_drawn wsX1_drawRanks := goodIn_q _ [27] [15, 28, 29, 22, 30, 127, 128, 129, 130, 131, 132, 133, 134, 135] rfl (by decide +kernel) (by decide +kernel)
set_option maxRecDepth 20000 in
theorem gX6_drawn_X1_drawRanks : GoodIn wsX6_drawn (wsV RX6 247 RX1 yX1_drawRanks wsX1_drawRanks) := goodIn_app (goodIn_of _ (by decide +kernel)) ggX6_drawn_X1_drawRanks
set_option maxRecDepth 20000 in
theorem ggX6_drawn_X6_serve : GoodIn wsX6_drawn wsX6_serve := goodIn_q _ [34, 38, 9, 46, 54, 58, 65, 69, 75, 80, 84, 89, 94, 96, 99, 102, 105, 107, 110] [5, 35, 36, 37, 8, 39, 40, 41, 6, 7, 42, 43, 44, 45, 47, 48, 49, 50, 51, 52, 53, 55, 56, 57, 59, 60, 61, 62, 63, 64, 13, 22, 66, 67, 68, 70, 71, 72, 73, 74, 76, 77, 78, 79, 81, 82, 83, 85, 86, 87, 88, 90, 91, 92, 93, 95, 97, 98, 100, 101, 103, 104, 106, 108, 109, 115, 116, 117, 118, 119, 120, 121, 122, 123, 124, 125, 126, 127, 128, 129, 130, 131, 132, 133, 134, 135, 136, 137, 138, 139, 140, 141, 142, 143, 144, 145, 146, 147, 148] rfl (by decide +kernel) (by decide +kernel)
set_option maxRecDepth 20000 in
theorem gX6_drawn_X6_serve : GoodIn wsX6_drawn (wsV RX6 141 RX6 yX6_serve wsX6_serve) := goodIn_app (goodIn_of _ (by decide +kernel)) ggX6_drawn_X6_serve
set_option maxRecDepth 20000 in
theorem ggX6_drawn_X2_last : GoodIn wsX6_drawn wsX2_last := goodIn_q _ [114] [47, 50, 136, 137, 138, 139, 140, 141, 142, 143, 144, 145, 146] rfl (by decide +kernel) (by decide +kernel)
set_option maxRecDepth 20000 in
theorem gX6_drawn_X2_last : GoodIn wsX6_drawn (wsV RX6 163 RX2 yX2_last wsX2_last) := goodIn_app (goodIn_of _ (by decide +kernel)) ggX6_drawn_X2_last
theorem dX6_drawn_0 : decode cX6_drawn 0 = .ok (.iload_n 1, 1) := by decide +kernel
theorem dX6_drawn_1 : decode cX6_drawn 1 = .ok (.iconst 0, 1) := by decide +kernel
theorem dX6_drawn_2 : decode cX6_drawn 2 = .ok (.ldc 246, 2) := by decide +kernel
theorem dX6_drawn_4 : decode cX6_drawn 4 = .ok (.invokestatic 86, 3) := by decide +kernel
theorem dX6_drawn_7 : decode cX6_drawn 7 = .ok (.ifCond .eq 12, 3) := by decide +kernel
theorem dX6_drawn_10 : decode cX6_drawn 10 = .ok (.iload_n 2, 1) := by decide +kernel
theorem dX6_drawn_11 : decode cX6_drawn 11 = .ok (.iconst 0, 1) := by decide +kernel
theorem dX6_drawn_12 : decode cX6_drawn 12 = .ok (.iconst 1, 1) := by decide +kernel
theorem dX6_drawn_13 : decode cX6_drawn 13 = .ok (.invokestatic 86, 3) := by decide +kernel
theorem dX6_drawn_16 : decode cX6_drawn 16 = .ok (.ifCond .ne 6, 3) := by decide +kernel
theorem dX6_drawn_19 : decode cX6_drawn 19 = .ok (.ldc 179, 2) := by decide +kernel
theorem dX6_drawn_21 : decode cX6_drawn 21 = .ok (.ireturn, 1) := by decide +kernel
theorem dX6_drawn_22 : decode cX6_drawn 22 = .ok (.aload_n 0, 1) := by decide +kernel
theorem dX6_drawn_23 : decode cX6_drawn 23 = .ok (.getfield 16, 3) := by decide +kernel
theorem dX6_drawn_26 : decode cX6_drawn 26 = .ok (.aload_n 0, 1) := by decide +kernel
theorem dX6_drawn_27 : decode cX6_drawn 27 = .ok (.getfield 10, 3) := by decide +kernel
theorem dX6_drawn_30 : decode cX6_drawn 30 = .ok (.invokevirtual 184, 3) := by decide +kernel
theorem dX6_drawn_33 : decode cX6_drawn 33 = .ok (.aload_n 0, 1) := by decide +kernel
theorem dX6_drawn_34 : decode cX6_drawn 34 = .ok (.getfield 16, 3) := by decide +kernel
theorem dX6_drawn_37 : decode cX6_drawn 37 = .ok (.iload_n 1, 1) := by decide +kernel
theorem dX6_drawn_38 : decode cX6_drawn 38 = .ok (.invokevirtual 247, 3) := by decide +kernel
theorem dX6_drawn_41 : decode cX6_drawn 41 = .ok (.aload_n 0, 1) := by decide +kernel
theorem dX6_drawn_42 : decode cX6_drawn 42 = .ok (.aload_n 0, 1) := by decide +kernel
theorem dX6_drawn_43 : decode cX6_drawn 43 = .ok (.getfield 16, 3) := by decide +kernel
theorem dX6_drawn_46 : decode cX6_drawn 46 = .ok (.invokevirtual 141, 3) := by decide +kernel
theorem dX6_drawn_49 : decode cX6_drawn 49 = .ok (.istore_n 3, 1) := by decide +kernel
theorem dX6_drawn_50 : decode cX6_drawn 50 = .ok (.iload_n 2, 1) := by decide +kernel
theorem dX6_drawn_51 : decode cX6_drawn 51 = .ok (.ifCond .ne 7, 3) := by decide +kernel
theorem dX6_drawn_54 : decode cX6_drawn 54 = .ok (.iload_n 3, 1) := by decide +kernel
theorem dX6_drawn_55 : decode cX6_drawn 55 = .ok (.goto 10, 3) := by decide +kernel
theorem dX6_drawn_58 : decode cX6_drawn 58 = .ok (.aload_n 0, 1) := by decide +kernel
theorem dX6_drawn_59 : decode cX6_drawn 59 = .ok (.getfield 25, 3) := by decide +kernel
theorem dX6_drawn_62 : decode cX6_drawn 62 = .ok (.invokevirtual 163, 3) := by decide +kernel
theorem dX6_drawn_65 : decode cX6_drawn 65 = .ok (.ireturn, 1) := by decide +kernel
set_option maxRecDepth 20000 in
theorem ggX6_odds_X6_isWithin : GoodIn wsX6_odds wsX6_isWithin := goodIn_q _ [8] [] rfl (by decide +kernel) (by decide +kernel)
set_option maxRecDepth 20000 in
theorem gX6_odds_X6_isWithin : GoodIn wsX6_odds (va_wsS RX6 86 yX6_isWithin wsX6_isWithin) := goodIn_app (goodIn_of _ (by decide +kernel)) ggX6_odds_X6_isWithin
set_option maxRecDepth 20000 in
theorem ggX6_odds_X1_takeFrom : GoodIn wsX6_odds wsX1_takeFrom := goodIn_q _ [13] [14, 15, 16, 17, 18, 19, 20, 21, 22, 126, 127, 128, 129, 130, 131, 132, 133, 134] rfl (by decide +kernel) (by decide +kernel)
set_option maxRecDepth 20000 in
theorem gX6_odds_X1_takeFrom : GoodIn wsX6_odds (wsV RX6 184 RX1 yX1_takeFrom wsX1_takeFrom) := goodIn_app (goodIn_of _ (by decide +kernel)) ggX6_odds_X1_takeFrom
set_option maxRecDepth 20000 in
theorem ggX6_odds_X1_drawRanks : GoodIn wsX6_odds wsX1_drawRanks := goodIn_q _ [26] [14, 27, 28, 21, 29, 126, 127, 128, 129, 130, 131, 132, 133, 134] rfl (by decide +kernel) (by decide +kernel)
set_option maxRecDepth 20000 in
theorem gX6_odds_X1_drawRanks : GoodIn wsX6_odds (wsV RX6 247 RX1 yX1_drawRanks wsX1_drawRanks) := goodIn_app (goodIn_of _ (by decide +kernel)) ggX6_odds_X1_drawRanks
set_option maxRecDepth 20000 in
theorem ggX6_odds_X6_serve : GoodIn wsX6_odds wsX6_serve := goodIn_q _ [33, 38, 8, 46, 54, 58, 65, 69, 75, 80, 84, 89, 94, 96, 99, 102, 105, 107, 110] [34, 35, 36, 37, 7, 39, 40, 41, 5, 6, 42, 43, 44, 45, 47, 48, 49, 50, 51, 52, 53, 55, 56, 57, 59, 60, 61, 62, 63, 64, 12, 21, 66, 67, 68, 70, 71, 72, 73, 74, 76, 77, 78, 79, 81, 82, 83, 85, 86, 87, 88, 90, 91, 92, 93, 95, 97, 98, 100, 101, 103, 104, 106, 108, 109, 114, 115, 116, 117, 118, 119, 120, 121, 122, 123, 124, 125, 126, 127, 128, 129, 130, 131, 132, 133, 134, 135, 136, 137, 138, 139, 140, 141, 142, 143, 144, 145, 146, 147] rfl (by decide +kernel) (by decide +kernel)
set_option maxRecDepth 20000 in
theorem gX6_odds_X6_serve : GoodIn wsX6_odds (wsV RX6 141 RX6 yX6_serve wsX6_serve) := goodIn_app (goodIn_of _ (by decide +kernel)) ggX6_odds_X6_serve
set_option maxRecDepth 20000 in
theorem ggX6_odds_X6_inLowestTerms : GoodIn wsX6_odds wsX6_inLowestTerms := goodIn_q _ [113] [] rfl (by decide +kernel) (by decide +kernel)
set_option maxRecDepth 20000 in
theorem gX6_odds_X6_inLowestTerms : GoodIn wsX6_odds (va_wsS RX6 223 yX6_inLowestTerms wsX6_inLowestTerms) := goodIn_app (goodIn_of _ (by decide +kernel)) ggX6_odds_X6_inLowestTerms
theorem dX6_odds_0 : decode cX6_odds 0 = .ok (.iload_n 1, 1) := by decide +kernel
theorem dX6_odds_1 : decode cX6_odds 1 = .ok (.iconst 0, 1) := by decide +kernel
theorem dX6_odds_2 : decode cX6_odds 2 = .ok (.ldc 246, 2) := by decide +kernel
theorem dX6_odds_4 : decode cX6_odds 4 = .ok (.invokestatic 86, 3) := by decide +kernel
theorem dX6_odds_7 : decode cX6_odds 7 = .ok (.ifCond .eq 36, 3) := by decide +kernel
theorem dX6_odds_10 : decode cX6_odds 10 = .ok (.iload_n 2, 1) := by decide +kernel
theorem dX6_odds_11 : decode cX6_odds 11 = .ok (.iconst 1, 1) := by decide +kernel
theorem dX6_odds_12 : decode cX6_odds 12 = .ok (.bipush 40, 2) := by decide +kernel
theorem dX6_odds_14 : decode cX6_odds 14 = .ok (.invokestatic 86, 3) := by decide +kernel
theorem dX6_odds_17 : decode cX6_odds 17 = .ok (.ifCond .eq 26, 3) := by decide +kernel
theorem dX6_odds_20 : decode cX6_odds 20 = .ok (.iload_n 3, 1) := by decide +kernel
theorem dX6_odds_21 : decode cX6_odds 21 = .ok (.sipush (-999), 3) := by decide +kernel
theorem dX6_odds_24 : decode cX6_odds 24 = .ok (.sipush 9999, 3) := by decide +kernel
theorem dX6_odds_27 : decode cX6_odds 27 = .ok (.invokestatic 86, 3) := by decide +kernel
theorem dX6_odds_30 : decode cX6_odds 30 = .ok (.ifCond .eq 13, 3) := by decide +kernel
theorem dX6_odds_33 : decode cX6_odds 33 = .ok (.iload 4, 2) := by decide +kernel
theorem dX6_odds_35 : decode cX6_odds 35 = .ok (.iconst 0, 1) := by decide +kernel
theorem dX6_odds_36 : decode cX6_odds 36 = .ok (.iconst 1, 1) := by decide +kernel
theorem dX6_odds_37 : decode cX6_odds 37 = .ok (.invokestatic 86, 3) := by decide +kernel
theorem dX6_odds_40 : decode cX6_odds 40 = .ok (.ifCond .ne 7, 3) := by decide +kernel
theorem dX6_odds_43 : decode cX6_odds 43 = .ok (.ldc2_w 221, 3) := by decide +kernel
theorem dX6_odds_46 : decode cX6_odds 46 = .ok (.lreturn, 1) := by decide +kernel
theorem dX6_odds_47 : decode cX6_odds 47 = .ok (.aload_n 0, 1) := by decide +kernel
theorem dX6_odds_48 : decode cX6_odds 48 = .ok (.getfield 16, 3) := by decide +kernel
theorem dX6_odds_51 : decode cX6_odds 51 = .ok (.aload_n 0, 1) := by decide +kernel
theorem dX6_odds_52 : decode cX6_odds 52 = .ok (.getfield 10, 3) := by decide +kernel
theorem dX6_odds_55 : decode cX6_odds 55 = .ok (.invokevirtual 184, 3) := by decide +kernel
theorem dX6_odds_58 : decode cX6_odds 58 = .ok (.iconst 0, 1) := by decide +kernel
theorem dX6_odds_59 : decode cX6_odds 59 = .ok (.istore 5, 2) := by decide +kernel
theorem dX6_odds_61 : decode cX6_odds 61 = .ok (.iconst 0, 1) := by decide +kernel
theorem dX6_odds_62 : decode cX6_odds 62 = .ok (.istore 6, 2) := by decide +kernel
theorem dX6_odds_64 : decode cX6_odds 64 = .ok (.iload 6, 2) := by decide +kernel
theorem dX6_odds_66 : decode cX6_odds 66 = .ok (.iload_n 2, 1) := by decide +kernel
theorem dX6_odds_67 : decode cX6_odds 67 = .ok (.if_icmp .ge 35, 3) := by decide +kernel
theorem dX6_odds_70 : decode cX6_odds 70 = .ok (.aload_n 0, 1) := by decide +kernel
theorem dX6_odds_71 : decode cX6_odds 71 = .ok (.getfield 16, 3) := by decide +kernel
theorem dX6_odds_74 : decode cX6_odds 74 = .ok (.iload_n 1, 1) := by decide +kernel
theorem dX6_odds_75 : decode cX6_odds 75 = .ok (.iload 6, 2) := by decide +kernel
theorem dX6_odds_77 : decode cX6_odds 77 = .ok (.iadd, 1) := by decide +kernel
theorem dX6_odds_78 : decode cX6_odds 78 = .ok (.invokevirtual 247, 3) := by decide +kernel
theorem dX6_odds_81 : decode cX6_odds 81 = .ok (.aload_n 0, 1) := by decide +kernel
theorem dX6_odds_82 : decode cX6_odds 82 = .ok (.aload_n 0, 1) := by decide +kernel
theorem dX6_odds_83 : decode cX6_odds 83 = .ok (.getfield 16, 3) := by decide +kernel
theorem dX6_odds_86 : decode cX6_odds 86 = .ok (.invokevirtual 141, 3) := by decide +kernel
theorem dX6_odds_89 : decode cX6_odds 89 = .ok (.iload_n 3, 1) := by decide +kernel
theorem dX6_odds_90 : decode cX6_odds 90 = .ok (.if_icmp .gt 6, 3) := by decide +kernel
theorem dX6_odds_93 : decode cX6_odds 93 = .ok (.iinc 5 1, 3) := by decide +kernel
theorem dX6_odds_96 : decode cX6_odds 96 = .ok (.iinc 6 1, 3) := by decide +kernel
theorem dX6_odds_99 : decode cX6_odds 99 = .ok (.goto (-35), 3) := by decide +kernel
theorem dX6_odds_102 : decode cX6_odds 102 = .ok (.iload 5, 2) := by decide +kernel
theorem dX6_odds_104 : decode cX6_odds 104 = .ok (.iload_n 2, 1) := by decide +kernel
theorem dX6_odds_105 : decode cX6_odds 105 = .ok (.iload 4, 2) := by decide +kernel
theorem dX6_odds_107 : decode cX6_odds 107 = .ok (.invokestatic 223, 3) := by decide +kernel
theorem dX6_odds_110 : decode cX6_odds 110 = .ok (.lreturn, 1) := by decide +kernel
set_option maxRecDepth 20000 in
theorem ggX6_image_X1_takeFrom : GoodIn wsX6_image wsX1_takeFrom := goodIn_q _ [8] [9, 10, 11, 12, 13, 14, 15, 16, 17, 30, 31, 32, 33, 34, 35, 36, 37, 38] rfl (by decide +kernel) (by decide +kernel)
set_option maxRecDepth 20000 in
theorem gX6_image_X1_takeFrom : GoodIn wsX6_image (wsV RX6 184 RX1 yX1_takeFrom wsX1_takeFrom) := goodIn_app (goodIn_of _ (by decide +kernel)) ggX6_image_X1_takeFrom
theorem dX6_image_0 : decode cX6_image 0 = .ok (.aload_n 0, 1) := by decide +kernel
theorem dX6_image_1 : decode cX6_image 1 = .ok (.getfield 19, 3) := by decide +kernel
theorem dX6_image_4 : decode cX6_image 4 = .ok (.aload_n 0, 1) := by decide +kernel
theorem dX6_image_5 : decode cX6_image 5 = .ok (.getfield 10, 3) := by decide +kernel
theorem dX6_image_8 : decode cX6_image 8 = .ok (.invokevirtual 184, 3) := by decide +kernel
theorem dX6_image_11 : decode cX6_image 11 = .ok (.aload_n 0, 1) := by decide +kernel
theorem dX6_image_12 : decode cX6_image 12 = .ok (.iconst 1, 1) := by decide +kernel
theorem dX6_image_13 : decode cX6_image 13 = .ok (.putfield 250, 3) := by decide +kernel
theorem dX6_image_16 : decode cX6_image 16 = .ok (.aload_n 0, 1) := by decide +kernel
theorem dX6_image_17 : decode cX6_image 17 = .ok (.getfield 10, 3) := by decide +kernel
theorem dX6_image_20 : decode cX6_image 20 = .ok (.getfield 71, 3) := by decide +kernel
theorem dX6_image_23 : decode cX6_image 23 = .ok (.ireturn, 1) := by decide +kernel
set_option maxRecDepth 20000 in
theorem ggX6_back_X1_takeFrom : GoodIn wsX6_back wsX1_takeFrom := goodIn_q _ [8] [9, 10, 11, 12, 13, 14, 15, 16, 17, 30, 31, 32, 33, 34, 35, 36, 37, 38] rfl (by decide +kernel) (by decide +kernel)
set_option maxRecDepth 20000 in
theorem gX6_back_X1_takeFrom : GoodIn wsX6_back (wsV RX6 184 RX1 yX1_takeFrom wsX1_takeFrom) := goodIn_app (goodIn_of _ (by decide +kernel)) ggX6_back_X1_takeFrom
theorem dX6_back_0 : decode cX6_back 0 = .ok (.aload_n 0, 1) := by decide +kernel
theorem dX6_back_1 : decode cX6_back 1 = .ok (.getfield 250, 3) := by decide +kernel
theorem dX6_back_4 : decode cX6_back 4 = .ok (.ifCond .ne 6, 3) := by decide +kernel
theorem dX6_back_7 : decode cX6_back 7 = .ok (.bipush (-3), 2) := by decide +kernel
theorem dX6_back_9 : decode cX6_back 9 = .ok (.ireturn, 1) := by decide +kernel
theorem dX6_back_10 : decode cX6_back 10 = .ok (.aload_n 0, 1) := by decide +kernel
theorem dX6_back_11 : decode cX6_back 11 = .ok (.getfield 10, 3) := by decide +kernel
theorem dX6_back_14 : decode cX6_back 14 = .ok (.aload_n 0, 1) := by decide +kernel
theorem dX6_back_15 : decode cX6_back 15 = .ok (.getfield 19, 3) := by decide +kernel
theorem dX6_back_18 : decode cX6_back 18 = .ok (.invokevirtual 184, 3) := by decide +kernel
theorem dX6_back_21 : decode cX6_back 21 = .ok (.aload_n 0, 1) := by decide +kernel
theorem dX6_back_22 : decode cX6_back 22 = .ok (.getfield 10, 3) := by decide +kernel
theorem dX6_back_25 : decode cX6_back 25 = .ok (.getfield 71, 3) := by decide +kernel
theorem dX6_back_28 : decode cX6_back 28 = .ok (.ireturn, 1) := by decide +kernel
set_option maxRecDepth 20000 in
theorem ggX6_sheet_X6_isSheet : GoodIn wsX6_sheet wsX6_isSheet := goodIn_q _ [5, 8] [6, 7, 4] rfl (by decide +kernel) (by decide +kernel)
set_option maxRecDepth 20000 in
theorem gX6_sheet_X6_isSheet : GoodIn wsX6_sheet (va_wsS RX6 237 yX6_isSheet wsX6_isSheet) := goodIn_app (goodIn_of _ (by decide +kernel)) ggX6_sheet_X6_isSheet
set_option maxRecDepth 20000 in
theorem ggX6_sheet_X3_become : GoodIn wsX6_sheet wsX3_become := goodIn_q _ [13, 18, 21] [14, 15, 16, 17, 19, 20, 22, 23, 39, 40, 41] rfl (by decide +kernel) (by decide +kernel)
set_option maxRecDepth 20000 in
theorem gX6_sheet_X3_become : GoodIn wsX6_sheet (wsV RX6 240 RX3 yX3_become wsX3_become) := goodIn_app (goodIn_of _ (by decide +kernel)) ggX6_sheet_X3_become
set_option maxRecDepth 20000 in
theorem ggX6_sheet_X6_isSort : GoodIn wsX6_sheet wsX6_isSort := goodIn_q _ [26, 8] [6, 7, 4] rfl (by decide +kernel) (by decide +kernel)
set_option maxRecDepth 20000 in
theorem gX6_sheet_X6_isSort : GoodIn wsX6_sheet (va_wsS RX6 254 yX6_isSort wsX6_isSort) := goodIn_app (goodIn_of _ (by decide +kernel)) ggX6_sheet_X6_isSort
theorem dX6_sheet_0 : decode cX6_sheet 0 = .ok (.iload_n 1, 1) := by decide +kernel
theorem dX6_sheet_1 : decode cX6_sheet 1 = .ok (.invokestatic 237, 3) := by decide +kernel
theorem dX6_sheet_4 : decode cX6_sheet 4 = .ok (.ifCond .ne 6, 3) := by decide +kernel
theorem dX6_sheet_7 : decode cX6_sheet 7 = .ok (.bipush (-2), 2) := by decide +kernel
theorem dX6_sheet_9 : decode cX6_sheet 9 = .ok (.ireturn, 1) := by decide +kernel
theorem dX6_sheet_10 : decode cX6_sheet 10 = .ok (.iload_n 2, 1) := by decide +kernel
theorem dX6_sheet_11 : decode cX6_sheet 11 = .ok (.iconst (-1), 1) := by decide +kernel
theorem dX6_sheet_12 : decode cX6_sheet 12 = .ok (.if_icmp .ne 16, 3) := by decide +kernel
theorem dX6_sheet_15 : decode cX6_sheet 15 = .ok (.aload_n 0, 1) := by decide +kernel
theorem dX6_sheet_16 : decode cX6_sheet 16 = .ok (.getfield 62, 3) := by decide +kernel
theorem dX6_sheet_19 : decode cX6_sheet 19 = .ok (.iload_n 1, 1) := by decide +kernel
theorem dX6_sheet_20 : decode cX6_sheet 20 = .ok (.aaload, 1) := by decide +kernel
theorem dX6_sheet_21 : decode cX6_sheet 21 = .ok (.iconst (-1), 1) := by decide +kernel
theorem dX6_sheet_22 : decode cX6_sheet 22 = .ok (.iconst 0, 1) := by decide +kernel
theorem dX6_sheet_23 : decode cX6_sheet 23 = .ok (.invokevirtual 240, 3) := by decide +kernel
theorem dX6_sheet_26 : decode cX6_sheet 26 = .ok (.iconst 1, 1) := by decide +kernel
theorem dX6_sheet_27 : decode cX6_sheet 27 = .ok (.ireturn, 1) := by decide +kernel
theorem dX6_sheet_28 : decode cX6_sheet 28 = .ok (.iload_n 2, 1) := by decide +kernel
theorem dX6_sheet_29 : decode cX6_sheet 29 = .ok (.invokestatic 254, 3) := by decide +kernel
theorem dX6_sheet_32 : decode cX6_sheet 32 = .ok (.ifCond .eq 9, 3) := by decide +kernel
theorem dX6_sheet_35 : decode cX6_sheet 35 = .ok (.iload_n 3, 1) := by decide +kernel
theorem dX6_sheet_36 : decode cX6_sheet 36 = .ok (.bipush 40, 2) := by decide +kernel
theorem dX6_sheet_38 : decode cX6_sheet 38 = .ok (.if_icmp .le 6, 3) := by decide +kernel
theorem dX6_sheet_41 : decode cX6_sheet 41 = .ok (.bipush (-2), 2) := by decide +kernel
theorem dX6_sheet_43 : decode cX6_sheet 43 = .ok (.ireturn, 1) := by decide +kernel
theorem dX6_sheet_44 : decode cX6_sheet 44 = .ok (.iload_n 3, 1) := by decide +kernel
theorem dX6_sheet_45 : decode cX6_sheet 45 = .ok (.ifCond .ge 6, 3) := by decide +kernel
theorem dX6_sheet_48 : decode cX6_sheet 48 = .ok (.bipush (-14), 2) := by decide +kernel
theorem dX6_sheet_50 : decode cX6_sheet 50 = .ok (.ireturn, 1) := by decide +kernel
theorem dX6_sheet_51 : decode cX6_sheet 51 = .ok (.aload_n 0, 1) := by decide +kernel
theorem dX6_sheet_52 : decode cX6_sheet 52 = .ok (.getfield 62, 3) := by decide +kernel
theorem dX6_sheet_55 : decode cX6_sheet 55 = .ok (.iload_n 1, 1) := by decide +kernel
theorem dX6_sheet_56 : decode cX6_sheet 56 = .ok (.aaload, 1) := by decide +kernel
theorem dX6_sheet_57 : decode cX6_sheet 57 = .ok (.iload_n 2, 1) := by decide +kernel
theorem dX6_sheet_58 : decode cX6_sheet 58 = .ok (.iload_n 3, 1) := by decide +kernel
theorem dX6_sheet_59 : decode cX6_sheet 59 = .ok (.invokevirtual 240, 3) := by decide +kernel
theorem dX6_sheet_62 : decode cX6_sheet 62 = .ok (.iconst 1, 1) := by decide +kernel
theorem dX6_sheet_63 : decode cX6_sheet 63 = .ok (.ireturn, 1) := by decide +kernel
set_option maxRecDepth 20000 in
theorem ggX6_cell_X6_isSheet : GoodIn wsX6_cell wsX6_isSheet := goodIn_q _ [5, 8] [6, 7, 4] rfl (by decide +kernel) (by decide +kernel)
set_option maxRecDepth 20000 in
theorem gX6_cell_X6_isSheet : GoodIn wsX6_cell (va_wsS RX6 237 yX6_isSheet wsX6_isSheet) := goodIn_app (goodIn_of _ (by decide +kernel)) ggX6_cell_X6_isSheet
set_option maxRecDepth 20000 in
theorem ggX6_cell_X3_isMissing : GoodIn wsX6_cell wsX3_isMissing := goodIn_q _ [13] [14, 38, 39, 40] rfl (by decide +kernel) (by decide +kernel)
set_option maxRecDepth 20000 in
theorem gX6_cell_X3_isMissing : GoodIn wsX6_cell (wsV RX6 257 RX3 yX3_isMissing wsX3_isMissing) := goodIn_app (goodIn_of _ (by decide +kernel)) ggX6_cell_X3_isMissing
set_option maxRecDepth 20000 in
theorem ggX6_cell_X3_hasPlace : GoodIn wsX6_cell wsX3_hasPlace := goodIn_q _ [18] [19, 38, 39, 40] rfl (by decide +kernel) (by decide +kernel)
set_option maxRecDepth 20000 in
theorem gX6_cell_X3_hasPlace : GoodIn wsX6_cell (wsV RX6 260 RX3 yX3_hasPlace wsX3_hasPlace) := goodIn_app (goodIn_of _ (by decide +kernel)) ggX6_cell_X3_hasPlace
set_option maxRecDepth 20000 in
theorem ggX6_cell_X3_write : GoodIn wsX6_cell wsX3_write := goodIn_q _ [23, 18] [24, 14, 25, 16, 17, 12, 19, 38, 39, 40] rfl (by decide +kernel) (by decide +kernel)
set_option maxRecDepth 20000 in
theorem gX6_cell_X3_write : GoodIn wsX6_cell (wsV RX6 243 RX3 yX3_write wsX3_write) := goodIn_app (goodIn_of _ (by decide +kernel)) ggX6_cell_X3_write
theorem dX6_cell_0 : decode cX6_cell 0 = .ok (.iload_n 1, 1) := by decide +kernel
theorem dX6_cell_1 : decode cX6_cell 1 = .ok (.invokestatic 237, 3) := by decide +kernel
theorem dX6_cell_4 : decode cX6_cell 4 = .ok (.ifCond .ne 6, 3) := by decide +kernel
theorem dX6_cell_7 : decode cX6_cell 7 = .ok (.bipush (-2), 2) := by decide +kernel
theorem dX6_cell_9 : decode cX6_cell 9 = .ok (.ireturn, 1) := by decide +kernel
theorem dX6_cell_10 : decode cX6_cell 10 = .ok (.aload_n 0, 1) := by decide +kernel
theorem dX6_cell_11 : decode cX6_cell 11 = .ok (.getfield 62, 3) := by decide +kernel
theorem dX6_cell_14 : decode cX6_cell 14 = .ok (.iload_n 1, 1) := by decide +kernel
theorem dX6_cell_15 : decode cX6_cell 15 = .ok (.aaload, 1) := by decide +kernel
theorem dX6_cell_16 : decode cX6_cell 16 = .ok (.invokevirtual 257, 3) := by decide +kernel
theorem dX6_cell_19 : decode cX6_cell 19 = .ok (.ifCond .eq 6, 3) := by decide +kernel
theorem dX6_cell_22 : decode cX6_cell 22 = .ok (.bipush (-11), 2) := by decide +kernel
theorem dX6_cell_24 : decode cX6_cell 24 = .ok (.ireturn, 1) := by decide +kernel
theorem dX6_cell_25 : decode cX6_cell 25 = .ok (.aload_n 0, 1) := by decide +kernel
theorem dX6_cell_26 : decode cX6_cell 26 = .ok (.getfield 62, 3) := by decide +kernel
theorem dX6_cell_29 : decode cX6_cell 29 = .ok (.iload_n 1, 1) := by decide +kernel
theorem dX6_cell_30 : decode cX6_cell 30 = .ok (.aaload, 1) := by decide +kernel
theorem dX6_cell_31 : decode cX6_cell 31 = .ok (.iload_n 2, 1) := by decide +kernel
theorem dX6_cell_32 : decode cX6_cell 32 = .ok (.invokevirtual 260, 3) := by decide +kernel
theorem dX6_cell_35 : decode cX6_cell 35 = .ok (.ifCond .ne 6, 3) := by decide +kernel
theorem dX6_cell_38 : decode cX6_cell 38 = .ok (.bipush (-12), 2) := by decide +kernel
theorem dX6_cell_40 : decode cX6_cell 40 = .ok (.ireturn, 1) := by decide +kernel
theorem dX6_cell_41 : decode cX6_cell 41 = .ok (.aload_n 0, 1) := by decide +kernel
theorem dX6_cell_42 : decode cX6_cell 42 = .ok (.getfield 62, 3) := by decide +kernel
theorem dX6_cell_45 : decode cX6_cell 45 = .ok (.iload_n 1, 1) := by decide +kernel
theorem dX6_cell_46 : decode cX6_cell 46 = .ok (.aaload, 1) := by decide +kernel
theorem dX6_cell_47 : decode cX6_cell 47 = .ok (.iload_n 2, 1) := by decide +kernel
theorem dX6_cell_48 : decode cX6_cell 48 = .ok (.iload_n 3, 1) := by decide +kernel
theorem dX6_cell_49 : decode cX6_cell 49 = .ok (.invokevirtual 243, 3) := by decide +kernel
theorem dX6_cell_52 : decode cX6_cell 52 = .ok (.iconst 1, 1) := by decide +kernel
theorem dX6_cell_53 : decode cX6_cell 53 = .ok (.ireturn, 1) := by decide +kernel
set_option maxRecDepth 20000 in
theorem ggX6_copy_X6_isSheet : GoodIn wsX6_copy wsX6_isSheet := goodIn_q _ [9, 12] [10, 11, 8] rfl (by decide +kernel) (by decide +kernel)
set_option maxRecDepth 20000 in
theorem gX6_copy_X6_isSheet : GoodIn wsX6_copy (va_wsS RX6 237 yX6_isSheet wsX6_isSheet) := goodIn_app (goodIn_of _ (by decide +kernel)) ggX6_copy_X6_isSheet
set_option maxRecDepth 20000 in
theorem ggX6_copy_X3_isMissing : GoodIn wsX6_copy wsX3_isMissing := goodIn_q _ [17] [18, 36, 37, 38] rfl (by decide +kernel) (by decide +kernel)
set_option maxRecDepth 20000 in
theorem gX6_copy_X3_isMissing : GoodIn wsX6_copy (wsV RX6 257 RX3 yX3_isMissing wsX3_isMissing) := goodIn_app (goodIn_of _ (by decide +kernel)) ggX6_copy_X3_isMissing
set_option maxRecDepth 20000 in
theorem ggX6_copy_X3_hasPlaces : GoodIn wsX6_copy wsX3_hasPlaces := goodIn_q _ [22] [23, 36, 37, 38] rfl (by decide +kernel) (by decide +kernel)
set_option maxRecDepth 20000 in
theorem gX6_copy_X3_hasPlaces : GoodIn wsX6_copy (wsV RX6 266 RX3 yX3_hasPlaces wsX3_hasPlaces) := goodIn_app (goodIn_of _ (by decide +kernel)) ggX6_copy_X3_hasPlaces
theorem dX6_copy_0 : decode cX6_copy 0 = .ok (.iload_n 1, 1) := by decide +kernel
theorem dX6_copy_1 : decode cX6_copy 1 = .ok (.invokestatic 237, 3) := by decide +kernel
theorem dX6_copy_4 : decode cX6_copy 4 = .ok (.ifCond .eq 10, 3) := by decide +kernel
theorem dX6_copy_7 : decode cX6_copy 7 = .ok (.iload_n 3, 1) := by decide +kernel
theorem dX6_copy_8 : decode cX6_copy 8 = .ok (.invokestatic 237, 3) := by decide +kernel
theorem dX6_copy_11 : decode cX6_copy 11 = .ok (.ifCond .ne 6, 3) := by decide +kernel
theorem dX6_copy_14 : decode cX6_copy 14 = .ok (.bipush (-2), 2) := by decide +kernel
theorem dX6_copy_16 : decode cX6_copy 16 = .ok (.ireturn, 1) := by decide +kernel
theorem dX6_copy_17 : decode cX6_copy 17 = .ok (.aload_n 0, 1) := by decide +kernel
theorem dX6_copy_18 : decode cX6_copy 18 = .ok (.getfield 62, 3) := by decide +kernel
theorem dX6_copy_21 : decode cX6_copy 21 = .ok (.iload_n 1, 1) := by decide +kernel
theorem dX6_copy_22 : decode cX6_copy 22 = .ok (.aaload, 1) := by decide +kernel
theorem dX6_copy_23 : decode cX6_copy 23 = .ok (.astore 6, 2) := by decide +kernel
theorem dX6_copy_25 : decode cX6_copy 25 = .ok (.aload_n 0, 1) := by decide +kernel
theorem dX6_copy_26 : decode cX6_copy 26 = .ok (.getfield 62, 3) := by decide +kernel
theorem dX6_copy_29 : decode cX6_copy 29 = .ok (.iload_n 3, 1) := by decide +kernel
theorem dX6_copy_30 : decode cX6_copy 30 = .ok (.aaload, 1) := by decide +kernel
theorem dX6_copy_31 : decode cX6_copy 31 = .ok (.astore 7, 2) := by decide +kernel
theorem dX6_copy_33 : decode cX6_copy 33 = .ok (.aload 6, 2) := by decide +kernel
theorem dX6_copy_35 : decode cX6_copy 35 = .ok (.invokevirtual 257, 3) := by decide +kernel
theorem dX6_copy_38 : decode cX6_copy 38 = .ok (.ifCond .ne 11, 3) := by decide +kernel
theorem dX6_copy_41 : decode cX6_copy 41 = .ok (.aload 7, 2) := by decide +kernel
theorem dX6_copy_43 : decode cX6_copy 43 = .ok (.invokevirtual 257, 3) := by decide +kernel
theorem dX6_copy_46 : decode cX6_copy 46 = .ok (.ifCond .eq 6, 3) := by decide +kernel
theorem dX6_copy_49 : decode cX6_copy 49 = .ok (.bipush (-11), 2) := by decide +kernel
theorem dX6_copy_51 : decode cX6_copy 51 = .ok (.ireturn, 1) := by decide +kernel
theorem dX6_copy_52 : decode cX6_copy 52 = .ok (.aload 6, 2) := by decide +kernel
theorem dX6_copy_54 : decode cX6_copy 54 = .ok (.getfield 263, 3) := by decide +kernel
theorem dX6_copy_57 : decode cX6_copy 57 = .ok (.aload 7, 2) := by decide +kernel
theorem dX6_copy_59 : decode cX6_copy 59 = .ok (.getfield 263, 3) := by decide +kernel
theorem dX6_copy_62 : decode cX6_copy 62 = .ok (.if_icmp .eq 6, 3) := by decide +kernel
theorem dX6_copy_65 : decode cX6_copy 65 = .ok (.bipush (-13), 2) := by decide +kernel
theorem dX6_copy_67 : decode cX6_copy 67 = .ok (.ireturn, 1) := by decide +kernel
theorem dX6_copy_68 : decode cX6_copy 68 = .ok (.aload 6, 2) := by decide +kernel
theorem dX6_copy_70 : decode cX6_copy 70 = .ok (.iload_n 2, 1) := by decide +kernel
theorem dX6_copy_71 : decode cX6_copy 71 = .ok (.iload 5, 2) := by decide +kernel
theorem dX6_copy_73 : decode cX6_copy 73 = .ok (.invokevirtual 266, 3) := by decide +kernel
theorem dX6_copy_76 : decode cX6_copy 76 = .ok (.ifCond .eq 15, 3) := by decide +kernel
theorem dX6_copy_79 : decode cX6_copy 79 = .ok (.aload 7, 2) := by decide +kernel
theorem dX6_copy_81 : decode cX6_copy 81 = .ok (.iload 4, 2) := by decide +kernel
theorem dX6_copy_83 : decode cX6_copy 83 = .ok (.iload 5, 2) := by decide +kernel
theorem dX6_copy_85 : decode cX6_copy 85 = .ok (.invokevirtual 266, 3) := by decide +kernel
theorem dX6_copy_88 : decode cX6_copy 88 = .ok (.ifCond .ne 6, 3) := by decide +kernel
theorem dX6_copy_91 : decode cX6_copy 91 = .ok (.bipush (-12), 2) := by decide +kernel
theorem dX6_copy_93 : decode cX6_copy 93 = .ok (.ireturn, 1) := by decide +kernel
theorem dX6_copy_94 : decode cX6_copy 94 = .ok (.aload 6, 2) := by decide +kernel
theorem dX6_copy_96 : decode cX6_copy 96 = .ok (.getfield 269, 3) := by decide +kernel
theorem dX6_copy_99 : decode cX6_copy 99 = .ok (.iload_n 2, 1) := by decide +kernel
theorem dX6_copy_100 : decode cX6_copy 100 = .ok (.aload 7, 2) := by decide +kernel
theorem dX6_copy_102 : decode cX6_copy 102 = .ok (.getfield 269, 3) := by decide +kernel
theorem dX6_copy_105 : decode cX6_copy 105 = .ok (.iload 4, 2) := by decide +kernel
theorem dX6_copy_107 : decode cX6_copy 107 = .ok (.iload 5, 2) := by decide +kernel
theorem dX6_copy_109 : decode cX6_copy 109 = .ok (.invokestatic 272, 3) := by decide +kernel
theorem dX6_copy_112 : decode cX6_copy 112 = .ok (.iload 5, 2) := by decide +kernel
theorem dX6_copy_114 : decode cX6_copy 114 = .ok (.ireturn, 1) := by decide +kernel
set_option maxRecDepth 20000 in
theorem ggX6_courtBy_X6_isSheet : GoodIn wsX6_courtBy wsX6_isSheet := goodIn_q _ [5, 8] [6, 7, 4] rfl (by decide +kernel) (by decide +kernel)
set_option maxRecDepth 20000 in
theorem gX6_courtBy_X6_isSheet : GoodIn wsX6_courtBy (va_wsS RX6 237 yX6_isSheet wsX6_isSheet) := goodIn_app (goodIn_of _ (by decide +kernel)) ggX6_courtBy_X6_isSheet
set_option maxRecDepth 20000 in
theorem ggX6_courtBy_X6_isSort : GoodIn wsX6_courtBy wsX6_isSort := goodIn_q _ [11, 8] [6, 7, 4] rfl (by decide +kernel) (by decide +kernel)
set_option maxRecDepth 20000 in
theorem gX6_courtBy_X6_isSort : GoodIn wsX6_courtBy (va_wsS RX6 254 yX6_isSort wsX6_isSort) := goodIn_app (goodIn_of _ (by decide +kernel)) ggX6_courtBy_X6_isSort
set_option maxRecDepth 20000 in
theorem ggX6_courtBy_X6_isWithin : GoodIn wsX6_courtBy wsX6_isWithin := goodIn_q _ [8] [] rfl (by decide +kernel) (by decide +kernel)
set_option maxRecDepth 20000 in
theorem gX6_courtBy_X6_isWithin : GoodIn wsX6_courtBy (va_wsS RX6 86 yX6_isWithin wsX6_isWithin) := goodIn_app (goodIn_of _ (by decide +kernel)) ggX6_courtBy_X6_isWithin
set_option maxRecDepth 20000 in
theorem ggX6_courtBy_X3_isMissing : GoodIn wsX6_courtBy wsX3_isMissing := goodIn_q _ [16] [17, 53, 54, 55] rfl (by decide +kernel) (by decide +kernel)
set_option maxRecDepth 20000 in
theorem gX6_courtBy_X3_isMissing : GoodIn wsX6_courtBy (wsV RX6 257 RX3 yX3_isMissing wsX3_isMissing) := goodIn_app (goodIn_of _ (by decide +kernel)) ggX6_courtBy_X3_isMissing
set_option maxRecDepth 20000 in
theorem ggX6_courtBy_X3_hasPlaces : GoodIn wsX6_courtBy wsX3_hasPlaces := goodIn_q _ [21] [22, 53, 54, 55] rfl (by decide +kernel) (by decide +kernel)
set_option maxRecDepth 20000 in
theorem gX6_courtBy_X3_hasPlaces : GoodIn wsX6_courtBy (wsV RX6 266 RX3 yX3_hasPlaces wsX3_hasPlaces) := goodIn_app (goodIn_of _ (by decide +kernel)) ggX6_courtBy_X3_hasPlaces
set_option maxRecDepth 20000 in
theorem ggX6_courtBy_X6_courtier : GoodIn wsX6_courtBy wsX6_courtier := goodIn_q _ [26, 30, 8, 35] [27, 28, 29, 4, 6, 7, 31, 32, 33, 34, 36, 37, 38, 39, 40, 41, 42, 43, 44, 45, 46, 47, 48, 49, 50, 51, 52, 56, 57, 58, 59, 60, 61, 62, 63, 64] rfl (by decide +kernel) (by decide +kernel)
set_option maxRecDepth 20000 in
theorem gX6_courtBy_X6_courtier : GoodIn wsX6_courtBy (wsV RX6 278 RX6 yX6_courtier wsX6_courtier) := goodIn_app (goodIn_of _ (by decide +kernel)) ggX6_courtBy_X6_courtier
theorem dX6_courtBy_0 : decode cX6_courtBy 0 = .ok (.iload_n 1, 1) := by decide +kernel
theorem dX6_courtBy_1 : decode cX6_courtBy 1 = .ok (.invokestatic 237, 3) := by decide +kernel
theorem dX6_courtBy_4 : decode cX6_courtBy 4 = .ok (.ifCond .eq 21, 3) := by decide +kernel
theorem dX6_courtBy_7 : decode cX6_courtBy 7 = .ok (.iload_n 2, 1) := by decide +kernel
theorem dX6_courtBy_8 : decode cX6_courtBy 8 = .ok (.invokestatic 254, 3) := by decide +kernel
theorem dX6_courtBy_11 : decode cX6_courtBy 11 = .ok (.ifCond .eq 14, 3) := by decide +kernel
theorem dX6_courtBy_14 : decode cX6_courtBy 14 = .ok (.iload 4, 2) := by decide +kernel
theorem dX6_courtBy_16 : decode cX6_courtBy 16 = .ok (.iconst 0, 1) := by decide +kernel
theorem dX6_courtBy_17 : decode cX6_courtBy 17 = .ok (.bipush 6, 2) := by decide +kernel
theorem dX6_courtBy_19 : decode cX6_courtBy 19 = .ok (.invokestatic 86, 3) := by decide +kernel
theorem dX6_courtBy_22 : decode cX6_courtBy 22 = .ok (.ifCond .ne 6, 3) := by decide +kernel
theorem dX6_courtBy_25 : decode cX6_courtBy 25 = .ok (.bipush (-2), 2) := by decide +kernel
theorem dX6_courtBy_27 : decode cX6_courtBy 27 = .ok (.ireturn, 1) := by decide +kernel
theorem dX6_courtBy_28 : decode cX6_courtBy 28 = .ok (.aload_n 0, 1) := by decide +kernel
theorem dX6_courtBy_29 : decode cX6_courtBy 29 = .ok (.getfield 62, 3) := by decide +kernel
theorem dX6_courtBy_32 : decode cX6_courtBy 32 = .ok (.iload_n 1, 1) := by decide +kernel
theorem dX6_courtBy_33 : decode cX6_courtBy 33 = .ok (.aaload, 1) := by decide +kernel
theorem dX6_courtBy_34 : decode cX6_courtBy 34 = .ok (.astore 5, 2) := by decide +kernel
theorem dX6_courtBy_36 : decode cX6_courtBy 36 = .ok (.aload 5, 2) := by decide +kernel
theorem dX6_courtBy_38 : decode cX6_courtBy 38 = .ok (.invokevirtual 257, 3) := by decide +kernel
theorem dX6_courtBy_41 : decode cX6_courtBy 41 = .ok (.ifCond .eq 6, 3) := by decide +kernel
theorem dX6_courtBy_44 : decode cX6_courtBy 44 = .ok (.bipush (-11), 2) := by decide +kernel
theorem dX6_courtBy_46 : decode cX6_courtBy 46 = .ok (.ireturn, 1) := by decide +kernel
theorem dX6_courtBy_47 : decode cX6_courtBy 47 = .ok (.aload 5, 2) := by decide +kernel
theorem dX6_courtBy_49 : decode cX6_courtBy 49 = .ok (.getfield 263, 3) := by decide +kernel
theorem dX6_courtBy_52 : decode cX6_courtBy 52 = .ok (.iload_n 2, 1) := by decide +kernel
theorem dX6_courtBy_53 : decode cX6_courtBy 53 = .ok (.if_icmp .eq 6, 3) := by decide +kernel
theorem dX6_courtBy_56 : decode cX6_courtBy 56 = .ok (.bipush (-13), 2) := by decide +kernel
theorem dX6_courtBy_58 : decode cX6_courtBy 58 = .ok (.ireturn, 1) := by decide +kernel
theorem dX6_courtBy_59 : decode cX6_courtBy 59 = .ok (.iconst 0, 1) := by decide +kernel
theorem dX6_courtBy_60 : decode cX6_courtBy 60 = .ok (.istore 6, 2) := by decide +kernel
theorem dX6_courtBy_62 : decode cX6_courtBy 62 = .ok (.iconst 0, 1) := by decide +kernel
theorem dX6_courtBy_63 : decode cX6_courtBy 63 = .ok (.istore 7, 2) := by decide +kernel
theorem dX6_courtBy_65 : decode cX6_courtBy 65 = .ok (.iload 7, 2) := by decide +kernel
theorem dX6_courtBy_67 : decode cX6_courtBy 67 = .ok (.iload 4, 2) := by decide +kernel
theorem dX6_courtBy_69 : decode cX6_courtBy 69 = .ok (.if_icmp .ge 63, 3) := by decide +kernel
theorem dX6_courtBy_72 : decode cX6_courtBy 72 = .ok (.aload 5, 2) := by decide +kernel
theorem dX6_courtBy_74 : decode cX6_courtBy 74 = .ok (.iload_n 3, 1) := by decide +kernel
theorem dX6_courtBy_75 : decode cX6_courtBy 75 = .ok (.iconst 2, 1) := by decide +kernel
theorem dX6_courtBy_76 : decode cX6_courtBy 76 = .ok (.iload 7, 2) := by decide +kernel
theorem dX6_courtBy_78 : decode cX6_courtBy 78 = .ok (.imul, 1) := by decide +kernel
theorem dX6_courtBy_79 : decode cX6_courtBy 79 = .ok (.iconst 2, 1) := by decide +kernel
theorem dX6_courtBy_80 : decode cX6_courtBy 80 = .ok (.iadd, 1) := by decide +kernel
theorem dX6_courtBy_81 : decode cX6_courtBy 81 = .ok (.invokevirtual 266, 3) := by decide +kernel
theorem dX6_courtBy_84 : decode cX6_courtBy 84 = .ok (.ifCond .ne 6, 3) := by decide +kernel
theorem dX6_courtBy_87 : decode cX6_courtBy 87 = .ok (.bipush (-12), 2) := by decide +kernel
theorem dX6_courtBy_89 : decode cX6_courtBy 89 = .ok (.ireturn, 1) := by decide +kernel
theorem dX6_courtBy_90 : decode cX6_courtBy 90 = .ok (.aload_n 0, 1) := by decide +kernel
theorem dX6_courtBy_91 : decode cX6_courtBy 91 = .ok (.aload 5, 2) := by decide +kernel
theorem dX6_courtBy_93 : decode cX6_courtBy 93 = .ok (.getfield 269, 3) := by decide +kernel
theorem dX6_courtBy_96 : decode cX6_courtBy 96 = .ok (.iload_n 3, 1) := by decide +kernel
theorem dX6_courtBy_97 : decode cX6_courtBy 97 = .ok (.iconst 2, 1) := by decide +kernel
theorem dX6_courtBy_98 : decode cX6_courtBy 98 = .ok (.iload 7, 2) := by decide +kernel
theorem dX6_courtBy_100 : decode cX6_courtBy 100 = .ok (.imul, 1) := by decide +kernel
theorem dX6_courtBy_101 : decode cX6_courtBy 101 = .ok (.iadd, 1) := by decide +kernel
theorem dX6_courtBy_102 : decode cX6_courtBy 102 = .ok (.iaload, 1) := by decide +kernel
theorem dX6_courtBy_103 : decode cX6_courtBy 103 = .ok (.aload 5, 2) := by decide +kernel
theorem dX6_courtBy_105 : decode cX6_courtBy 105 = .ok (.getfield 269, 3) := by decide +kernel
theorem dX6_courtBy_108 : decode cX6_courtBy 108 = .ok (.iload_n 3, 1) := by decide +kernel
theorem dX6_courtBy_109 : decode cX6_courtBy 109 = .ok (.iconst 2, 1) := by decide +kernel
theorem dX6_courtBy_110 : decode cX6_courtBy 110 = .ok (.iload 7, 2) := by decide +kernel
theorem dX6_courtBy_112 : decode cX6_courtBy 112 = .ok (.imul, 1) := by decide +kernel
theorem dX6_courtBy_113 : decode cX6_courtBy 113 = .ok (.iadd, 1) := by decide +kernel
theorem dX6_courtBy_114 : decode cX6_courtBy 114 = .ok (.iconst 1, 1) := by decide +kernel
theorem dX6_courtBy_115 : decode cX6_courtBy 115 = .ok (.iadd, 1) := by decide +kernel
theorem dX6_courtBy_116 : decode cX6_courtBy 116 = .ok (.iaload, 1) := by decide +kernel
theorem dX6_courtBy_117 : decode cX6_courtBy 117 = .ok (.invokevirtual 278, 3) := by decide +kernel
theorem dX6_courtBy_120 : decode cX6_courtBy 120 = .ok (.ifCond .lt 6, 3) := by decide +kernel
theorem dX6_courtBy_123 : decode cX6_courtBy 123 = .ok (.iinc 6 1, 3) := by decide +kernel
theorem dX6_courtBy_126 : decode cX6_courtBy 126 = .ok (.iinc 7 1, 3) := by decide +kernel
theorem dX6_courtBy_129 : decode cX6_courtBy 129 = .ok (.goto (-64), 3) := by decide +kernel
theorem dX6_courtBy_132 : decode cX6_courtBy 132 = .ok (.iload 6, 2) := by decide +kernel
theorem dX6_courtBy_134 : decode cX6_courtBy 134 = .ok (.ireturn, 1) := by decide +kernel
set_option maxRecDepth 20000 in
theorem ggX6_taken_X6_isWithin : GoodIn wsX6_taken wsX6_isWithin := goodIn_q _ [5] [] rfl (by decide +kernel) (by decide +kernel)
set_option maxRecDepth 20000 in
theorem gX6_taken_X6_isWithin : GoodIn wsX6_taken (va_wsS RX6 86 yX6_isWithin wsX6_isWithin) := goodIn_app (goodIn_of _ (by decide +kernel)) ggX6_taken_X6_isWithin
set_option maxRecDepth 20000 in
theorem ggX6_taken_X6_isThere : GoodIn wsX6_taken wsX6_isThere := goodIn_q _ [9, 5] [1, 2, 3, 4, 13, 14, 15, 16, 17, 18, 19, 20, 21, 22, 23, 24, 25, 26, 27, 28, 29, 30, 31, 32, 33] rfl (by decide +kernel) (by decide +kernel)
set_option maxRecDepth 20000 in
theorem gX6_taken_X6_isThere : GoodIn wsX6_taken (wsV RX6 106 RX6 yX6_isThere wsX6_isThere) := goodIn_app (goodIn_of _ (by decide +kernel)) ggX6_taken_X6_isThere
set_option maxRecDepth 20000 in
theorem ggX6_taken_X6_isOneOf : GoodIn wsX6_taken wsX6_isOneOf := goodIn_q _ [12] [] rfl (by decide +kernel) (by decide +kernel)
set_option maxRecDepth 20000 in
theorem gX6_taken_X6_isOneOf : GoodIn wsX6_taken (va_wsS RX6 282 yX6_isOneOf wsX6_isOneOf) := goodIn_app (goodIn_of _ (by decide +kernel)) ggX6_taken_X6_isOneOf
theorem dX6_taken_0 : decode cX6_taken 0 = .ok (.iload_n 2, 1) := by decide +kernel
theorem dX6_taken_1 : decode cX6_taken 1 = .ok (.iconst 0, 1) := by decide +kernel
theorem dX6_taken_2 : decode cX6_taken 2 = .ok (.bipush 6, 2) := by decide +kernel
theorem dX6_taken_4 : decode cX6_taken 4 = .ok (.invokestatic 86, 3) := by decide +kernel
theorem dX6_taken_7 : decode cX6_taken 7 = .ok (.ifCond .ne 6, 3) := by decide +kernel
theorem dX6_taken_10 : decode cX6_taken 10 = .ok (.bipush (-2), 2) := by decide +kernel
theorem dX6_taken_12 : decode cX6_taken 12 = .ok (.ireturn, 1) := by decide +kernel
theorem dX6_taken_13 : decode cX6_taken 13 = .ok (.iload_n 1, 1) := by decide +kernel
theorem dX6_taken_14 : decode cX6_taken 14 = .ok (.iconst 0, 1) := by decide +kernel
theorem dX6_taken_15 : decode cX6_taken 15 = .ok (.bipush 11, 2) := by decide +kernel
theorem dX6_taken_17 : decode cX6_taken 17 = .ok (.invokestatic 86, 3) := by decide +kernel
theorem dX6_taken_20 : decode cX6_taken 20 = .ok (.ifCond .ne 6, 3) := by decide +kernel
theorem dX6_taken_23 : decode cX6_taken 23 = .ok (.bipush (-12), 2) := by decide +kernel
theorem dX6_taken_25 : decode cX6_taken 25 = .ok (.ireturn, 1) := by decide +kernel
theorem dX6_taken_26 : decode cX6_taken 26 = .ok (.iload_n 1, 1) := by decide +kernel
theorem dX6_taken_27 : decode cX6_taken 27 = .ok (.bipush 6, 2) := by decide +kernel
theorem dX6_taken_29 : decode cX6_taken 29 = .ok (.irem, 1) := by decide +kernel
theorem dX6_taken_30 : decode cX6_taken 30 = .ok (.istore_n 3, 1) := by decide +kernel
theorem dX6_taken_31 : decode cX6_taken 31 = .ok (.aload_n 0, 1) := by decide +kernel
theorem dX6_taken_32 : decode cX6_taken 32 = .ok (.iload_n 3, 1) := by decide +kernel
theorem dX6_taken_33 : decode cX6_taken 33 = .ok (.invokevirtual 106, 3) := by decide +kernel
theorem dX6_taken_36 : decode cX6_taken 36 = .ok (.ifCond .ne 6, 3) := by decide +kernel
theorem dX6_taken_39 : decode cX6_taken 39 = .ok (.bipush (-11), 2) := by decide +kernel
theorem dX6_taken_41 : decode cX6_taken 41 = .ok (.ireturn, 1) := by decide +kernel
theorem dX6_taken_42 : decode cX6_taken 42 = .ok (.iload_n 1, 1) := by decide +kernel
theorem dX6_taken_43 : decode cX6_taken 43 = .ok (.bipush 6, 2) := by decide +kernel
theorem dX6_taken_45 : decode cX6_taken 45 = .ok (.if_icmp .lt 24, 3) := by decide +kernel
theorem dX6_taken_48 : decode cX6_taken 48 = .ok (.iload_n 2, 1) := by decide +kernel
theorem dX6_taken_49 : decode cX6_taken 49 = .ok (.bipush 6, 2) := by decide +kernel
theorem dX6_taken_51 : decode cX6_taken 51 = .ok (.if_icmp .ne 15, 3) := by decide +kernel
theorem dX6_taken_54 : decode cX6_taken 54 = .ok (.aload_n 0, 1) := by decide +kernel
theorem dX6_taken_55 : decode cX6_taken 55 = .ok (.getfield 10, 3) := by decide +kernel
theorem dX6_taken_58 : decode cX6_taken 58 = .ok (.getfield 132, 3) := by decide +kernel
theorem dX6_taken_61 : decode cX6_taken 61 = .ok (.iload_n 3, 1) := by decide +kernel
theorem dX6_taken_62 : decode cX6_taken 62 = .ok (.iaload, 1) := by decide +kernel
theorem dX6_taken_63 : decode cX6_taken 63 = .ok (.goto 5, 3) := by decide +kernel
theorem dX6_taken_66 : decode cX6_taken 66 = .ok (.bipush (-13), 2) := by decide +kernel
theorem dX6_taken_68 : decode cX6_taken 68 = .ok (.ireturn, 1) := by decide +kernel
theorem dX6_taken_69 : decode cX6_taken 69 = .ok (.aload_n 0, 1) := by decide +kernel
theorem dX6_taken_70 : decode cX6_taken 70 = .ok (.getfield 10, 3) := by decide +kernel
theorem dX6_taken_73 : decode cX6_taken 73 = .ok (.getfield 135, 3) := by decide +kernel
theorem dX6_taken_76 : decode cX6_taken 76 = .ok (.iload_n 3, 1) := by decide +kernel
theorem dX6_taken_77 : decode cX6_taken 77 = .ok (.iaload, 1) := by decide +kernel
theorem dX6_taken_78 : decode cX6_taken 78 = .ok (.iload_n 2, 1) := by decide +kernel
theorem dX6_taken_79 : decode cX6_taken 79 = .ok (.invokestatic 282, 3) := by decide +kernel
theorem dX6_taken_82 : decode cX6_taken 82 = .ok (.ifCond .eq 7, 3) := by decide +kernel
theorem dX6_taken_85 : decode cX6_taken 85 = .ok (.iload_n 3, 1) := by decide +kernel
theorem dX6_taken_86 : decode cX6_taken 86 = .ok (.goto 5, 3) := by decide +kernel
theorem dX6_taken_89 : decode cX6_taken 89 = .ok (.bipush (-13), 2) := by decide +kernel
theorem dX6_taken_91 : decode cX6_taken 91 = .ok (.ireturn, 1) := by decide +kernel
theorem dX6_isWithin_0 : decode cX6_isWithin 0 = .ok (.iload_n 0, 1) := by decide +kernel
theorem dX6_isWithin_1 : decode cX6_isWithin 1 = .ok (.iload_n 1, 1) := by decide +kernel
theorem dX6_isWithin_2 : decode cX6_isWithin 2 = .ok (.if_icmp .lt 12, 3) := by decide +kernel
theorem dX6_isWithin_5 : decode cX6_isWithin 5 = .ok (.iload_n 0, 1) := by decide +kernel
theorem dX6_isWithin_6 : decode cX6_isWithin 6 = .ok (.iload_n 2, 1) := by decide +kernel
theorem dX6_isWithin_7 : decode cX6_isWithin 7 = .ok (.if_icmp .gt 7, 3) := by decide +kernel
theorem dX6_isWithin_10 : decode cX6_isWithin 10 = .ok (.iconst 1, 1) := by decide +kernel
theorem dX6_isWithin_11 : decode cX6_isWithin 11 = .ok (.goto 4, 3) := by decide +kernel
theorem dX6_isWithin_14 : decode cX6_isWithin 14 = .ok (.iconst 0, 1) := by decide +kernel
theorem dX6_isWithin_15 : decode cX6_isWithin 15 = .ok (.ireturn, 1) := by decide +kernel
set_option maxRecDepth 20000 in
theorem ggX6_isByte_X6_isWithin : GoodIn wsX6_isByte wsX6_isWithin := goodIn_q _ [4] [] rfl (by decide +kernel) (by decide +kernel)
set_option maxRecDepth 20000 in
theorem gX6_isByte_X6_isWithin : GoodIn wsX6_isByte (va_wsS RX6 86 yX6_isWithin wsX6_isWithin) := goodIn_app (goodIn_of _ (by decide +kernel)) ggX6_isByte_X6_isWithin
theorem dX6_isByte_0 : decode cX6_isByte 0 = .ok (.iload_n 0, 1) := by decide +kernel
theorem dX6_isByte_1 : decode cX6_isByte 1 = .ok (.iconst 0, 1) := by decide +kernel
theorem dX6_isByte_2 : decode cX6_isByte 2 = .ok (.sipush 255, 3) := by decide +kernel
theorem dX6_isByte_5 : decode cX6_isByte 5 = .ok (.invokestatic 86, 3) := by decide +kernel
theorem dX6_isByte_8 : decode cX6_isByte 8 = .ok (.ireturn, 1) := by decide +kernel
set_option maxRecDepth 20000 in
theorem ggX6_isSort_X6_isWithin : GoodIn wsX6_isSort wsX6_isWithin := goodIn_q _ [4] [] rfl (by decide +kernel) (by decide +kernel)
set_option maxRecDepth 20000 in
theorem gX6_isSort_X6_isWithin : GoodIn wsX6_isSort (va_wsS RX6 86 yX6_isWithin wsX6_isWithin) := goodIn_app (goodIn_of _ (by decide +kernel)) ggX6_isSort_X6_isWithin
theorem dX6_isSort_0 : decode cX6_isSort 0 = .ok (.iload_n 0, 1) := by decide +kernel
theorem dX6_isSort_1 : decode cX6_isSort 1 = .ok (.iconst 0, 1) := by decide +kernel
theorem dX6_isSort_2 : decode cX6_isSort 2 = .ok (.iconst 2, 1) := by decide +kernel
theorem dX6_isSort_3 : decode cX6_isSort 3 = .ok (.invokestatic 86, 3) := by decide +kernel
theorem dX6_isSort_6 : decode cX6_isSort 6 = .ok (.ireturn, 1) := by decide +kernel
set_option maxRecDepth 20000 in
theorem ggX6_isSheet_X6_isWithin : GoodIn wsX6_isSheet wsX6_isWithin := goodIn_q _ [4] [] rfl (by decide +kernel) (by decide +kernel)
set_option maxRecDepth 20000 in
theorem gX6_isSheet_X6_isWithin : GoodIn wsX6_isSheet (va_wsS RX6 86 yX6_isWithin wsX6_isWithin) := goodIn_app (goodIn_of _ (by decide +kernel)) ggX6_isSheet_X6_isWithin
theorem dX6_isSheet_0 : decode cX6_isSheet 0 = .ok (.iload_n 0, 1) := by decide +kernel
theorem dX6_isSheet_1 : decode cX6_isSheet 1 = .ok (.iconst 0, 1) := by decide +kernel
theorem dX6_isSheet_2 : decode cX6_isSheet 2 = .ok (.iconst 3, 1) := by decide +kernel
theorem dX6_isSheet_3 : decode cX6_isSheet 3 = .ok (.invokestatic 86, 3) := by decide +kernel
theorem dX6_isSheet_6 : decode cX6_isSheet 6 = .ok (.ireturn, 1) := by decide +kernel
set_option maxRecDepth 20000 in
theorem ggX6_isCourtier_X6_isWithin : GoodIn wsX6_isCourtier wsX6_isWithin := goodIn_q _ [4] [] rfl (by decide +kernel) (by decide +kernel)
set_option maxRecDepth 20000 in
theorem gX6_isCourtier_X6_isWithin : GoodIn wsX6_isCourtier (va_wsS RX6 86 yX6_isWithin wsX6_isWithin) := goodIn_app (goodIn_of _ (by decide +kernel)) ggX6_isCourtier_X6_isWithin
theorem dX6_isCourtier_0 : decode cX6_isCourtier 0 = .ok (.iload_n 0, 1) := by decide +kernel
theorem dX6_isCourtier_1 : decode cX6_isCourtier 1 = .ok (.iconst 0, 1) := by decide +kernel
theorem dX6_isCourtier_2 : decode cX6_isCourtier 2 = .ok (.bipush 59, 2) := by decide +kernel
theorem dX6_isCourtier_4 : decode cX6_isCourtier 4 = .ok (.invokestatic 86, 3) := by decide +kernel
theorem dX6_isCourtier_7 : decode cX6_isCourtier 7 = .ok (.ifCond .eq 17, 3) := by decide +kernel
theorem dX6_isCourtier_10 : decode cX6_isCourtier 10 = .ok (.iload_n 1, 1) := by decide +kernel
theorem dX6_isCourtier_11 : decode cX6_isCourtier 11 = .ok (.iconst 0, 1) := by decide +kernel
theorem dX6_isCourtier_12 : decode cX6_isCourtier 12 = .ok (.bipush 99, 2) := by decide +kernel
theorem dX6_isCourtier_14 : decode cX6_isCourtier 14 = .ok (.invokestatic 86, 3) := by decide +kernel
theorem dX6_isCourtier_17 : decode cX6_isCourtier 17 = .ok (.ifCond .eq 7, 3) := by decide +kernel
theorem dX6_isCourtier_20 : decode cX6_isCourtier 20 = .ok (.iconst 1, 1) := by decide +kernel
theorem dX6_isCourtier_21 : decode cX6_isCourtier 21 = .ok (.goto 4, 3) := by decide +kernel
theorem dX6_isCourtier_24 : decode cX6_isCourtier 24 = .ok (.iconst 0, 1) := by decide +kernel
theorem dX6_isCourtier_25 : decode cX6_isCourtier 25 = .ok (.ireturn, 1) := by decide +kernel
set_option maxRecDepth 20000 in
theorem ggX6_isThere_X6_isWithin : GoodIn wsX6_isThere wsX6_isWithin := goodIn_q _ [5] [] rfl (by decide +kernel) (by decide +kernel)
set_option maxRecDepth 20000 in
theorem gX6_isThere_X6_isWithin : GoodIn wsX6_isThere (va_wsS RX6 86 yX6_isWithin wsX6_isWithin) := goodIn_app (goodIn_of _ (by decide +kernel)) ggX6_isThere_X6_isWithin
theorem dX6_isThere_0 : decode cX6_isThere 0 = .ok (.iload_n 1, 1) := by decide +kernel
theorem dX6_isThere_1 : decode cX6_isThere 1 = .ok (.iconst 0, 1) := by decide +kernel
theorem dX6_isThere_2 : decode cX6_isThere 2 = .ok (.aload_n 0, 1) := by decide +kernel
theorem dX6_isThere_3 : decode cX6_isThere 3 = .ok (.getfield 10, 3) := by decide +kernel
theorem dX6_isThere_6 : decode cX6_isThere 6 = .ok (.getfield 71, 3) := by decide +kernel
theorem dX6_isThere_9 : decode cX6_isThere 9 = .ok (.iconst 1, 1) := by decide +kernel
theorem dX6_isThere_10 : decode cX6_isThere 10 = .ok (.isub, 1) := by decide +kernel
theorem dX6_isThere_11 : decode cX6_isThere 11 = .ok (.invokestatic 86, 3) := by decide +kernel
theorem dX6_isThere_14 : decode cX6_isThere 14 = .ok (.ireturn, 1) := by decide +kernel
set_option maxRecDepth 20000 in
theorem ggX6_refusalOfTold_X6_isSheet : GoodIn wsX6_refusalOfTold wsX6_isSheet := goodIn_q _ [6, 9] [7, 8, 5] rfl (by decide +kernel) (by decide +kernel)
set_option maxRecDepth 20000 in
theorem gX6_refusalOfTold_X6_isSheet : GoodIn wsX6_refusalOfTold (va_wsS RX6 237 yX6_isSheet wsX6_isSheet) := goodIn_app (goodIn_of _ (by decide +kernel)) ggX6_refusalOfTold_X6_isSheet
set_option maxRecDepth 20000 in
theorem ggX6_refusalOfTold_X3_isMissing : GoodIn wsX6_refusalOfTold wsX3_isMissing := goodIn_q _ [14] [15, 28, 29, 30] rfl (by decide +kernel) (by decide +kernel)
set_option maxRecDepth 20000 in
theorem gX6_refusalOfTold_X3_isMissing : GoodIn wsX6_refusalOfTold (wsV RX6 257 RX3 yX3_isMissing wsX3_isMissing) := goodIn_app (goodIn_of _ (by decide +kernel)) ggX6_refusalOfTold_X3_isMissing
theorem dX6_refusalOfTold_0 : decode cX6_refusalOfTold 0 = .ok (.iload_n 1, 1) := by decide +kernel
theorem dX6_refusalOfTold_1 : decode cX6_refusalOfTold 1 = .ok (.invokestatic 237, 3) := by decide +kernel
theorem dX6_refusalOfTold_4 : decode cX6_refusalOfTold 4 = .ok (.ifCond .ne 6, 3) := by decide +kernel
theorem dX6_refusalOfTold_7 : decode cX6_refusalOfTold 7 = .ok (.bipush (-2), 2) := by decide +kernel
theorem dX6_refusalOfTold_9 : decode cX6_refusalOfTold 9 = .ok (.ireturn, 1) := by decide +kernel
theorem dX6_refusalOfTold_10 : decode cX6_refusalOfTold 10 = .ok (.aload_n 0, 1) := by decide +kernel
theorem dX6_refusalOfTold_11 : decode cX6_refusalOfTold 11 = .ok (.getfield 62, 3) := by decide +kernel
theorem dX6_refusalOfTold_14 : decode cX6_refusalOfTold 14 = .ok (.iload_n 1, 1) := by decide +kernel
theorem dX6_refusalOfTold_15 : decode cX6_refusalOfTold 15 = .ok (.aaload, 1) := by decide +kernel
theorem dX6_refusalOfTold_16 : decode cX6_refusalOfTold 16 = .ok (.invokevirtual 257, 3) := by decide +kernel
theorem dX6_refusalOfTold_19 : decode cX6_refusalOfTold 19 = .ok (.ifCond .eq 6, 3) := by decide +kernel
theorem dX6_refusalOfTold_22 : decode cX6_refusalOfTold 22 = .ok (.bipush (-11), 2) := by decide +kernel
theorem dX6_refusalOfTold_24 : decode cX6_refusalOfTold 24 = .ok (.ireturn, 1) := by decide +kernel
theorem dX6_refusalOfTold_25 : decode cX6_refusalOfTold 25 = .ok (.aload_n 0, 1) := by decide +kernel
theorem dX6_refusalOfTold_26 : decode cX6_refusalOfTold 26 = .ok (.getfield 62, 3) := by decide +kernel
theorem dX6_refusalOfTold_29 : decode cX6_refusalOfTold 29 = .ok (.iload_n 1, 1) := by decide +kernel
theorem dX6_refusalOfTold_30 : decode cX6_refusalOfTold 30 = .ok (.aaload, 1) := by decide +kernel
theorem dX6_refusalOfTold_31 : decode cX6_refusalOfTold 31 = .ok (.getfield 285, 3) := by decide +kernel
theorem dX6_refusalOfTold_34 : decode cX6_refusalOfTold 34 = .ok (.aload_n 0, 1) := by decide +kernel
theorem dX6_refusalOfTold_35 : decode cX6_refusalOfTold 35 = .ok (.getfield 10, 3) := by decide +kernel
theorem dX6_refusalOfTold_38 : decode cX6_refusalOfTold 38 = .ok (.getfield 71, 3) := by decide +kernel
theorem dX6_refusalOfTold_41 : decode cX6_refusalOfTold 41 = .ok (.if_icmp .le 8, 3) := by decide +kernel
theorem dX6_refusalOfTold_44 : decode cX6_refusalOfTold 44 = .ok (.bipush (-2), 2) := by decide +kernel
theorem dX6_refusalOfTold_46 : decode cX6_refusalOfTold 46 = .ok (.goto 4, 3) := by decide +kernel
theorem dX6_refusalOfTold_49 : decode cX6_refusalOfTold 49 = .ok (.iconst 0, 1) := by decide +kernel
theorem dX6_refusalOfTold_50 : decode cX6_refusalOfTold 50 = .ok (.ireturn, 1) := by decide +kernel
set_option maxRecDepth 20000 in
theorem ggX6_refusalOfOne_X6_refusalOfTold : GoodIn wsX6_refusalOfOne wsX6_refusalOfTold := goodIn_q _ [5, 10, 13, 18] [6, 7, 8, 9, 4, 11, 12, 14, 15, 16, 17, 19, 24, 25, 26, 27, 28, 29, 30, 31, 32, 33, 34, 35, 36, 37, 38, 39, 40, 41, 42, 43, 44, 45, 46, 47] rfl (by decide +kernel) (by decide +kernel)
set_option maxRecDepth 20000 in
theorem gX6_refusalOfOne_X6_refusalOfTold : GoodIn wsX6_refusalOfOne (wsV RX6 227 RX6 yX6_refusalOfTold wsX6_refusalOfTold) := goodIn_app (goodIn_of _ (by decide +kernel)) ggX6_refusalOfOne_X6_refusalOfTold
set_option maxRecDepth 20000 in
theorem ggX6_refusalOfOne_X6_isThere : GoodIn wsX6_refusalOfOne wsX6_isThere := goodIn_q _ [23, 13] [7, 11, 12, 4, 24, 25, 26, 27, 28, 29, 30, 31, 32, 33, 34, 35, 39, 40, 41, 42, 43, 44, 45, 46, 47] rfl (by decide +kernel) (by decide +kernel)
set_option maxRecDepth 20000 in
theorem gX6_refusalOfOne_X6_isThere : GoodIn wsX6_refusalOfOne (wsV RX6 106 RX6 yX6_isThere wsX6_isThere) := goodIn_app (goodIn_of _ (by decide +kernel)) ggX6_refusalOfOne_X6_isThere
set_option maxRecDepth 20000 in
theorem ggX6_refusalOfOne_X6_isWithin : GoodIn wsX6_refusalOfOne wsX6_isWithin := goodIn_q _ [13] [] rfl (by decide +kernel) (by decide +kernel)
set_option maxRecDepth 20000 in
theorem gX6_refusalOfOne_X6_isWithin : GoodIn wsX6_refusalOfOne (va_wsS RX6 86 yX6_isWithin wsX6_isWithin) := goodIn_app (goodIn_of _ (by decide +kernel)) ggX6_refusalOfOne_X6_isWithin
theorem dX6_refusalOfOne_0 : decode cX6_refusalOfOne 0 = .ok (.aload_n 0, 1) := by decide +kernel
theorem dX6_refusalOfOne_1 : decode cX6_refusalOfOne 1 = .ok (.iload_n 1, 1) := by decide +kernel
theorem dX6_refusalOfOne_2 : decode cX6_refusalOfOne 2 = .ok (.invokevirtual 227, 3) := by decide +kernel
theorem dX6_refusalOfOne_5 : decode cX6_refusalOfOne 5 = .ok (.istore 4, 2) := by decide +kernel
theorem dX6_refusalOfOne_7 : decode cX6_refusalOfOne 7 = .ok (.iload 4, 2) := by decide +kernel
theorem dX6_refusalOfOne_9 : decode cX6_refusalOfOne 9 = .ok (.ifCond .ge 6, 3) := by decide +kernel
theorem dX6_refusalOfOne_12 : decode cX6_refusalOfOne 12 = .ok (.iload 4, 2) := by decide +kernel
theorem dX6_refusalOfOne_14 : decode cX6_refusalOfOne 14 = .ok (.ireturn, 1) := by decide +kernel
theorem dX6_refusalOfOne_15 : decode cX6_refusalOfOne 15 = .ok (.aload_n 0, 1) := by decide +kernel
theorem dX6_refusalOfOne_16 : decode cX6_refusalOfOne 16 = .ok (.iload_n 2, 1) := by decide +kernel
theorem dX6_refusalOfOne_17 : decode cX6_refusalOfOne 17 = .ok (.invokevirtual 106, 3) := by decide +kernel
theorem dX6_refusalOfOne_20 : decode cX6_refusalOfOne 20 = .ok (.ifCond .ne 6, 3) := by decide +kernel
theorem dX6_refusalOfOne_23 : decode cX6_refusalOfOne 23 = .ok (.bipush (-5), 2) := by decide +kernel
theorem dX6_refusalOfOne_25 : decode cX6_refusalOfOne 25 = .ok (.ireturn, 1) := by decide +kernel
theorem dX6_refusalOfOne_26 : decode cX6_refusalOfOne 26 = .ok (.iload_n 3, 1) := by decide +kernel
theorem dX6_refusalOfOne_27 : decode cX6_refusalOfOne 27 = .ok (.iconst 0, 1) := by decide +kernel
theorem dX6_refusalOfOne_28 : decode cX6_refusalOfOne 28 = .ok (.iconst 1, 1) := by decide +kernel
theorem dX6_refusalOfOne_29 : decode cX6_refusalOfOne 29 = .ok (.invokestatic 86, 3) := by decide +kernel
theorem dX6_refusalOfOne_32 : decode cX6_refusalOfOne 32 = .ok (.ifCond .eq 7, 3) := by decide +kernel
theorem dX6_refusalOfOne_35 : decode cX6_refusalOfOne 35 = .ok (.iconst 0, 1) := by decide +kernel
theorem dX6_refusalOfOne_36 : decode cX6_refusalOfOne 36 = .ok (.goto 5, 3) := by decide +kernel
theorem dX6_refusalOfOne_39 : decode cX6_refusalOfOne 39 = .ok (.bipush (-7), 2) := by decide +kernel
theorem dX6_refusalOfOne_41 : decode cX6_refusalOfOne 41 = .ok (.ireturn, 1) := by decide +kernel
set_option maxRecDepth 20000 in
theorem ggX6_lawOf_X6_isWithin : GoodIn wsX6_lawOf wsX6_isWithin := goodIn_q _ [7] [] rfl (by decide +kernel) (by decide +kernel)
set_option maxRecDepth 20000 in
theorem gX6_lawOf_X6_isWithin : GoodIn wsX6_lawOf (va_wsS RX6 86 yX6_isWithin wsX6_isWithin) := goodIn_app (goodIn_of _ (by decide +kernel)) ggX6_lawOf_X6_isWithin
theorem dX6_lawOf_0 : decode cX6_lawOf 0 = .ok (.aload_n 1, 1) := by decide +kernel
theorem dX6_lawOf_1 : decode cX6_lawOf 1 = .ok (.getfield 80, 3) := by decide +kernel
theorem dX6_lawOf_4 : decode cX6_lawOf 4 = .ok (.iconst 0, 1) := by decide +kernel
theorem dX6_lawOf_5 : decode cX6_lawOf 5 = .ok (.aload_n 0, 1) := by decide +kernel
theorem dX6_lawOf_6 : decode cX6_lawOf 6 = .ok (.getfield 49, 3) := by decide +kernel
theorem dX6_lawOf_9 : decode cX6_lawOf 9 = .ok (.iconst 1, 1) := by decide +kernel
theorem dX6_lawOf_10 : decode cX6_lawOf 10 = .ok (.isub, 1) := by decide +kernel
theorem dX6_lawOf_11 : decode cX6_lawOf 11 = .ok (.invokestatic 86, 3) := by decide +kernel
theorem dX6_lawOf_14 : decode cX6_lawOf 14 = .ok (.ifCond .eq 15, 3) := by decide +kernel
theorem dX6_lawOf_17 : decode cX6_lawOf 17 = .ok (.aload_n 0, 1) := by decide +kernel
theorem dX6_lawOf_18 : decode cX6_lawOf 18 = .ok (.getfield 45, 3) := by decide +kernel
theorem dX6_lawOf_21 : decode cX6_lawOf 21 = .ok (.aload_n 1, 1) := by decide +kernel
theorem dX6_lawOf_22 : decode cX6_lawOf 22 = .ok (.getfield 80, 3) := by decide +kernel
theorem dX6_lawOf_25 : decode cX6_lawOf 25 = .ok (.aaload, 1) := by decide +kernel
theorem dX6_lawOf_26 : decode cX6_lawOf 26 = .ok (.goto 7, 3) := by decide +kernel
theorem dX6_lawOf_29 : decode cX6_lawOf 29 = .ok (.aload_n 0, 1) := by decide +kernel
theorem dX6_lawOf_30 : decode cX6_lawOf 30 = .ok (.getfield 41, 3) := by decide +kernel
theorem dX6_lawOf_33 : decode cX6_lawOf 33 = .ok (.astore_n 2, 1) := by decide +kernel
theorem dX6_lawOf_34 : decode cX6_lawOf 34 = .ok (.aload_n 2, 1) := by decide +kernel
theorem dX6_lawOf_35 : decode cX6_lawOf 35 = .ok (.ifnonnull 10, 3) := by decide +kernel
theorem dX6_lawOf_38 : decode cX6_lawOf 38 = .ok (.aload_n 0, 1) := by decide +kernel
theorem dX6_lawOf_39 : decode cX6_lawOf 39 = .ok (.getfield 41, 3) := by decide +kernel
theorem dX6_lawOf_42 : decode cX6_lawOf 42 = .ok (.goto 4, 3) := by decide +kernel
theorem dX6_lawOf_45 : decode cX6_lawOf 45 = .ok (.aload_n 2, 1) := by decide +kernel
theorem dX6_lawOf_46 : decode cX6_lawOf 46 = .ok (.areturn, 1) := by decide +kernel
set_option maxRecDepth 20000 in
theorem ggX6_serve_X6_lawOf : GoodIn wsX6_serve wsX6_lawOf := goodIn_q _ [6, 12] [7, 8, 9, 10, 11, 5, 96, 97, 98, 99, 100, 101, 102, 103, 104, 84, 85, 86, 87, 88, 89, 90, 91, 92, 93, 94, 95] rfl (by decide +kernel) (by decide +kernel)
set_option maxRecDepth 20000 in
theorem gX6_serve_X6_lawOf : GoodIn wsX6_serve (wsV RX6 113 RX6 yX6_lawOf wsX6_lawOf) := goodIn_app (goodIn_of _ (by decide +kernel)) ggX6_serve_X6_lawOf
set_option maxRecDepth 20000 in
theorem ggX6_serve_X2_serve : GoodIn wsX6_serve wsX2_serve := goodIn_q _ [17, 25, 29, 37, 42, 48, 53, 57, 62, 67, 69, 72, 75, 78, 80, 83] [18, 19, 20, 21, 22, 23, 24, 26, 27, 28, 16, 30, 31, 32, 33, 34, 35, 36, 38, 39, 40, 41, 43, 44, 45, 46, 47, 49, 50, 51, 52, 54, 55, 56, 58, 59, 60, 61, 63, 64, 65, 66, 68, 5, 70, 71, 73, 74, 76, 77, 79, 81, 82, 105, 106, 107, 108, 109, 110, 111, 112, 113, 114, 115, 96, 97, 98, 99, 100, 101, 102, 103, 104, 116, 117] rfl (by decide +kernel) (by decide +kernel)
set_option maxRecDepth 20000 in
theorem gX6_serve_X2_serve : GoodIn wsX6_serve (wsV RX6 286 RX2 yX2_serve wsX2_serve) := goodIn_app (goodIn_of _ (by decide +kernel)) ggX6_serve_X2_serve
theorem dX6_serve_0 : decode cX6_serve 0 = .ok (.aload_n 0, 1) := by decide +kernel
theorem dX6_serve_1 : decode cX6_serve 1 = .ok (.getfield 25, 3) := by decide +kernel
theorem dX6_serve_4 : decode cX6_serve 4 = .ok (.aload_n 1, 1) := by decide +kernel
theorem dX6_serve_5 : decode cX6_serve 5 = .ok (.aload_n 0, 1) := by decide +kernel
theorem dX6_serve_6 : decode cX6_serve 6 = .ok (.aload_n 1, 1) := by decide +kernel
theorem dX6_serve_7 : decode cX6_serve 7 = .ok (.invokevirtual 113, 3) := by decide +kernel
theorem dX6_serve_10 : decode cX6_serve 10 = .ok (.invokevirtual 286, 3) := by decide +kernel
theorem dX6_serve_13 : decode cX6_serve 13 = .ok (.ireturn, 1) := by decide +kernel
set_option maxRecDepth 20000 in
theorem ggX6_firstOtherwise_X6_lawOf : GoodIn wsX6_firstOtherwise wsX6_lawOf := goodIn_q _ [6, 12] [7, 8, 9, 10, 11, 5, 110, 111, 112, 113, 114, 115, 116, 117, 118, 84, 85, 86, 87, 88, 89, 90, 91, 92, 93, 94, 95] rfl (by decide +kernel) (by decide +kernel)
set_option maxRecDepth 20000 in
theorem gX6_firstOtherwise_X6_lawOf : GoodIn wsX6_firstOtherwise (wsV RX6 113 RX6 yX6_lawOf wsX6_lawOf) := goodIn_app (goodIn_of _ (by decide +kernel)) ggX6_firstOtherwise_X6_lawOf
set_option maxRecDepth 20000 in
theorem ggX6_firstOtherwise_X2_serve : GoodIn wsX6_firstOtherwise wsX2_serve := goodIn_q _ [17, 25, 29, 37, 42, 48, 53, 57, 62, 67, 69, 72, 75, 78, 80, 83] [18, 19, 20, 21, 22, 23, 24, 26, 27, 28, 16, 30, 31, 32, 33, 34, 35, 36, 38, 39, 40, 41, 43, 44, 45, 46, 47, 49, 50, 51, 52, 54, 55, 56, 58, 59, 60, 61, 63, 64, 65, 66, 68, 5, 70, 71, 73, 74, 76, 77, 79, 81, 82, 99, 100, 101, 102, 103, 104, 105, 106, 107, 108, 109, 110, 111, 112, 113, 114, 115, 116, 117, 118, 119, 120] rfl (by decide +kernel) (by decide +kernel)
set_option maxRecDepth 20000 in
theorem gX6_firstOtherwise_X2_serve : GoodIn wsX6_firstOtherwise (wsV RX6 286 RX2 yX2_serve wsX2_serve) := goodIn_app (goodIn_of _ (by decide +kernel)) ggX6_firstOtherwise_X2_serve
theorem dX6_firstOtherwise_0 : decode cX6_firstOtherwise 0 = .ok (.aload_n 0, 1) := by decide +kernel
theorem dX6_firstOtherwise_1 : decode cX6_firstOtherwise 1 = .ok (.getfield 25, 3) := by decide +kernel
theorem dX6_firstOtherwise_4 : decode cX6_firstOtherwise 4 = .ok (.aload_n 2, 1) := by decide +kernel
theorem dX6_firstOtherwise_5 : decode cX6_firstOtherwise 5 = .ok (.aload_n 0, 1) := by decide +kernel
theorem dX6_firstOtherwise_6 : decode cX6_firstOtherwise 6 = .ok (.aload_n 2, 1) := by decide +kernel
theorem dX6_firstOtherwise_7 : decode cX6_firstOtherwise 7 = .ok (.invokevirtual 113, 3) := by decide +kernel
theorem dX6_firstOtherwise_10 : decode cX6_firstOtherwise 10 = .ok (.invokevirtual 286, 3) := by decide +kernel
theorem dX6_firstOtherwise_13 : decode cX6_firstOtherwise 13 = .ok (.pop, 1) := by decide +kernel
theorem dX6_firstOtherwise_14 : decode cX6_firstOtherwise 14 = .ok (.iconst 0, 1) := by decide +kernel
theorem dX6_firstOtherwise_15 : decode cX6_firstOtherwise 15 = .ok (.istore_n 3, 1) := by decide +kernel
theorem dX6_firstOtherwise_16 : decode cX6_firstOtherwise 16 = .ok (.iload_n 3, 1) := by decide +kernel
theorem dX6_firstOtherwise_17 : decode cX6_firstOtherwise 17 = .ok (.aload_n 1, 1) := by decide +kernel
theorem dX6_firstOtherwise_18 : decode cX6_firstOtherwise 18 = .ok (.getfield 285, 3) := by decide +kernel
theorem dX6_firstOtherwise_21 : decode cX6_firstOtherwise 21 = .ok (.if_icmp .ge 35, 3) := by decide +kernel
theorem dX6_firstOtherwise_24 : decode cX6_firstOtherwise 24 = .ok (.iload_n 3, 1) := by decide +kernel
theorem dX6_firstOtherwise_25 : decode cX6_firstOtherwise 25 = .ok (.bipush 6, 2) := by decide +kernel
theorem dX6_firstOtherwise_27 : decode cX6_firstOtherwise 27 = .ok (.if_icmp .ge 29, 3) := by decide +kernel
theorem dX6_firstOtherwise_30 : decode cX6_firstOtherwise 30 = .ok (.aload_n 1, 1) := by decide +kernel
theorem dX6_firstOtherwise_31 : decode cX6_firstOtherwise 31 = .ok (.getfield 269, 3) := by decide +kernel
theorem dX6_firstOtherwise_34 : decode cX6_firstOtherwise 34 = .ok (.iload_n 3, 1) := by decide +kernel
theorem dX6_firstOtherwise_35 : decode cX6_firstOtherwise 35 = .ok (.iaload, 1) := by decide +kernel
theorem dX6_firstOtherwise_36 : decode cX6_firstOtherwise 36 = .ok (.aload_n 0, 1) := by decide +kernel
theorem dX6_firstOtherwise_37 : decode cX6_firstOtherwise 37 = .ok (.getfield 25, 3) := by decide +kernel
theorem dX6_firstOtherwise_40 : decode cX6_firstOtherwise 40 = .ok (.getfield 151, 3) := by decide +kernel
theorem dX6_firstOtherwise_43 : decode cX6_firstOtherwise 43 = .ok (.iload_n 3, 1) := by decide +kernel
theorem dX6_firstOtherwise_44 : decode cX6_firstOtherwise 44 = .ok (.iaload, 1) := by decide +kernel
theorem dX6_firstOtherwise_45 : decode cX6_firstOtherwise 45 = .ok (.if_icmp .eq 5, 3) := by decide +kernel
theorem dX6_firstOtherwise_48 : decode cX6_firstOtherwise 48 = .ok (.iload_n 3, 1) := by decide +kernel
theorem dX6_firstOtherwise_49 : decode cX6_firstOtherwise 49 = .ok (.ireturn, 1) := by decide +kernel
theorem dX6_firstOtherwise_50 : decode cX6_firstOtherwise 50 = .ok (.iinc 3 1, 3) := by decide +kernel
theorem dX6_firstOtherwise_53 : decode cX6_firstOtherwise 53 = .ok (.goto (-37), 3) := by decide +kernel
theorem dX6_firstOtherwise_56 : decode cX6_firstOtherwise 56 = .ok (.iconst (-1), 1) := by decide +kernel
theorem dX6_firstOtherwise_57 : decode cX6_firstOtherwise 57 = .ok (.ireturn, 1) := by decide +kernel
theorem dX6_rankByTurns_0 : decode cX6_rankByTurns 0 = .ok (.iconst 0, 1) := by decide +kernel
theorem dX6_rankByTurns_1 : decode cX6_rankByTurns 1 = .ok (.istore_n 1, 1) := by decide +kernel
theorem dX6_rankByTurns_2 : decode cX6_rankByTurns 2 = .ok (.iload_n 1, 1) := by decide +kernel
theorem dX6_rankByTurns_3 : decode cX6_rankByTurns 3 = .ok (.aload_n 0, 1) := by decide +kernel
theorem dX6_rankByTurns_4 : decode cX6_rankByTurns 4 = .ok (.getfield 16, 3) := by decide +kernel
theorem dX6_rankByTurns_7 : decode cX6_rankByTurns 7 = .ok (.getfield 71, 3) := by decide +kernel
theorem dX6_rankByTurns_10 : decode cX6_rankByTurns 10 = .ok (.if_icmp .ge 32, 3) := by decide +kernel
theorem dX6_rankByTurns_13 : decode cX6_rankByTurns 13 = .ok (.aload_n 0, 1) := by decide +kernel
theorem dX6_rankByTurns_14 : decode cX6_rankByTurns 14 = .ok (.getfield 16, 3) := by decide +kernel
theorem dX6_rankByTurns_17 : decode cX6_rankByTurns 17 = .ok (.getfield 129, 3) := by decide +kernel
theorem dX6_rankByTurns_20 : decode cX6_rankByTurns 20 = .ok (.aload_n 0, 1) := by decide +kernel
theorem dX6_rankByTurns_21 : decode cX6_rankByTurns 21 = .ok (.getfield 66, 3) := by decide +kernel
theorem dX6_rankByTurns_24 : decode cX6_rankByTurns 24 = .ok (.iload_n 1, 1) := by decide +kernel
theorem dX6_rankByTurns_25 : decode cX6_rankByTurns 25 = .ok (.iaload, 1) := by decide +kernel
theorem dX6_rankByTurns_26 : decode cX6_rankByTurns 26 = .ok (.aload_n 0, 1) := by decide +kernel
theorem dX6_rankByTurns_27 : decode cX6_rankByTurns 27 = .ok (.getfield 16, 3) := by decide +kernel
theorem dX6_rankByTurns_30 : decode cX6_rankByTurns 30 = .ok (.getfield 71, 3) := by decide +kernel
theorem dX6_rankByTurns_33 : decode cX6_rankByTurns 33 = .ok (.iload_n 1, 1) := by decide +kernel
theorem dX6_rankByTurns_34 : decode cX6_rankByTurns 34 = .ok (.isub, 1) := by decide +kernel
theorem dX6_rankByTurns_35 : decode cX6_rankByTurns 35 = .ok (.iastore, 1) := by decide +kernel
theorem dX6_rankByTurns_36 : decode cX6_rankByTurns 36 = .ok (.iinc 1 1, 3) := by decide +kernel
theorem dX6_rankByTurns_39 : decode cX6_rankByTurns 39 = .ok (.goto (-37), 3) := by decide +kernel
theorem dX6_rankByTurns_42 : decode cX6_rankByTurns 42 = .ok (.return_, 1) := by decide +kernel
theorem dX6_digitsOfTurns_0 : decode cX6_digitsOfTurns 0 = .ok (.iconst 0, 1) := by decide +kernel
theorem dX6_digitsOfTurns_1 : decode cX6_digitsOfTurns 1 = .ok (.istore_n 1, 1) := by decide +kernel
theorem dX6_digitsOfTurns_2 : decode cX6_digitsOfTurns 2 = .ok (.iconst 0, 1) := by decide +kernel
theorem dX6_digitsOfTurns_3 : decode cX6_digitsOfTurns 3 = .ok (.istore_n 2, 1) := by decide +kernel
theorem dX6_digitsOfTurns_4 : decode cX6_digitsOfTurns 4 = .ok (.iload_n 2, 1) := by decide +kernel
theorem dX6_digitsOfTurns_5 : decode cX6_digitsOfTurns 5 = .ok (.aload_n 0, 1) := by decide +kernel
theorem dX6_digitsOfTurns_6 : decode cX6_digitsOfTurns 6 = .ok (.getfield 16, 3) := by decide +kernel
theorem dX6_digitsOfTurns_9 : decode cX6_digitsOfTurns 9 = .ok (.getfield 71, 3) := by decide +kernel
theorem dX6_digitsOfTurns_12 : decode cX6_digitsOfTurns 12 = .ok (.if_icmp .ge 23, 3) := by decide +kernel
theorem dX6_digitsOfTurns_15 : decode cX6_digitsOfTurns 15 = .ok (.bipush 10, 2) := by decide +kernel
theorem dX6_digitsOfTurns_17 : decode cX6_digitsOfTurns 17 = .ok (.iload_n 1, 1) := by decide +kernel
theorem dX6_digitsOfTurns_18 : decode cX6_digitsOfTurns 18 = .ok (.imul, 1) := by decide +kernel
theorem dX6_digitsOfTurns_19 : decode cX6_digitsOfTurns 19 = .ok (.aload_n 0, 1) := by decide +kernel
theorem dX6_digitsOfTurns_20 : decode cX6_digitsOfTurns 20 = .ok (.getfield 66, 3) := by decide +kernel
theorem dX6_digitsOfTurns_23 : decode cX6_digitsOfTurns 23 = .ok (.iload_n 2, 1) := by decide +kernel
theorem dX6_digitsOfTurns_24 : decode cX6_digitsOfTurns 24 = .ok (.iaload, 1) := by decide +kernel
theorem dX6_digitsOfTurns_25 : decode cX6_digitsOfTurns 25 = .ok (.iadd, 1) := by decide +kernel
theorem dX6_digitsOfTurns_26 : decode cX6_digitsOfTurns 26 = .ok (.iconst 1, 1) := by decide +kernel
theorem dX6_digitsOfTurns_27 : decode cX6_digitsOfTurns 27 = .ok (.iadd, 1) := by decide +kernel
theorem dX6_digitsOfTurns_28 : decode cX6_digitsOfTurns 28 = .ok (.istore_n 1, 1) := by decide +kernel
theorem dX6_digitsOfTurns_29 : decode cX6_digitsOfTurns 29 = .ok (.iinc 2 1, 3) := by decide +kernel
theorem dX6_digitsOfTurns_32 : decode cX6_digitsOfTurns 32 = .ok (.goto (-28), 3) := by decide +kernel
theorem dX6_digitsOfTurns_35 : decode cX6_digitsOfTurns 35 = .ok (.iload_n 1, 1) := by decide +kernel
theorem dX6_digitsOfTurns_36 : decode cX6_digitsOfTurns 36 = .ok (.ireturn, 1) := by decide +kernel
set_option maxRecDepth 20000 in
theorem ggX6_turnOn_X6_changeTurns : GoodIn wsX6_turnOn wsX6_changeTurns := goodIn_q _ [7] [2, 8, 9, 10, 11, 12, 13, 14, 15, 16, 17, 18, 19] rfl (by decide +kernel) (by decide +kernel)
set_option maxRecDepth 20000 in
theorem gX6_turnOn_X6_changeTurns : GoodIn wsX6_turnOn (wsV RX6 289 RX6 yX6_changeTurns wsX6_changeTurns) := goodIn_app (goodIn_of _ (by decide +kernel)) ggX6_turnOn_X6_changeTurns
theorem dX6_turnOn_0 : decode cX6_turnOn 0 = .ok (.aload_n 0, 1) := by decide +kernel
theorem dX6_turnOn_1 : decode cX6_turnOn 1 = .ok (.getfield 16, 3) := by decide +kernel
theorem dX6_turnOn_4 : decode cX6_turnOn 4 = .ok (.getfield 71, 3) := by decide +kernel
theorem dX6_turnOn_7 : decode cX6_turnOn 7 = .ok (.istore_n 1, 1) := by decide +kernel
theorem dX6_turnOn_8 : decode cX6_turnOn 8 = .ok (.iload_n 1, 1) := by decide +kernel
theorem dX6_turnOn_9 : decode cX6_turnOn 9 = .ok (.iconst 2, 1) := by decide +kernel
theorem dX6_turnOn_10 : decode cX6_turnOn 10 = .ok (.isub, 1) := by decide +kernel
theorem dX6_turnOn_11 : decode cX6_turnOn 11 = .ok (.istore_n 2, 1) := by decide +kernel
theorem dX6_turnOn_12 : decode cX6_turnOn 12 = .ok (.iload_n 2, 1) := by decide +kernel
theorem dX6_turnOn_13 : decode cX6_turnOn 13 = .ok (.ifCond .lt 26, 3) := by decide +kernel
theorem dX6_turnOn_16 : decode cX6_turnOn 16 = .ok (.aload_n 0, 1) := by decide +kernel
theorem dX6_turnOn_17 : decode cX6_turnOn 17 = .ok (.getfield 66, 3) := by decide +kernel
theorem dX6_turnOn_20 : decode cX6_turnOn 20 = .ok (.iload_n 2, 1) := by decide +kernel
theorem dX6_turnOn_21 : decode cX6_turnOn 21 = .ok (.iaload, 1) := by decide +kernel
theorem dX6_turnOn_22 : decode cX6_turnOn 22 = .ok (.aload_n 0, 1) := by decide +kernel
theorem dX6_turnOn_23 : decode cX6_turnOn 23 = .ok (.getfield 66, 3) := by decide +kernel
theorem dX6_turnOn_26 : decode cX6_turnOn 26 = .ok (.iload_n 2, 1) := by decide +kernel
theorem dX6_turnOn_27 : decode cX6_turnOn 27 = .ok (.iconst 1, 1) := by decide +kernel
theorem dX6_turnOn_28 : decode cX6_turnOn 28 = .ok (.iadd, 1) := by decide +kernel
theorem dX6_turnOn_29 : decode cX6_turnOn 29 = .ok (.iaload, 1) := by decide +kernel
theorem dX6_turnOn_30 : decode cX6_turnOn 30 = .ok (.if_icmp .le 9, 3) := by decide +kernel
theorem dX6_turnOn_33 : decode cX6_turnOn 33 = .ok (.iinc 2 (-1), 3) := by decide +kernel
theorem dX6_turnOn_36 : decode cX6_turnOn 36 = .ok (.goto (-24), 3) := by decide +kernel
theorem dX6_turnOn_39 : decode cX6_turnOn 39 = .ok (.iload_n 2, 1) := by decide +kernel
theorem dX6_turnOn_40 : decode cX6_turnOn 40 = .ok (.ifCond .ge 5, 3) := by decide +kernel
theorem dX6_turnOn_43 : decode cX6_turnOn 43 = .ok (.iconst 0, 1) := by decide +kernel
theorem dX6_turnOn_44 : decode cX6_turnOn 44 = .ok (.ireturn, 1) := by decide +kernel
theorem dX6_turnOn_45 : decode cX6_turnOn 45 = .ok (.iload_n 1, 1) := by decide +kernel
theorem dX6_turnOn_46 : decode cX6_turnOn 46 = .ok (.iconst 1, 1) := by decide +kernel
theorem dX6_turnOn_47 : decode cX6_turnOn 47 = .ok (.isub, 1) := by decide +kernel
theorem dX6_turnOn_48 : decode cX6_turnOn 48 = .ok (.istore_n 3, 1) := by decide +kernel
theorem dX6_turnOn_49 : decode cX6_turnOn 49 = .ok (.iload_n 3, 1) := by decide +kernel
theorem dX6_turnOn_50 : decode cX6_turnOn 50 = .ok (.iload_n 2, 1) := by decide +kernel
theorem dX6_turnOn_51 : decode cX6_turnOn 51 = .ok (.iconst 1, 1) := by decide +kernel
theorem dX6_turnOn_52 : decode cX6_turnOn 52 = .ok (.iadd, 1) := by decide +kernel
theorem dX6_turnOn_53 : decode cX6_turnOn 53 = .ok (.if_icmp .le 24, 3) := by decide +kernel
theorem dX6_turnOn_56 : decode cX6_turnOn 56 = .ok (.aload_n 0, 1) := by decide +kernel
theorem dX6_turnOn_57 : decode cX6_turnOn 57 = .ok (.getfield 66, 3) := by decide +kernel
theorem dX6_turnOn_60 : decode cX6_turnOn 60 = .ok (.iload_n 3, 1) := by decide +kernel
theorem dX6_turnOn_61 : decode cX6_turnOn 61 = .ok (.iaload, 1) := by decide +kernel
theorem dX6_turnOn_62 : decode cX6_turnOn 62 = .ok (.aload_n 0, 1) := by decide +kernel
theorem dX6_turnOn_63 : decode cX6_turnOn 63 = .ok (.getfield 66, 3) := by decide +kernel
theorem dX6_turnOn_66 : decode cX6_turnOn 66 = .ok (.iload_n 2, 1) := by decide +kernel
theorem dX6_turnOn_67 : decode cX6_turnOn 67 = .ok (.iaload, 1) := by decide +kernel
theorem dX6_turnOn_68 : decode cX6_turnOn 68 = .ok (.if_icmp .ge 9, 3) := by decide +kernel
theorem dX6_turnOn_71 : decode cX6_turnOn 71 = .ok (.iinc 3 (-1), 3) := by decide +kernel
theorem dX6_turnOn_74 : decode cX6_turnOn 74 = .ok (.goto (-25), 3) := by decide +kernel
theorem dX6_turnOn_77 : decode cX6_turnOn 77 = .ok (.aload_n 0, 1) := by decide +kernel
theorem dX6_turnOn_78 : decode cX6_turnOn 78 = .ok (.iload_n 2, 1) := by decide +kernel
theorem dX6_turnOn_79 : decode cX6_turnOn 79 = .ok (.iload_n 3, 1) := by decide +kernel
theorem dX6_turnOn_80 : decode cX6_turnOn 80 = .ok (.invokevirtual 289, 3) := by decide +kernel
theorem dX6_turnOn_83 : decode cX6_turnOn 83 = .ok (.iload_n 2, 1) := by decide +kernel
theorem dX6_turnOn_84 : decode cX6_turnOn 84 = .ok (.iconst 1, 1) := by decide +kernel
theorem dX6_turnOn_85 : decode cX6_turnOn 85 = .ok (.iadd, 1) := by decide +kernel
theorem dX6_turnOn_86 : decode cX6_turnOn 86 = .ok (.istore 4, 2) := by decide +kernel
theorem dX6_turnOn_88 : decode cX6_turnOn 88 = .ok (.iload_n 1, 1) := by decide +kernel
theorem dX6_turnOn_89 : decode cX6_turnOn 89 = .ok (.iconst 1, 1) := by decide +kernel
theorem dX6_turnOn_90 : decode cX6_turnOn 90 = .ok (.isub, 1) := by decide +kernel
theorem dX6_turnOn_91 : decode cX6_turnOn 91 = .ok (.istore 5, 2) := by decide +kernel
theorem dX6_turnOn_93 : decode cX6_turnOn 93 = .ok (.iload 4, 2) := by decide +kernel
theorem dX6_turnOn_95 : decode cX6_turnOn 95 = .ok (.iload 5, 2) := by decide +kernel
theorem dX6_turnOn_97 : decode cX6_turnOn 97 = .ok (.if_icmp .ge 20, 3) := by decide +kernel
theorem dX6_turnOn_100 : decode cX6_turnOn 100 = .ok (.aload_n 0, 1) := by decide +kernel
theorem dX6_turnOn_101 : decode cX6_turnOn 101 = .ok (.iload 4, 2) := by decide +kernel
theorem dX6_turnOn_103 : decode cX6_turnOn 103 = .ok (.iload 5, 2) := by decide +kernel
theorem dX6_turnOn_105 : decode cX6_turnOn 105 = .ok (.invokevirtual 289, 3) := by decide +kernel
theorem dX6_turnOn_108 : decode cX6_turnOn 108 = .ok (.iinc 4 1, 3) := by decide +kernel
theorem dX6_turnOn_111 : decode cX6_turnOn 111 = .ok (.iinc 5 (-1), 3) := by decide +kernel
theorem dX6_turnOn_114 : decode cX6_turnOn 114 = .ok (.goto (-21), 3) := by decide +kernel
theorem dX6_turnOn_117 : decode cX6_turnOn 117 = .ok (.iconst 1, 1) := by decide +kernel
theorem dX6_turnOn_118 : decode cX6_turnOn 118 = .ok (.ireturn, 1) := by decide +kernel
theorem dX6_changeTurns_0 : decode cX6_changeTurns 0 = .ok (.aload_n 0, 1) := by decide +kernel
theorem dX6_changeTurns_1 : decode cX6_changeTurns 1 = .ok (.getfield 66, 3) := by decide +kernel
theorem dX6_changeTurns_4 : decode cX6_changeTurns 4 = .ok (.iload_n 1, 1) := by decide +kernel
theorem dX6_changeTurns_5 : decode cX6_changeTurns 5 = .ok (.iaload, 1) := by decide +kernel
theorem dX6_changeTurns_6 : decode cX6_changeTurns 6 = .ok (.istore_n 3, 1) := by decide +kernel
theorem dX6_changeTurns_7 : decode cX6_changeTurns 7 = .ok (.aload_n 0, 1) := by decide +kernel
theorem dX6_changeTurns_8 : decode cX6_changeTurns 8 = .ok (.getfield 66, 3) := by decide +kernel
theorem dX6_changeTurns_11 : decode cX6_changeTurns 11 = .ok (.iload_n 1, 1) := by decide +kernel
theorem dX6_changeTurns_12 : decode cX6_changeTurns 12 = .ok (.aload_n 0, 1) := by decide +kernel
theorem dX6_changeTurns_13 : decode cX6_changeTurns 13 = .ok (.getfield 66, 3) := by decide +kernel
theorem dX6_changeTurns_16 : decode cX6_changeTurns 16 = .ok (.iload_n 2, 1) := by decide +kernel
theorem dX6_changeTurns_17 : decode cX6_changeTurns 17 = .ok (.iaload, 1) := by decide +kernel
theorem dX6_changeTurns_18 : decode cX6_changeTurns 18 = .ok (.iastore, 1) := by decide +kernel
theorem dX6_changeTurns_19 : decode cX6_changeTurns 19 = .ok (.aload_n 0, 1) := by decide +kernel
theorem dX6_changeTurns_20 : decode cX6_changeTurns 20 = .ok (.getfield 66, 3) := by decide +kernel
theorem dX6_changeTurns_23 : decode cX6_changeTurns 23 = .ok (.iload_n 2, 1) := by decide +kernel
theorem dX6_changeTurns_24 : decode cX6_changeTurns 24 = .ok (.iload_n 3, 1) := by decide +kernel
theorem dX6_changeTurns_25 : decode cX6_changeTurns 25 = .ok (.iastore, 1) := by decide +kernel
theorem dX6_changeTurns_26 : decode cX6_changeTurns 26 = .ok (.return_, 1) := by decide +kernel
theorem dX6_inLowestTerms_0 : decode cX6_inLowestTerms 0 = .ok (.iload_n 0, 1) := by decide +kernel
theorem dX6_inLowestTerms_1 : decode cX6_inLowestTerms 1 = .ok (.istore_n 3, 1) := by decide +kernel
theorem dX6_inLowestTerms_2 : decode cX6_inLowestTerms 2 = .ok (.iload_n 1, 1) := by decide +kernel
theorem dX6_inLowestTerms_3 : decode cX6_inLowestTerms 3 = .ok (.istore 4, 2) := by decide +kernel
theorem dX6_inLowestTerms_5 : decode cX6_inLowestTerms 5 = .ok (.iconst 0, 1) := by decide +kernel
theorem dX6_inLowestTerms_6 : decode cX6_inLowestTerms 6 = .ok (.istore 5, 2) := by decide +kernel
theorem dX6_inLowestTerms_8 : decode cX6_inLowestTerms 8 = .ok (.iload 5, 2) := by decide +kernel
theorem dX6_inLowestTerms_10 : decode cX6_inLowestTerms 10 = .ok (.bipush 100, 2) := by decide +kernel
theorem dX6_inLowestTerms_12 : decode cX6_inLowestTerms 12 = .ok (.if_icmp .ge 27, 3) := by decide +kernel
theorem dX6_inLowestTerms_15 : decode cX6_inLowestTerms 15 = .ok (.iload 4, 2) := by decide +kernel
theorem dX6_inLowestTerms_17 : decode cX6_inLowestTerms 17 = .ok (.ifCond .eq 22, 3) := by decide +kernel
theorem dX6_inLowestTerms_20 : decode cX6_inLowestTerms 20 = .ok (.iload_n 3, 1) := by decide +kernel
theorem dX6_inLowestTerms_21 : decode cX6_inLowestTerms 21 = .ok (.iload 4, 2) := by decide +kernel
theorem dX6_inLowestTerms_23 : decode cX6_inLowestTerms 23 = .ok (.irem, 1) := by decide +kernel
theorem dX6_inLowestTerms_24 : decode cX6_inLowestTerms 24 = .ok (.istore 6, 2) := by decide +kernel
theorem dX6_inLowestTerms_26 : decode cX6_inLowestTerms 26 = .ok (.iload 4, 2) := by decide +kernel
theorem dX6_inLowestTerms_28 : decode cX6_inLowestTerms 28 = .ok (.istore_n 3, 1) := by decide +kernel
theorem dX6_inLowestTerms_29 : decode cX6_inLowestTerms 29 = .ok (.iload 6, 2) := by decide +kernel
theorem dX6_inLowestTerms_31 : decode cX6_inLowestTerms 31 = .ok (.istore 4, 2) := by decide +kernel
theorem dX6_inLowestTerms_33 : decode cX6_inLowestTerms 33 = .ok (.iinc 5 1, 3) := by decide +kernel
theorem dX6_inLowestTerms_36 : decode cX6_inLowestTerms 36 = .ok (.goto (-28), 3) := by decide +kernel
theorem dX6_inLowestTerms_39 : decode cX6_inLowestTerms 39 = .ok (.iload_n 2, 1) := by decide +kernel
theorem dX6_inLowestTerms_40 : decode cX6_inLowestTerms 40 = .ok (.ifCond .ne 7, 3) := by decide +kernel
theorem dX6_inLowestTerms_43 : decode cX6_inLowestTerms 43 = .ok (.iload_n 0, 1) := by decide +kernel
theorem dX6_inLowestTerms_44 : decode cX6_inLowestTerms 44 = .ok (.goto 4, 3) := by decide +kernel
theorem dX6_inLowestTerms_47 : decode cX6_inLowestTerms 47 = .ok (.iload_n 1, 1) := by decide +kernel
theorem dX6_inLowestTerms_48 : decode cX6_inLowestTerms 48 = .ok (.istore 5, 2) := by decide +kernel
theorem dX6_inLowestTerms_50 : decode cX6_inLowestTerms 50 = .ok (.iload_n 3, 1) := by decide +kernel
theorem dX6_inLowestTerms_51 : decode cX6_inLowestTerms 51 = .ok (.ifCond .ne 9, 3) := by decide +kernel
theorem dX6_inLowestTerms_54 : decode cX6_inLowestTerms 54 = .ok (.iload 5, 2) := by decide +kernel
theorem dX6_inLowestTerms_56 : decode cX6_inLowestTerms 56 = .ok (.i2l, 1) := by decide +kernel
theorem dX6_inLowestTerms_57 : decode cX6_inLowestTerms 57 = .ok (.goto 8, 3) := by decide +kernel
theorem dX6_inLowestTerms_60 : decode cX6_inLowestTerms 60 = .ok (.iload 5, 2) := by decide +kernel
theorem dX6_inLowestTerms_62 : decode cX6_inLowestTerms 62 = .ok (.iload_n 3, 1) := by decide +kernel
theorem dX6_inLowestTerms_63 : decode cX6_inLowestTerms 63 = .ok (.idiv, 1) := by decide +kernel
theorem dX6_inLowestTerms_64 : decode cX6_inLowestTerms 64 = .ok (.i2l, 1) := by decide +kernel
theorem dX6_inLowestTerms_65 : decode cX6_inLowestTerms 65 = .ok (.lreturn, 1) := by decide +kernel
theorem dX6_isOneOf_0 : decode cX6_isOneOf 0 = .ok (.iload_n 1, 1) := by decide +kernel
theorem dX6_isOneOf_1 : decode cX6_isOneOf 1 = .ok (.tableswitch 61 0 2 #[27, 29, 45], 27) := by decide +kernel
theorem dX6_isOneOf_28 : decode cX6_isOneOf 28 = .ok (.iconst 1, 1) := by decide +kernel
theorem dX6_isOneOf_29 : decode cX6_isOneOf 29 = .ok (.ireturn, 1) := by decide +kernel
theorem dX6_isOneOf_30 : decode cX6_isOneOf 30 = .ok (.iload_n 0, 1) := by decide +kernel
theorem dX6_isOneOf_31 : decode cX6_isOneOf 31 = .ok (.iconst 1, 1) := by decide +kernel
theorem dX6_isOneOf_32 : decode cX6_isOneOf 32 = .ok (.if_icmp .eq 8, 3) := by decide +kernel
theorem dX6_isOneOf_35 : decode cX6_isOneOf 35 = .ok (.iload_n 0, 1) := by decide +kernel
theorem dX6_isOneOf_36 : decode cX6_isOneOf 36 = .ok (.iconst 3, 1) := by decide +kernel
theorem dX6_isOneOf_37 : decode cX6_isOneOf 37 = .ok (.if_icmp .ne 7, 3) := by decide +kernel
theorem dX6_isOneOf_40 : decode cX6_isOneOf 40 = .ok (.iconst 1, 1) := by decide +kernel
theorem dX6_isOneOf_41 : decode cX6_isOneOf 41 = .ok (.goto 4, 3) := by decide +kernel
theorem dX6_isOneOf_44 : decode cX6_isOneOf 44 = .ok (.iconst 0, 1) := by decide +kernel
theorem dX6_isOneOf_45 : decode cX6_isOneOf 45 = .ok (.ireturn, 1) := by decide +kernel
theorem dX6_isOneOf_46 : decode cX6_isOneOf 46 = .ok (.iload_n 0, 1) := by decide +kernel
theorem dX6_isOneOf_47 : decode cX6_isOneOf 47 = .ok (.iconst 2, 1) := by decide +kernel
theorem dX6_isOneOf_48 : decode cX6_isOneOf 48 = .ok (.if_icmp .eq 8, 3) := by decide +kernel
theorem dX6_isOneOf_51 : decode cX6_isOneOf 51 = .ok (.iload_n 0, 1) := by decide +kernel
theorem dX6_isOneOf_52 : decode cX6_isOneOf 52 = .ok (.iconst 4, 1) := by decide +kernel
theorem dX6_isOneOf_53 : decode cX6_isOneOf 53 = .ok (.if_icmp .ne 7, 3) := by decide +kernel
theorem dX6_isOneOf_56 : decode cX6_isOneOf 56 = .ok (.iconst 1, 1) := by decide +kernel
theorem dX6_isOneOf_57 : decode cX6_isOneOf 57 = .ok (.goto 4, 3) := by decide +kernel
theorem dX6_isOneOf_60 : decode cX6_isOneOf 60 = .ok (.iconst 0, 1) := by decide +kernel
theorem dX6_isOneOf_61 : decode cX6_isOneOf 61 = .ok (.ireturn, 1) := by decide +kernel
theorem dX6_isOneOf_62 : decode cX6_isOneOf 62 = .ok (.iload_n 0, 1) := by decide +kernel
theorem dX6_isOneOf_63 : decode cX6_isOneOf 63 = .ok (.iload_n 1, 1) := by decide +kernel
theorem dX6_isOneOf_64 : decode cX6_isOneOf 64 = .ok (.if_icmp .ne 7, 3) := by decide +kernel
theorem dX6_isOneOf_67 : decode cX6_isOneOf 67 = .ok (.iconst 1, 1) := by decide +kernel
theorem dX6_isOneOf_68 : decode cX6_isOneOf 68 = .ok (.goto 4, 3) := by decide +kernel
theorem dX6_isOneOf_71 : decode cX6_isOneOf 71 = .ok (.iconst 0, 1) := by decide +kernel
theorem dX6_isOneOf_72 : decode cX6_isOneOf 72 = .ok (.ireturn, 1) := by decide +kernel
theorem dX6_earlWaiting_0 : decode cX6_earlWaiting 0 = .ok (.iload_n 2, 1) := by decide +kernel
theorem dX6_earlWaiting_1 : decode cX6_earlWaiting 1 = .ok (.bipush 60, 2) := by decide +kernel
theorem dX6_earlWaiting_3 : decode cX6_earlWaiting 3 = .ok (.if_icmp .le 9, 3) := by decide +kernel
theorem dX6_earlWaiting_6 : decode cX6_earlWaiting 6 = .ok (.iload_n 1, 1) := by decide +kernel
theorem dX6_earlWaiting_7 : decode cX6_earlWaiting 7 = .ok (.iload_n 0, 1) := by decide +kernel
theorem dX6_earlWaiting_8 : decode cX6_earlWaiting 8 = .ok (.iadd, 1) := by decide +kernel
theorem dX6_earlWaiting_9 : decode cX6_earlWaiting 9 = .ok (.goto 4, 3) := by decide +kernel
theorem dX6_earlWaiting_12 : decode cX6_earlWaiting 12 = .ok (.iload_n 1, 1) := by decide +kernel
theorem dX6_earlWaiting_13 : decode cX6_earlWaiting 13 = .ok (.ireturn, 1) := by decide +kernel
set_option maxRecDepth 20000 in
theorem ggX6_waiting_X6_earlWaiting : GoodIn wsX6_waiting wsX6_earlWaiting := goodIn_q _ [4] [] rfl (by decide +kernel) (by decide +kernel)
set_option maxRecDepth 20000 in
theorem gX6_waiting_X6_earlWaiting : GoodIn wsX6_waiting (va_wsS RX6 292 yX6_earlWaiting wsX6_earlWaiting) := goodIn_app (goodIn_of _ (by decide +kernel)) ggX6_waiting_X6_earlWaiting
theorem dX6_waiting_0 : decode cX6_waiting 0 = .ok (.iload_n 0, 1) := by decide +kernel
theorem dX6_waiting_1 : decode cX6_waiting 1 = .ok (.tableswitch 66 1 5 #[35, 66, 42, 51, 64], 35) := by decide +kernel
theorem dX6_waiting_36 : decode cX6_waiting 36 = .ok (.iload_n 1, 1) := by decide +kernel
theorem dX6_waiting_37 : decode cX6_waiting 37 = .ok (.iload_n 2, 1) := by decide +kernel
theorem dX6_waiting_38 : decode cX6_waiting 38 = .ok (.iload_n 3, 1) := by decide +kernel
theorem dX6_waiting_39 : decode cX6_waiting 39 = .ok (.invokestatic 292, 3) := by decide +kernel
theorem dX6_waiting_42 : decode cX6_waiting 42 = .ok (.ireturn, 1) := by decide +kernel
theorem dX6_waiting_43 : decode cX6_waiting 43 = .ok (.iload_n 1, 1) := by decide +kernel
theorem dX6_waiting_44 : decode cX6_waiting 44 = .ok (.iload_n 2, 1) := by decide +kernel
theorem dX6_waiting_45 : decode cX6_waiting 45 = .ok (.iload_n 3, 1) := by decide +kernel
theorem dX6_waiting_46 : decode cX6_waiting 46 = .ok (.invokestatic 292, 3) := by decide +kernel
theorem dX6_waiting_49 : decode cX6_waiting 49 = .ok (.iconst 2, 1) := by decide +kernel
theorem dX6_waiting_50 : decode cX6_waiting 50 = .ok (.idiv, 1) := by decide +kernel
theorem dX6_waiting_51 : decode cX6_waiting 51 = .ok (.ireturn, 1) := by decide +kernel
theorem dX6_waiting_52 : decode cX6_waiting 52 = .ok (.iload 4, 2) := by decide +kernel
theorem dX6_waiting_54 : decode cX6_waiting 54 = .ok (.iconst 4, 1) := by decide +kernel
theorem dX6_waiting_55 : decode cX6_waiting 55 = .ok (.irem, 1) := by decide +kernel
theorem dX6_waiting_56 : decode cX6_waiting 56 = .ok (.ifCond .ne 7, 3) := by decide +kernel
theorem dX6_waiting_59 : decode cX6_waiting 59 = .ok (.iload_n 1, 1) := by decide +kernel
theorem dX6_waiting_60 : decode cX6_waiting 60 = .ok (.goto 4, 3) := by decide +kernel
theorem dX6_waiting_63 : decode cX6_waiting 63 = .ok (.iload_n 2, 1) := by decide +kernel
theorem dX6_waiting_64 : decode cX6_waiting 64 = .ok (.ireturn, 1) := by decide +kernel
theorem dX6_waiting_65 : decode cX6_waiting 65 = .ok (.iconst 0, 1) := by decide +kernel
theorem dX6_waiting_66 : decode cX6_waiting 66 = .ok (.ireturn, 1) := by decide +kernel
theorem dX6_waiting_67 : decode cX6_waiting 67 = .ok (.iload_n 2, 1) := by decide +kernel
theorem dX6_waiting_68 : decode cX6_waiting 68 = .ok (.ireturn, 1) := by decide +kernel
theorem dX6_liking_0 : decode cX6_liking 0 = .ok (.iload_n 0, 1) := by decide +kernel
theorem dX6_liking_1 : decode cX6_liking 1 = .ok (.tableswitch 40 2 4 #[27, 35, 27], 27) := by decide +kernel
theorem dX6_liking_28 : decode cX6_liking 28 = .ok (.iconst 0, 1) := by decide +kernel
theorem dX6_liking_29 : decode cX6_liking 29 = .ok (.iload_n 2, 1) := by decide +kernel
theorem dX6_liking_30 : decode cX6_liking 30 = .ok (.iload_n 1, 1) := by decide +kernel
theorem dX6_liking_31 : decode cX6_liking 31 = .ok (.isub, 1) := by decide +kernel
theorem dX6_liking_32 : decode cX6_liking 32 = .ok (.invokestatic 295, 3) := by decide +kernel
theorem dX6_liking_35 : decode cX6_liking 35 = .ok (.ireturn, 1) := by decide +kernel
theorem dX6_liking_36 : decode cX6_liking 36 = .ok (.bipush 99, 2) := by decide +kernel
theorem dX6_liking_38 : decode cX6_liking 38 = .ok (.iload_n 2, 1) := by decide +kernel
theorem dX6_liking_39 : decode cX6_liking 39 = .ok (.isub, 1) := by decide +kernel
theorem dX6_liking_40 : decode cX6_liking 40 = .ok (.ireturn, 1) := by decide +kernel
theorem dX6_liking_41 : decode cX6_liking 41 = .ok (.iload_n 2, 1) := by decide +kernel
theorem dX6_liking_42 : decode cX6_liking 42 = .ok (.ireturn, 1) := by decide +kernel
theorem dX6_chaplainMinding_0 : decode cX6_chaplainMinding 0 = .ok (.iload_n 0, 1) := by decide +kernel
theorem dX6_chaplainMinding_1 : decode cX6_chaplainMinding 1 = .ok (.ifCond .ge 10, 3) := by decide +kernel
theorem dX6_chaplainMinding_4 : decode cX6_chaplainMinding 4 = .ok (.iload_n 0, 1) := by decide +kernel
theorem dX6_chaplainMinding_5 : decode cX6_chaplainMinding 5 = .ok (.ineg, 1) := by decide +kernel
theorem dX6_chaplainMinding_6 : decode cX6_chaplainMinding 6 = .ok (.iconst 2, 1) := by decide +kernel
theorem dX6_chaplainMinding_7 : decode cX6_chaplainMinding 7 = .ok (.idiv, 1) := by decide +kernel
theorem dX6_chaplainMinding_8 : decode cX6_chaplainMinding 8 = .ok (.goto 4, 3) := by decide +kernel
theorem dX6_chaplainMinding_11 : decode cX6_chaplainMinding 11 = .ok (.iload_n 0, 1) := by decide +kernel
theorem dX6_chaplainMinding_12 : decode cX6_chaplainMinding 12 = .ok (.ireturn, 1) := by decide +kernel
set_option maxRecDepth 20000 in
theorem ggX6_minding_X6_chaplainMinding : GoodIn wsX6_minding wsX6_chaplainMinding := goodIn_q _ [11] [] rfl (by decide +kernel) (by decide +kernel)
set_option maxRecDepth 20000 in
theorem gX6_minding_X6_chaplainMinding : GoodIn wsX6_minding (va_wsS RX6 300 yX6_chaplainMinding wsX6_chaplainMinding) := goodIn_app (goodIn_of _ (by decide +kernel)) ggX6_minding_X6_chaplainMinding
theorem dX6_minding_0 : decode cX6_minding 0 = .ok (.iload_n 0, 1) := by decide +kernel
theorem dX6_minding_1 : decode cX6_minding 1 = .ok (.tableswitch 67 1 5 #[35, 48, 35, 53, 64], 35) := by decide +kernel
theorem dX6_minding_36 : decode cX6_minding 36 = .ok (.iload_n 2, 1) := by decide +kernel
theorem dX6_minding_37 : decode cX6_minding 37 = .ok (.ifCond .le 9, 3) := by decide +kernel
theorem dX6_minding_40 : decode cX6_minding 40 = .ok (.iconst 2, 1) := by decide +kernel
theorem dX6_minding_41 : decode cX6_minding 41 = .ok (.iload_n 2, 1) := by decide +kernel
theorem dX6_minding_42 : decode cX6_minding 42 = .ok (.imul, 1) := by decide +kernel
theorem dX6_minding_43 : decode cX6_minding 43 = .ok (.goto 5, 3) := by decide +kernel
theorem dX6_minding_46 : decode cX6_minding 46 = .ok (.iload_n 2, 1) := by decide +kernel
theorem dX6_minding_47 : decode cX6_minding 47 = .ok (.ineg, 1) := by decide +kernel
theorem dX6_minding_48 : decode cX6_minding 48 = .ok (.ireturn, 1) := by decide +kernel
theorem dX6_minding_49 : decode cX6_minding 49 = .ok (.iload_n 2, 1) := by decide +kernel
theorem dX6_minding_50 : decode cX6_minding 50 = .ok (.invokestatic 300, 3) := by decide +kernel
theorem dX6_minding_53 : decode cX6_minding 53 = .ok (.ireturn, 1) := by decide +kernel
theorem dX6_minding_54 : decode cX6_minding 54 = .ok (.iconst 0, 1) := by decide +kernel
theorem dX6_minding_55 : decode cX6_minding 55 = .ok (.iload_n 2, 1) := by decide +kernel
theorem dX6_minding_56 : decode cX6_minding 56 = .ok (.invokestatic 300, 3) := by decide +kernel
theorem dX6_minding_59 : decode cX6_minding 59 = .ok (.iload_n 1, 1) := by decide +kernel
theorem dX6_minding_60 : decode cX6_minding 60 = .ok (.isub, 1) := by decide +kernel
theorem dX6_minding_61 : decode cX6_minding 61 = .ok (.invokestatic 295, 3) := by decide +kernel
theorem dX6_minding_64 : decode cX6_minding 64 = .ok (.ireturn, 1) := by decide +kernel
theorem dX6_minding_65 : decode cX6_minding 65 = .ok (.iload_n 1, 1) := by decide +kernel
theorem dX6_minding_66 : decode cX6_minding 66 = .ok (.ineg, 1) := by decide +kernel
theorem dX6_minding_67 : decode cX6_minding 67 = .ok (.ireturn, 1) := by decide +kernel
theorem dX6_minding_68 : decode cX6_minding 68 = .ok (.iload_n 2, 1) := by decide +kernel
theorem dX6_minding_69 : decode cX6_minding 69 = .ok (.invokestatic 303, 3) := by decide +kernel
theorem dX6_minding_72 : decode cX6_minding 72 = .ok (.ireturn, 1) := by decide +kernel
set_option maxRecDepth 20000 in
theorem ggX7_init_X7_text : GoodIn wsX7_init wsX7_text := goodIn_q _ [34, 44, 47, 51, 55, 62, 66, 69, 73, 77, 81, 85] [35, 36, 37, 38, 39, 11, 29, 40, 41, 42, 43, 33, 9, 45, 46, 48, 49, 50, 18, 52, 53, 54, 56, 57, 58, 59, 60, 61, 10, 63, 64, 65, 19, 67, 68, 70, 71, 72, 74, 75, 76, 78, 79, 80, 82, 83, 84, 86, 87, 88, 89, 90, 91, 92, 93, 94, 95, 96, 97, 98, 99, 100, 101, 102, 103, 104, 105, 106, 107, 108, 109, 110, 111, 112, 113, 114, 115, 116, 117, 118, 119, 120, 121, 122, 123, 124, 125, 126, 127, 128] rfl (by decide +kernel) (by decide +kernel)
set_option maxRecDepth 20000 in
theorem gX7_init_X7_text : GoodIn wsX7_init (wsV RX7 86 RX7 yX7_text wsX7_text) := goodIn_app (goodIn_of _ (by decide +kernel)) ggX7_init_X7_text
