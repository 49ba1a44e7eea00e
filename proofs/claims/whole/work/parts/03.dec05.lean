theorem dX0_init_0 : decode cX0_init 0 = .ok (.aload_n 0, 1) := by decide +kernel
theorem dX0_init_1 : decode cX0_init 1 = .ok (.invokespecial 1, 3) := by decide +kernel
theorem dX0_init_4 : decode cX0_init 4 = .ok (.return_, 1) := by decide +kernel
theorem dX0_begin_0 : decode cX0_begin 0 = .ok (.aload_n 0, 1) := by decide +kernel
theorem dX0_begin_1 : decode cX0_begin 1 = .ok (.iload_n 1, 1) := by decide +kernel
theorem dX0_begin_2 : decode cX0_begin 2 = .ok (.putfield 7, 3) := by decide +kernel
theorem dX0_begin_5 : decode cX0_begin 5 = .ok (.aload_n 0, 1) := by decide +kernel
theorem dX0_begin_6 : decode cX0_begin 6 = .ok (.iload_n 2, 1) := by decide +kernel
theorem dX0_begin_7 : decode cX0_begin 7 = .ok (.putfield 13, 3) := by decide +kernel
theorem dX0_begin_10 : decode cX0_begin 10 = .ok (.return_, 1) := by decide +kernel
set_option maxRecDepth 20000 in
theorem ggX0_weigh_X0_begin : GoodIn wsX0_weigh wsX0_begin := goodIn_q _ [6] [7, 1, 8, 9] rfl (by decide +kernel) (by decide +kernel)
set_option maxRecDepth 20000 in
theorem gX0_weigh_X0_begin : GoodIn wsX0_weigh (wsV RX0 16 RX0 yX0_begin wsX0_begin) := goodIn_app (goodIn_of _ (by decide +kernel)) ggX0_weigh_X0_begin
theorem dX0_weigh_0 : decode cX0_weigh 0 = .ok (.iload_n 2, 1) := by decide +kernel
theorem dX0_weigh_1 : decode cX0_weigh 1 = .ok (.aload_n 0, 1) := by decide +kernel
theorem dX0_weigh_2 : decode cX0_weigh 2 = .ok (.getfield 13, 3) := by decide +kernel
theorem dX0_weigh_5 : decode cX0_weigh 5 = .ok (.if_icmp .ge 9, 3) := by decide +kernel
theorem dX0_weigh_8 : decode cX0_weigh 8 = .ok (.aload_n 0, 1) := by decide +kernel
theorem dX0_weigh_9 : decode cX0_weigh 9 = .ok (.iload_n 1, 1) := by decide +kernel
theorem dX0_weigh_10 : decode cX0_weigh 10 = .ok (.iload_n 2, 1) := by decide +kernel
theorem dX0_weigh_11 : decode cX0_weigh 11 = .ok (.invokevirtual 16, 3) := by decide +kernel
theorem dX0_weigh_14 : decode cX0_weigh 14 = .ok (.return_, 1) := by decide +kernel
theorem dX0_answer_0 : decode cX0_answer 0 = .ok (.iload_n 1, 1) := by decide +kernel
theorem dX0_answer_1 : decode cX0_answer 1 = .ok (.ifCond .ne 10, 3) := by decide +kernel
theorem dX0_answer_4 : decode cX0_answer 4 = .ok (.aload_n 0, 1) := by decide +kernel
theorem dX0_answer_5 : decode cX0_answer 5 = .ok (.getfield 7, 3) := by decide +kernel
theorem dX0_answer_8 : decode cX0_answer 8 = .ok (.goto 7, 3) := by decide +kernel
theorem dX0_answer_11 : decode cX0_answer 11 = .ok (.aload_n 0, 1) := by decide +kernel
theorem dX0_answer_12 : decode cX0_answer 12 = .ok (.getfield 13, 3) := by decide +kernel
theorem dX0_answer_15 : decode cX0_answer 15 = .ok (.ireturn, 1) := by decide +kernel
theorem dX1_init_0 : decode cX1_init 0 = .ok (.aload_n 0, 1) := by decide +kernel
theorem dX1_init_1 : decode cX1_init 1 = .ok (.invokespecial 3, 3) := by decide +kernel
theorem dX1_init_4 : decode cX1_init 4 = .ok (.aload_n 0, 1) := by decide +kernel
theorem dX1_init_5 : decode cX1_init 5 = .ok (.bipush 90, 2) := by decide +kernel
theorem dX1_init_7 : decode cX1_init 7 = .ok (.putfield 9, 3) := by decide +kernel
theorem dX1_init_10 : decode cX1_init 10 = .ok (.aload_n 0, 1) := by decide +kernel
theorem dX1_init_11 : decode cX1_init 11 = .ok (.iconst (-1), 1) := by decide +kernel
theorem dX1_init_12 : decode cX1_init 12 = .ok (.putfield 15, 3) := by decide +kernel
theorem dX1_init_15 : decode cX1_init 15 = .ok (.aload_n 0, 1) := by decide +kernel
theorem dX1_init_16 : decode cX1_init 16 = .ok (.bipush 6, 2) := by decide +kernel
theorem dX1_init_18 : decode cX1_init 18 = .ok (.newarray .int, 2) := by decide +kernel
theorem dX1_init_20 : decode cX1_init 20 = .ok (.putfield 18, 3) := by decide +kernel
theorem dX1_init_23 : decode cX1_init 23 = .ok (.aload_n 0, 1) := by decide +kernel
theorem dX1_init_24 : decode cX1_init 24 = .ok (.bipush 6, 2) := by decide +kernel
theorem dX1_init_26 : decode cX1_init 26 = .ok (.newarray .int, 2) := by decide +kernel
theorem dX1_init_28 : decode cX1_init 28 = .ok (.putfield 22, 3) := by decide +kernel
theorem dX1_init_31 : decode cX1_init 31 = .ok (.aload_n 0, 1) := by decide +kernel
theorem dX1_init_32 : decode cX1_init 32 = .ok (.bipush 6, 2) := by decide +kernel
theorem dX1_init_34 : decode cX1_init 34 = .ok (.newarray .int, 2) := by decide +kernel
theorem dX1_init_36 : decode cX1_init 36 = .ok (.putfield 25, 3) := by decide +kernel
theorem dX1_init_39 : decode cX1_init 39 = .ok (.aload_n 0, 1) := by decide +kernel
theorem dX1_init_40 : decode cX1_init 40 = .ok (.bipush 6, 2) := by decide +kernel
theorem dX1_init_42 : decode cX1_init 42 = .ok (.newarray .int, 2) := by decide +kernel
theorem dX1_init_44 : decode cX1_init 44 = .ok (.putfield 28, 3) := by decide +kernel
theorem dX1_init_47 : decode cX1_init 47 = .ok (.return_, 1) := by decide +kernel
theorem dX1_admit_0 : decode cX1_admit 0 = .ok (.aload_n 0, 1) := by decide +kernel
theorem dX1_admit_1 : decode cX1_admit 1 = .ok (.getfield 31, 3) := by decide +kernel
theorem dX1_admit_4 : decode cX1_admit 4 = .ok (.istore 4, 2) := by decide +kernel
theorem dX1_admit_6 : decode cX1_admit 6 = .ok (.iload 4, 2) := by decide +kernel
theorem dX1_admit_8 : decode cX1_admit 8 = .ok (.bipush 6, 2) := by decide +kernel
theorem dX1_admit_10 : decode cX1_admit 10 = .ok (.if_icmp .lt 6, 3) := by decide +kernel
theorem dX1_admit_13 : decode cX1_admit 13 = .ok (.bipush (-4), 2) := by decide +kernel
theorem dX1_admit_15 : decode cX1_admit 15 = .ok (.ireturn, 1) := by decide +kernel
theorem dX1_admit_16 : decode cX1_admit 16 = .ok (.aload_n 0, 1) := by decide +kernel
theorem dX1_admit_17 : decode cX1_admit 17 = .ok (.getfield 18, 3) := by decide +kernel
theorem dX1_admit_20 : decode cX1_admit 20 = .ok (.iload 4, 2) := by decide +kernel
theorem dX1_admit_22 : decode cX1_admit 22 = .ok (.iload_n 1, 1) := by decide +kernel
theorem dX1_admit_23 : decode cX1_admit 23 = .ok (.iastore, 1) := by decide +kernel
theorem dX1_admit_24 : decode cX1_admit 24 = .ok (.aload_n 0, 1) := by decide +kernel
theorem dX1_admit_25 : decode cX1_admit 25 = .ok (.getfield 22, 3) := by decide +kernel
theorem dX1_admit_28 : decode cX1_admit 28 = .ok (.iload 4, 2) := by decide +kernel
theorem dX1_admit_30 : decode cX1_admit 30 = .ok (.iload_n 2, 1) := by decide +kernel
theorem dX1_admit_31 : decode cX1_admit 31 = .ok (.iastore, 1) := by decide +kernel
theorem dX1_admit_32 : decode cX1_admit 32 = .ok (.aload_n 0, 1) := by decide +kernel
theorem dX1_admit_33 : decode cX1_admit 33 = .ok (.getfield 25, 3) := by decide +kernel
theorem dX1_admit_36 : decode cX1_admit 36 = .ok (.iload 4, 2) := by decide +kernel
theorem dX1_admit_38 : decode cX1_admit 38 = .ok (.iload_n 3, 1) := by decide +kernel
theorem dX1_admit_39 : decode cX1_admit 39 = .ok (.iastore, 1) := by decide +kernel
theorem dX1_admit_40 : decode cX1_admit 40 = .ok (.aload_n 0, 1) := by decide +kernel
theorem dX1_admit_41 : decode cX1_admit 41 = .ok (.getfield 28, 3) := by decide +kernel
theorem dX1_admit_44 : decode cX1_admit 44 = .ok (.iload 4, 2) := by decide +kernel
theorem dX1_admit_46 : decode cX1_admit 46 = .ok (.sipush 500, 3) := by decide +kernel
theorem dX1_admit_49 : decode cX1_admit 49 = .ok (.iastore, 1) := by decide +kernel
theorem dX1_admit_50 : decode cX1_admit 50 = .ok (.aload_n 0, 1) := by decide +kernel
theorem dX1_admit_51 : decode cX1_admit 51 = .ok (.dup, 1) := by decide +kernel
theorem dX1_admit_52 : decode cX1_admit 52 = .ok (.getfield 31, 3) := by decide +kernel
theorem dX1_admit_55 : decode cX1_admit 55 = .ok (.iconst 1, 1) := by decide +kernel
theorem dX1_admit_56 : decode cX1_admit 56 = .ok (.iadd, 1) := by decide +kernel
theorem dX1_admit_57 : decode cX1_admit 57 = .ok (.putfield 31, 3) := by decide +kernel
theorem dX1_admit_60 : decode cX1_admit 60 = .ok (.iload 4, 2) := by decide +kernel
theorem dX1_admit_62 : decode cX1_admit 62 = .ok (.ireturn, 1) := by decide +kernel
theorem dX1_takeFrom_0 : decode cX1_takeFrom 0 = .ok (.aload_n 0, 1) := by decide +kernel
theorem dX1_takeFrom_1 : decode cX1_takeFrom 1 = .ok (.aload_n 1, 1) := by decide +kernel
theorem dX1_takeFrom_2 : decode cX1_takeFrom 2 = .ok (.getfield 31, 3) := by decide +kernel
theorem dX1_takeFrom_5 : decode cX1_takeFrom 5 = .ok (.putfield 31, 3) := by decide +kernel
theorem dX1_takeFrom_8 : decode cX1_takeFrom 8 = .ok (.aload_n 0, 1) := by decide +kernel
theorem dX1_takeFrom_9 : decode cX1_takeFrom 9 = .ok (.aload_n 1, 1) := by decide +kernel
theorem dX1_takeFrom_10 : decode cX1_takeFrom 10 = .ok (.getfield 34, 3) := by decide +kernel
theorem dX1_takeFrom_13 : decode cX1_takeFrom 13 = .ok (.putfield 34, 3) := by decide +kernel
theorem dX1_takeFrom_16 : decode cX1_takeFrom 16 = .ok (.aload_n 0, 1) := by decide +kernel
theorem dX1_takeFrom_17 : decode cX1_takeFrom 17 = .ok (.aload_n 1, 1) := by decide +kernel
theorem dX1_takeFrom_18 : decode cX1_takeFrom 18 = .ok (.getfield 9, 3) := by decide +kernel
theorem dX1_takeFrom_21 : decode cX1_takeFrom 21 = .ok (.putfield 9, 3) := by decide +kernel
theorem dX1_takeFrom_24 : decode cX1_takeFrom 24 = .ok (.aload_n 0, 1) := by decide +kernel
theorem dX1_takeFrom_25 : decode cX1_takeFrom 25 = .ok (.aload_n 1, 1) := by decide +kernel
theorem dX1_takeFrom_26 : decode cX1_takeFrom 26 = .ok (.getfield 37, 3) := by decide +kernel
theorem dX1_takeFrom_29 : decode cX1_takeFrom 29 = .ok (.putfield 37, 3) := by decide +kernel
theorem dX1_takeFrom_32 : decode cX1_takeFrom 32 = .ok (.aload_n 0, 1) := by decide +kernel
theorem dX1_takeFrom_33 : decode cX1_takeFrom 33 = .ok (.aload_n 1, 1) := by decide +kernel
theorem dX1_takeFrom_34 : decode cX1_takeFrom 34 = .ok (.getfield 15, 3) := by decide +kernel
theorem dX1_takeFrom_37 : decode cX1_takeFrom 37 = .ok (.putfield 15, 3) := by decide +kernel
theorem dX1_takeFrom_40 : decode cX1_takeFrom 40 = .ok (.iconst 0, 1) := by decide +kernel
theorem dX1_takeFrom_41 : decode cX1_takeFrom 41 = .ok (.istore_n 2, 1) := by decide +kernel
theorem dX1_takeFrom_42 : decode cX1_takeFrom 42 = .ok (.iload_n 2, 1) := by decide +kernel
theorem dX1_takeFrom_43 : decode cX1_takeFrom 43 = .ok (.bipush 6, 2) := by decide +kernel
theorem dX1_takeFrom_45 : decode cX1_takeFrom 45 = .ok (.if_icmp .ge 57, 3) := by decide +kernel
theorem dX1_takeFrom_48 : decode cX1_takeFrom 48 = .ok (.aload_n 0, 1) := by decide +kernel
theorem dX1_takeFrom_49 : decode cX1_takeFrom 49 = .ok (.getfield 18, 3) := by decide +kernel
theorem dX1_takeFrom_52 : decode cX1_takeFrom 52 = .ok (.iload_n 2, 1) := by decide +kernel
theorem dX1_takeFrom_53 : decode cX1_takeFrom 53 = .ok (.aload_n 1, 1) := by decide +kernel
theorem dX1_takeFrom_54 : decode cX1_takeFrom 54 = .ok (.getfield 18, 3) := by decide +kernel
theorem dX1_takeFrom_57 : decode cX1_takeFrom 57 = .ok (.iload_n 2, 1) := by decide +kernel
theorem dX1_takeFrom_58 : decode cX1_takeFrom 58 = .ok (.iaload, 1) := by decide +kernel
theorem dX1_takeFrom_59 : decode cX1_takeFrom 59 = .ok (.iastore, 1) := by decide +kernel
theorem dX1_takeFrom_60 : decode cX1_takeFrom 60 = .ok (.aload_n 0, 1) := by decide +kernel
theorem dX1_takeFrom_61 : decode cX1_takeFrom 61 = .ok (.getfield 22, 3) := by decide +kernel
theorem dX1_takeFrom_64 : decode cX1_takeFrom 64 = .ok (.iload_n 2, 1) := by decide +kernel
theorem dX1_takeFrom_65 : decode cX1_takeFrom 65 = .ok (.aload_n 1, 1) := by decide +kernel
theorem dX1_takeFrom_66 : decode cX1_takeFrom 66 = .ok (.getfield 22, 3) := by decide +kernel
theorem dX1_takeFrom_69 : decode cX1_takeFrom 69 = .ok (.iload_n 2, 1) := by decide +kernel
theorem dX1_takeFrom_70 : decode cX1_takeFrom 70 = .ok (.iaload, 1) := by decide +kernel
theorem dX1_takeFrom_71 : decode cX1_takeFrom 71 = .ok (.iastore, 1) := by decide +kernel
theorem dX1_takeFrom_72 : decode cX1_takeFrom 72 = .ok (.aload_n 0, 1) := by decide +kernel
theorem dX1_takeFrom_73 : decode cX1_takeFrom 73 = .ok (.getfield 25, 3) := by decide +kernel
theorem dX1_takeFrom_76 : decode cX1_takeFrom 76 = .ok (.iload_n 2, 1) := by decide +kernel
theorem dX1_takeFrom_77 : decode cX1_takeFrom 77 = .ok (.aload_n 1, 1) := by decide +kernel
theorem dX1_takeFrom_78 : decode cX1_takeFrom 78 = .ok (.getfield 25, 3) := by decide +kernel
theorem dX1_takeFrom_81 : decode cX1_takeFrom 81 = .ok (.iload_n 2, 1) := by decide +kernel
theorem dX1_takeFrom_82 : decode cX1_takeFrom 82 = .ok (.iaload, 1) := by decide +kernel
theorem dX1_takeFrom_83 : decode cX1_takeFrom 83 = .ok (.iastore, 1) := by decide +kernel
theorem dX1_takeFrom_84 : decode cX1_takeFrom 84 = .ok (.aload_n 0, 1) := by decide +kernel
theorem dX1_takeFrom_85 : decode cX1_takeFrom 85 = .ok (.getfield 28, 3) := by decide +kernel
theorem dX1_takeFrom_88 : decode cX1_takeFrom 88 = .ok (.iload_n 2, 1) := by decide +kernel
theorem dX1_takeFrom_89 : decode cX1_takeFrom 89 = .ok (.aload_n 1, 1) := by decide +kernel
theorem dX1_takeFrom_90 : decode cX1_takeFrom 90 = .ok (.getfield 28, 3) := by decide +kernel
theorem dX1_takeFrom_93 : decode cX1_takeFrom 93 = .ok (.iload_n 2, 1) := by decide +kernel
theorem dX1_takeFrom_94 : decode cX1_takeFrom 94 = .ok (.iaload, 1) := by decide +kernel
theorem dX1_takeFrom_95 : decode cX1_takeFrom 95 = .ok (.iastore, 1) := by decide +kernel
theorem dX1_takeFrom_96 : decode cX1_takeFrom 96 = .ok (.iinc 2 1, 3) := by decide +kernel
theorem dX1_takeFrom_99 : decode cX1_takeFrom 99 = .ok (.goto (-57), 3) := by decide +kernel
theorem dX1_takeFrom_102 : decode cX1_takeFrom 102 = .ok (.return_, 1) := by decide +kernel
theorem dX1_isBetter_0 : decode cX1_isBetter 0 = .ok (.aload_n 0, 1) := by decide +kernel
theorem dX1_isBetter_1 : decode cX1_isBetter 1 = .ok (.getfield 25, 3) := by decide +kernel
theorem dX1_isBetter_4 : decode cX1_isBetter 4 = .ok (.iload_n 1, 1) := by decide +kernel
theorem dX1_isBetter_5 : decode cX1_isBetter 5 = .ok (.iaload, 1) := by decide +kernel
theorem dX1_isBetter_6 : decode cX1_isBetter 6 = .ok (.aload_n 0, 1) := by decide +kernel
theorem dX1_isBetter_7 : decode cX1_isBetter 7 = .ok (.getfield 25, 3) := by decide +kernel
theorem dX1_isBetter_10 : decode cX1_isBetter 10 = .ok (.iload_n 2, 1) := by decide +kernel
theorem dX1_isBetter_11 : decode cX1_isBetter 11 = .ok (.iaload, 1) := by decide +kernel
theorem dX1_isBetter_12 : decode cX1_isBetter 12 = .ok (.if_icmp .gt 23, 3) := by decide +kernel
theorem dX1_isBetter_15 : decode cX1_isBetter 15 = .ok (.aload_n 0, 1) := by decide +kernel
theorem dX1_isBetter_16 : decode cX1_isBetter 16 = .ok (.getfield 25, 3) := by decide +kernel
theorem dX1_isBetter_19 : decode cX1_isBetter 19 = .ok (.iload_n 1, 1) := by decide +kernel
theorem dX1_isBetter_20 : decode cX1_isBetter 20 = .ok (.iaload, 1) := by decide +kernel
theorem dX1_isBetter_21 : decode cX1_isBetter 21 = .ok (.aload_n 0, 1) := by decide +kernel
theorem dX1_isBetter_22 : decode cX1_isBetter 22 = .ok (.getfield 25, 3) := by decide +kernel
theorem dX1_isBetter_25 : decode cX1_isBetter 25 = .ok (.iload_n 2, 1) := by decide +kernel
theorem dX1_isBetter_26 : decode cX1_isBetter 26 = .ok (.iaload, 1) := by decide +kernel
theorem dX1_isBetter_27 : decode cX1_isBetter 27 = .ok (.if_icmp .ne 12, 3) := by decide +kernel
theorem dX1_isBetter_30 : decode cX1_isBetter 30 = .ok (.iload_n 1, 1) := by decide +kernel
theorem dX1_isBetter_31 : decode cX1_isBetter 31 = .ok (.iload_n 2, 1) := by decide +kernel
theorem dX1_isBetter_32 : decode cX1_isBetter 32 = .ok (.if_icmp .ge 7, 3) := by decide +kernel
theorem dX1_isBetter_35 : decode cX1_isBetter 35 = .ok (.iconst 1, 1) := by decide +kernel
theorem dX1_isBetter_36 : decode cX1_isBetter 36 = .ok (.goto 4, 3) := by decide +kernel
theorem dX1_isBetter_39 : decode cX1_isBetter 39 = .ok (.iconst 0, 1) := by decide +kernel
theorem dX1_isBetter_40 : decode cX1_isBetter 40 = .ok (.ireturn, 1) := by decide +kernel
theorem dX1_changeRanks_0 : decode cX1_changeRanks 0 = .ok (.aload_n 0, 1) := by decide +kernel
theorem dX1_changeRanks_1 : decode cX1_changeRanks 1 = .ok (.getfield 25, 3) := by decide +kernel
theorem dX1_changeRanks_4 : decode cX1_changeRanks 4 = .ok (.iload_n 1, 1) := by decide +kernel
theorem dX1_changeRanks_5 : decode cX1_changeRanks 5 = .ok (.iaload, 1) := by decide +kernel
theorem dX1_changeRanks_6 : decode cX1_changeRanks 6 = .ok (.istore_n 3, 1) := by decide +kernel
theorem dX1_changeRanks_7 : decode cX1_changeRanks 7 = .ok (.aload_n 0, 1) := by decide +kernel
theorem dX1_changeRanks_8 : decode cX1_changeRanks 8 = .ok (.getfield 25, 3) := by decide +kernel
theorem dX1_changeRanks_11 : decode cX1_changeRanks 11 = .ok (.iload_n 1, 1) := by decide +kernel
theorem dX1_changeRanks_12 : decode cX1_changeRanks 12 = .ok (.aload_n 0, 1) := by decide +kernel
theorem dX1_changeRanks_13 : decode cX1_changeRanks 13 = .ok (.getfield 25, 3) := by decide +kernel
theorem dX1_changeRanks_16 : decode cX1_changeRanks 16 = .ok (.iload_n 2, 1) := by decide +kernel
theorem dX1_changeRanks_17 : decode cX1_changeRanks 17 = .ok (.iaload, 1) := by decide +kernel
theorem dX1_changeRanks_18 : decode cX1_changeRanks 18 = .ok (.iastore, 1) := by decide +kernel
theorem dX1_changeRanks_19 : decode cX1_changeRanks 19 = .ok (.aload_n 0, 1) := by decide +kernel
theorem dX1_changeRanks_20 : decode cX1_changeRanks 20 = .ok (.getfield 25, 3) := by decide +kernel
theorem dX1_changeRanks_23 : decode cX1_changeRanks 23 = .ok (.iload_n 2, 1) := by decide +kernel
theorem dX1_changeRanks_24 : decode cX1_changeRanks 24 = .ok (.iload_n 3, 1) := by decide +kernel
theorem dX1_changeRanks_25 : decode cX1_changeRanks 25 = .ok (.iastore, 1) := by decide +kernel
theorem dX1_changeRanks_26 : decode cX1_changeRanks 26 = .ok (.return_, 1) := by decide +kernel
theorem dX1_drawRanks_0 : decode cX1_drawRanks 0 = .ok (.iload_n 1, 1) := by decide +kernel
theorem dX1_drawRanks_1 : decode cX1_drawRanks 1 = .ok (.i2l, 1) := by decide +kernel
theorem dX1_drawRanks_2 : decode cX1_drawRanks 2 = .ok (.lconst 1, 1) := by decide +kernel
theorem dX1_drawRanks_3 : decode cX1_drawRanks 3 = .ok (.ladd, 1) := by decide +kernel
theorem dX1_drawRanks_4 : decode cX1_drawRanks 4 = .ok (.lstore_n 2, 1) := by decide +kernel
theorem dX1_drawRanks_5 : decode cX1_drawRanks 5 = .ok (.iconst 0, 1) := by decide +kernel
theorem dX1_drawRanks_6 : decode cX1_drawRanks 6 = .ok (.istore 4, 2) := by decide +kernel
theorem dX1_drawRanks_8 : decode cX1_drawRanks 8 = .ok (.iload 4, 2) := by decide +kernel
theorem dX1_drawRanks_10 : decode cX1_drawRanks 10 = .ok (.aload_n 0, 1) := by decide +kernel
theorem dX1_drawRanks_11 : decode cX1_drawRanks 11 = .ok (.getfield 31, 3) := by decide +kernel
theorem dX1_drawRanks_14 : decode cX1_drawRanks 14 = .ok (.if_icmp .ge 32, 3) := by decide +kernel
theorem dX1_drawRanks_17 : decode cX1_drawRanks 17 = .ok (.lload_n 2, 1) := by decide +kernel
theorem dX1_drawRanks_18 : decode cX1_drawRanks 18 = .ok (.ldc2_w 40, 3) := by decide +kernel
theorem dX1_drawRanks_21 : decode cX1_drawRanks 21 = .ok (.lmul, 1) := by decide +kernel
theorem dX1_drawRanks_22 : decode cX1_drawRanks 22 = .ok (.ldc2_w 42, 3) := by decide +kernel
theorem dX1_drawRanks_25 : decode cX1_drawRanks 25 = .ok (.lrem, 1) := by decide +kernel
theorem dX1_drawRanks_26 : decode cX1_drawRanks 26 = .ok (.lstore_n 2, 1) := by decide +kernel
theorem dX1_drawRanks_27 : decode cX1_drawRanks 27 = .ok (.aload_n 0, 1) := by decide +kernel
theorem dX1_drawRanks_28 : decode cX1_drawRanks 28 = .ok (.getfield 25, 3) := by decide +kernel
theorem dX1_drawRanks_31 : decode cX1_drawRanks 31 = .ok (.iload 4, 2) := by decide +kernel
theorem dX1_drawRanks_33 : decode cX1_drawRanks 33 = .ok (.lload_n 2, 1) := by decide +kernel
theorem dX1_drawRanks_34 : decode cX1_drawRanks 34 = .ok (.ldc2_w 44, 3) := by decide +kernel
theorem dX1_drawRanks_37 : decode cX1_drawRanks 37 = .ok (.lrem, 1) := by decide +kernel
theorem dX1_drawRanks_38 : decode cX1_drawRanks 38 = .ok (.l2i, 1) := by decide +kernel
theorem dX1_drawRanks_39 : decode cX1_drawRanks 39 = .ok (.iastore, 1) := by decide +kernel
theorem dX1_drawRanks_40 : decode cX1_drawRanks 40 = .ok (.iinc 4 1, 3) := by decide +kernel
theorem dX1_drawRanks_43 : decode cX1_drawRanks 43 = .ok (.goto (-35), 3) := by decide +kernel
theorem dX1_drawRanks_46 : decode cX1_drawRanks 46 = .ok (.return_, 1) := by decide +kernel
set_option maxRecDepth 20000 in
theorem ggX1_rise_X2_costs : GoodIn wsX1_rise wsX2_costs := goodIn_q _ [15, 20] [16, 17, 18, 19, 14, 21, 31, 32, 33, 34, 35, 36, 37, 38, 39, 40, 41] rfl (by decide +kernel) (by decide +kernel)
set_option maxRecDepth 20000 in
theorem gX1_rise_X2_costs : GoodIn wsX1_rise (wsV RX1 46 RX2 yX2_costs wsX2_costs) := goodIn_app (goodIn_of _ (by decide +kernel)) ggX1_rise_X2_costs
theorem dX1_rise_0 : decode cX1_rise 0 = .ok (.iconst 0, 1) := by decide +kernel
theorem dX1_rise_1 : decode cX1_rise 1 = .ok (.istore_n 2, 1) := by decide +kernel
theorem dX1_rise_2 : decode cX1_rise 2 = .ok (.iload_n 2, 1) := by decide +kernel
theorem dX1_rise_3 : decode cX1_rise 3 = .ok (.aload_n 0, 1) := by decide +kernel
theorem dX1_rise_4 : decode cX1_rise 4 = .ok (.getfield 31, 3) := by decide +kernel
theorem dX1_rise_7 : decode cX1_rise 7 = .ok (.if_icmp .ge 37, 3) := by decide +kernel
theorem dX1_rise_10 : decode cX1_rise 10 = .ok (.aload_n 0, 1) := by decide +kernel
theorem dX1_rise_11 : decode cX1_rise 11 = .ok (.getfield 28, 3) := by decide +kernel
theorem dX1_rise_14 : decode cX1_rise 14 = .ok (.iload_n 2, 1) := by decide +kernel
theorem dX1_rise_15 : decode cX1_rise 15 = .ok (.iconst 0, 1) := by decide +kernel
theorem dX1_rise_16 : decode cX1_rise 16 = .ok (.sipush 999, 3) := by decide +kernel
theorem dX1_rise_19 : decode cX1_rise 19 = .ok (.aload_n 0, 1) := by decide +kernel
theorem dX1_rise_20 : decode cX1_rise 20 = .ok (.getfield 28, 3) := by decide +kernel
theorem dX1_rise_23 : decode cX1_rise 23 = .ok (.iload_n 2, 1) := by decide +kernel
theorem dX1_rise_24 : decode cX1_rise 24 = .ok (.iaload, 1) := by decide +kernel
theorem dX1_rise_25 : decode cX1_rise 25 = .ok (.aload_n 1, 1) := by decide +kernel
theorem dX1_rise_26 : decode cX1_rise 26 = .ok (.iload_n 2, 1) := by decide +kernel
theorem dX1_rise_27 : decode cX1_rise 27 = .ok (.invokevirtual 46, 3) := by decide +kernel
theorem dX1_rise_30 : decode cX1_rise 30 = .ok (.isub, 1) := by decide +kernel
theorem dX1_rise_31 : decode cX1_rise 31 = .ok (.invokestatic 52, 3) := by decide +kernel
theorem dX1_rise_34 : decode cX1_rise 34 = .ok (.invokestatic 58, 3) := by decide +kernel
theorem dX1_rise_37 : decode cX1_rise 37 = .ok (.iastore, 1) := by decide +kernel
theorem dX1_rise_38 : decode cX1_rise 38 = .ok (.iinc 2 1, 3) := by decide +kernel
theorem dX1_rise_41 : decode cX1_rise 41 = .ok (.goto (-39), 3) := by decide +kernel
theorem dX1_rise_44 : decode cX1_rise 44 = .ok (.aload_n 0, 1) := by decide +kernel
theorem dX1_rise_45 : decode cX1_rise 45 = .ok (.dup, 1) := by decide +kernel
theorem dX1_rise_46 : decode cX1_rise 46 = .ok (.getfield 34, 3) := by decide +kernel
theorem dX1_rise_49 : decode cX1_rise 49 = .ok (.iconst 1, 1) := by decide +kernel
theorem dX1_rise_50 : decode cX1_rise 50 = .ok (.iadd, 1) := by decide +kernel
theorem dX1_rise_51 : decode cX1_rise 51 = .ok (.putfield 34, 3) := by decide +kernel
theorem dX1_rise_54 : decode cX1_rise 54 = .ok (.return_, 1) := by decide +kernel
theorem dX2_init_0 : decode cX2_init 0 = .ok (.aload_n 0, 1) := by decide +kernel
theorem dX2_init_1 : decode cX2_init 1 = .ok (.invokespecial 3, 3) := by decide +kernel
theorem dX2_init_4 : decode cX2_init 4 = .ok (.aload_n 0, 1) := by decide +kernel
theorem dX2_init_5 : decode cX2_init 5 = .ok (.bipush 6, 2) := by decide +kernel
theorem dX2_init_7 : decode cX2_init 7 = .ok (.newarray .int, 2) := by decide +kernel
theorem dX2_init_9 : decode cX2_init 9 = .ok (.putfield 9, 3) := by decide +kernel
theorem dX2_init_12 : decode cX2_init 12 = .ok (.aload_n 0, 1) := by decide +kernel
theorem dX2_init_13 : decode cX2_init 13 = .ok (.bipush 6, 2) := by decide +kernel
theorem dX2_init_15 : decode cX2_init 15 = .ok (.newarray .int, 2) := by decide +kernel
theorem dX2_init_17 : decode cX2_init 17 = .ok (.putfield 15, 3) := by decide +kernel
theorem dX2_init_20 : decode cX2_init 20 = .ok (.aload_n 0, 1) := by decide +kernel
theorem dX2_init_21 : decode cX2_init 21 = .ok (.bipush 6, 2) := by decide +kernel
theorem dX2_init_23 : decode cX2_init 23 = .ok (.newarray .int, 2) := by decide +kernel
theorem dX2_init_25 : decode cX2_init 25 = .ok (.putfield 18, 3) := by decide +kernel
theorem dX2_init_28 : decode cX2_init 28 = .ok (.aload_n 0, 1) := by decide +kernel
theorem dX2_init_29 : decode cX2_init 29 = .ok (.bipush 6, 2) := by decide +kernel
theorem dX2_init_31 : decode cX2_init 31 = .ok (.newarray .int, 2) := by decide +kernel
theorem dX2_init_33 : decode cX2_init 33 = .ok (.putfield 21, 3) := by decide +kernel
theorem dX2_init_36 : decode cX2_init 36 = .ok (.aload_n 0, 1) := by decide +kernel
theorem dX2_init_37 : decode cX2_init 37 = .ok (.bipush 6, 2) := by decide +kernel
theorem dX2_init_39 : decode cX2_init 39 = .ok (.newarray .int, 2) := by decide +kernel
theorem dX2_init_41 : decode cX2_init 41 = .ok (.putfield 24, 3) := by decide +kernel
theorem dX2_init_44 : decode cX2_init 44 = .ok (.aload_n 0, 1) := by decide +kernel
theorem dX2_init_45 : decode cX2_init 45 = .ok (.bipush 6, 2) := by decide +kernel
theorem dX2_init_47 : decode cX2_init 47 = .ok (.newarray .int, 2) := by decide +kernel
theorem dX2_init_49 : decode cX2_init 49 = .ok (.putfield 27, 3) := by decide +kernel
theorem dX2_init_52 : decode cX2_init 52 = .ok (.aload_n 0, 1) := by decide +kernel
theorem dX2_init_53 : decode cX2_init 53 = .ok (.bipush 6, 2) := by decide +kernel
theorem dX2_init_55 : decode cX2_init 55 = .ok (.newarray .int, 2) := by decide +kernel
theorem dX2_init_57 : decode cX2_init 57 = .ok (.putfield 32, 3) := by decide +kernel
theorem dX2_init_60 : decode cX2_init 60 = .ok (.aload_n 0, 1) := by decide +kernel
theorem dX2_init_61 : decode cX2_init 61 = .ok (.sipush 160, 3) := by decide +kernel
theorem dX2_init_64 : decode cX2_init 64 = .ok (.newarray .int, 2) := by decide +kernel
theorem dX2_init_66 : decode cX2_init 66 = .ok (.putfield 35, 3) := by decide +kernel
theorem dX2_init_69 : decode cX2_init 69 = .ok (.return_, 1) := by decide +kernel
set_option maxRecDepth 20000 in
theorem ggX2_serve_X2_lineUp : GoodIn wsX2_serve wsX2_lineUp := goodIn_q _ [13, 21] [3, 14, 15, 16, 4, 17, 18, 19, 20, 22, 69, 70, 71, 72, 73, 74, 75, 76, 77, 78, 79, 80, 81, 82, 83, 84, 85, 86, 87, 88] rfl (by decide +kernel) (by decide +kernel)
set_option maxRecDepth 20000 in
theorem gX2_serve_X2_lineUp : GoodIn wsX2_serve (wsV RX2 38 RX2 yX2_lineUp wsX2_lineUp) := goodIn_app (goodIn_of _ (by decide +kernel)) ggX2_serve_X2_lineUp
set_option maxRecDepth 20000 in
theorem ggX2_serve_X2_begin : GoodIn wsX2_serve wsX2_begin := goodIn_q _ [26, 32, 37, 41, 8, 46, 51, 54, 57, 60, 63, 65, 68] [14, 15, 27, 16, 28, 2, 1, 29, 30, 31, 12, 33, 34, 35, 36, 38, 39, 40, 7, 5, 6, 42, 43, 44, 45, 47, 48, 49, 50, 52, 53, 55, 56, 58, 59, 61, 62, 64, 66, 67, 80, 81, 82, 83, 84, 85, 86, 87, 88, 69, 70, 71, 72, 73, 74, 75, 76, 77, 78, 79, 89, 90] rfl (by decide +kernel) (by decide +kernel)
set_option maxRecDepth 20000 in
theorem gX2_serve_X2_begin : GoodIn wsX2_serve (wsV RX2 57 RX2 yX2_begin wsX2_begin) := goodIn_app (goodIn_of _ (by decide +kernel)) ggX2_serve_X2_begin
set_option maxRecDepth 20000 in
theorem ggX2_serve_X2_speakOf : GoodIn wsX2_serve wsX2_speakOf := goodIn_q _ [32] [33, 69, 70, 71, 72, 73, 74, 75, 76, 77, 78, 79, 80, 81, 82, 83, 84, 85, 86, 87, 88] rfl (by decide +kernel) (by decide +kernel)
set_option maxRecDepth 20000 in
theorem gX2_serve_X2_speakOf : GoodIn wsX2_serve (wsV RX2 61 RX2 yX2_speakOf wsX2_speakOf) := goodIn_app (goodIn_of _ (by decide +kernel)) ggX2_serve_X2_speakOf
set_option maxRecDepth 20000 in
theorem ggX2_serve_X2_says : GoodIn wsX2_serve wsX2_says := goodIn_q _ [37, 41, 8, 46, 51] [33, 38, 39, 40, 7, 5, 6, 42, 43, 44, 45, 47, 48, 49, 50, 69, 70, 71, 72, 73, 74, 75, 76, 77, 78, 79, 89, 90] rfl (by decide +kernel) (by decide +kernel)
set_option maxRecDepth 20000 in
theorem gX2_serve_X2_says : GoodIn wsX2_serve (wsV RX2 65 RX2 yX2_says wsX2_says) := goodIn_app (goodIn_of _ (by decide +kernel)) ggX2_serve_X2_says
theorem dX2_serve_0 : decode cX2_serve 0 = .ok (.aload_n 0, 1) := by decide +kernel
theorem dX2_serve_1 : decode cX2_serve 1 = .ok (.aload_n 1, 1) := by decide +kernel
theorem dX2_serve_2 : decode cX2_serve 2 = .ok (.invokevirtual 38, 3) := by decide +kernel
theorem dX2_serve_5 : decode cX2_serve 5 = .ok (.aload_n 0, 1) := by decide +kernel
theorem dX2_serve_6 : decode cX2_serve 6 = .ok (.iconst 0, 1) := by decide +kernel
theorem dX2_serve_7 : decode cX2_serve 7 = .ok (.putfield 42, 3) := by decide +kernel
theorem dX2_serve_10 : decode cX2_serve 10 = .ok (.aload_n 0, 1) := by decide +kernel
theorem dX2_serve_11 : decode cX2_serve 11 = .ok (.iconst 0, 1) := by decide +kernel
theorem dX2_serve_12 : decode cX2_serve 12 = .ok (.putfield 46, 3) := by decide +kernel
theorem dX2_serve_15 : decode cX2_serve 15 = .ok (.aload_n 1, 1) := by decide +kernel
theorem dX2_serve_16 : decode cX2_serve 16 = .ok (.getfield 49, 3) := by decide +kernel
theorem dX2_serve_19 : decode cX2_serve 19 = .ok (.istore_n 3, 1) := by decide +kernel
theorem dX2_serve_20 : decode cX2_serve 20 = .ok (.iconst 0, 1) := by decide +kernel
theorem dX2_serve_21 : decode cX2_serve 21 = .ok (.istore 4, 2) := by decide +kernel
theorem dX2_serve_23 : decode cX2_serve 23 = .ok (.iconst 0, 1) := by decide +kernel
theorem dX2_serve_24 : decode cX2_serve 24 = .ok (.istore 5, 2) := by decide +kernel
theorem dX2_serve_26 : decode cX2_serve 26 = .ok (.iload 5, 2) := by decide +kernel
theorem dX2_serve_28 : decode cX2_serve 28 = .ok (.aload_n 0, 1) := by decide +kernel
theorem dX2_serve_29 : decode cX2_serve 29 = .ok (.getfield 54, 3) := by decide +kernel
theorem dX2_serve_32 : decode cX2_serve 32 = .ok (.if_icmp .ge 101, 3) := by decide +kernel
theorem dX2_serve_35 : decode cX2_serve 35 = .ok (.iload 4, 2) := by decide +kernel
theorem dX2_serve_37 : decode cX2_serve 37 = .ok (.bipush 60, 2) := by decide +kernel
theorem dX2_serve_39 : decode cX2_serve 39 = .ok (.if_icmp .gt 94, 3) := by decide +kernel
theorem dX2_serve_42 : decode cX2_serve 42 = .ok (.aload_n 0, 1) := by decide +kernel
theorem dX2_serve_43 : decode cX2_serve 43 = .ok (.aload_n 1, 1) := by decide +kernel
theorem dX2_serve_44 : decode cX2_serve 44 = .ok (.aload_n 2, 1) := by decide +kernel
theorem dX2_serve_45 : decode cX2_serve 45 = .ok (.aload_n 0, 1) := by decide +kernel
theorem dX2_serve_46 : decode cX2_serve 46 = .ok (.getfield 9, 3) := by decide +kernel
theorem dX2_serve_49 : decode cX2_serve 49 = .ok (.iload 5, 2) := by decide +kernel
theorem dX2_serve_51 : decode cX2_serve 51 = .ok (.iaload, 1) := by decide +kernel
theorem dX2_serve_52 : decode cX2_serve 52 = .ok (.iload_n 3, 1) := by decide +kernel
theorem dX2_serve_53 : decode cX2_serve 53 = .ok (.iload 4, 2) := by decide +kernel
theorem dX2_serve_55 : decode cX2_serve 55 = .ok (.invokevirtual 57, 3) := by decide +kernel
theorem dX2_serve_58 : decode cX2_serve 58 = .ok (.istore 6, 2) := by decide +kernel
theorem dX2_serve_60 : decode cX2_serve 60 = .ok (.iload 5, 2) := by decide +kernel
theorem dX2_serve_62 : decode cX2_serve 62 = .ok (.iconst 1, 1) := by decide +kernel
theorem dX2_serve_63 : decode cX2_serve 63 = .ok (.iadd, 1) := by decide +kernel
theorem dX2_serve_64 : decode cX2_serve 64 = .ok (.aload_n 0, 1) := by decide +kernel
theorem dX2_serve_65 : decode cX2_serve 65 = .ok (.getfield 54, 3) := by decide +kernel
theorem dX2_serve_68 : decode cX2_serve 68 = .ok (.if_icmp .ge 11, 3) := by decide +kernel
theorem dX2_serve_71 : decode cX2_serve 71 = .ok (.iload 4, 2) := by decide +kernel
theorem dX2_serve_73 : decode cX2_serve 73 = .ok (.iload 6, 2) := by decide +kernel
theorem dX2_serve_75 : decode cX2_serve 75 = .ok (.iadd, 1) := by decide +kernel
theorem dX2_serve_76 : decode cX2_serve 76 = .ok (.goto 5, 3) := by decide +kernel
theorem dX2_serve_79 : decode cX2_serve 79 = .ok (.iload 4, 2) := by decide +kernel
theorem dX2_serve_81 : decode cX2_serve 81 = .ok (.istore 7, 2) := by decide +kernel
theorem dX2_serve_83 : decode cX2_serve 83 = .ok (.aload_n 0, 1) := by decide +kernel
theorem dX2_serve_84 : decode cX2_serve 84 = .ok (.aload_n 1, 1) := by decide +kernel
theorem dX2_serve_85 : decode cX2_serve 85 = .ok (.iconst (-1), 1) := by decide +kernel
theorem dX2_serve_86 : decode cX2_serve 86 = .ok (.invokevirtual 61, 3) := by decide +kernel
theorem dX2_serve_89 : decode cX2_serve 89 = .ok (.iload 4, 2) := by decide +kernel
theorem dX2_serve_91 : decode cX2_serve 91 = .ok (.iload 7, 2) := by decide +kernel
theorem dX2_serve_93 : decode cX2_serve 93 = .ok (.if_icmp .ge 34, 3) := by decide +kernel
theorem dX2_serve_96 : decode cX2_serve 96 = .ok (.iload 4, 2) := by decide +kernel
theorem dX2_serve_98 : decode cX2_serve 98 = .ok (.bipush 60, 2) := by decide +kernel
theorem dX2_serve_100 : decode cX2_serve 100 = .ok (.if_icmp .gt 27, 3) := by decide +kernel
theorem dX2_serve_103 : decode cX2_serve 103 = .ok (.iconst 0, 1) := by decide +kernel
theorem dX2_serve_104 : decode cX2_serve 104 = .ok (.iload_n 3, 1) := by decide +kernel
theorem dX2_serve_105 : decode cX2_serve 105 = .ok (.aload_n 0, 1) := by decide +kernel
theorem dX2_serve_106 : decode cX2_serve 106 = .ok (.aload_n 2, 1) := by decide +kernel
theorem dX2_serve_107 : decode cX2_serve 107 = .ok (.iconst 0, 1) := by decide +kernel
theorem dX2_serve_108 : decode cX2_serve 108 = .ok (.iload_n 3, 1) := by decide +kernel
theorem dX2_serve_109 : decode cX2_serve 109 = .ok (.iload 4, 2) := by decide +kernel
theorem dX2_serve_111 : decode cX2_serve 111 = .ok (.iload 5, 2) := by decide +kernel
theorem dX2_serve_113 : decode cX2_serve 113 = .ok (.invokevirtual 65, 3) := by decide +kernel
theorem dX2_serve_116 : decode cX2_serve 116 = .ok (.isub, 1) := by decide +kernel
theorem dX2_serve_117 : decode cX2_serve 117 = .ok (.invokestatic 69, 3) := by decide +kernel
theorem dX2_serve_120 : decode cX2_serve 120 = .ok (.istore_n 3, 1) := by decide +kernel
theorem dX2_serve_121 : decode cX2_serve 121 = .ok (.iinc 4 1, 3) := by decide +kernel
theorem dX2_serve_124 : decode cX2_serve 124 = .ok (.goto (-35), 3) := by decide +kernel
theorem dX2_serve_127 : decode cX2_serve 127 = .ok (.iinc 5 1, 3) := by decide +kernel
theorem dX2_serve_130 : decode cX2_serve 130 = .ok (.goto (-104), 3) := by decide +kernel
theorem dX2_serve_133 : decode cX2_serve 133 = .ok (.aload_n 0, 1) := by decide +kernel
theorem dX2_serve_134 : decode cX2_serve 134 = .ok (.getfield 46, 3) := by decide +kernel
theorem dX2_serve_137 : decode cX2_serve 137 = .ok (.ireturn, 1) := by decide +kernel
set_option maxRecDepth 20000 in
theorem ggX2_lineUp_X1_isBetter : GoodIn wsX2_lineUp wsX1_isBetter := goodIn_q _ [10] [11, 23, 24, 25, 26, 27, 28, 29, 30, 31] rfl (by decide +kernel) (by decide +kernel)
set_option maxRecDepth 20000 in
theorem gX2_lineUp_X1_isBetter : GoodIn wsX2_lineUp (wsV RX2 81 RX1 yX1_isBetter wsX1_isBetter) := goodIn_app (goodIn_of _ (by decide +kernel)) ggX2_lineUp_X1_isBetter
theorem dX2_lineUp_0 : decode cX2_lineUp 0 = .ok (.aload_n 0, 1) := by decide +kernel
theorem dX2_lineUp_1 : decode cX2_lineUp 1 = .ok (.iconst 0, 1) := by decide +kernel
theorem dX2_lineUp_2 : decode cX2_lineUp 2 = .ok (.putfield 54, 3) := by decide +kernel
theorem dX2_lineUp_5 : decode cX2_lineUp 5 = .ok (.iconst 0, 1) := by decide +kernel
theorem dX2_lineUp_6 : decode cX2_lineUp 6 = .ok (.istore_n 2, 1) := by decide +kernel
theorem dX2_lineUp_7 : decode cX2_lineUp 7 = .ok (.iload_n 2, 1) := by decide +kernel
theorem dX2_lineUp_8 : decode cX2_lineUp 8 = .ok (.aload_n 1, 1) := by decide +kernel
theorem dX2_lineUp_9 : decode cX2_lineUp 9 = .ok (.getfield 75, 3) := by decide +kernel
theorem dX2_lineUp_12 : decode cX2_lineUp 12 = .ok (.if_icmp .ge 103, 3) := by decide +kernel
theorem dX2_lineUp_15 : decode cX2_lineUp 15 = .ok (.aload_n 0, 1) := by decide +kernel
theorem dX2_lineUp_16 : decode cX2_lineUp 16 = .ok (.getfield 18, 3) := by decide +kernel
theorem dX2_lineUp_19 : decode cX2_lineUp 19 = .ok (.iload_n 2, 1) := by decide +kernel
theorem dX2_lineUp_20 : decode cX2_lineUp 20 = .ok (.iconst (-1), 1) := by decide +kernel
theorem dX2_lineUp_21 : decode cX2_lineUp 21 = .ok (.iastore, 1) := by decide +kernel
theorem dX2_lineUp_22 : decode cX2_lineUp 22 = .ok (.aload_n 0, 1) := by decide +kernel
theorem dX2_lineUp_23 : decode cX2_lineUp 23 = .ok (.getfield 21, 3) := by decide +kernel
theorem dX2_lineUp_26 : decode cX2_lineUp 26 = .ok (.iload_n 2, 1) := by decide +kernel
theorem dX2_lineUp_27 : decode cX2_lineUp 27 = .ok (.iconst (-1), 1) := by decide +kernel
theorem dX2_lineUp_28 : decode cX2_lineUp 28 = .ok (.iastore, 1) := by decide +kernel
theorem dX2_lineUp_29 : decode cX2_lineUp 29 = .ok (.aload_n 0, 1) := by decide +kernel
theorem dX2_lineUp_30 : decode cX2_lineUp 30 = .ok (.getfield 15, 3) := by decide +kernel
theorem dX2_lineUp_33 : decode cX2_lineUp 33 = .ok (.iload_n 2, 1) := by decide +kernel
theorem dX2_lineUp_34 : decode cX2_lineUp 34 = .ok (.iconst 0, 1) := by decide +kernel
theorem dX2_lineUp_35 : decode cX2_lineUp 35 = .ok (.iastore, 1) := by decide +kernel
theorem dX2_lineUp_36 : decode cX2_lineUp 36 = .ok (.iconst 0, 1) := by decide +kernel
theorem dX2_lineUp_37 : decode cX2_lineUp 37 = .ok (.istore_n 3, 1) := by decide +kernel
theorem dX2_lineUp_38 : decode cX2_lineUp 38 = .ok (.iload_n 3, 1) := by decide +kernel
theorem dX2_lineUp_39 : decode cX2_lineUp 39 = .ok (.aload_n 1, 1) := by decide +kernel
theorem dX2_lineUp_40 : decode cX2_lineUp 40 = .ok (.getfield 75, 3) := by decide +kernel
theorem dX2_lineUp_43 : decode cX2_lineUp 43 = .ok (.if_icmp .ge 36, 3) := by decide +kernel
theorem dX2_lineUp_46 : decode cX2_lineUp 46 = .ok (.iload_n 3, 1) := by decide +kernel
theorem dX2_lineUp_47 : decode cX2_lineUp 47 = .ok (.aload_n 1, 1) := by decide +kernel
theorem dX2_lineUp_48 : decode cX2_lineUp 48 = .ok (.getfield 78, 3) := by decide +kernel
theorem dX2_lineUp_51 : decode cX2_lineUp 51 = .ok (.if_icmp .eq 22, 3) := by decide +kernel
theorem dX2_lineUp_54 : decode cX2_lineUp 54 = .ok (.aload_n 1, 1) := by decide +kernel
theorem dX2_lineUp_55 : decode cX2_lineUp 55 = .ok (.iload_n 3, 1) := by decide +kernel
theorem dX2_lineUp_56 : decode cX2_lineUp 56 = .ok (.iload_n 2, 1) := by decide +kernel
theorem dX2_lineUp_57 : decode cX2_lineUp 57 = .ok (.invokevirtual 81, 3) := by decide +kernel
theorem dX2_lineUp_60 : decode cX2_lineUp 60 = .ok (.ifCond .eq 13, 3) := by decide +kernel
theorem dX2_lineUp_63 : decode cX2_lineUp 63 = .ok (.aload_n 0, 1) := by decide +kernel
theorem dX2_lineUp_64 : decode cX2_lineUp 64 = .ok (.getfield 15, 3) := by decide +kernel
theorem dX2_lineUp_67 : decode cX2_lineUp 67 = .ok (.iload_n 2, 1) := by decide +kernel
theorem dX2_lineUp_68 : decode cX2_lineUp 68 = .ok (.dup2, 1) := by decide +kernel
theorem dX2_lineUp_69 : decode cX2_lineUp 69 = .ok (.iaload, 1) := by decide +kernel
theorem dX2_lineUp_70 : decode cX2_lineUp 70 = .ok (.iconst 1, 1) := by decide +kernel
theorem dX2_lineUp_71 : decode cX2_lineUp 71 = .ok (.iadd, 1) := by decide +kernel
theorem dX2_lineUp_72 : decode cX2_lineUp 72 = .ok (.iastore, 1) := by decide +kernel
theorem dX2_lineUp_73 : decode cX2_lineUp 73 = .ok (.iinc 3 1, 3) := by decide +kernel
theorem dX2_lineUp_76 : decode cX2_lineUp 76 = .ok (.goto (-38), 3) := by decide +kernel
theorem dX2_lineUp_79 : decode cX2_lineUp 79 = .ok (.iload_n 2, 1) := by decide +kernel
theorem dX2_lineUp_80 : decode cX2_lineUp 80 = .ok (.aload_n 1, 1) := by decide +kernel
theorem dX2_lineUp_81 : decode cX2_lineUp 81 = .ok (.getfield 78, 3) := by decide +kernel
theorem dX2_lineUp_84 : decode cX2_lineUp 84 = .ok (.if_icmp .eq 25, 3) := by decide +kernel
theorem dX2_lineUp_87 : decode cX2_lineUp 87 = .ok (.aload_n 0, 1) := by decide +kernel
theorem dX2_lineUp_88 : decode cX2_lineUp 88 = .ok (.getfield 9, 3) := by decide +kernel
theorem dX2_lineUp_91 : decode cX2_lineUp 91 = .ok (.aload_n 0, 1) := by decide +kernel
theorem dX2_lineUp_92 : decode cX2_lineUp 92 = .ok (.getfield 15, 3) := by decide +kernel
theorem dX2_lineUp_95 : decode cX2_lineUp 95 = .ok (.iload_n 2, 1) := by decide +kernel
theorem dX2_lineUp_96 : decode cX2_lineUp 96 = .ok (.iaload, 1) := by decide +kernel
theorem dX2_lineUp_97 : decode cX2_lineUp 97 = .ok (.iload_n 2, 1) := by decide +kernel
theorem dX2_lineUp_98 : decode cX2_lineUp 98 = .ok (.iastore, 1) := by decide +kernel
theorem dX2_lineUp_99 : decode cX2_lineUp 99 = .ok (.aload_n 0, 1) := by decide +kernel
theorem dX2_lineUp_100 : decode cX2_lineUp 100 = .ok (.dup, 1) := by decide +kernel
theorem dX2_lineUp_101 : decode cX2_lineUp 101 = .ok (.getfield 54, 3) := by decide +kernel
theorem dX2_lineUp_104 : decode cX2_lineUp 104 = .ok (.iconst 1, 1) := by decide +kernel
theorem dX2_lineUp_105 : decode cX2_lineUp 105 = .ok (.iadd, 1) := by decide +kernel
theorem dX2_lineUp_106 : decode cX2_lineUp 106 = .ok (.putfield 54, 3) := by decide +kernel
theorem dX2_lineUp_109 : decode cX2_lineUp 109 = .ok (.iinc 2 1, 3) := by decide +kernel
theorem dX2_lineUp_112 : decode cX2_lineUp 112 = .ok (.goto (-105), 3) := by decide +kernel
theorem dX2_lineUp_115 : decode cX2_lineUp 115 = .ok (.return_, 1) := by decide +kernel
set_option maxRecDepth 20000 in
theorem ggX2_begin_X2_speakOf : GoodIn wsX2_begin wsX2_speakOf := goodIn_q _ [12] [13, 62, 63, 64, 65, 66, 67, 68, 69, 70, 71, 72, 53, 54, 55, 56, 57, 58, 59, 60, 61] rfl (by decide +kernel) (by decide +kernel)
set_option maxRecDepth 20000 in
theorem gX2_begin_X2_speakOf : GoodIn wsX2_begin (wsV RX2 61 RX2 yX2_speakOf wsX2_speakOf) := goodIn_app (goodIn_of _ (by decide +kernel)) ggX2_begin_X2_speakOf
set_option maxRecDepth 20000 in
theorem ggX2_begin_X2_says : GoodIn wsX2_begin wsX2_says := goodIn_q _ [17, 22, 25, 30, 35] [13, 18, 19, 20, 21, 23, 24, 26, 27, 28, 29, 31, 32, 33, 34, 62, 63, 64, 65, 66, 67, 68, 69, 70, 71, 72, 73, 74] rfl (by decide +kernel) (by decide +kernel)
set_option maxRecDepth 20000 in
theorem gX2_begin_X2_says : GoodIn wsX2_begin (wsV RX2 65 RX2 yX2_says wsX2_says) := goodIn_app (goodIn_of _ (by decide +kernel)) ggX2_begin_X2_says
set_option maxRecDepth 20000 in
theorem ggX2_begin_X6_liking : GoodIn wsX2_begin wsX6_liking := goodIn_q _ [38, 25] [39, 24, 21] rfl (by decide +kernel) (by decide +kernel)
set_option maxRecDepth 20000 in
theorem gX2_begin_X6_liking_n91 : GoodIn wsX2_begin (wsX6_liking) := ggX2_begin_X6_liking
set_option maxRecDepth 20000 in
theorem ggX2_begin_X6_minding : GoodIn wsX2_begin wsX6_minding := goodIn_q _ [41, 25, 44, 47] [39, 24, 21, 42, 43, 45, 46, 37] rfl (by decide +kernel) (by decide +kernel)
set_option maxRecDepth 20000 in
theorem gX2_begin_X6_minding_n95 : GoodIn wsX2_begin (wsX6_minding) := ggX2_begin_X6_minding
set_option maxRecDepth 20000 in
theorem ggX2_begin_X6_waiting : GoodIn wsX2_begin wsX6_waiting := goodIn_q _ [49, 52] [50, 51, 37] rfl (by decide +kernel) (by decide +kernel)
set_option maxRecDepth 20000 in
theorem gX2_begin_X6_waiting_n101 : GoodIn wsX2_begin (wsX6_waiting) := ggX2_begin_X6_waiting
theorem dX2_begin_0 : decode cX2_begin 0 = .ok (.aload_n 1, 1) := by decide +kernel
theorem dX2_begin_1 : decode cX2_begin 1 = .ok (.getfield 85, 3) := by decide +kernel
theorem dX2_begin_4 : decode cX2_begin 4 = .ok (.iload_n 3, 1) := by decide +kernel
theorem dX2_begin_5 : decode cX2_begin 5 = .ok (.iaload, 1) := by decide +kernel
theorem dX2_begin_6 : decode cX2_begin 6 = .ok (.istore 6, 2) := by decide +kernel
theorem dX2_begin_8 : decode cX2_begin 8 = .ok (.aload_n 1, 1) := by decide +kernel
theorem dX2_begin_9 : decode cX2_begin 9 = .ok (.getfield 88, 3) := by decide +kernel
theorem dX2_begin_12 : decode cX2_begin 12 = .ok (.iload_n 3, 1) := by decide +kernel
theorem dX2_begin_13 : decode cX2_begin 13 = .ok (.iaload, 1) := by decide +kernel
theorem dX2_begin_14 : decode cX2_begin 14 = .ok (.istore 7, 2) := by decide +kernel
theorem dX2_begin_16 : decode cX2_begin 16 = .ok (.aload_n 0, 1) := by decide +kernel
theorem dX2_begin_17 : decode cX2_begin 17 = .ok (.aload_n 1, 1) := by decide +kernel
theorem dX2_begin_18 : decode cX2_begin 18 = .ok (.iload_n 3, 1) := by decide +kernel
theorem dX2_begin_19 : decode cX2_begin 19 = .ok (.invokevirtual 61, 3) := by decide +kernel
theorem dX2_begin_22 : decode cX2_begin 22 = .ok (.aload_n 0, 1) := by decide +kernel
theorem dX2_begin_23 : decode cX2_begin 23 = .ok (.getfield 18, 3) := by decide +kernel
theorem dX2_begin_26 : decode cX2_begin 26 = .ok (.iload_n 3, 1) := by decide +kernel
theorem dX2_begin_27 : decode cX2_begin 27 = .ok (.iload 5, 2) := by decide +kernel
theorem dX2_begin_29 : decode cX2_begin 29 = .ok (.iastore, 1) := by decide +kernel
theorem dX2_begin_30 : decode cX2_begin 30 = .ok (.aload_n 0, 1) := by decide +kernel
theorem dX2_begin_31 : decode cX2_begin 31 = .ok (.getfield 21, 3) := by decide +kernel
theorem dX2_begin_34 : decode cX2_begin 34 = .ok (.iload_n 3, 1) := by decide +kernel
theorem dX2_begin_35 : decode cX2_begin 35 = .ok (.iload 4, 2) := by decide +kernel
theorem dX2_begin_37 : decode cX2_begin 37 = .ok (.iastore, 1) := by decide +kernel
theorem dX2_begin_38 : decode cX2_begin 38 = .ok (.aload_n 0, 1) := by decide +kernel
theorem dX2_begin_39 : decode cX2_begin 39 = .ok (.getfield 24, 3) := by decide +kernel
theorem dX2_begin_42 : decode cX2_begin 42 = .ok (.iload_n 3, 1) := by decide +kernel
theorem dX2_begin_43 : decode cX2_begin 43 = .ok (.iload 4, 2) := by decide +kernel
theorem dX2_begin_45 : decode cX2_begin 45 = .ok (.iload 6, 2) := by decide +kernel
theorem dX2_begin_47 : decode cX2_begin 47 = .ok (.iload 7, 2) := by decide +kernel
theorem dX2_begin_49 : decode cX2_begin 49 = .ok (.aload_n 0, 1) := by decide +kernel
theorem dX2_begin_50 : decode cX2_begin 50 = .ok (.aload_n 2, 1) := by decide +kernel
theorem dX2_begin_51 : decode cX2_begin 51 = .ok (.iconst 2, 1) := by decide +kernel
theorem dX2_begin_52 : decode cX2_begin 52 = .ok (.iload 4, 2) := by decide +kernel
theorem dX2_begin_54 : decode cX2_begin 54 = .ok (.iload 5, 2) := by decide +kernel
theorem dX2_begin_56 : decode cX2_begin 56 = .ok (.aload_n 0, 1) := by decide +kernel
theorem dX2_begin_57 : decode cX2_begin 57 = .ok (.getfield 15, 3) := by decide +kernel
theorem dX2_begin_60 : decode cX2_begin 60 = .ok (.iload_n 3, 1) := by decide +kernel
theorem dX2_begin_61 : decode cX2_begin 61 = .ok (.iaload, 1) := by decide +kernel
theorem dX2_begin_62 : decode cX2_begin 62 = .ok (.invokevirtual 65, 3) := by decide +kernel
theorem dX2_begin_65 : decode cX2_begin 65 = .ok (.invokestatic 91, 3) := by decide +kernel
theorem dX2_begin_68 : decode cX2_begin 68 = .ok (.isub, 1) := by decide +kernel
theorem dX2_begin_69 : decode cX2_begin 69 = .ok (.iastore, 1) := by decide +kernel
theorem dX2_begin_70 : decode cX2_begin 70 = .ok (.aload_n 0, 1) := by decide +kernel
theorem dX2_begin_71 : decode cX2_begin 71 = .ok (.getfield 27, 3) := by decide +kernel
theorem dX2_begin_74 : decode cX2_begin 74 = .ok (.iload_n 3, 1) := by decide +kernel
theorem dX2_begin_75 : decode cX2_begin 75 = .ok (.iload 6, 2) := by decide +kernel
theorem dX2_begin_77 : decode cX2_begin 77 = .ok (.iload 7, 2) := by decide +kernel
theorem dX2_begin_79 : decode cX2_begin 79 = .ok (.aload_n 0, 1) := by decide +kernel
theorem dX2_begin_80 : decode cX2_begin 80 = .ok (.getfield 24, 3) := by decide +kernel
theorem dX2_begin_83 : decode cX2_begin 83 = .ok (.iload_n 3, 1) := by decide +kernel
theorem dX2_begin_84 : decode cX2_begin 84 = .ok (.iaload, 1) := by decide +kernel
theorem dX2_begin_85 : decode cX2_begin 85 = .ok (.invokestatic 95, 3) := by decide +kernel
theorem dX2_begin_88 : decode cX2_begin 88 = .ok (.iastore, 1) := by decide +kernel
theorem dX2_begin_89 : decode cX2_begin 89 = .ok (.aload_n 0, 1) := by decide +kernel
theorem dX2_begin_90 : decode cX2_begin 90 = .ok (.dup, 1) := by decide +kernel
theorem dX2_begin_91 : decode cX2_begin 91 = .ok (.getfield 46, 3) := by decide +kernel
theorem dX2_begin_94 : decode cX2_begin 94 = .ok (.aload_n 0, 1) := by decide +kernel
theorem dX2_begin_95 : decode cX2_begin 95 = .ok (.getfield 27, 3) := by decide +kernel
theorem dX2_begin_98 : decode cX2_begin 98 = .ok (.iload_n 3, 1) := by decide +kernel
theorem dX2_begin_99 : decode cX2_begin 99 = .ok (.iaload, 1) := by decide +kernel
theorem dX2_begin_100 : decode cX2_begin 100 = .ok (.iadd, 1) := by decide +kernel
theorem dX2_begin_101 : decode cX2_begin 101 = .ok (.putfield 46, 3) := by decide +kernel
theorem dX2_begin_104 : decode cX2_begin 104 = .ok (.aload_n 0, 1) := by decide +kernel
theorem dX2_begin_105 : decode cX2_begin 105 = .ok (.dup, 1) := by decide +kernel
theorem dX2_begin_106 : decode cX2_begin 106 = .ok (.getfield 42, 3) := by decide +kernel
theorem dX2_begin_109 : decode cX2_begin 109 = .ok (.iconst 1, 1) := by decide +kernel
theorem dX2_begin_110 : decode cX2_begin 110 = .ok (.iadd, 1) := by decide +kernel
theorem dX2_begin_111 : decode cX2_begin 111 = .ok (.putfield 42, 3) := by decide +kernel
theorem dX2_begin_114 : decode cX2_begin 114 = .ok (.iload 6, 2) := by decide +kernel
theorem dX2_begin_116 : decode cX2_begin 116 = .ok (.iload 7, 2) := by decide +kernel
theorem dX2_begin_118 : decode cX2_begin 118 = .ok (.aload_n 0, 1) := by decide +kernel
theorem dX2_begin_119 : decode cX2_begin 119 = .ok (.aload_n 2, 1) := by decide +kernel
theorem dX2_begin_120 : decode cX2_begin 120 = .ok (.iconst 1, 1) := by decide +kernel
theorem dX2_begin_121 : decode cX2_begin 121 = .ok (.iload 4, 2) := by decide +kernel
theorem dX2_begin_123 : decode cX2_begin 123 = .ok (.iload 5, 2) := by decide +kernel
theorem dX2_begin_125 : decode cX2_begin 125 = .ok (.aload_n 0, 1) := by decide +kernel
theorem dX2_begin_126 : decode cX2_begin 126 = .ok (.getfield 15, 3) := by decide +kernel
theorem dX2_begin_129 : decode cX2_begin 129 = .ok (.iload_n 3, 1) := by decide +kernel
theorem dX2_begin_130 : decode cX2_begin 130 = .ok (.iaload, 1) := by decide +kernel
theorem dX2_begin_131 : decode cX2_begin 131 = .ok (.invokevirtual 65, 3) := by decide +kernel
theorem dX2_begin_134 : decode cX2_begin 134 = .ok (.iload 4, 2) := by decide +kernel
theorem dX2_begin_136 : decode cX2_begin 136 = .ok (.aload_n 1, 1) := by decide +kernel
theorem dX2_begin_137 : decode cX2_begin 137 = .ok (.getfield 98, 3) := by decide +kernel
theorem dX2_begin_140 : decode cX2_begin 140 = .ok (.invokestatic 101, 3) := by decide +kernel
theorem dX2_begin_143 : decode cX2_begin 143 = .ok (.ireturn, 1) := by decide +kernel
theorem dX2_speakOf_0 : decode cX2_speakOf 0 = .ok (.iload_n 2, 1) := by decide +kernel
theorem dX2_speakOf_1 : decode cX2_speakOf 1 = .ok (.ifCond .lt 13, 3) := by decide +kernel
theorem dX2_speakOf_4 : decode cX2_speakOf 4 = .ok (.iload_n 2, 1) := by decide +kernel
theorem dX2_speakOf_5 : decode cX2_speakOf 5 = .ok (.bipush 6, 2) := by decide +kernel
theorem dX2_speakOf_7 : decode cX2_speakOf 7 = .ok (.if_icmp .ge 7, 3) := by decide +kernel
theorem dX2_speakOf_10 : decode cX2_speakOf 10 = .ok (.iconst 1, 1) := by decide +kernel
theorem dX2_speakOf_11 : decode cX2_speakOf 11 = .ok (.goto 4, 3) := by decide +kernel
theorem dX2_speakOf_14 : decode cX2_speakOf 14 = .ok (.iconst 0, 1) := by decide +kernel
theorem dX2_speakOf_15 : decode cX2_speakOf 15 = .ok (.istore_n 3, 1) := by decide +kernel
theorem dX2_speakOf_16 : decode cX2_speakOf 16 = .ok (.aload_n 0, 1) := by decide +kernel
theorem dX2_speakOf_17 : decode cX2_speakOf 17 = .ok (.getfield 32, 3) := by decide +kernel
theorem dX2_speakOf_20 : decode cX2_speakOf 20 = .ok (.iconst 3, 1) := by decide +kernel
theorem dX2_speakOf_21 : decode cX2_speakOf 21 = .ok (.iload_n 3, 1) := by decide +kernel
theorem dX2_speakOf_22 : decode cX2_speakOf 22 = .ok (.ifCond .eq 12, 3) := by decide +kernel
theorem dX2_speakOf_25 : decode cX2_speakOf 25 = .ok (.aload_n 1, 1) := by decide +kernel
theorem dX2_speakOf_26 : decode cX2_speakOf 26 = .ok (.getfield 105, 3) := by decide +kernel
theorem dX2_speakOf_29 : decode cX2_speakOf 29 = .ok (.iload_n 2, 1) := by decide +kernel
theorem dX2_speakOf_30 : decode cX2_speakOf 30 = .ok (.iaload, 1) := by decide +kernel
theorem dX2_speakOf_31 : decode cX2_speakOf 31 = .ok (.goto 4, 3) := by decide +kernel
theorem dX2_speakOf_34 : decode cX2_speakOf 34 = .ok (.iconst 0, 1) := by decide +kernel
theorem dX2_speakOf_35 : decode cX2_speakOf 35 = .ok (.iastore, 1) := by decide +kernel
theorem dX2_speakOf_36 : decode cX2_speakOf 36 = .ok (.aload_n 0, 1) := by decide +kernel
theorem dX2_speakOf_37 : decode cX2_speakOf 37 = .ok (.getfield 32, 3) := by decide +kernel
theorem dX2_speakOf_40 : decode cX2_speakOf 40 = .ok (.iconst 4, 1) := by decide +kernel
theorem dX2_speakOf_41 : decode cX2_speakOf 41 = .ok (.iload_n 3, 1) := by decide +kernel
theorem dX2_speakOf_42 : decode cX2_speakOf 42 = .ok (.ifCond .eq 12, 3) := by decide +kernel
theorem dX2_speakOf_45 : decode cX2_speakOf 45 = .ok (.aload_n 1, 1) := by decide +kernel
theorem dX2_speakOf_46 : decode cX2_speakOf 46 = .ok (.getfield 108, 3) := by decide +kernel
theorem dX2_speakOf_49 : decode cX2_speakOf 49 = .ok (.iload_n 2, 1) := by decide +kernel
theorem dX2_speakOf_50 : decode cX2_speakOf 50 = .ok (.iaload, 1) := by decide +kernel
theorem dX2_speakOf_51 : decode cX2_speakOf 51 = .ok (.goto 4, 3) := by decide +kernel
theorem dX2_speakOf_54 : decode cX2_speakOf 54 = .ok (.iconst 0, 1) := by decide +kernel
theorem dX2_speakOf_55 : decode cX2_speakOf 55 = .ok (.iastore, 1) := by decide +kernel
theorem dX2_speakOf_56 : decode cX2_speakOf 56 = .ok (.aload_n 0, 1) := by decide +kernel
theorem dX2_speakOf_57 : decode cX2_speakOf 57 = .ok (.getfield 32, 3) := by decide +kernel
theorem dX2_speakOf_60 : decode cX2_speakOf 60 = .ok (.iconst 5, 1) := by decide +kernel
theorem dX2_speakOf_61 : decode cX2_speakOf 61 = .ok (.iload_n 3, 1) := by decide +kernel
theorem dX2_speakOf_62 : decode cX2_speakOf 62 = .ok (.ifCond .eq 12, 3) := by decide +kernel
theorem dX2_speakOf_65 : decode cX2_speakOf 65 = .ok (.aload_n 1, 1) := by decide +kernel
theorem dX2_speakOf_66 : decode cX2_speakOf 66 = .ok (.getfield 88, 3) := by decide +kernel
theorem dX2_speakOf_69 : decode cX2_speakOf 69 = .ok (.iload_n 2, 1) := by decide +kernel
theorem dX2_speakOf_70 : decode cX2_speakOf 70 = .ok (.iaload, 1) := by decide +kernel
theorem dX2_speakOf_71 : decode cX2_speakOf 71 = .ok (.goto 4, 3) := by decide +kernel
theorem dX2_speakOf_74 : decode cX2_speakOf 74 = .ok (.iconst 0, 1) := by decide +kernel
theorem dX2_speakOf_75 : decode cX2_speakOf 75 = .ok (.iastore, 1) := by decide +kernel
theorem dX2_speakOf_76 : decode cX2_speakOf 76 = .ok (.return_, 1) := by decide +kernel
set_option maxRecDepth 20000 in
theorem ggX2_says_X5_value : GoodIn wsX2_says wsX5_value := goodIn_q _ [14, 19] [15, 16, 17, 18, 13, 31, 32] rfl (by decide +kernel) (by decide +kernel)
set_option maxRecDepth 20000 in
theorem gX2_says_X5_value : GoodIn wsX2_says (wsV RX2 111 RX5 yX5_value wsX5_value) := goodIn_app (goodIn_of _ (by decide +kernel)) ggX2_says_X5_value
theorem dX2_says_0 : decode cX2_says 0 = .ok (.aload_n 0, 1) := by decide +kernel
theorem dX2_says_1 : decode cX2_says 1 = .ok (.getfield 32, 3) := by decide +kernel
theorem dX2_says_4 : decode cX2_says 4 = .ok (.iconst 0, 1) := by decide +kernel
theorem dX2_says_5 : decode cX2_says 5 = .ok (.iload_n 3, 1) := by decide +kernel
theorem dX2_says_6 : decode cX2_says 6 = .ok (.iastore, 1) := by decide +kernel
theorem dX2_says_7 : decode cX2_says 7 = .ok (.aload_n 0, 1) := by decide +kernel
theorem dX2_says_8 : decode cX2_says 8 = .ok (.getfield 32, 3) := by decide +kernel
theorem dX2_says_11 : decode cX2_says 11 = .ok (.iconst 1, 1) := by decide +kernel
theorem dX2_says_12 : decode cX2_says 12 = .ok (.iload 4, 2) := by decide +kernel
theorem dX2_says_14 : decode cX2_says 14 = .ok (.iastore, 1) := by decide +kernel
theorem dX2_says_15 : decode cX2_says 15 = .ok (.aload_n 0, 1) := by decide +kernel
theorem dX2_says_16 : decode cX2_says 16 = .ok (.getfield 32, 3) := by decide +kernel
theorem dX2_says_19 : decode cX2_says 19 = .ok (.iconst 2, 1) := by decide +kernel
theorem dX2_says_20 : decode cX2_says 20 = .ok (.iload 5, 2) := by decide +kernel
theorem dX2_says_22 : decode cX2_says 22 = .ok (.iastore, 1) := by decide +kernel
theorem dX2_says_23 : decode cX2_says 23 = .ok (.iload_n 2, 1) := by decide +kernel
theorem dX2_says_24 : decode cX2_says 24 = .ok (.iconst 1, 1) := by decide +kernel
theorem dX2_says_25 : decode cX2_says 25 = .ok (.if_icmp .ne 8, 3) := by decide +kernel
theorem dX2_says_28 : decode cX2_says 28 = .ok (.bipush 20, 2) := by decide +kernel
theorem dX2_says_30 : decode cX2_says 30 = .ok (.goto 5, 3) := by decide +kernel
theorem dX2_says_33 : decode cX2_says 33 = .ok (.bipush 99, 2) := by decide +kernel
theorem dX2_says_35 : decode cX2_says 35 = .ok (.istore 6, 2) := by decide +kernel
theorem dX2_says_37 : decode cX2_says 37 = .ok (.iconst 0, 1) := by decide +kernel
theorem dX2_says_38 : decode cX2_says 38 = .ok (.iload 6, 2) := by decide +kernel
theorem dX2_says_40 : decode cX2_says 40 = .ok (.aload_n 1, 1) := by decide +kernel
theorem dX2_says_41 : decode cX2_says 41 = .ok (.iload_n 2, 1) := by decide +kernel
theorem dX2_says_42 : decode cX2_says 42 = .ok (.aload_n 0, 1) := by decide +kernel
theorem dX2_says_43 : decode cX2_says 43 = .ok (.getfield 32, 3) := by decide +kernel
theorem dX2_says_46 : decode cX2_says 46 = .ok (.aload_n 0, 1) := by decide +kernel
theorem dX2_says_47 : decode cX2_says 47 = .ok (.getfield 35, 3) := by decide +kernel
theorem dX2_says_50 : decode cX2_says 50 = .ok (.invokevirtual 111, 3) := by decide +kernel
theorem dX2_says_53 : decode cX2_says 53 = .ok (.invokestatic 115, 3) := by decide +kernel
theorem dX2_says_56 : decode cX2_says 56 = .ok (.invokestatic 69, 3) := by decide +kernel
theorem dX2_says_59 : decode cX2_says 59 = .ok (.ireturn, 1) := by decide +kernel
theorem dX2_hasBegun_0 : decode cX2_hasBegun 0 = .ok (.aload_n 0, 1) := by decide +kernel
theorem dX2_hasBegun_1 : decode cX2_hasBegun 1 = .ok (.getfield 18, 3) := by decide +kernel
theorem dX2_hasBegun_4 : decode cX2_hasBegun 4 = .ok (.iload_n 1, 1) := by decide +kernel
theorem dX2_hasBegun_5 : decode cX2_hasBegun 5 = .ok (.iaload, 1) := by decide +kernel
theorem dX2_hasBegun_6 : decode cX2_hasBegun 6 = .ok (.iconst (-1), 1) := by decide +kernel
theorem dX2_hasBegun_7 : decode cX2_hasBegun 7 = .ok (.if_icmp .eq 7, 3) := by decide +kernel
theorem dX2_hasBegun_10 : decode cX2_hasBegun 10 = .ok (.iconst 1, 1) := by decide +kernel
theorem dX2_hasBegun_11 : decode cX2_hasBegun 11 = .ok (.goto 4, 3) := by decide +kernel
theorem dX2_hasBegun_14 : decode cX2_hasBegun 14 = .ok (.iconst 0, 1) := by decide +kernel
theorem dX2_hasBegun_15 : decode cX2_hasBegun 15 = .ok (.ireturn, 1) := by decide +kernel
set_option maxRecDepth 20000 in
theorem ggX2_costs_X2_hasBegun : GoodIn wsX2_costs wsX2_hasBegun := goodIn_q _ [6] [7, 8, 9, 10, 11, 12, 13, 14, 15, 16, 17, 18] rfl (by decide +kernel) (by decide +kernel)
set_option maxRecDepth 20000 in
theorem gX2_costs_X2_hasBegun : GoodIn wsX2_costs (wsV RX2 118 RX2 yX2_hasBegun wsX2_hasBegun) := goodIn_app (goodIn_of _ (by decide +kernel)) ggX2_costs_X2_hasBegun
theorem dX2_costs_0 : decode cX2_costs 0 = .ok (.aload_n 0, 1) := by decide +kernel
theorem dX2_costs_1 : decode cX2_costs 1 = .ok (.iload_n 1, 1) := by decide +kernel
theorem dX2_costs_2 : decode cX2_costs 2 = .ok (.invokevirtual 118, 3) := by decide +kernel
theorem dX2_costs_5 : decode cX2_costs 5 = .ok (.ifCond .eq 12, 3) := by decide +kernel
theorem dX2_costs_8 : decode cX2_costs 8 = .ok (.aload_n 0, 1) := by decide +kernel
theorem dX2_costs_9 : decode cX2_costs 9 = .ok (.getfield 27, 3) := by decide +kernel
theorem dX2_costs_12 : decode cX2_costs 12 = .ok (.iload_n 1, 1) := by decide +kernel
theorem dX2_costs_13 : decode cX2_costs 13 = .ok (.iaload, 1) := by decide +kernel
theorem dX2_costs_14 : decode cX2_costs 14 = .ok (.goto 5, 3) := by decide +kernel
theorem dX2_costs_17 : decode cX2_costs 17 = .ok (.bipush 10, 2) := by decide +kernel
theorem dX2_costs_19 : decode cX2_costs 19 = .ok (.ireturn, 1) := by decide +kernel
theorem dX2_last_0 : decode cX2_last 0 = .ok (.aload_n 0, 1) := by decide +kernel
theorem dX2_last_1 : decode cX2_last 1 = .ok (.getfield 42, 3) := by decide +kernel
theorem dX2_last_4 : decode cX2_last 4 = .ok (.ifCond .le 17, 3) := by decide +kernel
theorem dX2_last_7 : decode cX2_last 7 = .ok (.aload_n 0, 1) := by decide +kernel
theorem dX2_last_8 : decode cX2_last 8 = .ok (.getfield 9, 3) := by decide +kernel
theorem dX2_last_11 : decode cX2_last 11 = .ok (.aload_n 0, 1) := by decide +kernel
theorem dX2_last_12 : decode cX2_last 12 = .ok (.getfield 42, 3) := by decide +kernel
theorem dX2_last_15 : decode cX2_last 15 = .ok (.iconst 1, 1) := by decide +kernel
theorem dX2_last_16 : decode cX2_last 16 = .ok (.isub, 1) := by decide +kernel
theorem dX2_last_17 : decode cX2_last 17 = .ok (.iaload, 1) := by decide +kernel
theorem dX2_last_18 : decode cX2_last 18 = .ok (.goto 4, 3) := by decide +kernel
theorem dX2_last_21 : decode cX2_last 21 = .ok (.iconst (-1), 1) := by decide +kernel
theorem dX2_last_22 : decode cX2_last 22 = .ok (.ireturn, 1) := by decide +kernel
theorem dX2_lastMinute_0 : decode cX2_lastMinute 0 = .ok (.aload_n 0, 1) := by decide +kernel
theorem dX2_lastMinute_1 : decode cX2_lastMinute 1 = .ok (.getfield 42, 3) := by decide +kernel
theorem dX2_lastMinute_4 : decode cX2_lastMinute 4 = .ok (.ifCond .le 22, 3) := by decide +kernel
theorem dX2_lastMinute_7 : decode cX2_lastMinute 7 = .ok (.aload_n 0, 1) := by decide +kernel
theorem dX2_lastMinute_8 : decode cX2_lastMinute 8 = .ok (.getfield 18, 3) := by decide +kernel
theorem dX2_lastMinute_11 : decode cX2_lastMinute 11 = .ok (.aload_n 0, 1) := by decide +kernel
theorem dX2_lastMinute_12 : decode cX2_lastMinute 12 = .ok (.getfield 9, 3) := by decide +kernel
theorem dX2_lastMinute_15 : decode cX2_lastMinute 15 = .ok (.aload_n 0, 1) := by decide +kernel
theorem dX2_lastMinute_16 : decode cX2_lastMinute 16 = .ok (.getfield 42, 3) := by decide +kernel
theorem dX2_lastMinute_19 : decode cX2_lastMinute 19 = .ok (.iconst 1, 1) := by decide +kernel
theorem dX2_lastMinute_20 : decode cX2_lastMinute 20 = .ok (.isub, 1) := by decide +kernel
theorem dX2_lastMinute_21 : decode cX2_lastMinute 21 = .ok (.iaload, 1) := by decide +kernel
theorem dX2_lastMinute_22 : decode cX2_lastMinute 22 = .ok (.iaload, 1) := by decide +kernel
theorem dX2_lastMinute_23 : decode cX2_lastMinute 23 = .ok (.goto 4, 3) := by decide +kernel
theorem dX2_lastMinute_26 : decode cX2_lastMinute 26 = .ok (.iconst (-1), 1) := by decide +kernel
theorem dX2_lastMinute_27 : decode cX2_lastMinute 27 = .ok (.ireturn, 1) := by decide +kernel
set_option maxRecDepth 20000 in
theorem ggX2_neverBits_X2_hasBegun : GoodIn wsX2_neverBits wsX2_hasBegun := goodIn_q _ [5] [6, 7, 8, 9, 10, 11, 12, 13, 14, 15, 16, 17] rfl (by decide +kernel) (by decide +kernel)
set_option maxRecDepth 20000 in
theorem gX2_neverBits_X2_hasBegun : GoodIn wsX2_neverBits (wsV RX2 118 RX2 yX2_hasBegun wsX2_hasBegun) := goodIn_app (goodIn_of _ (by decide +kernel)) ggX2_neverBits_X2_hasBegun
theorem dX2_neverBits_0 : decode cX2_neverBits 0 = .ok (.iconst 0, 1) := by decide +kernel
theorem dX2_neverBits_1 : decode cX2_neverBits 1 = .ok (.istore_n 2, 1) := by decide +kernel
theorem dX2_neverBits_2 : decode cX2_neverBits 2 = .ok (.iconst 0, 1) := by decide +kernel
theorem dX2_neverBits_3 : decode cX2_neverBits 3 = .ok (.istore_n 3, 1) := by decide +kernel
theorem dX2_neverBits_4 : decode cX2_neverBits 4 = .ok (.iload_n 3, 1) := by decide +kernel
theorem dX2_neverBits_5 : decode cX2_neverBits 5 = .ok (.iload_n 1, 1) := by decide +kernel
theorem dX2_neverBits_6 : decode cX2_neverBits 6 = .ok (.if_icmp .ge 27, 3) := by decide +kernel
theorem dX2_neverBits_9 : decode cX2_neverBits 9 = .ok (.iload_n 2, 1) := by decide +kernel
theorem dX2_neverBits_10 : decode cX2_neverBits 10 = .ok (.aload_n 0, 1) := by decide +kernel
theorem dX2_neverBits_11 : decode cX2_neverBits 11 = .ok (.iload_n 3, 1) := by decide +kernel
theorem dX2_neverBits_12 : decode cX2_neverBits 12 = .ok (.invokevirtual 118, 3) := by decide +kernel
theorem dX2_neverBits_15 : decode cX2_neverBits 15 = .ok (.ifCond .eq 7, 3) := by decide +kernel
theorem dX2_neverBits_18 : decode cX2_neverBits 18 = .ok (.iconst 0, 1) := by decide +kernel
theorem dX2_neverBits_19 : decode cX2_neverBits 19 = .ok (.goto 6, 3) := by decide +kernel
theorem dX2_neverBits_22 : decode cX2_neverBits 22 = .ok (.iconst 1, 1) := by decide +kernel
theorem dX2_neverBits_23 : decode cX2_neverBits 23 = .ok (.iload_n 3, 1) := by decide +kernel
theorem dX2_neverBits_24 : decode cX2_neverBits 24 = .ok (.ishl, 1) := by decide +kernel
theorem dX2_neverBits_25 : decode cX2_neverBits 25 = .ok (.ior, 1) := by decide +kernel
theorem dX2_neverBits_26 : decode cX2_neverBits 26 = .ok (.istore_n 2, 1) := by decide +kernel
theorem dX2_neverBits_27 : decode cX2_neverBits 27 = .ok (.iinc 3 1, 3) := by decide +kernel
theorem dX2_neverBits_30 : decode cX2_neverBits 30 = .ok (.goto (-26), 3) := by decide +kernel
theorem dX2_neverBits_33 : decode cX2_neverBits 33 = .ok (.iload_n 2, 1) := by decide +kernel
theorem dX2_neverBits_34 : decode cX2_neverBits 34 = .ok (.ireturn, 1) := by decide +kernel
set_option maxRecDepth 20000 in
theorem ggX2_mindsMost_X2_hasBegun : GoodIn wsX2_mindsMost wsX2_hasBegun := goodIn_q _ [6] [7, 8, 9, 10, 11, 12, 13, 14, 15, 16, 17, 18] rfl (by decide +kernel) (by decide +kernel)
set_option maxRecDepth 20000 in
theorem gX2_mindsMost_X2_hasBegun : GoodIn wsX2_mindsMost (wsV RX2 118 RX2 yX2_hasBegun wsX2_hasBegun) := goodIn_app (goodIn_of _ (by decide +kernel)) ggX2_mindsMost_X2_hasBegun
theorem dX2_mindsMost_0 : decode cX2_mindsMost 0 = .ok (.iconst (-1), 1) := by decide +kernel
theorem dX2_mindsMost_1 : decode cX2_mindsMost 1 = .ok (.istore_n 2, 1) := by decide +kernel
theorem dX2_mindsMost_2 : decode cX2_mindsMost 2 = .ok (.iconst 0, 1) := by decide +kernel
theorem dX2_mindsMost_3 : decode cX2_mindsMost 3 = .ok (.istore_n 3, 1) := by decide +kernel
theorem dX2_mindsMost_4 : decode cX2_mindsMost 4 = .ok (.iload_n 3, 1) := by decide +kernel
theorem dX2_mindsMost_5 : decode cX2_mindsMost 5 = .ok (.iload_n 1, 1) := by decide +kernel
theorem dX2_mindsMost_6 : decode cX2_mindsMost 6 = .ok (.if_icmp .ge 39, 3) := by decide +kernel
theorem dX2_mindsMost_9 : decode cX2_mindsMost 9 = .ok (.aload_n 0, 1) := by decide +kernel
theorem dX2_mindsMost_10 : decode cX2_mindsMost 10 = .ok (.iload_n 3, 1) := by decide +kernel
theorem dX2_mindsMost_11 : decode cX2_mindsMost 11 = .ok (.invokevirtual 118, 3) := by decide +kernel
theorem dX2_mindsMost_14 : decode cX2_mindsMost 14 = .ok (.ifCond .eq 25, 3) := by decide +kernel
theorem dX2_mindsMost_17 : decode cX2_mindsMost 17 = .ok (.iload_n 2, 1) := by decide +kernel
theorem dX2_mindsMost_18 : decode cX2_mindsMost 18 = .ok (.iconst (-1), 1) := by decide +kernel
theorem dX2_mindsMost_19 : decode cX2_mindsMost 19 = .ok (.if_icmp .eq 18, 3) := by decide +kernel
theorem dX2_mindsMost_22 : decode cX2_mindsMost 22 = .ok (.aload_n 0, 1) := by decide +kernel
theorem dX2_mindsMost_23 : decode cX2_mindsMost 23 = .ok (.getfield 27, 3) := by decide +kernel
theorem dX2_mindsMost_26 : decode cX2_mindsMost 26 = .ok (.iload_n 3, 1) := by decide +kernel
theorem dX2_mindsMost_27 : decode cX2_mindsMost 27 = .ok (.iaload, 1) := by decide +kernel
theorem dX2_mindsMost_28 : decode cX2_mindsMost 28 = .ok (.aload_n 0, 1) := by decide +kernel
theorem dX2_mindsMost_29 : decode cX2_mindsMost 29 = .ok (.getfield 27, 3) := by decide +kernel
theorem dX2_mindsMost_32 : decode cX2_mindsMost 32 = .ok (.iload_n 2, 1) := by decide +kernel
theorem dX2_mindsMost_33 : decode cX2_mindsMost 33 = .ok (.iaload, 1) := by decide +kernel
theorem dX2_mindsMost_34 : decode cX2_mindsMost 34 = .ok (.if_icmp .le 5, 3) := by decide +kernel
theorem dX2_mindsMost_37 : decode cX2_mindsMost 37 = .ok (.iload_n 3, 1) := by decide +kernel
theorem dX2_mindsMost_38 : decode cX2_mindsMost 38 = .ok (.istore_n 2, 1) := by decide +kernel
theorem dX2_mindsMost_39 : decode cX2_mindsMost 39 = .ok (.iinc 3 1, 3) := by decide +kernel
theorem dX2_mindsMost_42 : decode cX2_mindsMost 42 = .ok (.goto (-38), 3) := by decide +kernel
theorem dX2_mindsMost_45 : decode cX2_mindsMost 45 = .ok (.iload_n 2, 1) := by decide +kernel
theorem dX2_mindsMost_46 : decode cX2_mindsMost 46 = .ok (.ireturn, 1) := by decide +kernel
theorem dX3_init_0 : decode cX3_init 0 = .ok (.aload_n 0, 1) := by decide +kernel
theorem dX3_init_1 : decode cX3_init 1 = .ok (.invokespecial 3, 3) := by decide +kernel
theorem dX3_init_4 : decode cX3_init 4 = .ok (.aload_n 0, 1) := by decide +kernel
theorem dX3_init_5 : decode cX3_init 5 = .ok (.iconst (-1), 1) := by decide +kernel
theorem dX3_init_6 : decode cX3_init 6 = .ok (.putfield 9, 3) := by decide +kernel
theorem dX3_init_9 : decode cX3_init 9 = .ok (.aload_n 0, 1) := by decide +kernel
theorem dX3_init_10 : decode cX3_init 10 = .ok (.bipush 40, 2) := by decide +kernel
theorem dX3_init_12 : decode cX3_init 12 = .ok (.newarray .int, 2) := by decide +kernel
theorem dX3_init_14 : decode cX3_init 14 = .ok (.putfield 15, 3) := by decide +kernel
theorem dX3_init_17 : decode cX3_init 17 = .ok (.return_, 1) := by decide +kernel
theorem dX3_become_0 : decode cX3_become 0 = .ok (.aload_n 0, 1) := by decide +kernel
theorem dX3_become_1 : decode cX3_become 1 = .ok (.iload_n 1, 1) := by decide +kernel
theorem dX3_become_2 : decode cX3_become 2 = .ok (.putfield 9, 3) := by decide +kernel
theorem dX3_become_5 : decode cX3_become 5 = .ok (.aload_n 0, 1) := by decide +kernel
theorem dX3_become_6 : decode cX3_become 6 = .ok (.iconst 0, 1) := by decide +kernel
theorem dX3_become_7 : decode cX3_become 7 = .ok (.iload_n 2, 1) := by decide +kernel
theorem dX3_become_8 : decode cX3_become 8 = .ok (.bipush 40, 2) := by decide +kernel
theorem dX3_become_10 : decode cX3_become 10 = .ok (.invokestatic 19, 3) := by decide +kernel
theorem dX3_become_13 : decode cX3_become 13 = .ok (.invokestatic 25, 3) := by decide +kernel
theorem dX3_become_16 : decode cX3_become 16 = .ok (.putfield 28, 3) := by decide +kernel
theorem dX3_become_19 : decode cX3_become 19 = .ok (.iconst 0, 1) := by decide +kernel
theorem dX3_become_20 : decode cX3_become 20 = .ok (.istore_n 3, 1) := by decide +kernel
theorem dX3_become_21 : decode cX3_become 21 = .ok (.iload_n 3, 1) := by decide +kernel
theorem dX3_become_22 : decode cX3_become 22 = .ok (.bipush 40, 2) := by decide +kernel
theorem dX3_become_24 : decode cX3_become 24 = .ok (.if_icmp .ge 16, 3) := by decide +kernel
theorem dX3_become_27 : decode cX3_become 27 = .ok (.aload_n 0, 1) := by decide +kernel
theorem dX3_become_28 : decode cX3_become 28 = .ok (.getfield 15, 3) := by decide +kernel
theorem dX3_become_31 : decode cX3_become 31 = .ok (.iload_n 3, 1) := by decide +kernel
theorem dX3_become_32 : decode cX3_become 32 = .ok (.iconst 0, 1) := by decide +kernel
theorem dX3_become_33 : decode cX3_become 33 = .ok (.iastore, 1) := by decide +kernel
theorem dX3_become_34 : decode cX3_become 34 = .ok (.iinc 3 1, 3) := by decide +kernel
theorem dX3_become_37 : decode cX3_become 37 = .ok (.goto (-16), 3) := by decide +kernel
theorem dX3_become_40 : decode cX3_become 40 = .ok (.return_, 1) := by decide +kernel
theorem dX3_isMissing_0 : decode cX3_isMissing 0 = .ok (.aload_n 0, 1) := by decide +kernel
theorem dX3_isMissing_1 : decode cX3_isMissing 1 = .ok (.getfield 9, 3) := by decide +kernel
theorem dX3_isMissing_4 : decode cX3_isMissing 4 = .ok (.iconst (-1), 1) := by decide +kernel
theorem dX3_isMissing_5 : decode cX3_isMissing 5 = .ok (.if_icmp .ne 7, 3) := by decide +kernel
theorem dX3_isMissing_8 : decode cX3_isMissing 8 = .ok (.iconst 1, 1) := by decide +kernel
theorem dX3_isMissing_9 : decode cX3_isMissing 9 = .ok (.goto 4, 3) := by decide +kernel
theorem dX3_isMissing_12 : decode cX3_isMissing 12 = .ok (.iconst 0, 1) := by decide +kernel
theorem dX3_isMissing_13 : decode cX3_isMissing 13 = .ok (.ireturn, 1) := by decide +kernel
theorem dX3_hasPlace_0 : decode cX3_hasPlace 0 = .ok (.iload_n 1, 1) := by decide +kernel
theorem dX3_hasPlace_1 : decode cX3_hasPlace 1 = .ok (.ifCond .lt 15, 3) := by decide +kernel
theorem dX3_hasPlace_4 : decode cX3_hasPlace 4 = .ok (.iload_n 1, 1) := by decide +kernel
theorem dX3_hasPlace_5 : decode cX3_hasPlace 5 = .ok (.aload_n 0, 1) := by decide +kernel
theorem dX3_hasPlace_6 : decode cX3_hasPlace 6 = .ok (.getfield 28, 3) := by decide +kernel
theorem dX3_hasPlace_9 : decode cX3_hasPlace 9 = .ok (.if_icmp .ge 7, 3) := by decide +kernel
theorem dX3_hasPlace_12 : decode cX3_hasPlace 12 = .ok (.iconst 1, 1) := by decide +kernel
theorem dX3_hasPlace_13 : decode cX3_hasPlace 13 = .ok (.goto 4, 3) := by decide +kernel
theorem dX3_hasPlace_16 : decode cX3_hasPlace 16 = .ok (.iconst 0, 1) := by decide +kernel
theorem dX3_hasPlace_17 : decode cX3_hasPlace 17 = .ok (.ireturn, 1) := by decide +kernel
theorem dX3_hasPlaces_0 : decode cX3_hasPlaces 0 = .ok (.iload_n 1, 1) := by decide +kernel
theorem dX3_hasPlaces_1 : decode cX3_hasPlaces 1 = .ok (.ifCond .lt 29, 3) := by decide +kernel
theorem dX3_hasPlaces_4 : decode cX3_hasPlaces 4 = .ok (.iload_n 2, 1) := by decide +kernel
theorem dX3_hasPlaces_5 : decode cX3_hasPlaces 5 = .ok (.ifCond .lt 25, 3) := by decide +kernel
theorem dX3_hasPlaces_8 : decode cX3_hasPlaces 8 = .ok (.iload_n 1, 1) := by decide +kernel
theorem dX3_hasPlaces_9 : decode cX3_hasPlaces 9 = .ok (.aload_n 0, 1) := by decide +kernel
theorem dX3_hasPlaces_10 : decode cX3_hasPlaces 10 = .ok (.getfield 28, 3) := by decide +kernel
theorem dX3_hasPlaces_13 : decode cX3_hasPlaces 13 = .ok (.if_icmp .gt 17, 3) := by decide +kernel
theorem dX3_hasPlaces_16 : decode cX3_hasPlaces 16 = .ok (.iload_n 2, 1) := by decide +kernel
theorem dX3_hasPlaces_17 : decode cX3_hasPlaces 17 = .ok (.aload_n 0, 1) := by decide +kernel
theorem dX3_hasPlaces_18 : decode cX3_hasPlaces 18 = .ok (.getfield 28, 3) := by decide +kernel
theorem dX3_hasPlaces_21 : decode cX3_hasPlaces 21 = .ok (.iload_n 1, 1) := by decide +kernel
theorem dX3_hasPlaces_22 : decode cX3_hasPlaces 22 = .ok (.isub, 1) := by decide +kernel
theorem dX3_hasPlaces_23 : decode cX3_hasPlaces 23 = .ok (.if_icmp .gt 7, 3) := by decide +kernel
theorem dX3_hasPlaces_26 : decode cX3_hasPlaces 26 = .ok (.iconst 1, 1) := by decide +kernel
theorem dX3_hasPlaces_27 : decode cX3_hasPlaces 27 = .ok (.goto 4, 3) := by decide +kernel
theorem dX3_hasPlaces_30 : decode cX3_hasPlaces 30 = .ok (.iconst 0, 1) := by decide +kernel
theorem dX3_hasPlaces_31 : decode cX3_hasPlaces 31 = .ok (.ireturn, 1) := by decide +kernel
set_option maxRecDepth 20000 in
theorem ggX3_write_X3_hasPlace : GoodIn wsX3_write wsX3_hasPlace := goodIn_q _ [7] [8, 9, 10, 11] rfl (by decide +kernel) (by decide +kernel)
set_option maxRecDepth 20000 in
theorem gX3_write_X3_hasPlace : GoodIn wsX3_write (wsV RX3 31 RX3 yX3_hasPlace wsX3_hasPlace) := goodIn_app (goodIn_of _ (by decide +kernel)) ggX3_write_X3_hasPlace
theorem dX3_write_0 : decode cX3_write 0 = .ok (.aload_n 0, 1) := by decide +kernel
theorem dX3_write_1 : decode cX3_write 1 = .ok (.iload_n 1, 1) := by decide +kernel
theorem dX3_write_2 : decode cX3_write 2 = .ok (.invokevirtual 31, 3) := by decide +kernel
theorem dX3_write_5 : decode cX3_write 5 = .ok (.ifCond .eq 35, 3) := by decide +kernel
theorem dX3_write_8 : decode cX3_write 8 = .ok (.aload_n 0, 1) := by decide +kernel
theorem dX3_write_9 : decode cX3_write 9 = .ok (.getfield 15, 3) := by decide +kernel
theorem dX3_write_12 : decode cX3_write 12 = .ok (.iload_n 1, 1) := by decide +kernel
theorem dX3_write_13 : decode cX3_write 13 = .ok (.aload_n 0, 1) := by decide +kernel
theorem dX3_write_14 : decode cX3_write 14 = .ok (.getfield 9, 3) := by decide +kernel
theorem dX3_write_17 : decode cX3_write 17 = .ok (.ifCond .ne 8, 3) := by decide +kernel
theorem dX3_write_20 : decode cX3_write 20 = .ok (.iload_n 2, 1) := by decide +kernel
theorem dX3_write_21 : decode cX3_write 21 = .ok (.i2b, 1) := by decide +kernel
theorem dX3_write_22 : decode cX3_write 22 = .ok (.goto 17, 3) := by decide +kernel
theorem dX3_write_25 : decode cX3_write 25 = .ok (.aload_n 0, 1) := by decide +kernel
theorem dX3_write_26 : decode cX3_write 26 = .ok (.getfield 9, 3) := by decide +kernel
theorem dX3_write_29 : decode cX3_write 29 = .ok (.iconst 1, 1) := by decide +kernel
theorem dX3_write_30 : decode cX3_write 30 = .ok (.if_icmp .ne 8, 3) := by decide +kernel
theorem dX3_write_33 : decode cX3_write 33 = .ok (.iload_n 2, 1) := by decide +kernel
theorem dX3_write_34 : decode cX3_write 34 = .ok (.i2s, 1) := by decide +kernel
theorem dX3_write_35 : decode cX3_write 35 = .ok (.goto 4, 3) := by decide +kernel
theorem dX3_write_38 : decode cX3_write 38 = .ok (.iload_n 2, 1) := by decide +kernel
theorem dX3_write_39 : decode cX3_write 39 = .ok (.iastore, 1) := by decide +kernel
theorem dX3_write_40 : decode cX3_write 40 = .ok (.return_, 1) := by decide +kernel
theorem dX4_init_0 : decode cX4_init 0 = .ok (.aload_n 0, 1) := by decide +kernel
theorem dX4_init_1 : decode cX4_init 1 = .ok (.invokespecial 3, 3) := by decide +kernel
theorem dX4_init_4 : decode cX4_init 4 = .ok (.aload_n 0, 1) := by decide +kernel
theorem dX4_init_5 : decode cX4_init 5 = .ok (.sipush 160, 3) := by decide +kernel
theorem dX4_init_8 : decode cX4_init 8 = .ok (.newarray .int, 2) := by decide +kernel
theorem dX4_init_10 : decode cX4_init 10 = .ok (.putfield 9, 3) := by decide +kernel
theorem dX4_init_13 : decode cX4_init 13 = .ok (.aload_n 0, 1) := by decide +kernel
theorem dX4_init_14 : decode cX4_init 14 = .ok (.sipush 160, 3) := by decide +kernel
theorem dX4_init_17 : decode cX4_init 17 = .ok (.newarray .int, 2) := by decide +kernel
theorem dX4_init_19 : decode cX4_init 19 = .ok (.putfield 15, 3) := by decide +kernel
theorem dX4_init_22 : decode cX4_init 22 = .ok (.aload_n 0, 1) := by decide +kernel
theorem dX4_init_23 : decode cX4_init 23 = .ok (.iconst 3, 1) := by decide +kernel
theorem dX4_init_24 : decode cX4_init 24 = .ok (.newarray .int, 2) := by decide +kernel
theorem dX4_init_26 : decode cX4_init 26 = .ok (.putfield 18, 3) := by decide +kernel
theorem dX4_init_29 : decode cX4_init 29 = .ok (.return_, 1) := by decide +kernel
theorem dX4_add_0 : decode cX4_add 0 = .ok (.aload_n 0, 1) := by decide +kernel
theorem dX4_add_1 : decode cX4_add 1 = .ok (.getfield 21, 3) := by decide +kernel
theorem dX4_add_4 : decode cX4_add 4 = .ok (.aload_n 0, 1) := by decide +kernel
theorem dX4_add_5 : decode cX4_add 5 = .ok (.getfield 9, 3) := by decide +kernel
theorem dX4_add_8 : decode cX4_add 8 = .ok (.arraylength, 1) := by decide +kernel
theorem dX4_add_9 : decode cX4_add 9 = .ok (.if_icmp .ge 23, 3) := by decide +kernel
theorem dX4_add_12 : decode cX4_add 12 = .ok (.aload_n 0, 1) := by decide +kernel
theorem dX4_add_13 : decode cX4_add 13 = .ok (.getfield 9, 3) := by decide +kernel
theorem dX4_add_16 : decode cX4_add 16 = .ok (.aload_n 0, 1) := by decide +kernel
theorem dX4_add_17 : decode cX4_add 17 = .ok (.getfield 21, 3) := by decide +kernel
theorem dX4_add_20 : decode cX4_add 20 = .ok (.iload_n 1, 1) := by decide +kernel
theorem dX4_add_21 : decode cX4_add 21 = .ok (.iastore, 1) := by decide +kernel
theorem dX4_add_22 : decode cX4_add 22 = .ok (.aload_n 0, 1) := by decide +kernel
theorem dX4_add_23 : decode cX4_add 23 = .ok (.dup, 1) := by decide +kernel
theorem dX4_add_24 : decode cX4_add 24 = .ok (.getfield 21, 3) := by decide +kernel
theorem dX4_add_27 : decode cX4_add 27 = .ok (.iconst 1, 1) := by decide +kernel
theorem dX4_add_28 : decode cX4_add 28 = .ok (.iadd, 1) := by decide +kernel
theorem dX4_add_29 : decode cX4_add 29 = .ok (.putfield 21, 3) := by decide +kernel
theorem dX4_add_32 : decode cX4_add 32 = .ok (.return_, 1) := by decide +kernel
set_option maxRecDepth 20000 in
theorem ggX4_read_X4_advance : GoodIn wsX4_read wsX4_advance := goodIn_q _ [10, 16, 19, 23, 27, 32, 37, 43, 46, 51, 55, 58, 61, 65, 71, 75, 79, 83, 87, 91, 95, 98, 102, 105, 108, 111, 114, 120, 123, 126, 129, 132, 135, 139, 142, 146] [3, 2, 11, 12, 13, 5, 14, 15, 9, 17, 18, 20, 21, 22, 24, 25, 26, 28, 29, 30, 31, 33, 34, 35, 36, 38, 39, 40, 41, 42, 44, 45, 47, 48, 49, 50, 52, 53, 54, 56, 57, 59, 60, 62, 63, 64, 66, 67, 68, 69, 70, 72, 73, 74, 76, 77, 78, 80, 81, 82, 84, 85, 86, 88, 89, 90, 92, 93, 94, 96, 97, 99, 100, 101, 103, 104, 106, 107, 109, 110, 112, 113, 115, 116, 117, 118, 119, 121, 122, 124, 125, 127, 128, 130, 131, 133, 134, 136, 137, 138, 140, 141, 143, 144, 145, 147, 189, 190, 191, 192, 193, 194, 195, 196, 197, 198] rfl (by decide +kernel) (by decide +kernel)
set_option maxRecDepth 20000 in
theorem gX4_read_X4_advance : GoodIn wsX4_read (wsV RX4 34 RX4 yX4_advance wsX4_advance) := goodIn_app (goodIn_of _ (by decide +kernel)) ggX4_read_X4_advance
set_option maxRecDepth 20000 in
theorem ggX4_read_X4_demand : GoodIn wsX4_read wsX4_demand := goodIn_q _ [151, 10, 16, 19, 23, 27, 32, 37, 43, 46, 51, 55, 58, 61, 65, 71, 75, 79, 83, 87, 91, 95, 98, 102, 105, 108, 111, 114, 120, 123, 126, 129, 132, 135, 139, 142, 146, 155] [5, 6, 7, 8, 9, 3, 2, 11, 12, 13, 14, 15, 17, 18, 20, 21, 22, 24, 25, 26, 28, 29, 30, 31, 33, 34, 35, 36, 38, 39, 40, 41, 42, 44, 45, 47, 48, 49, 50, 52, 53, 54, 56, 57, 59, 60, 62, 63, 64, 66, 67, 68, 69, 70, 72, 73, 74, 76, 77, 78, 80, 81, 82, 84, 85, 86, 88, 89, 90, 92, 93, 94, 96, 97, 99, 100, 101, 103, 104, 106, 107, 109, 110, 112, 113, 115, 116, 117, 118, 119, 121, 122, 124, 125, 127, 128, 130, 131, 133, 134, 136, 137, 138, 140, 141, 143, 144, 145, 147, 152, 153, 154, 189, 190, 191, 192, 193, 194, 195, 196, 197, 198] rfl (by decide +kernel) (by decide +kernel)
set_option maxRecDepth 20000 in
theorem gX4_read_X4_demand : GoodIn wsX4_read (wsV RX4 37 RX4 yX4_demand wsX4_demand) := goodIn_app (goodIn_of _ (by decide +kernel)) ggX4_read_X4_demand
set_option maxRecDepth 20000 in
theorem ggX4_read_X4_readEither : GoodIn wsX4_read wsX4_readEither := goodIn_q _ [159, 10, 16, 19, 23, 27, 32, 37, 43, 46, 51, 55, 58, 61, 65, 71, 75, 79, 83, 87, 91, 95, 98, 102, 105, 108, 111, 114, 120, 123, 126, 129, 132, 135, 139, 142, 146, 166, 168, 172, 176, 155, 180, 151, 184, 188] [5, 160, 161, 162, 9, 6, 7, 8, 3, 2, 11, 12, 13, 14, 15, 17, 18, 20, 21, 22, 24, 25, 26, 28, 29, 30, 31, 33, 34, 35, 36, 38, 39, 40, 41, 42, 44, 45, 47, 48, 49, 50, 52, 53, 54, 56, 57, 59, 60, 62, 63, 64, 66, 67, 68, 69, 70, 72, 73, 74, 76, 77, 78, 80, 81, 82, 84, 85, 86, 88, 89, 90, 92, 93, 94, 96, 97, 99, 100, 101, 103, 104, 106, 107, 109, 110, 112, 113, 115, 116, 117, 118, 119, 121, 122, 124, 125, 127, 128, 130, 131, 133, 134, 136, 137, 138, 140, 141, 143, 144, 145, 147, 163, 164, 165, 1, 167, 169, 170, 171, 173, 174, 175, 177, 178, 179, 152, 153, 154, 181, 182, 183, 156, 157, 158, 148, 149, 150, 185, 186, 187, 189, 190, 191, 192, 193, 194, 195, 196, 197, 198] rfl (by decide +kernel) (by decide +kernel)
set_option maxRecDepth 20000 in
theorem gX4_read_X4_readEither : GoodIn wsX4_read (wsV RX4 41 RX4 yX4_readEither wsX4_readEither) := goodIn_app (goodIn_of _ (by decide +kernel)) ggX4_read_X4_readEither
set_option maxRecDepth 20000 in
theorem ggX4_read_X4_refuse : GoodIn wsX4_read wsX4_refuse := goodIn_q _ [155] [3, 13, 5, 189, 190, 191, 192, 193, 194, 195, 196, 197, 198] rfl (by decide +kernel) (by decide +kernel)
set_option maxRecDepth 20000 in
theorem gX4_read_X4_refuse : GoodIn wsX4_read (wsV RX4 47 RX4 yX4_refuse wsX4_refuse) := goodIn_app (goodIn_of _ (by decide +kernel)) ggX4_read_X4_refuse
theorem dX4_read_0 : decode cX4_read 0 = .ok (.aload_n 0, 1) := by decide +kernel
theorem dX4_read_1 : decode cX4_read 1 = .ok (.iconst 0, 1) := by decide +kernel
theorem dX4_read_2 : decode cX4_read 2 = .ok (.putfield 25, 3) := by decide +kernel
theorem dX4_read_5 : decode cX4_read 5 = .ok (.aload_n 0, 1) := by decide +kernel
theorem dX4_read_6 : decode cX4_read 6 = .ok (.iconst 0, 1) := by decide +kernel
theorem dX4_read_7 : decode cX4_read 7 = .ok (.putfield 28, 3) := by decide +kernel
theorem dX4_read_10 : decode cX4_read 10 = .ok (.aload_n 0, 1) := by decide +kernel
theorem dX4_read_11 : decode cX4_read 11 = .ok (.iconst (-1), 1) := by decide +kernel
theorem dX4_read_12 : decode cX4_read 12 = .ok (.putfield 31, 3) := by decide +kernel
theorem dX4_read_15 : decode cX4_read 15 = .ok (.aload_n 0, 1) := by decide +kernel
theorem dX4_read_16 : decode cX4_read 16 = .ok (.invokevirtual 34, 3) := by decide +kernel
theorem dX4_read_19 : decode cX4_read 19 = .ok (.iconst 0, 1) := by decide +kernel
theorem dX4_read_20 : decode cX4_read 20 = .ok (.istore_n 1, 1) := by decide +kernel
theorem dX4_read_21 : decode cX4_read 21 = .ok (.iload_n 1, 1) := by decide +kernel
theorem dX4_read_22 : decode cX4_read 22 = .ok (.iconst 3, 1) := by decide +kernel
theorem dX4_read_23 : decode cX4_read 23 = .ok (.if_icmp .ge 39, 3) := by decide +kernel
theorem dX4_read_26 : decode cX4_read 26 = .ok (.aload_n 0, 1) := by decide +kernel
theorem dX4_read_27 : decode cX4_read 27 = .ok (.sipush 1000, 3) := by decide +kernel
theorem dX4_read_30 : decode cX4_read 30 = .ok (.iload_n 1, 1) := by decide +kernel
theorem dX4_read_31 : decode cX4_read 31 = .ok (.iadd, 1) := by decide +kernel
theorem dX4_read_32 : decode cX4_read 32 = .ok (.invokevirtual 37, 3) := by decide +kernel
theorem dX4_read_35 : decode cX4_read 35 = .ok (.aload_n 0, 1) := by decide +kernel
theorem dX4_read_36 : decode cX4_read 36 = .ok (.iconst 0, 1) := by decide +kernel
theorem dX4_read_37 : decode cX4_read 37 = .ok (.invokevirtual 41, 3) := by decide +kernel
theorem dX4_read_40 : decode cX4_read 40 = .ok (.aload_n 0, 1) := by decide +kernel
theorem dX4_read_41 : decode cX4_read 41 = .ok (.bipush 59, 2) := by decide +kernel
theorem dX4_read_43 : decode cX4_read 43 = .ok (.invokevirtual 37, 3) := by decide +kernel
theorem dX4_read_46 : decode cX4_read 46 = .ok (.aload_n 0, 1) := by decide +kernel
theorem dX4_read_47 : decode cX4_read 47 = .ok (.getfield 18, 3) := by decide +kernel
theorem dX4_read_50 : decode cX4_read 50 = .ok (.iload_n 1, 1) := by decide +kernel
theorem dX4_read_51 : decode cX4_read 51 = .ok (.aload_n 0, 1) := by decide +kernel
theorem dX4_read_52 : decode cX4_read 52 = .ok (.getfield 25, 3) := by decide +kernel
theorem dX4_read_55 : decode cX4_read 55 = .ok (.iastore, 1) := by decide +kernel
theorem dX4_read_56 : decode cX4_read 56 = .ok (.iinc 1 1, 3) := by decide +kernel
theorem dX4_read_59 : decode cX4_read 59 = .ok (.goto (-38), 3) := by decide +kernel
theorem dX4_read_62 : decode cX4_read 62 = .ok (.aload_n 0, 1) := by decide +kernel
theorem dX4_read_63 : decode cX4_read 63 = .ok (.getfield 44, 3) := by decide +kernel
theorem dX4_read_66 : decode cX4_read 66 = .ok (.ifCond .eq 7, 3) := by decide +kernel
theorem dX4_read_69 : decode cX4_read 69 = .ok (.aload_n 0, 1) := by decide +kernel
theorem dX4_read_70 : decode cX4_read 70 = .ok (.invokevirtual 47, 3) := by decide +kernel
theorem dX4_read_73 : decode cX4_read 73 = .ok (.aload_n 0, 1) := by decide +kernel
theorem dX4_read_74 : decode cX4_read 74 = .ok (.getfield 31, 3) := by decide +kernel
theorem dX4_read_77 : decode cX4_read 77 = .ok (.ireturn, 1) := by decide +kernel
set_option maxRecDepth 20000 in
theorem ggX4_written_X4_firstOf : GoodIn wsX4_written wsX4_firstOf := goodIn_q _ [10, 14, 17] [11, 12, 13, 15, 16, 18, 19, 20, 21, 22] rfl (by decide +kernel) (by decide +kernel)
set_option maxRecDepth 20000 in
theorem gX4_written_X4_firstOf : GoodIn wsX4_written (va_wsS RX4 52 yX4_firstOf wsX4_firstOf) := goodIn_app (goodIn_of _ (by decide +kernel)) ggX4_written_X4_firstOf
set_option maxRecDepth 20000 in
theorem ggX4_written_X5_init : GoodIn wsX4_written wsX5_init := goodIn_q _ [25, 28] [26, 27, 29, 30, 31, 32] rfl (by decide +kernel) (by decide +kernel)
set_option maxRecDepth 20000 in
theorem gX4_written_X5_init : GoodIn wsX4_written (wsX5_init) := ggX4_written_X5_init
theorem dX4_written_0 : decode cX4_written 0 = .ok (.new 50, 3) := by decide +kernel
theorem dX4_written_3 : decode cX4_written 3 = .ok (.dup, 1) := by decide +kernel
theorem dX4_written_4 : decode cX4_written 4 = .ok (.aload_n 0, 1) := by decide +kernel
theorem dX4_written_5 : decode cX4_written 5 = .ok (.getfield 15, 3) := by decide +kernel
theorem dX4_written_8 : decode cX4_written 8 = .ok (.aload_n 0, 1) := by decide +kernel
theorem dX4_written_9 : decode cX4_written 9 = .ok (.getfield 25, 3) := by decide +kernel
theorem dX4_written_12 : decode cX4_written 12 = .ok (.invokestatic 52, 3) := by decide +kernel
theorem dX4_written_15 : decode cX4_written 15 = .ok (.aload_n 0, 1) := by decide +kernel
theorem dX4_written_16 : decode cX4_written 16 = .ok (.getfield 18, 3) := by decide +kernel
theorem dX4_written_19 : decode cX4_written 19 = .ok (.iconst 3, 1) := by decide +kernel
theorem dX4_written_20 : decode cX4_written 20 = .ok (.invokestatic 52, 3) := by decide +kernel
theorem dX4_written_23 : decode cX4_written 23 = .ok (.invokespecial 56, 3) := by decide +kernel
theorem dX4_written_26 : decode cX4_written 26 = .ok (.areturn, 1) := by decide +kernel
theorem dX4_firstOf_0 : decode cX4_firstOf 0 = .ok (.iconst 0, 1) := by decide +kernel
theorem dX4_firstOf_1 : decode cX4_firstOf 1 = .ok (.iload_n 1, 1) := by decide +kernel
theorem dX4_firstOf_2 : decode cX4_firstOf 2 = .ok (.aload_n 0, 1) := by decide +kernel
theorem dX4_firstOf_3 : decode cX4_firstOf 3 = .ok (.arraylength, 1) := by decide +kernel
theorem dX4_firstOf_4 : decode cX4_firstOf 4 = .ok (.invokestatic 59, 3) := by decide +kernel
theorem dX4_firstOf_7 : decode cX4_firstOf 7 = .ok (.invokestatic 65, 3) := by decide +kernel
theorem dX4_firstOf_10 : decode cX4_firstOf 10 = .ok (.istore_n 2, 1) := by decide +kernel
theorem dX4_firstOf_11 : decode cX4_firstOf 11 = .ok (.iload_n 2, 1) := by decide +kernel
theorem dX4_firstOf_12 : decode cX4_firstOf 12 = .ok (.newarray .int, 2) := by decide +kernel
theorem dX4_firstOf_14 : decode cX4_firstOf 14 = .ok (.astore_n 3, 1) := by decide +kernel
theorem dX4_firstOf_15 : decode cX4_firstOf 15 = .ok (.aload_n 0, 1) := by decide +kernel
theorem dX4_firstOf_16 : decode cX4_firstOf 16 = .ok (.iconst 0, 1) := by decide +kernel
theorem dX4_firstOf_17 : decode cX4_firstOf 17 = .ok (.aload_n 3, 1) := by decide +kernel
theorem dX4_firstOf_18 : decode cX4_firstOf 18 = .ok (.iconst 0, 1) := by decide +kernel
theorem dX4_firstOf_19 : decode cX4_firstOf 19 = .ok (.iload_n 2, 1) := by decide +kernel
theorem dX4_firstOf_20 : decode cX4_firstOf 20 = .ok (.invokestatic 68, 3) := by decide +kernel
theorem dX4_firstOf_23 : decode cX4_firstOf 23 = .ok (.aload_n 3, 1) := by decide +kernel
theorem dX4_firstOf_24 : decode cX4_firstOf 24 = .ok (.areturn, 1) := by decide +kernel
set_option maxRecDepth 20000 in
theorem ggX4_readEither_X4_readBoth : GoodIn wsX4_readEither wsX4_readBoth := goodIn_q _ [155, 9, 17, 20, 24, 28, 33, 38, 44, 47, 52, 56, 59, 62, 66, 72, 76, 80, 84, 88, 92, 96, 99, 103, 106, 109, 112, 115, 121, 124, 127, 130, 133, 136, 140, 143, 147, 152, 159, 0, 163, 170, 171, 181, 182, 186] [1, 156, 157, 158, 5, 6, 7, 8, 10, 11, 12, 13, 14, 15, 16, 18, 19, 21, 22, 23, 25, 26, 27, 29, 30, 31, 32, 34, 35, 36, 37, 39, 40, 41, 42, 43, 45, 46, 48, 49, 50, 51, 53, 54, 55, 57, 58, 60, 61, 63, 64, 65, 67, 68, 69, 70, 71, 73, 74, 75, 77, 78, 79, 81, 82, 83, 85, 86, 87, 89, 90, 91, 93, 94, 95, 97, 98, 100, 101, 102, 104, 105, 107, 108, 110, 111, 113, 114, 116, 117, 118, 119, 120, 122, 123, 125, 126, 128, 129, 131, 132, 134, 135, 137, 138, 139, 141, 142, 144, 145, 146, 148, 149, 150, 151, 153, 154, 160, 161, 162, 2, 3, 4, 164, 165, 166, 167, 168, 169, 172, 173, 174, 175, 176, 177, 178, 179, 180, 183, 184, 185, 187, 188, 189, 190, 191, 192, 193, 194, 195, 196] rfl (by decide +kernel) (by decide +kernel)
set_option maxRecDepth 20000 in
theorem gX4_readEither_X4_readBoth : GoodIn wsX4_readEither (wsV RX4 74 RX4 yX4_readBoth wsX4_readBoth) := goodIn_app (goodIn_of _ (by decide +kernel)) ggX4_readEither_X4_readBoth
set_option maxRecDepth 20000 in
theorem ggX4_readEither_X4_advance : GoodIn wsX4_readEither wsX4_advance := goodIn_q _ [9, 17, 20, 24, 28, 33, 38, 44, 47, 52, 56, 59, 62, 66, 72, 76, 80, 84, 88, 92, 96, 99, 103, 106, 109, 112, 115, 121, 124, 127, 130, 133, 136, 140, 143, 147] [10, 11, 12, 13, 14, 1, 15, 16, 5, 18, 19, 21, 22, 23, 25, 26, 27, 29, 30, 31, 32, 34, 35, 36, 37, 39, 40, 41, 42, 43, 45, 46, 48, 49, 50, 51, 53, 54, 55, 57, 58, 60, 61, 63, 64, 65, 67, 68, 69, 70, 71, 73, 74, 75, 77, 78, 79, 81, 82, 83, 85, 86, 87, 89, 90, 91, 93, 94, 95, 97, 98, 100, 101, 102, 104, 105, 107, 108, 110, 111, 113, 114, 116, 117, 118, 119, 120, 122, 123, 125, 126, 128, 129, 131, 132, 134, 135, 137, 138, 139, 141, 142, 144, 145, 146, 148, 187, 188, 189, 190, 191, 192, 193, 194, 195, 196] rfl (by decide +kernel) (by decide +kernel)
set_option maxRecDepth 20000 in
theorem gX4_readEither_X4_advance : GoodIn wsX4_readEither (wsV RX4 34 RX4 yX4_advance wsX4_advance) := goodIn_app (goodIn_of _ (by decide +kernel)) ggX4_readEither_X4_advance
set_option maxRecDepth 20000 in
theorem ggX4_readEither_X4_write : GoodIn wsX4_readEither wsX4_write := goodIn_q _ [152] [153, 154, 187, 188, 189, 190, 191, 192, 193, 194, 195, 196] rfl (by decide +kernel) (by decide +kernel)
set_option maxRecDepth 20000 in
theorem gX4_readEither_X4_write : GoodIn wsX4_readEither (wsV RX4 77 RX4 yX4_write wsX4_write) := goodIn_app (goodIn_of _ (by decide +kernel)) ggX4_readEither_X4_write
theorem dX4_readEither_0 : decode cX4_readEither 0 = .ok (.aload_n 0, 1) := by decide +kernel
theorem dX4_readEither_1 : decode cX4_readEither 1 = .ok (.iload_n 1, 1) := by decide +kernel
theorem dX4_readEither_2 : decode cX4_readEither 2 = .ok (.invokevirtual 74, 3) := by decide +kernel
theorem dX4_readEither_5 : decode cX4_readEither 5 = .ok (.iconst 0, 1) := by decide +kernel
theorem dX4_readEither_6 : decode cX4_readEither 6 = .ok (.istore_n 2, 1) := by decide +kernel
theorem dX4_readEither_7 : decode cX4_readEither 7 = .ok (.iload_n 2, 1) := by decide +kernel
theorem dX4_readEither_8 : decode cX4_readEither 8 = .ok (.sipush 160, 3) := by decide +kernel
theorem dX4_readEither_11 : decode cX4_readEither 11 = .ok (.if_icmp .ge 34, 3) := by decide +kernel
theorem dX4_readEither_14 : decode cX4_readEither 14 = .ok (.aload_n 0, 1) := by decide +kernel
theorem dX4_readEither_15 : decode cX4_readEither 15 = .ok (.getfield 44, 3) := by decide +kernel
theorem dX4_readEither_18 : decode cX4_readEither 18 = .ok (.sipush 1003, 3) := by decide +kernel
theorem dX4_readEither_21 : decode cX4_readEither 21 = .ok (.if_icmp .ne 24, 3) := by decide +kernel
theorem dX4_readEither_24 : decode cX4_readEither 24 = .ok (.aload_n 0, 1) := by decide +kernel
theorem dX4_readEither_25 : decode cX4_readEither 25 = .ok (.invokevirtual 34, 3) := by decide +kernel
theorem dX4_readEither_28 : decode cX4_readEither 28 = .ok (.aload_n 0, 1) := by decide +kernel
theorem dX4_readEither_29 : decode cX4_readEither 29 = .ok (.iload_n 1, 1) := by decide +kernel
theorem dX4_readEither_30 : decode cX4_readEither 30 = .ok (.invokevirtual 74, 3) := by decide +kernel
theorem dX4_readEither_33 : decode cX4_readEither 33 = .ok (.aload_n 0, 1) := by decide +kernel
theorem dX4_readEither_34 : decode cX4_readEither 34 = .ok (.bipush (-15), 2) := by decide +kernel
theorem dX4_readEither_36 : decode cX4_readEither 36 = .ok (.invokevirtual 77, 3) := by decide +kernel
theorem dX4_readEither_39 : decode cX4_readEither 39 = .ok (.iinc 2 1, 3) := by decide +kernel
theorem dX4_readEither_42 : decode cX4_readEither 42 = .ok (.goto (-35), 3) := by decide +kernel
theorem dX4_readEither_45 : decode cX4_readEither 45 = .ok (.return_, 1) := by decide +kernel
set_option maxRecDepth 20000 in
theorem ggX4_readBoth_X4_readNot : GoodIn wsX4_readBoth wsX4_readNot := goodIn_q _ [163, 170, 9, 17, 20, 24, 28, 33, 38, 44, 47, 52, 56, 59, 62, 66, 72, 76, 80, 84, 88, 92, 96, 99, 103, 106, 109, 112, 115, 121, 124, 127, 130, 133, 136, 140, 143, 147, 152, 0, 155, 159, 171, 181, 182, 186] [1, 164, 165, 166, 5, 167, 168, 169, 10, 14, 6, 7, 8, 11, 12, 13, 15, 16, 18, 19, 21, 22, 23, 25, 26, 27, 29, 30, 31, 32, 34, 35, 36, 37, 39, 40, 41, 42, 43, 45, 46, 48, 49, 50, 51, 53, 54, 55, 57, 58, 60, 61, 63, 64, 65, 67, 68, 69, 70, 71, 73, 74, 75, 77, 78, 79, 81, 82, 83, 85, 86, 87, 89, 90, 91, 93, 94, 95, 97, 98, 100, 101, 102, 104, 105, 107, 108, 110, 111, 113, 114, 116, 117, 118, 119, 120, 122, 123, 125, 126, 128, 129, 131, 132, 134, 135, 137, 138, 139, 141, 142, 144, 145, 146, 148, 2, 3, 4, 149, 150, 151, 153, 154, 156, 157, 158, 160, 161, 162, 172, 173, 174, 175, 176, 177, 178, 179, 180, 183, 184, 185, 187, 188, 189, 190, 191, 192, 193, 194, 195, 196] rfl (by decide +kernel) (by decide +kernel)
set_option maxRecDepth 20000 in
theorem gX4_readBoth_X4_readNot : GoodIn wsX4_readBoth (wsV RX4 80 RX4 yX4_readNot wsX4_readNot) := goodIn_app (goodIn_of _ (by decide +kernel)) ggX4_readBoth_X4_readNot
set_option maxRecDepth 20000 in
theorem ggX4_readBoth_X4_advance : GoodIn wsX4_readBoth wsX4_advance := goodIn_q _ [9, 17, 20, 24, 28, 33, 38, 44, 47, 52, 56, 59, 62, 66, 72, 76, 80, 84, 88, 92, 96, 99, 103, 106, 109, 112, 115, 121, 124, 127, 130, 133, 136, 140, 143, 147] [10, 11, 12, 13, 14, 1, 15, 16, 5, 18, 19, 21, 22, 23, 25, 26, 27, 29, 30, 31, 32, 34, 35, 36, 37, 39, 40, 41, 42, 43, 45, 46, 48, 49, 50, 51, 53, 54, 55, 57, 58, 60, 61, 63, 64, 65, 67, 68, 69, 70, 71, 73, 74, 75, 77, 78, 79, 81, 82, 83, 85, 86, 87, 89, 90, 91, 93, 94, 95, 97, 98, 100, 101, 102, 104, 105, 107, 108, 110, 111, 113, 114, 116, 117, 118, 119, 120, 122, 123, 125, 126, 128, 129, 131, 132, 134, 135, 137, 138, 139, 141, 142, 144, 145, 146, 148, 187, 188, 189, 190, 191, 192, 193, 194, 195, 196] rfl (by decide +kernel) (by decide +kernel)
set_option maxRecDepth 20000 in
theorem gX4_readBoth_X4_advance : GoodIn wsX4_readBoth (wsV RX4 34 RX4 yX4_advance wsX4_advance) := goodIn_app (goodIn_of _ (by decide +kernel)) ggX4_readBoth_X4_advance
set_option maxRecDepth 20000 in
theorem ggX4_readBoth_X4_write : GoodIn wsX4_readBoth wsX4_write := goodIn_q _ [152] [153, 154, 187, 188, 189, 190, 191, 192, 193, 194, 195, 196] rfl (by decide +kernel) (by decide +kernel)
set_option maxRecDepth 20000 in
theorem gX4_readBoth_X4_write : GoodIn wsX4_readBoth (wsV RX4 77 RX4 yX4_write wsX4_write) := goodIn_app (goodIn_of _ (by decide +kernel)) ggX4_readBoth_X4_write
theorem dX4_readBoth_0 : decode cX4_readBoth 0 = .ok (.aload_n 0, 1) := by decide +kernel
theorem dX4_readBoth_1 : decode cX4_readBoth 1 = .ok (.iload_n 1, 1) := by decide +kernel
theorem dX4_readBoth_2 : decode cX4_readBoth 2 = .ok (.invokevirtual 80, 3) := by decide +kernel
theorem dX4_readBoth_5 : decode cX4_readBoth 5 = .ok (.iconst 0, 1) := by decide +kernel
theorem dX4_readBoth_6 : decode cX4_readBoth 6 = .ok (.istore_n 2, 1) := by decide +kernel
theorem dX4_readBoth_7 : decode cX4_readBoth 7 = .ok (.iload_n 2, 1) := by decide +kernel
theorem dX4_readBoth_8 : decode cX4_readBoth 8 = .ok (.sipush 160, 3) := by decide +kernel
theorem dX4_readBoth_11 : decode cX4_readBoth 11 = .ok (.if_icmp .ge 34, 3) := by decide +kernel
theorem dX4_readBoth_14 : decode cX4_readBoth 14 = .ok (.aload_n 0, 1) := by decide +kernel
theorem dX4_readBoth_15 : decode cX4_readBoth 15 = .ok (.getfield 44, 3) := by decide +kernel
theorem dX4_readBoth_18 : decode cX4_readBoth 18 = .ok (.sipush 1004, 3) := by decide +kernel
theorem dX4_readBoth_21 : decode cX4_readBoth 21 = .ok (.if_icmp .ne 24, 3) := by decide +kernel
theorem dX4_readBoth_24 : decode cX4_readBoth 24 = .ok (.aload_n 0, 1) := by decide +kernel
theorem dX4_readBoth_25 : decode cX4_readBoth 25 = .ok (.invokevirtual 34, 3) := by decide +kernel
theorem dX4_readBoth_28 : decode cX4_readBoth 28 = .ok (.aload_n 0, 1) := by decide +kernel
theorem dX4_readBoth_29 : decode cX4_readBoth 29 = .ok (.iload_n 1, 1) := by decide +kernel
theorem dX4_readBoth_30 : decode cX4_readBoth 30 = .ok (.invokevirtual 80, 3) := by decide +kernel
theorem dX4_readBoth_33 : decode cX4_readBoth 33 = .ok (.aload_n 0, 1) := by decide +kernel
theorem dX4_readBoth_34 : decode cX4_readBoth 34 = .ok (.bipush (-14), 2) := by decide +kernel
theorem dX4_readBoth_36 : decode cX4_readBoth 36 = .ok (.invokevirtual 77, 3) := by decide +kernel
theorem dX4_readBoth_39 : decode cX4_readBoth 39 = .ok (.iinc 2 1, 3) := by decide +kernel
theorem dX4_readBoth_42 : decode cX4_readBoth 42 = .ok (.goto (-35), 3) := by decide +kernel
theorem dX4_readBoth_45 : decode cX4_readBoth 45 = .ok (.return_, 1) := by decide +kernel
set_option maxRecDepth 20000 in
theorem ggX4_readNot_X4_readComparison : GoodIn wsX4_readNot wsX4_readComparison := goodIn_q _ [163, 15, 21, 24, 28, 32, 37, 42, 48, 51, 56, 60, 63, 66, 70, 76, 80, 84, 88, 92, 96, 100, 103, 107, 110, 113, 116, 119, 125, 128, 131, 134, 137, 140, 144, 147, 151, 159, 162, 167, 0, 9, 171, 181, 182, 186] [1, 164, 165, 166, 5, 12, 13, 14, 10, 16, 17, 18, 11, 19, 20, 22, 23, 25, 26, 27, 29, 30, 31, 33, 34, 35, 36, 38, 39, 40, 41, 43, 44, 45, 46, 47, 49, 50, 52, 53, 54, 55, 57, 58, 59, 61, 62, 64, 65, 67, 68, 69, 71, 72, 73, 74, 75, 77, 78, 79, 81, 82, 83, 85, 86, 87, 89, 90, 91, 93, 94, 95, 97, 98, 99, 101, 102, 104, 105, 106, 108, 109, 111, 112, 114, 115, 117, 118, 120, 121, 122, 123, 124, 126, 127, 129, 130, 132, 133, 135, 136, 138, 139, 141, 142, 143, 145, 146, 148, 149, 150, 152, 156, 157, 158, 160, 161, 153, 154, 155, 168, 169, 170, 2, 3, 4, 6, 7, 8, 172, 173, 174, 175, 176, 177, 178, 179, 180, 183, 184, 185, 187, 188, 189, 190, 191, 192, 193, 194, 195, 196] rfl (by decide +kernel) (by decide +kernel)
set_option maxRecDepth 20000 in
theorem gX4_readNot_X4_readComparison : GoodIn wsX4_readNot (wsV RX4 83 RX4 yX4_readComparison wsX4_readComparison) := goodIn_app (goodIn_of _ (by decide +kernel)) ggX4_readNot_X4_readComparison
set_option maxRecDepth 20000 in
theorem ggX4_readNot_X4_refuse : GoodIn wsX4_readNot wsX4_refuse := goodIn_q _ [9] [10, 11, 1, 187, 188, 189, 190, 191, 192, 193, 194, 195, 196] rfl (by decide +kernel) (by decide +kernel)
set_option maxRecDepth 20000 in
theorem gX4_readNot_X4_refuse : GoodIn wsX4_readNot (wsV RX4 47 RX4 yX4_refuse wsX4_refuse) := goodIn_app (goodIn_of _ (by decide +kernel)) ggX4_readNot_X4_refuse
set_option maxRecDepth 20000 in
theorem ggX4_readNot_X4_advance : GoodIn wsX4_readNot wsX4_advance := goodIn_q _ [15, 21, 24, 28, 32, 37, 42, 48, 51, 56, 60, 63, 66, 70, 76, 80, 84, 88, 92, 96, 100, 103, 107, 110, 113, 116, 119, 125, 128, 131, 134, 137, 140, 144, 147, 151] [10, 16, 17, 18, 11, 1, 19, 20, 5, 22, 23, 25, 26, 27, 29, 30, 31, 33, 34, 35, 36, 38, 39, 40, 41, 43, 44, 45, 46, 47, 49, 50, 52, 53, 54, 55, 57, 58, 59, 61, 62, 64, 65, 67, 68, 69, 71, 72, 73, 74, 75, 77, 78, 79, 81, 82, 83, 85, 86, 87, 89, 90, 91, 93, 94, 95, 97, 98, 99, 101, 102, 104, 105, 106, 108, 109, 111, 112, 114, 115, 117, 118, 120, 121, 122, 123, 124, 126, 127, 129, 130, 132, 133, 135, 136, 138, 139, 141, 142, 143, 145, 146, 148, 149, 150, 152, 187, 188, 189, 190, 191, 192, 193, 194, 195, 196] rfl (by decide +kernel) (by decide +kernel)
set_option maxRecDepth 20000 in
theorem gX4_readNot_X4_advance : GoodIn wsX4_readNot (wsV RX4 34 RX4 yX4_advance wsX4_advance) := goodIn_app (goodIn_of _ (by decide +kernel)) ggX4_readNot_X4_advance
set_option maxRecDepth 20000 in
theorem ggX4_readNot_X4_readNot : GoodIn wsX4_readNot wsX4_readNot := goodIn_q _ [0, 9, 15, 21, 24, 28, 32, 37, 42, 48, 51, 56, 60, 63, 66, 70, 76, 80, 84, 88, 92, 96, 100, 103, 107, 110, 113, 116, 119, 125, 128, 131, 134, 137, 140, 144, 147, 151, 159, 162, 163, 167, 171, 181, 182, 186] [1, 2, 3, 4, 5, 6, 7, 8, 10, 11, 12, 13, 14, 16, 17, 18, 19, 20, 22, 23, 25, 26, 27, 29, 30, 31, 33, 34, 35, 36, 38, 39, 40, 41, 43, 44, 45, 46, 47, 49, 50, 52, 53, 54, 55, 57, 58, 59, 61, 62, 64, 65, 67, 68, 69, 71, 72, 73, 74, 75, 77, 78, 79, 81, 82, 83, 85, 86, 87, 89, 90, 91, 93, 94, 95, 97, 98, 99, 101, 102, 104, 105, 106, 108, 109, 111, 112, 114, 115, 117, 118, 120, 121, 122, 123, 124, 126, 127, 129, 130, 132, 133, 135, 136, 138, 139, 141, 142, 143, 145, 146, 148, 149, 150, 152, 153, 154, 155, 156, 157, 158, 160, 161, 164, 165, 166, 168, 169, 170, 172, 173, 174, 175, 176, 177, 178, 179, 180, 183, 184, 185, 187, 188, 189, 190, 191, 192, 193, 194, 195, 196] rfl (by decide +kernel) (by decide +kernel)
set_option maxRecDepth 20000 in
theorem gX4_readNot_X4_readNot : GoodIn wsX4_readNot (wsV RX4 80 RX4 yX4_readNot wsX4_readNot) := goodIn_app (goodIn_of _ (by decide +kernel)) ggX4_readNot_X4_readNot
set_option maxRecDepth 20000 in
theorem ggX4_readNot_X4_write : GoodIn wsX4_readNot wsX4_write := goodIn_q _ [159] [160, 161, 187, 188, 189, 190, 191, 192, 193, 194, 195, 196] rfl (by decide +kernel) (by decide +kernel)
set_option maxRecDepth 20000 in
theorem gX4_readNot_X4_write : GoodIn wsX4_readNot (wsV RX4 77 RX4 yX4_write wsX4_write) := goodIn_app (goodIn_of _ (by decide +kernel)) ggX4_readNot_X4_write
theorem dX4_readNot_0 : decode cX4_readNot 0 = .ok (.aload_n 0, 1) := by decide +kernel
theorem dX4_readNot_1 : decode cX4_readNot 1 = .ok (.getfield 44, 3) := by decide +kernel
theorem dX4_readNot_4 : decode cX4_readNot 4 = .ok (.sipush 1005, 3) := by decide +kernel
theorem dX4_readNot_7 : decode cX4_readNot 7 = .ok (.if_icmp .eq 11, 3) := by decide +kernel
theorem dX4_readNot_10 : decode cX4_readNot 10 = .ok (.aload_n 0, 1) := by decide +kernel
theorem dX4_readNot_11 : decode cX4_readNot 11 = .ok (.iload_n 1, 1) := by decide +kernel
theorem dX4_readNot_12 : decode cX4_readNot 12 = .ok (.invokevirtual 83, 3) := by decide +kernel
theorem dX4_readNot_15 : decode cX4_readNot 15 = .ok (.goto 32, 3) := by decide +kernel
theorem dX4_readNot_18 : decode cX4_readNot 18 = .ok (.iload_n 1, 1) := by decide +kernel
theorem dX4_readNot_19 : decode cX4_readNot 19 = .ok (.iconst 5, 1) := by decide +kernel
theorem dX4_readNot_20 : decode cX4_readNot 20 = .ok (.if_icmp .lt 10, 3) := by decide +kernel
theorem dX4_readNot_23 : decode cX4_readNot 23 = .ok (.aload_n 0, 1) := by decide +kernel
theorem dX4_readNot_24 : decode cX4_readNot 24 = .ok (.invokevirtual 47, 3) := by decide +kernel
theorem dX4_readNot_27 : decode cX4_readNot 27 = .ok (.goto 20, 3) := by decide +kernel
theorem dX4_readNot_30 : decode cX4_readNot 30 = .ok (.aload_n 0, 1) := by decide +kernel
theorem dX4_readNot_31 : decode cX4_readNot 31 = .ok (.invokevirtual 34, 3) := by decide +kernel
theorem dX4_readNot_34 : decode cX4_readNot 34 = .ok (.aload_n 0, 1) := by decide +kernel
theorem dX4_readNot_35 : decode cX4_readNot 35 = .ok (.iload_n 1, 1) := by decide +kernel
theorem dX4_readNot_36 : decode cX4_readNot 36 = .ok (.iconst 1, 1) := by decide +kernel
theorem dX4_readNot_37 : decode cX4_readNot 37 = .ok (.iadd, 1) := by decide +kernel
theorem dX4_readNot_38 : decode cX4_readNot 38 = .ok (.invokevirtual 80, 3) := by decide +kernel
theorem dX4_readNot_41 : decode cX4_readNot 41 = .ok (.aload_n 0, 1) := by decide +kernel
theorem dX4_readNot_42 : decode cX4_readNot 42 = .ok (.bipush (-8), 2) := by decide +kernel
theorem dX4_readNot_44 : decode cX4_readNot 44 = .ok (.invokevirtual 77, 3) := by decide +kernel
theorem dX4_readNot_47 : decode cX4_readNot 47 = .ok (.return_, 1) := by decide +kernel
set_option maxRecDepth 20000 in
theorem ggX4_readComparison_X4_readSum : GoodIn wsX4_readComparison wsX4_readSum := goodIn_q _ [182, 9, 17, 20, 24, 28, 33, 38, 44, 47, 52, 56, 59, 62, 66, 72, 76, 80, 84, 88, 92, 96, 99, 103, 106, 109, 112, 115, 121, 124, 127, 130, 133, 136, 140, 143, 147, 152, 155, 0, 159, 163, 170, 171, 181, 186] [1, 183, 184, 185, 5, 6, 7, 8, 10, 11, 12, 13, 14, 15, 16, 18, 19, 21, 22, 23, 25, 26, 27, 29, 30, 31, 32, 34, 35, 36, 37, 39, 40, 41, 42, 43, 45, 46, 48, 49, 50, 51, 53, 54, 55, 57, 58, 60, 61, 63, 64, 65, 67, 68, 69, 70, 71, 73, 74, 75, 77, 78, 79, 81, 82, 83, 85, 86, 87, 89, 90, 91, 93, 94, 95, 97, 98, 100, 101, 102, 104, 105, 107, 108, 110, 111, 113, 114, 116, 117, 118, 119, 120, 122, 123, 125, 126, 128, 129, 131, 132, 134, 135, 137, 138, 139, 141, 142, 144, 145, 146, 148, 149, 150, 151, 153, 154, 156, 157, 158, 2, 3, 4, 160, 161, 162, 164, 165, 166, 167, 168, 169, 172, 173, 174, 175, 176, 177, 178, 179, 180, 187, 188, 189, 190, 191, 192, 193, 194, 195, 196] rfl (by decide +kernel) (by decide +kernel)
set_option maxRecDepth 20000 in
theorem gX4_readComparison_X4_readSum : GoodIn wsX4_readComparison (wsV RX4 86 RX4 yX4_readSum wsX4_readSum) := goodIn_app (goodIn_of _ (by decide +kernel)) ggX4_readComparison_X4_readSum
set_option maxRecDepth 20000 in
theorem ggX4_readComparison_X4_advance : GoodIn wsX4_readComparison wsX4_advance := goodIn_q _ [9, 17, 20, 24, 28, 33, 38, 44, 47, 52, 56, 59, 62, 66, 72, 76, 80, 84, 88, 92, 96, 99, 103, 106, 109, 112, 115, 121, 124, 127, 130, 133, 136, 140, 143, 147] [10, 11, 12, 13, 14, 1, 15, 16, 5, 18, 19, 21, 22, 23, 25, 26, 27, 29, 30, 31, 32, 34, 35, 36, 37, 39, 40, 41, 42, 43, 45, 46, 48, 49, 50, 51, 53, 54, 55, 57, 58, 60, 61, 63, 64, 65, 67, 68, 69, 70, 71, 73, 74, 75, 77, 78, 79, 81, 82, 83, 85, 86, 87, 89, 90, 91, 93, 94, 95, 97, 98, 100, 101, 102, 104, 105, 107, 108, 110, 111, 113, 114, 116, 117, 118, 119, 120, 122, 123, 125, 126, 128, 129, 131, 132, 134, 135, 137, 138, 139, 141, 142, 144, 145, 146, 148, 187, 188, 189, 190, 191, 192, 193, 194, 195, 196] rfl (by decide +kernel) (by decide +kernel)
set_option maxRecDepth 20000 in
theorem gX4_readComparison_X4_advance : GoodIn wsX4_readComparison (wsV RX4 34 RX4 yX4_advance wsX4_advance) := goodIn_app (goodIn_of _ (by decide +kernel)) ggX4_readComparison_X4_advance
set_option maxRecDepth 20000 in
theorem ggX4_readComparison_X4_write : GoodIn wsX4_readComparison wsX4_write := goodIn_q _ [152] [153, 154, 187, 188, 189, 190, 191, 192, 193, 194, 195, 196] rfl (by decide +kernel) (by decide +kernel)
set_option maxRecDepth 20000 in
theorem gX4_readComparison_X4_write : GoodIn wsX4_readComparison (wsV RX4 77 RX4 yX4_write wsX4_write) := goodIn_app (goodIn_of _ (by decide +kernel)) ggX4_readComparison_X4_write
theorem dX4_readComparison_0 : decode cX4_readComparison 0 = .ok (.aload_n 0, 1) := by decide +kernel
theorem dX4_readComparison_1 : decode cX4_readComparison 1 = .ok (.iload_n 1, 1) := by decide +kernel
theorem dX4_readComparison_2 : decode cX4_readComparison 2 = .ok (.invokevirtual 86, 3) := by decide +kernel
theorem dX4_readComparison_5 : decode cX4_readComparison 5 = .ok (.aload_n 0, 1) := by decide +kernel
theorem dX4_readComparison_6 : decode cX4_readComparison 6 = .ok (.getfield 44, 3) := by decide +kernel
theorem dX4_readComparison_9 : decode cX4_readComparison 9 = .ok (.bipush 60, 2) := by decide +kernel
theorem dX4_readComparison_11 : decode cX4_readComparison 11 = .ok (.if_icmp .eq 12, 3) := by decide +kernel
theorem dX4_readComparison_14 : decode cX4_readComparison 14 = .ok (.aload_n 0, 1) := by decide +kernel
theorem dX4_readComparison_15 : decode cX4_readComparison 15 = .ok (.getfield 44, 3) := by decide +kernel
theorem dX4_readComparison_18 : decode cX4_readComparison 18 = .ok (.bipush 61, 2) := by decide +kernel
theorem dX4_readComparison_20 : decode cX4_readComparison 20 = .ok (.if_icmp .ne 34, 3) := by decide +kernel
theorem dX4_readComparison_23 : decode cX4_readComparison 23 = .ok (.aload_n 0, 1) := by decide +kernel
theorem dX4_readComparison_24 : decode cX4_readComparison 24 = .ok (.getfield 44, 3) := by decide +kernel
theorem dX4_readComparison_27 : decode cX4_readComparison 27 = .ok (.bipush 60, 2) := by decide +kernel
theorem dX4_readComparison_29 : decode cX4_readComparison 29 = .ok (.if_icmp .ne 8, 3) := by decide +kernel
theorem dX4_readComparison_32 : decode cX4_readComparison 32 = .ok (.bipush (-12), 2) := by decide +kernel
theorem dX4_readComparison_34 : decode cX4_readComparison 34 = .ok (.goto 5, 3) := by decide +kernel
theorem dX4_readComparison_37 : decode cX4_readComparison 37 = .ok (.bipush (-13), 2) := by decide +kernel
theorem dX4_readComparison_39 : decode cX4_readComparison 39 = .ok (.istore_n 2, 1) := by decide +kernel
theorem dX4_readComparison_40 : decode cX4_readComparison 40 = .ok (.aload_n 0, 1) := by decide +kernel
theorem dX4_readComparison_41 : decode cX4_readComparison 41 = .ok (.invokevirtual 34, 3) := by decide +kernel
theorem dX4_readComparison_44 : decode cX4_readComparison 44 = .ok (.aload_n 0, 1) := by decide +kernel
theorem dX4_readComparison_45 : decode cX4_readComparison 45 = .ok (.iload_n 1, 1) := by decide +kernel
theorem dX4_readComparison_46 : decode cX4_readComparison 46 = .ok (.invokevirtual 86, 3) := by decide +kernel
theorem dX4_readComparison_49 : decode cX4_readComparison 49 = .ok (.aload_n 0, 1) := by decide +kernel
theorem dX4_readComparison_50 : decode cX4_readComparison 50 = .ok (.iload_n 2, 1) := by decide +kernel
theorem dX4_readComparison_51 : decode cX4_readComparison 51 = .ok (.invokevirtual 77, 3) := by decide +kernel
theorem dX4_readComparison_54 : decode cX4_readComparison 54 = .ok (.return_, 1) := by decide +kernel
set_option maxRecDepth 20000 in
theorem ggX4_readSum_X4_readTerm : GoodIn wsX4_readSum wsX4_readTerm := goodIn_q _ [186, 9, 17, 20, 24, 28, 33, 38, 44, 47, 52, 56, 59, 62, 66, 72, 76, 80, 84, 88, 92, 96, 99, 103, 106, 109, 112, 115, 121, 124, 127, 130, 133, 136, 140, 143, 147, 152, 155, 159, 163, 167, 174, 175, 185, 0] [1, 176, 177, 178, 5, 6, 7, 8, 10, 11, 12, 13, 14, 15, 16, 18, 19, 21, 22, 23, 25, 26, 27, 29, 30, 31, 32, 34, 35, 36, 37, 39, 40, 41, 42, 43, 45, 46, 48, 49, 50, 51, 53, 54, 55, 57, 58, 60, 61, 63, 64, 65, 67, 68, 69, 70, 71, 73, 74, 75, 77, 78, 79, 81, 82, 83, 85, 86, 87, 89, 90, 91, 93, 94, 95, 97, 98, 100, 101, 102, 104, 105, 107, 108, 110, 111, 113, 114, 116, 117, 118, 119, 120, 122, 123, 125, 126, 128, 129, 131, 132, 134, 135, 137, 138, 139, 141, 142, 144, 145, 146, 148, 149, 150, 151, 153, 154, 156, 157, 158, 160, 161, 162, 164, 165, 166, 168, 169, 170, 171, 172, 173, 179, 180, 181, 182, 183, 184, 2, 3, 4, 187, 188, 189, 190, 191, 192, 193, 194, 195, 196] rfl (by decide +kernel) (by decide +kernel)
set_option maxRecDepth 20000 in
theorem gX4_readSum_X4_readTerm : GoodIn wsX4_readSum (wsV RX4 89 RX4 yX4_readTerm wsX4_readTerm) := goodIn_app (goodIn_of _ (by decide +kernel)) ggX4_readSum_X4_readTerm
set_option maxRecDepth 20000 in
theorem ggX4_readSum_X4_advance : GoodIn wsX4_readSum wsX4_advance := goodIn_q _ [9, 17, 20, 24, 28, 33, 38, 44, 47, 52, 56, 59, 62, 66, 72, 76, 80, 84, 88, 92, 96, 99, 103, 106, 109, 112, 115, 121, 124, 127, 130, 133, 136, 140, 143, 147] [10, 11, 12, 13, 14, 1, 15, 16, 5, 18, 19, 21, 22, 23, 25, 26, 27, 29, 30, 31, 32, 34, 35, 36, 37, 39, 40, 41, 42, 43, 45, 46, 48, 49, 50, 51, 53, 54, 55, 57, 58, 60, 61, 63, 64, 65, 67, 68, 69, 70, 71, 73, 74, 75, 77, 78, 79, 81, 82, 83, 85, 86, 87, 89, 90, 91, 93, 94, 95, 97, 98, 100, 101, 102, 104, 105, 107, 108, 110, 111, 113, 114, 116, 117, 118, 119, 120, 122, 123, 125, 126, 128, 129, 131, 132, 134, 135, 137, 138, 139, 141, 142, 144, 145, 146, 148, 187, 188, 189, 190, 191, 192, 193, 194, 195, 196] rfl (by decide +kernel) (by decide +kernel)
set_option maxRecDepth 20000 in
theorem gX4_readSum_X4_advance : GoodIn wsX4_readSum (wsV RX4 34 RX4 yX4_advance wsX4_advance) := goodIn_app (goodIn_of _ (by decide +kernel)) ggX4_readSum_X4_advance
set_option maxRecDepth 20000 in
theorem ggX4_readSum_X4_write : GoodIn wsX4_readSum wsX4_write := goodIn_q _ [152] [153, 154, 187, 188, 189, 190, 191, 192, 193, 194, 195, 196] rfl (by decide +kernel) (by decide +kernel)
set_option maxRecDepth 20000 in
theorem gX4_readSum_X4_write : GoodIn wsX4_readSum (wsV RX4 77 RX4 yX4_write wsX4_write) := goodIn_app (goodIn_of _ (by decide +kernel)) ggX4_readSum_X4_write
theorem dX4_readSum_0 : decode cX4_readSum 0 = .ok (.aload_n 0, 1) := by decide +kernel
theorem dX4_readSum_1 : decode cX4_readSum 1 = .ok (.iload_n 1, 1) := by decide +kernel
theorem dX4_readSum_2 : decode cX4_readSum 2 = .ok (.invokevirtual 89, 3) := by decide +kernel
theorem dX4_readSum_5 : decode cX4_readSum 5 = .ok (.iconst 0, 1) := by decide +kernel
theorem dX4_readSum_6 : decode cX4_readSum 6 = .ok (.istore_n 2, 1) := by decide +kernel
theorem dX4_readSum_7 : decode cX4_readSum 7 = .ok (.iload_n 2, 1) := by decide +kernel
theorem dX4_readSum_8 : decode cX4_readSum 8 = .ok (.sipush 160, 3) := by decide +kernel
theorem dX4_readSum_11 : decode cX4_readSum 11 = .ok (.if_icmp .ge 58, 3) := by decide +kernel
theorem dX4_readSum_14 : decode cX4_readSum 14 = .ok (.aload_n 0, 1) := by decide +kernel
theorem dX4_readSum_15 : decode cX4_readSum 15 = .ok (.getfield 44, 3) := by decide +kernel
theorem dX4_readSum_18 : decode cX4_readSum 18 = .ok (.bipush 43, 2) := by decide +kernel
theorem dX4_readSum_20 : decode cX4_readSum 20 = .ok (.if_icmp .eq 12, 3) := by decide +kernel
theorem dX4_readSum_23 : decode cX4_readSum 23 = .ok (.aload_n 0, 1) := by decide +kernel
theorem dX4_readSum_24 : decode cX4_readSum 24 = .ok (.getfield 44, 3) := by decide +kernel
theorem dX4_readSum_27 : decode cX4_readSum 27 = .ok (.bipush 45, 2) := by decide +kernel
theorem dX4_readSum_29 : decode cX4_readSum 29 = .ok (.if_icmp .ne 40, 3) := by decide +kernel
theorem dX4_readSum_32 : decode cX4_readSum 32 = .ok (.aload_n 0, 1) := by decide +kernel
theorem dX4_readSum_33 : decode cX4_readSum 33 = .ok (.getfield 44, 3) := by decide +kernel
theorem dX4_readSum_36 : decode cX4_readSum 36 = .ok (.bipush 43, 2) := by decide +kernel
theorem dX4_readSum_38 : decode cX4_readSum 38 = .ok (.if_icmp .ne 8, 3) := by decide +kernel
theorem dX4_readSum_41 : decode cX4_readSum 41 = .ok (.bipush (-10), 2) := by decide +kernel
theorem dX4_readSum_43 : decode cX4_readSum 43 = .ok (.goto 5, 3) := by decide +kernel
theorem dX4_readSum_46 : decode cX4_readSum 46 = .ok (.bipush (-11), 2) := by decide +kernel
theorem dX4_readSum_48 : decode cX4_readSum 48 = .ok (.istore_n 3, 1) := by decide +kernel
theorem dX4_readSum_49 : decode cX4_readSum 49 = .ok (.aload_n 0, 1) := by decide +kernel
theorem dX4_readSum_50 : decode cX4_readSum 50 = .ok (.invokevirtual 34, 3) := by decide +kernel
theorem dX4_readSum_53 : decode cX4_readSum 53 = .ok (.aload_n 0, 1) := by decide +kernel
theorem dX4_readSum_54 : decode cX4_readSum 54 = .ok (.iload_n 1, 1) := by decide +kernel
theorem dX4_readSum_55 : decode cX4_readSum 55 = .ok (.invokevirtual 89, 3) := by decide +kernel
theorem dX4_readSum_58 : decode cX4_readSum 58 = .ok (.aload_n 0, 1) := by decide +kernel
theorem dX4_readSum_59 : decode cX4_readSum 59 = .ok (.iload_n 3, 1) := by decide +kernel
theorem dX4_readSum_60 : decode cX4_readSum 60 = .ok (.invokevirtual 77, 3) := by decide +kernel
theorem dX4_readSum_63 : decode cX4_readSum 63 = .ok (.iinc 2 1, 3) := by decide +kernel
theorem dX4_readSum_66 : decode cX4_readSum 66 = .ok (.goto (-59), 3) := by decide +kernel
theorem dX4_readSum_69 : decode cX4_readSum 69 = .ok (.return_, 1) := by decide +kernel
set_option maxRecDepth 20000 in
theorem ggX4_readTerm_X4_readOne : GoodIn wsX4_readTerm wsX4_readOne := goodIn_q _ [175, 152, 9, 17, 20, 24, 28, 33, 38, 44, 47, 52, 56, 59, 62, 66, 72, 76, 80, 84, 88, 92, 96, 99, 103, 106, 109, 112, 115, 121, 124, 127, 130, 133, 136, 140, 143, 147, 182, 174, 155, 159, 163, 167, 183, 0] [1, 77, 149, 150, 151, 5, 153, 154, 6, 7, 8, 10, 11, 12, 13, 14, 15, 16, 18, 19, 21, 22, 23, 25, 26, 27, 29, 30, 31, 32, 34, 35, 36, 37, 39, 40, 41, 42, 43, 45, 46, 48, 49, 50, 51, 53, 54, 55, 57, 58, 60, 61, 63, 64, 65, 67, 68, 69, 70, 71, 73, 74, 75, 78, 79, 81, 82, 83, 85, 86, 87, 89, 90, 91, 93, 94, 95, 97, 98, 100, 101, 102, 104, 105, 107, 108, 110, 111, 113, 114, 116, 117, 118, 119, 120, 122, 123, 125, 126, 128, 129, 131, 132, 134, 135, 137, 138, 139, 141, 142, 144, 145, 146, 148, 2, 3, 4, 176, 177, 178, 179, 180, 181, 171, 172, 173, 156, 157, 158, 160, 161, 162, 164, 165, 166, 168, 169, 170, 184, 185, 186, 187, 188, 189, 190, 191, 192, 193, 194, 195, 196] rfl (by decide +kernel) (by decide +kernel)
set_option maxRecDepth 20000 in
theorem gX4_readTerm_X4_readOne : GoodIn wsX4_readTerm (wsV RX4 92 RX4 yX4_readOne wsX4_readOne) := goodIn_app (goodIn_of _ (by decide +kernel)) ggX4_readTerm_X4_readOne
set_option maxRecDepth 20000 in
theorem ggX4_readTerm_X4_advance : GoodIn wsX4_readTerm wsX4_advance := goodIn_q _ [9, 17, 20, 24, 28, 33, 38, 44, 47, 52, 56, 59, 62, 66, 72, 76, 80, 84, 88, 92, 96, 99, 103, 106, 109, 112, 115, 121, 124, 127, 130, 133, 136, 140, 143, 147] [10, 11, 12, 13, 14, 1, 15, 16, 5, 18, 19, 21, 22, 23, 25, 26, 27, 29, 30, 31, 32, 34, 35, 36, 37, 39, 40, 41, 42, 43, 45, 46, 48, 49, 50, 51, 53, 54, 55, 57, 58, 60, 61, 63, 64, 65, 67, 68, 69, 70, 71, 73, 74, 75, 77, 78, 79, 81, 82, 83, 85, 86, 87, 89, 90, 91, 93, 94, 95, 97, 98, 100, 101, 102, 104, 105, 107, 108, 110, 111, 113, 114, 116, 117, 118, 119, 120, 122, 123, 125, 126, 128, 129, 131, 132, 134, 135, 137, 138, 139, 141, 142, 144, 145, 146, 148, 187, 188, 189, 190, 191, 192, 193, 194, 195, 196] rfl (by decide +kernel) (by decide +kernel)
set_option maxRecDepth 20000 in
theorem gX4_readTerm_X4_advance : GoodIn wsX4_readTerm (wsV RX4 34 RX4 yX4_advance wsX4_advance) := goodIn_app (goodIn_of _ (by decide +kernel)) ggX4_readTerm_X4_advance
set_option maxRecDepth 20000 in
theorem ggX4_readTerm_X4_write : GoodIn wsX4_readTerm wsX4_write := goodIn_q _ [152] [153, 154, 187, 188, 189, 190, 191, 192, 193, 194, 195, 196] rfl (by decide +kernel) (by decide +kernel)
set_option maxRecDepth 20000 in
theorem gX4_readTerm_X4_write : GoodIn wsX4_readTerm (wsV RX4 77 RX4 yX4_write wsX4_write) := goodIn_app (goodIn_of _ (by decide +kernel)) ggX4_readTerm_X4_write
theorem dX4_readTerm_0 : decode cX4_readTerm 0 = .ok (.aload_n 0, 1) := by decide +kernel
theorem dX4_readTerm_1 : decode cX4_readTerm 1 = .ok (.iload_n 1, 1) := by decide +kernel
theorem dX4_readTerm_2 : decode cX4_readTerm 2 = .ok (.invokevirtual 92, 3) := by decide +kernel
theorem dX4_readTerm_5 : decode cX4_readTerm 5 = .ok (.iconst 0, 1) := by decide +kernel
theorem dX4_readTerm_6 : decode cX4_readTerm 6 = .ok (.istore_n 2, 1) := by decide +kernel
theorem dX4_readTerm_7 : decode cX4_readTerm 7 = .ok (.iload_n 2, 1) := by decide +kernel
theorem dX4_readTerm_8 : decode cX4_readTerm 8 = .ok (.sipush 160, 3) := by decide +kernel
theorem dX4_readTerm_11 : decode cX4_readTerm 11 = .ok (.if_icmp .ge 33, 3) := by decide +kernel
theorem dX4_readTerm_14 : decode cX4_readTerm 14 = .ok (.aload_n 0, 1) := by decide +kernel
theorem dX4_readTerm_15 : decode cX4_readTerm 15 = .ok (.getfield 44, 3) := by decide +kernel
theorem dX4_readTerm_18 : decode cX4_readTerm 18 = .ok (.bipush 42, 2) := by decide +kernel
theorem dX4_readTerm_20 : decode cX4_readTerm 20 = .ok (.if_icmp .ne 24, 3) := by decide +kernel
theorem dX4_readTerm_23 : decode cX4_readTerm 23 = .ok (.aload_n 0, 1) := by decide +kernel
theorem dX4_readTerm_24 : decode cX4_readTerm 24 = .ok (.invokevirtual 34, 3) := by decide +kernel
theorem dX4_readTerm_27 : decode cX4_readTerm 27 = .ok (.aload_n 0, 1) := by decide +kernel
theorem dX4_readTerm_28 : decode cX4_readTerm 28 = .ok (.iload_n 1, 1) := by decide +kernel
theorem dX4_readTerm_29 : decode cX4_readTerm 29 = .ok (.invokevirtual 92, 3) := by decide +kernel
theorem dX4_readTerm_32 : decode cX4_readTerm 32 = .ok (.aload_n 0, 1) := by decide +kernel
theorem dX4_readTerm_33 : decode cX4_readTerm 33 = .ok (.bipush (-9), 2) := by decide +kernel
theorem dX4_readTerm_35 : decode cX4_readTerm 35 = .ok (.invokevirtual 77, 3) := by decide +kernel
theorem dX4_readTerm_38 : decode cX4_readTerm 38 = .ok (.iinc 2 1, 3) := by decide +kernel
theorem dX4_readTerm_41 : decode cX4_readTerm 41 = .ok (.goto (-34), 3) := by decide +kernel
theorem dX4_readTerm_44 : decode cX4_readTerm 44 = .ok (.return_, 1) := by decide +kernel
set_option maxRecDepth 20000 in
theorem ggX4_readOne_X4_write : GoodIn wsX4_readOne wsX4_write := goodIn_q _ [7] [8, 9, 187, 188, 189, 190, 191, 192, 193, 194, 195, 196] rfl (by decide +kernel) (by decide +kernel)
set_option maxRecDepth 20000 in
theorem gX4_readOne_X4_write : GoodIn wsX4_readOne (wsV RX4 77 RX4 yX4_write wsX4_write) := goodIn_app (goodIn_of _ (by decide +kernel)) ggX4_readOne_X4_write
set_option maxRecDepth 20000 in
theorem ggX4_readOne_X4_advance : GoodIn wsX4_readOne wsX4_advance := goodIn_q _ [13, 21, 24, 28, 32, 37, 42, 48, 51, 56, 60, 63, 66, 70, 76, 80, 83, 87, 91, 95, 99, 102, 106, 109, 112, 115, 118, 124, 127, 130, 133, 136, 139, 143, 146, 150] [14, 15, 16, 17, 18, 1, 19, 20, 6, 22, 23, 25, 26, 27, 29, 30, 31, 33, 34, 35, 36, 38, 39, 40, 41, 43, 44, 45, 46, 47, 49, 50, 52, 53, 54, 55, 57, 58, 59, 61, 62, 64, 65, 67, 68, 69, 71, 72, 73, 74, 75, 77, 78, 79, 2, 81, 82, 84, 85, 86, 88, 89, 90, 92, 93, 94, 96, 97, 98, 100, 101, 103, 104, 105, 107, 108, 110, 111, 113, 114, 116, 117, 119, 120, 121, 122, 123, 125, 126, 128, 129, 131, 132, 134, 135, 137, 138, 140, 141, 142, 144, 145, 147, 148, 149, 151, 187, 188, 189, 190, 191, 192, 193, 194, 195, 196] rfl (by decide +kernel) (by decide +kernel)
set_option maxRecDepth 20000 in
theorem gX4_readOne_X4_advance : GoodIn wsX4_readOne (wsV RX4 34 RX4 yX4_advance wsX4_advance) := goodIn_app (goodIn_of _ (by decide +kernel)) ggX4_readOne_X4_advance
set_option maxRecDepth 20000 in
theorem ggX4_readOne_X4_readOne : GoodIn wsX4_readOne wsX4_readOne := goodIn_q _ [0, 7, 13, 21, 24, 28, 32, 37, 42, 48, 51, 56, 60, 63, 66, 70, 76, 80, 83, 87, 91, 95, 99, 102, 106, 109, 112, 115, 118, 124, 127, 130, 133, 136, 139, 143, 146, 150, 161, 165, 166, 170, 174, 178, 182, 186] [1, 2, 3, 4, 5, 6, 8, 9, 10, 11, 12, 14, 15, 16, 17, 18, 19, 20, 22, 23, 25, 26, 27, 29, 30, 31, 33, 34, 35, 36, 38, 39, 40, 41, 43, 44, 45, 46, 47, 49, 50, 52, 53, 54, 55, 57, 58, 59, 61, 62, 64, 65, 67, 68, 69, 71, 72, 73, 74, 75, 77, 78, 79, 81, 82, 84, 85, 86, 88, 89, 90, 92, 93, 94, 96, 97, 98, 100, 101, 103, 104, 105, 107, 108, 110, 111, 113, 114, 116, 117, 119, 120, 121, 122, 123, 125, 126, 128, 129, 131, 132, 134, 135, 137, 138, 140, 141, 142, 144, 145, 147, 148, 149, 151, 152, 153, 154, 155, 156, 157, 158, 159, 160, 162, 163, 164, 167, 168, 169, 171, 172, 173, 175, 176, 177, 179, 180, 181, 183, 184, 185, 187, 188, 189, 190, 191, 192, 193, 194, 195, 196] rfl (by decide +kernel) (by decide +kernel)
set_option maxRecDepth 20000 in
theorem gX4_readOne_X4_readOne : GoodIn wsX4_readOne (wsV RX4 92 RX4 yX4_readOne wsX4_readOne) := goodIn_app (goodIn_of _ (by decide +kernel)) ggX4_readOne_X4_readOne
set_option maxRecDepth 20000 in
theorem ggX4_readOne_X4_readEither : GoodIn wsX4_readOne wsX4_readEither := goodIn_q _ [174, 13, 21, 24, 28, 32, 37, 42, 48, 51, 56, 60, 63, 66, 70, 76, 80, 83, 87, 91, 95, 99, 102, 106, 109, 112, 115, 118, 124, 127, 130, 133, 136, 139, 143, 146, 150, 7, 166, 170, 178, 165, 0, 161, 182, 186] [1, 175, 176, 177, 6, 10, 11, 12, 14, 15, 16, 17, 18, 19, 20, 22, 23, 25, 26, 27, 29, 30, 31, 33, 34, 35, 36, 38, 39, 40, 41, 43, 44, 45, 46, 47, 49, 50, 52, 53, 54, 55, 57, 58, 59, 61, 62, 64, 65, 67, 68, 69, 71, 72, 73, 74, 75, 77, 78, 79, 2, 81, 82, 84, 85, 86, 88, 89, 90, 92, 93, 94, 96, 97, 98, 100, 101, 103, 104, 105, 107, 108, 110, 111, 113, 114, 116, 117, 119, 120, 121, 122, 123, 125, 126, 128, 129, 131, 132, 134, 135, 137, 138, 140, 141, 142, 144, 145, 147, 148, 149, 151, 3, 4, 5, 8, 9, 167, 168, 169, 171, 172, 173, 179, 180, 181, 162, 163, 164, 152, 153, 154, 155, 156, 157, 158, 159, 160, 183, 184, 185, 187, 188, 189, 190, 191, 192, 193, 194, 195, 196] rfl (by decide +kernel) (by decide +kernel)
set_option maxRecDepth 20000 in
theorem gX4_readOne_X4_readEither : GoodIn wsX4_readOne (wsV RX4 41 RX4 yX4_readEither wsX4_readEither) := goodIn_app (goodIn_of _ (by decide +kernel)) ggX4_readOne_X4_readEither
set_option maxRecDepth 20000 in
theorem ggX4_readOne_X4_demand : GoodIn wsX4_readOne wsX4_demand := goodIn_q _ [161, 13, 21, 24, 28, 32, 37, 42, 48, 51, 56, 60, 63, 66, 70, 76, 80, 83, 87, 91, 95, 99, 102, 106, 109, 112, 115, 118, 124, 127, 130, 133, 136, 139, 143, 146, 150, 165] [1, 10, 11, 12, 6, 14, 15, 16, 17, 18, 19, 20, 22, 23, 25, 26, 27, 29, 30, 31, 33, 34, 35, 36, 38, 39, 40, 41, 43, 44, 45, 46, 47, 49, 50, 52, 53, 54, 55, 57, 58, 59, 61, 62, 64, 65, 67, 68, 69, 71, 72, 73, 74, 75, 77, 78, 79, 2, 81, 82, 84, 85, 86, 88, 89, 90, 92, 93, 94, 96, 97, 98, 100, 101, 103, 104, 105, 107, 108, 110, 111, 113, 114, 116, 117, 119, 120, 121, 122, 123, 125, 126, 128, 129, 131, 132, 134, 135, 137, 138, 140, 141, 142, 144, 145, 147, 148, 149, 151, 162, 163, 164, 187, 188, 189, 190, 191, 192, 193, 194, 195, 196] rfl (by decide +kernel) (by decide +kernel)
set_option maxRecDepth 20000 in
theorem gX4_readOne_X4_demand : GoodIn wsX4_readOne (wsV RX4 37 RX4 yX4_demand wsX4_demand) := goodIn_app (goodIn_of _ (by decide +kernel)) ggX4_readOne_X4_demand
set_option maxRecDepth 20000 in
theorem ggX4_readOne_X4_refuse : GoodIn wsX4_readOne wsX4_refuse := goodIn_q _ [165] [14, 18, 1, 187, 188, 189, 190, 191, 192, 193, 194, 195, 196] rfl (by decide +kernel) (by decide +kernel)
set_option maxRecDepth 20000 in
theorem gX4_readOne_X4_refuse : GoodIn wsX4_readOne (wsV RX4 47 RX4 yX4_refuse wsX4_refuse) := goodIn_app (goodIn_of _ (by decide +kernel)) ggX4_readOne_X4_refuse
theorem dX4_readOne_0 : decode cX4_readOne 0 = .ok (.aload_n 0, 1) := by decide +kernel
theorem dX4_readOne_1 : decode cX4_readOne 1 = .ok (.getfield 44, 3) := by decide +kernel
theorem dX4_readOne_4 : decode cX4_readOne 4 = .ok (.iconst 2, 1) := by decide +kernel
theorem dX4_readOne_5 : decode cX4_readOne 5 = .ok (.if_icmp .ne 18, 3) := by decide +kernel
theorem dX4_readOne_8 : decode cX4_readOne 8 = .ok (.aload_n 0, 1) := by decide +kernel
theorem dX4_readOne_9 : decode cX4_readOne 9 = .ok (.aload_n 0, 1) := by decide +kernel
theorem dX4_readOne_10 : decode cX4_readOne 10 = .ok (.getfield 95, 3) := by decide +kernel
theorem dX4_readOne_13 : decode cX4_readOne 13 = .ok (.invokevirtual 77, 3) := by decide +kernel
theorem dX4_readOne_16 : decode cX4_readOne 16 = .ok (.aload_n 0, 1) := by decide +kernel
theorem dX4_readOne_17 : decode cX4_readOne 17 = .ok (.invokevirtual 34, 3) := by decide +kernel
theorem dX4_readOne_20 : decode cX4_readOne 20 = .ok (.goto 106, 3) := by decide +kernel
theorem dX4_readOne_23 : decode cX4_readOne 23 = .ok (.aload_n 0, 1) := by decide +kernel
theorem dX4_readOne_24 : decode cX4_readOne 24 = .ok (.getfield 44, 3) := by decide +kernel
theorem dX4_readOne_27 : decode cX4_readOne 27 = .ok (.sipush 1006, 3) := by decide +kernel
theorem dX4_readOne_30 : decode cX4_readOne 30 = .ok (.if_icmp .lt 24, 3) := by decide +kernel
theorem dX4_readOne_33 : decode cX4_readOne 33 = .ok (.aload_n 0, 1) := by decide +kernel
theorem dX4_readOne_34 : decode cX4_readOne 34 = .ok (.iconst (-1), 1) := by decide +kernel
theorem dX4_readOne_35 : decode cX4_readOne 35 = .ok (.aload_n 0, 1) := by decide +kernel
theorem dX4_readOne_36 : decode cX4_readOne 36 = .ok (.getfield 44, 3) := by decide +kernel
theorem dX4_readOne_39 : decode cX4_readOne 39 = .ok (.sipush 1006, 3) := by decide +kernel
theorem dX4_readOne_42 : decode cX4_readOne 42 = .ok (.isub, 1) := by decide +kernel
theorem dX4_readOne_43 : decode cX4_readOne 43 = .ok (.isub, 1) := by decide +kernel
theorem dX4_readOne_44 : decode cX4_readOne 44 = .ok (.invokevirtual 77, 3) := by decide +kernel
theorem dX4_readOne_47 : decode cX4_readOne 47 = .ok (.aload_n 0, 1) := by decide +kernel
theorem dX4_readOne_48 : decode cX4_readOne 48 = .ok (.invokevirtual 34, 3) := by decide +kernel
theorem dX4_readOne_51 : decode cX4_readOne 51 = .ok (.goto 75, 3) := by decide +kernel
theorem dX4_readOne_54 : decode cX4_readOne 54 = .ok (.aload_n 0, 1) := by decide +kernel
theorem dX4_readOne_55 : decode cX4_readOne 55 = .ok (.getfield 44, 3) := by decide +kernel
theorem dX4_readOne_58 : decode cX4_readOne 58 = .ok (.bipush 45, 2) := by decide +kernel
theorem dX4_readOne_60 : decode cX4_readOne 60 = .ok (.if_icmp .ne 28, 3) := by decide +kernel
theorem dX4_readOne_63 : decode cX4_readOne 63 = .ok (.iload_n 1, 1) := by decide +kernel
theorem dX4_readOne_64 : decode cX4_readOne 64 = .ok (.iconst 5, 1) := by decide +kernel
theorem dX4_readOne_65 : decode cX4_readOne 65 = .ok (.if_icmp .ge 23, 3) := by decide +kernel
theorem dX4_readOne_68 : decode cX4_readOne 68 = .ok (.aload_n 0, 1) := by decide +kernel
theorem dX4_readOne_69 : decode cX4_readOne 69 = .ok (.invokevirtual 34, 3) := by decide +kernel
theorem dX4_readOne_72 : decode cX4_readOne 72 = .ok (.aload_n 0, 1) := by decide +kernel
theorem dX4_readOne_73 : decode cX4_readOne 73 = .ok (.iload_n 1, 1) := by decide +kernel
theorem dX4_readOne_74 : decode cX4_readOne 74 = .ok (.iconst 1, 1) := by decide +kernel
theorem dX4_readOne_75 : decode cX4_readOne 75 = .ok (.iadd, 1) := by decide +kernel
theorem dX4_readOne_76 : decode cX4_readOne 76 = .ok (.invokevirtual 92, 3) := by decide +kernel
theorem dX4_readOne_79 : decode cX4_readOne 79 = .ok (.aload_n 0, 1) := by decide +kernel
theorem dX4_readOne_80 : decode cX4_readOne 80 = .ok (.bipush (-7), 2) := by decide +kernel
theorem dX4_readOne_82 : decode cX4_readOne 82 = .ok (.invokevirtual 77, 3) := by decide +kernel
theorem dX4_readOne_85 : decode cX4_readOne 85 = .ok (.goto 41, 3) := by decide +kernel
theorem dX4_readOne_88 : decode cX4_readOne 88 = .ok (.aload_n 0, 1) := by decide +kernel
theorem dX4_readOne_89 : decode cX4_readOne 89 = .ok (.getfield 44, 3) := by decide +kernel
theorem dX4_readOne_92 : decode cX4_readOne 92 = .ok (.bipush 40, 2) := by decide +kernel
theorem dX4_readOne_94 : decode cX4_readOne 94 = .ok (.if_icmp .ne 28, 3) := by decide +kernel
theorem dX4_readOne_97 : decode cX4_readOne 97 = .ok (.iload_n 1, 1) := by decide +kernel
theorem dX4_readOne_98 : decode cX4_readOne 98 = .ok (.iconst 5, 1) := by decide +kernel
theorem dX4_readOne_99 : decode cX4_readOne 99 = .ok (.if_icmp .ge 23, 3) := by decide +kernel
theorem dX4_readOne_102 : decode cX4_readOne 102 = .ok (.aload_n 0, 1) := by decide +kernel
theorem dX4_readOne_103 : decode cX4_readOne 103 = .ok (.invokevirtual 34, 3) := by decide +kernel
theorem dX4_readOne_106 : decode cX4_readOne 106 = .ok (.aload_n 0, 1) := by decide +kernel
theorem dX4_readOne_107 : decode cX4_readOne 107 = .ok (.iload_n 1, 1) := by decide +kernel
theorem dX4_readOne_108 : decode cX4_readOne 108 = .ok (.iconst 1, 1) := by decide +kernel
theorem dX4_readOne_109 : decode cX4_readOne 109 = .ok (.iadd, 1) := by decide +kernel
theorem dX4_readOne_110 : decode cX4_readOne 110 = .ok (.invokevirtual 41, 3) := by decide +kernel
theorem dX4_readOne_113 : decode cX4_readOne 113 = .ok (.aload_n 0, 1) := by decide +kernel
theorem dX4_readOne_114 : decode cX4_readOne 114 = .ok (.bipush 41, 2) := by decide +kernel
theorem dX4_readOne_116 : decode cX4_readOne 116 = .ok (.invokevirtual 37, 3) := by decide +kernel
theorem dX4_readOne_119 : decode cX4_readOne 119 = .ok (.goto 7, 3) := by decide +kernel
theorem dX4_readOne_122 : decode cX4_readOne 122 = .ok (.aload_n 0, 1) := by decide +kernel
theorem dX4_readOne_123 : decode cX4_readOne 123 = .ok (.invokevirtual 47, 3) := by decide +kernel
theorem dX4_readOne_126 : decode cX4_readOne 126 = .ok (.return_, 1) := by decide +kernel
set_option maxRecDepth 20000 in
theorem ggX4_demand_X4_advance : GoodIn wsX4_demand wsX4_advance := goodIn_q _ [6, 14, 17, 21, 25, 30, 35, 41, 44, 49, 53, 56, 59, 63, 69, 73, 77, 81, 85, 89, 93, 96, 100, 103, 106, 109, 112, 118, 121, 124, 127, 130, 133, 137, 140, 144] [7, 8, 9, 10, 11, 1, 12, 13, 5, 15, 16, 18, 19, 20, 22, 23, 24, 26, 27, 28, 29, 31, 32, 33, 34, 36, 37, 38, 39, 40, 42, 43, 45, 46, 47, 48, 50, 51, 52, 54, 55, 57, 58, 60, 61, 62, 64, 65, 66, 67, 68, 70, 71, 72, 74, 75, 76, 78, 79, 80, 82, 83, 84, 86, 87, 88, 90, 91, 92, 94, 95, 97, 98, 99, 101, 102, 104, 105, 107, 108, 110, 111, 113, 114, 115, 116, 117, 119, 120, 122, 123, 125, 126, 128, 129, 131, 132, 134, 135, 136, 138, 139, 141, 142, 143, 145, 150, 151, 152, 153, 154, 155, 156, 157, 158, 159] rfl (by decide +kernel) (by decide +kernel)
set_option maxRecDepth 20000 in
theorem gX4_demand_X4_advance : GoodIn wsX4_demand (wsV RX4 34 RX4 yX4_advance wsX4_advance) := goodIn_app (goodIn_of _ (by decide +kernel)) ggX4_demand_X4_advance
set_option maxRecDepth 20000 in
theorem ggX4_demand_X4_refuse : GoodIn wsX4_demand wsX4_refuse := goodIn_q _ [149] [7, 11, 1, 150, 151, 152, 153, 154, 155, 156, 157, 158, 159] rfl (by decide +kernel) (by decide +kernel)
set_option maxRecDepth 20000 in
theorem gX4_demand_X4_refuse : GoodIn wsX4_demand (wsV RX4 47 RX4 yX4_refuse wsX4_refuse) := goodIn_app (goodIn_of _ (by decide +kernel)) ggX4_demand_X4_refuse
theorem dX4_demand_0 : decode cX4_demand 0 = .ok (.aload_n 0, 1) := by decide +kernel
theorem dX4_demand_1 : decode cX4_demand 1 = .ok (.getfield 44, 3) := by decide +kernel
theorem dX4_demand_4 : decode cX4_demand 4 = .ok (.iload_n 1, 1) := by decide +kernel
theorem dX4_demand_5 : decode cX4_demand 5 = .ok (.if_icmp .ne 10, 3) := by decide +kernel
theorem dX4_demand_8 : decode cX4_demand 8 = .ok (.aload_n 0, 1) := by decide +kernel
theorem dX4_demand_9 : decode cX4_demand 9 = .ok (.invokevirtual 34, 3) := by decide +kernel
theorem dX4_demand_12 : decode cX4_demand 12 = .ok (.goto 7, 3) := by decide +kernel
theorem dX4_demand_15 : decode cX4_demand 15 = .ok (.aload_n 0, 1) := by decide +kernel
theorem dX4_demand_16 : decode cX4_demand 16 = .ok (.invokevirtual 47, 3) := by decide +kernel
theorem dX4_demand_19 : decode cX4_demand 19 = .ok (.return_, 1) := by decide +kernel
theorem dX4_refuse_0 : decode cX4_refuse 0 = .ok (.aload_n 0, 1) := by decide +kernel
theorem dX4_refuse_1 : decode cX4_refuse 1 = .ok (.getfield 31, 3) := by decide +kernel
theorem dX4_refuse_4 : decode cX4_refuse 4 = .ok (.iconst (-1), 1) := by decide +kernel
theorem dX4_refuse_5 : decode cX4_refuse 5 = .ok (.if_icmp .ne 11, 3) := by decide +kernel
theorem dX4_refuse_8 : decode cX4_refuse 8 = .ok (.aload_n 0, 1) := by decide +kernel
theorem dX4_refuse_9 : decode cX4_refuse 9 = .ok (.aload_n 0, 1) := by decide +kernel
theorem dX4_refuse_10 : decode cX4_refuse 10 = .ok (.getfield 98, 3) := by decide +kernel
theorem dX4_refuse_13 : decode cX4_refuse 13 = .ok (.putfield 31, 3) := by decide +kernel
theorem dX4_refuse_16 : decode cX4_refuse 16 = .ok (.aload_n 0, 1) := by decide +kernel
theorem dX4_refuse_17 : decode cX4_refuse 17 = .ok (.iconst 1, 1) := by decide +kernel
theorem dX4_refuse_18 : decode cX4_refuse 18 = .ok (.putfield 44, 3) := by decide +kernel
theorem dX4_refuse_21 : decode cX4_refuse 21 = .ok (.return_, 1) := by decide +kernel
theorem dX4_write_0 : decode cX4_write 0 = .ok (.aload_n 0, 1) := by decide +kernel
theorem dX4_write_1 : decode cX4_write 1 = .ok (.getfield 25, 3) := by decide +kernel
theorem dX4_write_4 : decode cX4_write 4 = .ok (.aload_n 0, 1) := by decide +kernel
theorem dX4_write_5 : decode cX4_write 5 = .ok (.getfield 15, 3) := by decide +kernel
theorem dX4_write_8 : decode cX4_write 8 = .ok (.arraylength, 1) := by decide +kernel
theorem dX4_write_9 : decode cX4_write 9 = .ok (.if_icmp .ge 23, 3) := by decide +kernel
theorem dX4_write_12 : decode cX4_write 12 = .ok (.aload_n 0, 1) := by decide +kernel
theorem dX4_write_13 : decode cX4_write 13 = .ok (.getfield 15, 3) := by decide +kernel
theorem dX4_write_16 : decode cX4_write 16 = .ok (.aload_n 0, 1) := by decide +kernel
theorem dX4_write_17 : decode cX4_write 17 = .ok (.getfield 25, 3) := by decide +kernel
theorem dX4_write_20 : decode cX4_write 20 = .ok (.iload_n 1, 1) := by decide +kernel
theorem dX4_write_21 : decode cX4_write 21 = .ok (.iastore, 1) := by decide +kernel
theorem dX4_write_22 : decode cX4_write 22 = .ok (.aload_n 0, 1) := by decide +kernel
theorem dX4_write_23 : decode cX4_write 23 = .ok (.dup, 1) := by decide +kernel
theorem dX4_write_24 : decode cX4_write 24 = .ok (.getfield 25, 3) := by decide +kernel
theorem dX4_write_27 : decode cX4_write 27 = .ok (.iconst 1, 1) := by decide +kernel
theorem dX4_write_28 : decode cX4_write 28 = .ok (.iadd, 1) := by decide +kernel
theorem dX4_write_29 : decode cX4_write 29 = .ok (.putfield 25, 3) := by decide +kernel
theorem dX4_write_32 : decode cX4_write 32 = .ok (.return_, 1) := by decide +kernel
set_option maxRecDepth 20000 in
theorem ggX4_advance_X4_isBlank : GoodIn wsX4_advance wsX4_isBlank := goodIn_q _ [10] [] rfl (by decide +kernel) (by decide +kernel)
set_option maxRecDepth 20000 in
theorem gX4_advance_X4_isBlank : GoodIn wsX4_advance (va_wsS RX4 101 yX4_isBlank wsX4_isBlank) := goodIn_app (goodIn_of _ (by decide +kernel)) ggX4_advance_X4_isBlank
set_option maxRecDepth 20000 in
theorem ggX4_advance_X4_isLetter : GoodIn wsX4_advance wsX4_isLetter := goodIn_q _ [13] [] rfl (by decide +kernel) (by decide +kernel)
set_option maxRecDepth 20000 in
theorem gX4_advance_X4_isLetter : GoodIn wsX4_advance (va_wsS RX4 105 yX4_isLetter wsX4_isLetter) := goodIn_app (goodIn_of _ (by decide +kernel)) ggX4_advance_X4_isLetter
set_option maxRecDepth 20000 in
theorem ggX4_advance_X4_wordFrom : GoodIn wsX4_advance wsX4_wordFrom := goodIn_q _ [17, 21, 26, 31, 37, 40, 45, 49, 52, 55, 59] [18, 19, 20, 9, 4, 22, 23, 24, 25, 27, 28, 29, 30, 32, 33, 34, 35, 36, 38, 39, 41, 42, 43, 44, 46, 47, 48, 50, 51, 53, 54, 56, 57, 58, 60, 61, 62, 142, 143, 144, 145, 146, 147, 148, 149, 150, 151] rfl (by decide +kernel) (by decide +kernel)
set_option maxRecDepth 20000 in
theorem gX4_advance_X4_wordFrom : GoodIn wsX4_advance (wsV RX4 108 RX4 yX4_wordFrom wsX4_wordFrom) := goodIn_app (goodIn_of _ (by decide +kernel)) ggX4_advance_X4_wordFrom
set_option maxRecDepth 20000 in
theorem ggX4_advance_X4_isDigit : GoodIn wsX4_advance wsX4_isDigit := goodIn_q _ [65] [] rfl (by decide +kernel) (by decide +kernel)
set_option maxRecDepth 20000 in
theorem gX4_advance_X4_isDigit : GoodIn wsX4_advance (va_wsS RX4 111 yX4_isDigit wsX4_isDigit) := goodIn_app (goodIn_of _ (by decide +kernel)) ggX4_advance_X4_isDigit
set_option maxRecDepth 20000 in
theorem ggX4_advance_X4_numberFrom : GoodIn wsX4_advance wsX4_numberFrom := goodIn_q _ [69] [70, 4, 142, 143, 144, 145, 146, 147, 148, 149, 150, 151] rfl (by decide +kernel) (by decide +kernel)
set_option maxRecDepth 20000 in
theorem gX4_advance_X4_numberFrom : GoodIn wsX4_advance (wsV RX4 114 RX4 yX4_numberFrom wsX4_numberFrom) := goodIn_app (goodIn_of _ (by decide +kernel)) ggX4_advance_X4_numberFrom
set_option maxRecDepth 20000 in
theorem ggX4_advance_X4_isSign : GoodIn wsX4_advance wsX4_isSign := goodIn_q _ [73, 77, 81, 31, 85, 89, 92, 96, 99, 102, 105, 108, 114, 117, 55, 120, 123, 126, 59, 129, 133, 136, 140] [74, 75, 76, 25, 78, 79, 80, 27, 28, 29, 30, 32, 33, 82, 83, 84, 86, 87, 88, 90, 91, 36, 93, 94, 95, 97, 98, 100, 101, 103, 104, 106, 107, 48, 109, 110, 111, 112, 113, 115, 116, 53, 54, 118, 119, 41, 121, 122, 44, 124, 125, 57, 58, 60, 61, 62, 127, 128, 130, 131, 132, 134, 135, 137, 138, 139, 141] rfl (by decide +kernel) (by decide +kernel)
set_option maxRecDepth 20000 in
theorem gX4_advance_X4_isSign : GoodIn wsX4_advance (va_wsS RX4 117 yX4_isSign wsX4_isSign) := goodIn_app (goodIn_of _ (by decide +kernel)) ggX4_advance_X4_isSign
theorem dX4_advance_0 : decode cX4_advance 0 = .ok (.aload_n 0, 1) := by decide +kernel
theorem dX4_advance_1 : decode cX4_advance 1 = .ok (.getfield 31, 3) := by decide +kernel
theorem dX4_advance_4 : decode cX4_advance 4 = .ok (.iconst (-1), 1) := by decide +kernel
theorem dX4_advance_5 : decode cX4_advance 5 = .ok (.if_icmp .eq 4, 3) := by decide +kernel
theorem dX4_advance_8 : decode cX4_advance 8 = .ok (.return_, 1) := by decide +kernel
theorem dX4_advance_9 : decode cX4_advance 9 = .ok (.aload_n 0, 1) := by decide +kernel
theorem dX4_advance_10 : decode cX4_advance 10 = .ok (.getfield 28, 3) := by decide +kernel
theorem dX4_advance_13 : decode cX4_advance 13 = .ok (.aload_n 0, 1) := by decide +kernel
theorem dX4_advance_14 : decode cX4_advance 14 = .ok (.getfield 21, 3) := by decide +kernel
theorem dX4_advance_17 : decode cX4_advance 17 = .ok (.if_icmp .ge 31, 3) := by decide +kernel
theorem dX4_advance_20 : decode cX4_advance 20 = .ok (.aload_n 0, 1) := by decide +kernel
theorem dX4_advance_21 : decode cX4_advance 21 = .ok (.getfield 9, 3) := by decide +kernel
theorem dX4_advance_24 : decode cX4_advance 24 = .ok (.aload_n 0, 1) := by decide +kernel
theorem dX4_advance_25 : decode cX4_advance 25 = .ok (.getfield 28, 3) := by decide +kernel
theorem dX4_advance_28 : decode cX4_advance 28 = .ok (.iaload, 1) := by decide +kernel
theorem dX4_advance_29 : decode cX4_advance 29 = .ok (.invokestatic 101, 3) := by decide +kernel
theorem dX4_advance_32 : decode cX4_advance 32 = .ok (.ifCond .eq 16, 3) := by decide +kernel
theorem dX4_advance_35 : decode cX4_advance 35 = .ok (.aload_n 0, 1) := by decide +kernel
theorem dX4_advance_36 : decode cX4_advance 36 = .ok (.dup, 1) := by decide +kernel
theorem dX4_advance_37 : decode cX4_advance 37 = .ok (.getfield 28, 3) := by decide +kernel
theorem dX4_advance_40 : decode cX4_advance 40 = .ok (.iconst 1, 1) := by decide +kernel
theorem dX4_advance_41 : decode cX4_advance 41 = .ok (.iadd, 1) := by decide +kernel
theorem dX4_advance_42 : decode cX4_advance 42 = .ok (.putfield 28, 3) := by decide +kernel
theorem dX4_advance_45 : decode cX4_advance 45 = .ok (.goto (-36), 3) := by decide +kernel
theorem dX4_advance_48 : decode cX4_advance 48 = .ok (.aload_n 0, 1) := by decide +kernel
theorem dX4_advance_49 : decode cX4_advance 49 = .ok (.aload_n 0, 1) := by decide +kernel
theorem dX4_advance_50 : decode cX4_advance 50 = .ok (.getfield 28, 3) := by decide +kernel
theorem dX4_advance_53 : decode cX4_advance 53 = .ok (.putfield 98, 3) := by decide +kernel
theorem dX4_advance_56 : decode cX4_advance 56 = .ok (.aload_n 0, 1) := by decide +kernel
theorem dX4_advance_57 : decode cX4_advance 57 = .ok (.getfield 28, 3) := by decide +kernel
theorem dX4_advance_60 : decode cX4_advance 60 = .ok (.aload_n 0, 1) := by decide +kernel
theorem dX4_advance_61 : decode cX4_advance 61 = .ok (.getfield 21, 3) := by decide +kernel
theorem dX4_advance_64 : decode cX4_advance 64 = .ok (.if_icmp .lt 11, 3) := by decide +kernel
theorem dX4_advance_67 : decode cX4_advance 67 = .ok (.aload_n 0, 1) := by decide +kernel
theorem dX4_advance_68 : decode cX4_advance 68 = .ok (.iconst 0, 1) := by decide +kernel
theorem dX4_advance_69 : decode cX4_advance 69 = .ok (.putfield 44, 3) := by decide +kernel
theorem dX4_advance_72 : decode cX4_advance 72 = .ok (.goto 191, 3) := by decide +kernel
theorem dX4_advance_75 : decode cX4_advance 75 = .ok (.aload_n 0, 1) := by decide +kernel
theorem dX4_advance_76 : decode cX4_advance 76 = .ok (.getfield 9, 3) := by decide +kernel
theorem dX4_advance_79 : decode cX4_advance 79 = .ok (.aload_n 0, 1) := by decide +kernel
theorem dX4_advance_80 : decode cX4_advance 80 = .ok (.getfield 28, 3) := by decide +kernel
theorem dX4_advance_83 : decode cX4_advance 83 = .ok (.iaload, 1) := by decide +kernel
theorem dX4_advance_84 : decode cX4_advance 84 = .ok (.invokestatic 105, 3) := by decide +kernel
theorem dX4_advance_87 : decode cX4_advance 87 = .ok (.ifCond .eq 61, 3) := by decide +kernel
theorem dX4_advance_90 : decode cX4_advance 90 = .ok (.aload_n 0, 1) := by decide +kernel
theorem dX4_advance_91 : decode cX4_advance 91 = .ok (.getfield 28, 3) := by decide +kernel
theorem dX4_advance_94 : decode cX4_advance 94 = .ok (.aload_n 0, 1) := by decide +kernel
theorem dX4_advance_95 : decode cX4_advance 95 = .ok (.getfield 21, 3) := by decide +kernel
theorem dX4_advance_98 : decode cX4_advance 98 = .ok (.if_icmp .ge 31, 3) := by decide +kernel
theorem dX4_advance_101 : decode cX4_advance 101 = .ok (.aload_n 0, 1) := by decide +kernel
theorem dX4_advance_102 : decode cX4_advance 102 = .ok (.getfield 9, 3) := by decide +kernel
theorem dX4_advance_105 : decode cX4_advance 105 = .ok (.aload_n 0, 1) := by decide +kernel
theorem dX4_advance_106 : decode cX4_advance 106 = .ok (.getfield 28, 3) := by decide +kernel
theorem dX4_advance_109 : decode cX4_advance 109 = .ok (.iaload, 1) := by decide +kernel
theorem dX4_advance_110 : decode cX4_advance 110 = .ok (.invokestatic 105, 3) := by decide +kernel
theorem dX4_advance_113 : decode cX4_advance 113 = .ok (.ifCond .eq 16, 3) := by decide +kernel
theorem dX4_advance_116 : decode cX4_advance 116 = .ok (.aload_n 0, 1) := by decide +kernel
theorem dX4_advance_117 : decode cX4_advance 117 = .ok (.dup, 1) := by decide +kernel
theorem dX4_advance_118 : decode cX4_advance 118 = .ok (.getfield 28, 3) := by decide +kernel
theorem dX4_advance_121 : decode cX4_advance 121 = .ok (.iconst 1, 1) := by decide +kernel
theorem dX4_advance_122 : decode cX4_advance 122 = .ok (.iadd, 1) := by decide +kernel
theorem dX4_advance_123 : decode cX4_advance 123 = .ok (.putfield 28, 3) := by decide +kernel
theorem dX4_advance_126 : decode cX4_advance 126 = .ok (.goto (-36), 3) := by decide +kernel
theorem dX4_advance_129 : decode cX4_advance 129 = .ok (.aload_n 0, 1) := by decide +kernel
theorem dX4_advance_130 : decode cX4_advance 130 = .ok (.aload_n 0, 1) := by decide +kernel
theorem dX4_advance_131 : decode cX4_advance 131 = .ok (.aload_n 0, 1) := by decide +kernel
theorem dX4_advance_132 : decode cX4_advance 132 = .ok (.getfield 98, 3) := by decide +kernel
theorem dX4_advance_135 : decode cX4_advance 135 = .ok (.aload_n 0, 1) := by decide +kernel
theorem dX4_advance_136 : decode cX4_advance 136 = .ok (.getfield 28, 3) := by decide +kernel
theorem dX4_advance_139 : decode cX4_advance 139 = .ok (.invokevirtual 108, 3) := by decide +kernel
theorem dX4_advance_142 : decode cX4_advance 142 = .ok (.putfield 44, 3) := by decide +kernel
theorem dX4_advance_145 : decode cX4_advance 145 = .ok (.goto 118, 3) := by decide +kernel
theorem dX4_advance_148 : decode cX4_advance 148 = .ok (.aload_n 0, 1) := by decide +kernel
theorem dX4_advance_149 : decode cX4_advance 149 = .ok (.getfield 9, 3) := by decide +kernel
theorem dX4_advance_152 : decode cX4_advance 152 = .ok (.aload_n 0, 1) := by decide +kernel
theorem dX4_advance_153 : decode cX4_advance 153 = .ok (.getfield 28, 3) := by decide +kernel
theorem dX4_advance_156 : decode cX4_advance 156 = .ok (.iaload, 1) := by decide +kernel
theorem dX4_advance_157 : decode cX4_advance 157 = .ok (.invokestatic 111, 3) := by decide +kernel
theorem dX4_advance_160 : decode cX4_advance 160 = .ok (.ifCond .eq 61, 3) := by decide +kernel
theorem dX4_advance_163 : decode cX4_advance 163 = .ok (.aload_n 0, 1) := by decide +kernel
theorem dX4_advance_164 : decode cX4_advance 164 = .ok (.getfield 28, 3) := by decide +kernel
theorem dX4_advance_167 : decode cX4_advance 167 = .ok (.aload_n 0, 1) := by decide +kernel
theorem dX4_advance_168 : decode cX4_advance 168 = .ok (.getfield 21, 3) := by decide +kernel
theorem dX4_advance_171 : decode cX4_advance 171 = .ok (.if_icmp .ge 31, 3) := by decide +kernel
theorem dX4_advance_174 : decode cX4_advance 174 = .ok (.aload_n 0, 1) := by decide +kernel
theorem dX4_advance_175 : decode cX4_advance 175 = .ok (.getfield 9, 3) := by decide +kernel
theorem dX4_advance_178 : decode cX4_advance 178 = .ok (.aload_n 0, 1) := by decide +kernel
theorem dX4_advance_179 : decode cX4_advance 179 = .ok (.getfield 28, 3) := by decide +kernel
theorem dX4_advance_182 : decode cX4_advance 182 = .ok (.iaload, 1) := by decide +kernel
theorem dX4_advance_183 : decode cX4_advance 183 = .ok (.invokestatic 111, 3) := by decide +kernel
theorem dX4_advance_186 : decode cX4_advance 186 = .ok (.ifCond .eq 16, 3) := by decide +kernel
theorem dX4_advance_189 : decode cX4_advance 189 = .ok (.aload_n 0, 1) := by decide +kernel
theorem dX4_advance_190 : decode cX4_advance 190 = .ok (.dup, 1) := by decide +kernel
theorem dX4_advance_191 : decode cX4_advance 191 = .ok (.getfield 28, 3) := by decide +kernel
theorem dX4_advance_194 : decode cX4_advance 194 = .ok (.iconst 1, 1) := by decide +kernel
theorem dX4_advance_195 : decode cX4_advance 195 = .ok (.iadd, 1) := by decide +kernel
theorem dX4_advance_196 : decode cX4_advance 196 = .ok (.putfield 28, 3) := by decide +kernel
theorem dX4_advance_199 : decode cX4_advance 199 = .ok (.goto (-36), 3) := by decide +kernel
theorem dX4_advance_202 : decode cX4_advance 202 = .ok (.aload_n 0, 1) := by decide +kernel
theorem dX4_advance_203 : decode cX4_advance 203 = .ok (.aload_n 0, 1) := by decide +kernel
theorem dX4_advance_204 : decode cX4_advance 204 = .ok (.aload_n 0, 1) := by decide +kernel
theorem dX4_advance_205 : decode cX4_advance 205 = .ok (.getfield 98, 3) := by decide +kernel
theorem dX4_advance_208 : decode cX4_advance 208 = .ok (.aload_n 0, 1) := by decide +kernel
theorem dX4_advance_209 : decode cX4_advance 209 = .ok (.getfield 28, 3) := by decide +kernel
theorem dX4_advance_212 : decode cX4_advance 212 = .ok (.invokevirtual 114, 3) := by decide +kernel
theorem dX4_advance_215 : decode cX4_advance 215 = .ok (.putfield 44, 3) := by decide +kernel
theorem dX4_advance_218 : decode cX4_advance 218 = .ok (.goto 45, 3) := by decide +kernel
theorem dX4_advance_221 : decode cX4_advance 221 = .ok (.aload_n 0, 1) := by decide +kernel
theorem dX4_advance_222 : decode cX4_advance 222 = .ok (.aload_n 0, 1) := by decide +kernel
theorem dX4_advance_223 : decode cX4_advance 223 = .ok (.getfield 9, 3) := by decide +kernel
theorem dX4_advance_226 : decode cX4_advance 226 = .ok (.aload_n 0, 1) := by decide +kernel
theorem dX4_advance_227 : decode cX4_advance 227 = .ok (.getfield 28, 3) := by decide +kernel
theorem dX4_advance_230 : decode cX4_advance 230 = .ok (.iaload, 1) := by decide +kernel
theorem dX4_advance_231 : decode cX4_advance 231 = .ok (.invokestatic 117, 3) := by decide +kernel
theorem dX4_advance_234 : decode cX4_advance 234 = .ok (.ifCond .eq 15, 3) := by decide +kernel
theorem dX4_advance_237 : decode cX4_advance 237 = .ok (.aload_n 0, 1) := by decide +kernel
theorem dX4_advance_238 : decode cX4_advance 238 = .ok (.getfield 9, 3) := by decide +kernel
theorem dX4_advance_241 : decode cX4_advance 241 = .ok (.aload_n 0, 1) := by decide +kernel
theorem dX4_advance_242 : decode cX4_advance 242 = .ok (.getfield 28, 3) := by decide +kernel
theorem dX4_advance_245 : decode cX4_advance 245 = .ok (.iaload, 1) := by decide +kernel
theorem dX4_advance_246 : decode cX4_advance 246 = .ok (.goto 4, 3) := by decide +kernel
theorem dX4_advance_249 : decode cX4_advance 249 = .ok (.iconst 1, 1) := by decide +kernel
theorem dX4_advance_250 : decode cX4_advance 250 = .ok (.putfield 44, 3) := by decide +kernel
theorem dX4_advance_253 : decode cX4_advance 253 = .ok (.aload_n 0, 1) := by decide +kernel
theorem dX4_advance_254 : decode cX4_advance 254 = .ok (.dup, 1) := by decide +kernel
theorem dX4_advance_255 : decode cX4_advance 255 = .ok (.getfield 28, 3) := by decide +kernel
theorem dX4_advance_258 : decode cX4_advance 258 = .ok (.iconst 1, 1) := by decide +kernel
theorem dX4_advance_259 : decode cX4_advance 259 = .ok (.iadd, 1) := by decide +kernel
theorem dX4_advance_260 : decode cX4_advance 260 = .ok (.putfield 28, 3) := by decide +kernel
theorem dX4_advance_263 : decode cX4_advance 263 = .ok (.return_, 1) := by decide +kernel
theorem dX4_numberFrom_0 : decode cX4_numberFrom 0 = .ok (.iload_n 2, 1) := by decide +kernel
theorem dX4_numberFrom_1 : decode cX4_numberFrom 1 = .ok (.iload_n 1, 1) := by decide +kernel
theorem dX4_numberFrom_2 : decode cX4_numberFrom 2 = .ok (.isub, 1) := by decide +kernel
theorem dX4_numberFrom_3 : decode cX4_numberFrom 3 = .ok (.iconst 4, 1) := by decide +kernel
theorem dX4_numberFrom_4 : decode cX4_numberFrom 4 = .ok (.if_icmp .le 5, 3) := by decide +kernel
theorem dX4_numberFrom_7 : decode cX4_numberFrom 7 = .ok (.iconst 1, 1) := by decide +kernel
theorem dX4_numberFrom_8 : decode cX4_numberFrom 8 = .ok (.ireturn, 1) := by decide +kernel
theorem dX4_numberFrom_9 : decode cX4_numberFrom 9 = .ok (.aload_n 0, 1) := by decide +kernel
theorem dX4_numberFrom_10 : decode cX4_numberFrom 10 = .ok (.iconst 0, 1) := by decide +kernel
theorem dX4_numberFrom_11 : decode cX4_numberFrom 11 = .ok (.putfield 95, 3) := by decide +kernel
theorem dX4_numberFrom_14 : decode cX4_numberFrom 14 = .ok (.iload_n 1, 1) := by decide +kernel
theorem dX4_numberFrom_15 : decode cX4_numberFrom 15 = .ok (.istore_n 3, 1) := by decide +kernel
theorem dX4_numberFrom_16 : decode cX4_numberFrom 16 = .ok (.iload_n 3, 1) := by decide +kernel
theorem dX4_numberFrom_17 : decode cX4_numberFrom 17 = .ok (.iload_n 2, 1) := by decide +kernel
theorem dX4_numberFrom_18 : decode cX4_numberFrom 18 = .ok (.if_icmp .ge 30, 3) := by decide +kernel
theorem dX4_numberFrom_21 : decode cX4_numberFrom 21 = .ok (.aload_n 0, 1) := by decide +kernel
theorem dX4_numberFrom_22 : decode cX4_numberFrom 22 = .ok (.bipush 10, 2) := by decide +kernel
theorem dX4_numberFrom_24 : decode cX4_numberFrom 24 = .ok (.aload_n 0, 1) := by decide +kernel
theorem dX4_numberFrom_25 : decode cX4_numberFrom 25 = .ok (.getfield 95, 3) := by decide +kernel
theorem dX4_numberFrom_28 : decode cX4_numberFrom 28 = .ok (.imul, 1) := by decide +kernel
theorem dX4_numberFrom_29 : decode cX4_numberFrom 29 = .ok (.aload_n 0, 1) := by decide +kernel
theorem dX4_numberFrom_30 : decode cX4_numberFrom 30 = .ok (.getfield 9, 3) := by decide +kernel
theorem dX4_numberFrom_33 : decode cX4_numberFrom 33 = .ok (.iload_n 3, 1) := by decide +kernel
theorem dX4_numberFrom_34 : decode cX4_numberFrom 34 = .ok (.iaload, 1) := by decide +kernel
theorem dX4_numberFrom_35 : decode cX4_numberFrom 35 = .ok (.iadd, 1) := by decide +kernel
theorem dX4_numberFrom_36 : decode cX4_numberFrom 36 = .ok (.bipush 48, 2) := by decide +kernel
theorem dX4_numberFrom_38 : decode cX4_numberFrom 38 = .ok (.isub, 1) := by decide +kernel
theorem dX4_numberFrom_39 : decode cX4_numberFrom 39 = .ok (.putfield 95, 3) := by decide +kernel
theorem dX4_numberFrom_42 : decode cX4_numberFrom 42 = .ok (.iinc 3 1, 3) := by decide +kernel
theorem dX4_numberFrom_45 : decode cX4_numberFrom 45 = .ok (.goto (-29), 3) := by decide +kernel
theorem dX4_numberFrom_48 : decode cX4_numberFrom 48 = .ok (.iconst 2, 1) := by decide +kernel
theorem dX4_numberFrom_49 : decode cX4_numberFrom 49 = .ok (.ireturn, 1) := by decide +kernel
set_option maxRecDepth 20000 in
theorem ggX4_wordFrom_X4_isWord : GoodIn wsX4_wordFrom wsX4_isWord := goodIn_q _ [5, 11, 16, 22, 25, 30, 34, 37, 40, 44] [6, 7, 8, 9, 10, 12, 13, 14, 15, 17, 18, 19, 20, 21, 23, 24, 26, 27, 28, 29, 31, 32, 33, 35, 36, 38, 39, 41, 42, 43, 45, 46, 47, 48, 49, 50, 51, 52, 53, 54, 55, 56, 57] rfl (by decide +kernel) (by decide +kernel)
set_option maxRecDepth 20000 in
theorem gX4_wordFrom_X4_isWord : GoodIn wsX4_wordFrom (wsV RX4 120 RX4 yX4_isWord wsX4_isWord) := goodIn_app (goodIn_of _ (by decide +kernel)) ggX4_wordFrom_X4_isWord
theorem dX4_wordFrom_0 : decode cX4_wordFrom 0 = .ok (.iconst 0, 1) := by decide +kernel
theorem dX4_wordFrom_1 : decode cX4_wordFrom 1 = .ok (.istore_n 3, 1) := by decide +kernel
theorem dX4_wordFrom_2 : decode cX4_wordFrom 2 = .ok (.iload_n 3, 1) := by decide +kernel
theorem dX4_wordFrom_3 : decode cX4_wordFrom 3 = .ok (.bipush 12, 2) := by decide +kernel
theorem dX4_wordFrom_5 : decode cX4_wordFrom 5 = .ok (.if_icmp .ge 25, 3) := by decide +kernel
theorem dX4_wordFrom_8 : decode cX4_wordFrom 8 = .ok (.aload_n 0, 1) := by decide +kernel
theorem dX4_wordFrom_9 : decode cX4_wordFrom 9 = .ok (.iload_n 3, 1) := by decide +kernel
theorem dX4_wordFrom_10 : decode cX4_wordFrom 10 = .ok (.iload_n 1, 1) := by decide +kernel
theorem dX4_wordFrom_11 : decode cX4_wordFrom 11 = .ok (.iload_n 2, 1) := by decide +kernel
theorem dX4_wordFrom_12 : decode cX4_wordFrom 12 = .ok (.invokevirtual 120, 3) := by decide +kernel
theorem dX4_wordFrom_15 : decode cX4_wordFrom 15 = .ok (.ifCond .eq 9, 3) := by decide +kernel
theorem dX4_wordFrom_18 : decode cX4_wordFrom 18 = .ok (.sipush 1000, 3) := by decide +kernel
theorem dX4_wordFrom_21 : decode cX4_wordFrom 21 = .ok (.iload_n 3, 1) := by decide +kernel
theorem dX4_wordFrom_22 : decode cX4_wordFrom 22 = .ok (.iadd, 1) := by decide +kernel
theorem dX4_wordFrom_23 : decode cX4_wordFrom 23 = .ok (.ireturn, 1) := by decide +kernel
theorem dX4_wordFrom_24 : decode cX4_wordFrom 24 = .ok (.iinc 3 1, 3) := by decide +kernel
theorem dX4_wordFrom_27 : decode cX4_wordFrom 27 = .ok (.goto (-25), 3) := by decide +kernel
theorem dX4_wordFrom_30 : decode cX4_wordFrom 30 = .ok (.iconst 1, 1) := by decide +kernel
theorem dX4_wordFrom_31 : decode cX4_wordFrom 31 = .ok (.ireturn, 1) := by decide +kernel
set_option maxRecDepth 20000 in
theorem ggX4_isWord_J0_charAt_5068e : GoodIn wsX4_isWord wsJ0_charAt_5068e := goodIn_q _ [6, 11, 17, 20, 25, 29, 32, 35, 39] [7, 8, 9, 10, 5, 12, 13, 14, 15, 16, 18, 19, 21, 22, 23, 24, 26, 27, 28, 30, 31, 33, 34, 36, 37, 38, 40, 41, 42] rfl (by decide +kernel) (by decide +kernel)
set_option maxRecDepth 20000 in
theorem gX4_isWord_J0_charAt_5068e : GoodIn wsX4_isWord (wsV RX4 126 RJ0 yJ0_charAt_5068e wsJ0_charAt_5068e) := goodIn_app (goodIn_of _ (by decide +kernel)) ggX4_isWord_J0_charAt_5068e
theorem dX4_isWord_0 : decode cX4_isWord 0 = .ok (.iload_n 3, 1) := by decide +kernel
theorem dX4_isWord_1 : decode cX4_isWord 1 = .ok (.iload_n 2, 1) := by decide +kernel
theorem dX4_isWord_2 : decode cX4_isWord 2 = .ok (.isub, 1) := by decide +kernel
theorem dX4_isWord_3 : decode cX4_isWord 3 = .ok (.bipush 6, 2) := by decide +kernel
theorem dX4_isWord_5 : decode cX4_isWord 5 = .ok (.if_icmp .le 5, 3) := by decide +kernel
theorem dX4_isWord_8 : decode cX4_isWord 8 = .ok (.iconst 0, 1) := by decide +kernel
theorem dX4_isWord_9 : decode cX4_isWord 9 = .ok (.ireturn, 1) := by decide +kernel
theorem dX4_isWord_10 : decode cX4_isWord 10 = .ok (.iconst 0, 1) := by decide +kernel
theorem dX4_isWord_11 : decode cX4_isWord 11 = .ok (.istore 4, 2) := by decide +kernel
theorem dX4_isWord_13 : decode cX4_isWord 13 = .ok (.iload 4, 2) := by decide +kernel
theorem dX4_isWord_15 : decode cX4_isWord 15 = .ok (.bipush 6, 2) := by decide +kernel
theorem dX4_isWord_17 : decode cX4_isWord 17 = .ok (.if_icmp .ge 52, 3) := by decide +kernel
theorem dX4_isWord_20 : decode cX4_isWord 20 = .ok (.iload_n 2, 1) := by decide +kernel
theorem dX4_isWord_21 : decode cX4_isWord 21 = .ok (.iload 4, 2) := by decide +kernel
theorem dX4_isWord_23 : decode cX4_isWord 23 = .ok (.iadd, 1) := by decide +kernel
theorem dX4_isWord_24 : decode cX4_isWord 24 = .ok (.iload_n 3, 1) := by decide +kernel
theorem dX4_isWord_25 : decode cX4_isWord 25 = .ok (.if_icmp .ge 15, 3) := by decide +kernel
theorem dX4_isWord_28 : decode cX4_isWord 28 = .ok (.aload_n 0, 1) := by decide +kernel
theorem dX4_isWord_29 : decode cX4_isWord 29 = .ok (.getfield 9, 3) := by decide +kernel
theorem dX4_isWord_32 : decode cX4_isWord 32 = .ok (.iload_n 2, 1) := by decide +kernel
theorem dX4_isWord_33 : decode cX4_isWord 33 = .ok (.iload 4, 2) := by decide +kernel
theorem dX4_isWord_35 : decode cX4_isWord 35 = .ok (.iadd, 1) := by decide +kernel
theorem dX4_isWord_36 : decode cX4_isWord 36 = .ok (.iaload, 1) := by decide +kernel
theorem dX4_isWord_37 : decode cX4_isWord 37 = .ok (.goto 5, 3) := by decide +kernel
theorem dX4_isWord_40 : decode cX4_isWord 40 = .ok (.bipush 32, 2) := by decide +kernel
theorem dX4_isWord_42 : decode cX4_isWord 42 = .ok (.istore 5, 2) := by decide +kernel
theorem dX4_isWord_44 : decode cX4_isWord 44 = .ok (.iload 5, 2) := by decide +kernel
theorem dX4_isWord_46 : decode cX4_isWord 46 = .ok (.ldc 124, 2) := by decide +kernel
theorem dX4_isWord_48 : decode cX4_isWord 48 = .ok (.bipush 6, 2) := by decide +kernel
theorem dX4_isWord_50 : decode cX4_isWord 50 = .ok (.iload_n 1, 1) := by decide +kernel
theorem dX4_isWord_51 : decode cX4_isWord 51 = .ok (.imul, 1) := by decide +kernel
theorem dX4_isWord_52 : decode cX4_isWord 52 = .ok (.iload 4, 2) := by decide +kernel
theorem dX4_isWord_54 : decode cX4_isWord 54 = .ok (.iadd, 1) := by decide +kernel
theorem dX4_isWord_55 : decode cX4_isWord 55 = .ok (.invokevirtual 126, 3) := by decide +kernel
theorem dX4_isWord_58 : decode cX4_isWord 58 = .ok (.if_icmp .eq 5, 3) := by decide +kernel
theorem dX4_isWord_61 : decode cX4_isWord 61 = .ok (.iconst 0, 1) := by decide +kernel
theorem dX4_isWord_62 : decode cX4_isWord 62 = .ok (.ireturn, 1) := by decide +kernel
theorem dX4_isWord_63 : decode cX4_isWord 63 = .ok (.iinc 4 1, 3) := by decide +kernel
theorem dX4_isWord_66 : decode cX4_isWord 66 = .ok (.goto (-53), 3) := by decide +kernel
theorem dX4_isWord_69 : decode cX4_isWord 69 = .ok (.iconst 1, 1) := by decide +kernel
theorem dX4_isWord_70 : decode cX4_isWord 70 = .ok (.ireturn, 1) := by decide +kernel
theorem dX4_isBlank_0 : decode cX4_isBlank 0 = .ok (.iload_n 0, 1) := by decide +kernel
theorem dX4_isBlank_1 : decode cX4_isBlank 1 = .ok (.bipush 32, 2) := by decide +kernel
theorem dX4_isBlank_3 : decode cX4_isBlank 3 = .ok (.if_icmp .eq 9, 3) := by decide +kernel
theorem dX4_isBlank_6 : decode cX4_isBlank 6 = .ok (.iload_n 0, 1) := by decide +kernel
theorem dX4_isBlank_7 : decode cX4_isBlank 7 = .ok (.bipush 10, 2) := by decide +kernel
theorem dX4_isBlank_9 : decode cX4_isBlank 9 = .ok (.if_icmp .ne 7, 3) := by decide +kernel
theorem dX4_isBlank_12 : decode cX4_isBlank 12 = .ok (.iconst 1, 1) := by decide +kernel
theorem dX4_isBlank_13 : decode cX4_isBlank 13 = .ok (.goto 4, 3) := by decide +kernel
theorem dX4_isBlank_16 : decode cX4_isBlank 16 = .ok (.iconst 0, 1) := by decide +kernel
theorem dX4_isBlank_17 : decode cX4_isBlank 17 = .ok (.ireturn, 1) := by decide +kernel
theorem dX4_isLetter_0 : decode cX4_isLetter 0 = .ok (.iload_n 0, 1) := by decide +kernel
theorem dX4_isLetter_1 : decode cX4_isLetter 1 = .ok (.bipush 97, 2) := by decide +kernel
theorem dX4_isLetter_3 : decode cX4_isLetter 3 = .ok (.if_icmp .lt 13, 3) := by decide +kernel
theorem dX4_isLetter_6 : decode cX4_isLetter 6 = .ok (.iload_n 0, 1) := by decide +kernel
theorem dX4_isLetter_7 : decode cX4_isLetter 7 = .ok (.bipush 122, 2) := by decide +kernel
theorem dX4_isLetter_9 : decode cX4_isLetter 9 = .ok (.if_icmp .gt 7, 3) := by decide +kernel
theorem dX4_isLetter_12 : decode cX4_isLetter 12 = .ok (.iconst 1, 1) := by decide +kernel
theorem dX4_isLetter_13 : decode cX4_isLetter 13 = .ok (.goto 4, 3) := by decide +kernel
theorem dX4_isLetter_16 : decode cX4_isLetter 16 = .ok (.iconst 0, 1) := by decide +kernel
theorem dX4_isLetter_17 : decode cX4_isLetter 17 = .ok (.ireturn, 1) := by decide +kernel
theorem dX4_isDigit_0 : decode cX4_isDigit 0 = .ok (.iload_n 0, 1) := by decide +kernel
theorem dX4_isDigit_1 : decode cX4_isDigit 1 = .ok (.bipush 48, 2) := by decide +kernel
theorem dX4_isDigit_3 : decode cX4_isDigit 3 = .ok (.if_icmp .lt 13, 3) := by decide +kernel
theorem dX4_isDigit_6 : decode cX4_isDigit 6 = .ok (.iload_n 0, 1) := by decide +kernel
theorem dX4_isDigit_7 : decode cX4_isDigit 7 = .ok (.bipush 57, 2) := by decide +kernel
theorem dX4_isDigit_9 : decode cX4_isDigit 9 = .ok (.if_icmp .gt 7, 3) := by decide +kernel
theorem dX4_isDigit_12 : decode cX4_isDigit 12 = .ok (.iconst 1, 1) := by decide +kernel
theorem dX4_isDigit_13 : decode cX4_isDigit 13 = .ok (.goto 4, 3) := by decide +kernel
theorem dX4_isDigit_16 : decode cX4_isDigit 16 = .ok (.iconst 0, 1) := by decide +kernel
theorem dX4_isDigit_17 : decode cX4_isDigit 17 = .ok (.ireturn, 1) := by decide +kernel
set_option maxRecDepth 20000 in
theorem ggX4_isSign_J0_indexOf_0f7a4 : GoodIn wsX4_isSign wsJ0_indexOf_0f7a4 := goodIn_q _ [5, 9, 14, 20, 24, 28, 32, 35, 38, 41, 45, 51, 54, 57, 60, 65, 68, 71, 77, 81, 84, 88] [6, 7, 8, 4, 10, 11, 12, 13, 15, 16, 17, 18, 19, 21, 22, 23, 25, 26, 27, 29, 30, 31, 33, 34, 36, 37, 39, 40, 42, 43, 44, 46, 47, 48, 49, 50, 52, 53, 55, 56, 58, 59, 61, 62, 63, 64, 66, 67, 69, 70, 72, 73, 74, 75, 76, 78, 79, 80, 82, 83, 85, 86, 87, 89] rfl (by decide +kernel) (by decide +kernel)
set_option maxRecDepth 20000 in
theorem gX4_isSign_J0_indexOf_0f7a4 : GoodIn wsX4_isSign (wsV RX4 134 RJ0 yJ0_indexOf_0f7a4 wsJ0_indexOf_0f7a4) := goodIn_app (goodIn_of _ (by decide +kernel)) ggX4_isSign_J0_indexOf_0f7a4
theorem dX4_isSign_0 : decode cX4_isSign 0 = .ok (.ldc 132, 2) := by decide +kernel
theorem dX4_isSign_2 : decode cX4_isSign 2 = .ok (.iload_n 0, 1) := by decide +kernel
theorem dX4_isSign_3 : decode cX4_isSign 3 = .ok (.i2c, 1) := by decide +kernel
theorem dX4_isSign_4 : decode cX4_isSign 4 = .ok (.invokevirtual 134, 3) := by decide +kernel
theorem dX4_isSign_7 : decode cX4_isSign 7 = .ok (.ifCond .lt 7, 3) := by decide +kernel
theorem dX4_isSign_10 : decode cX4_isSign 10 = .ok (.iconst 1, 1) := by decide +kernel
theorem dX4_isSign_11 : decode cX4_isSign 11 = .ok (.goto 4, 3) := by decide +kernel
theorem dX4_isSign_14 : decode cX4_isSign 14 = .ok (.iconst 0, 1) := by decide +kernel
theorem dX4_isSign_15 : decode cX4_isSign 15 = .ok (.ireturn, 1) := by decide +kernel
theorem dX5_init_0 : decode cX5_init 0 = .ok (.aload_n 0, 1) := by decide +kernel
theorem dX5_init_1 : decode cX5_init 1 = .ok (.invokespecial 1, 3) := by decide +kernel
theorem dX5_init_4 : decode cX5_init 4 = .ok (.aload_n 0, 1) := by decide +kernel
theorem dX5_init_5 : decode cX5_init 5 = .ok (.aload_n 1, 1) := by decide +kernel
theorem dX5_init_6 : decode cX5_init 6 = .ok (.putfield 7, 3) := by decide +kernel
theorem dX5_init_9 : decode cX5_init 9 = .ok (.aload_n 0, 1) := by decide +kernel
theorem dX5_init_10 : decode cX5_init 10 = .ok (.aload_n 2, 1) := by decide +kernel
theorem dX5_init_11 : decode cX5_init 11 = .ok (.putfield 13, 3) := by decide +kernel
theorem dX5_init_14 : decode cX5_init 14 = .ok (.return_, 1) := by decide +kernel
set_option maxRecDepth 20000 in
theorem ggX5_value_X5_joined : GoodIn wsX5_value wsX5_joined := goodIn_q _ [6] [] rfl (by decide +kernel) (by decide +kernel)
set_option maxRecDepth 20000 in
theorem gX5_value_X5_joined : GoodIn wsX5_value (va_wsS RX5 16 yX5_joined wsX5_joined) := goodIn_app (goodIn_of _ (by decide +kernel)) ggX5_value_X5_joined
theorem dX5_value_0 : decode cX5_value 0 = .ok (.iload_n 1, 1) := by decide +kernel
theorem dX5_value_1 : decode cX5_value 1 = .ok (.ifCond .lt 12, 3) := by decide +kernel
theorem dX5_value_4 : decode cX5_value 4 = .ok (.iload_n 1, 1) := by decide +kernel
theorem dX5_value_5 : decode cX5_value 5 = .ok (.aload_n 0, 1) := by decide +kernel
theorem dX5_value_6 : decode cX5_value 6 = .ok (.getfield 13, 3) := by decide +kernel
theorem dX5_value_9 : decode cX5_value 9 = .ok (.arraylength, 1) := by decide +kernel
theorem dX5_value_10 : decode cX5_value 10 = .ok (.if_icmp .lt 5, 3) := by decide +kernel
theorem dX5_value_13 : decode cX5_value 13 = .ok (.iconst 0, 1) := by decide +kernel
theorem dX5_value_14 : decode cX5_value 14 = .ok (.ireturn, 1) := by decide +kernel
theorem dX5_value_15 : decode cX5_value 15 = .ok (.iconst 0, 1) := by decide +kernel
theorem dX5_value_16 : decode cX5_value 16 = .ok (.istore 4, 2) := by decide +kernel
theorem dX5_value_18 : decode cX5_value 18 = .ok (.iload_n 1, 1) := by decide +kernel
theorem dX5_value_19 : decode cX5_value 19 = .ok (.ifCond .ne 7, 3) := by decide +kernel
theorem dX5_value_22 : decode cX5_value 22 = .ok (.iconst 0, 1) := by decide +kernel
theorem dX5_value_23 : decode cX5_value 23 = .ok (.goto 11, 3) := by decide +kernel
theorem dX5_value_26 : decode cX5_value 26 = .ok (.aload_n 0, 1) := by decide +kernel
theorem dX5_value_27 : decode cX5_value 27 = .ok (.getfield 13, 3) := by decide +kernel
theorem dX5_value_30 : decode cX5_value 30 = .ok (.iload_n 1, 1) := by decide +kernel
theorem dX5_value_31 : decode cX5_value 31 = .ok (.iconst 1, 1) := by decide +kernel
theorem dX5_value_32 : decode cX5_value 32 = .ok (.isub, 1) := by decide +kernel
theorem dX5_value_33 : decode cX5_value 33 = .ok (.iaload, 1) := by decide +kernel
theorem dX5_value_34 : decode cX5_value 34 = .ok (.istore 5, 2) := by decide +kernel
theorem dX5_value_36 : decode cX5_value 36 = .ok (.iload 5, 2) := by decide +kernel
theorem dX5_value_38 : decode cX5_value 38 = .ok (.aload_n 0, 1) := by decide +kernel
theorem dX5_value_39 : decode cX5_value 39 = .ok (.getfield 13, 3) := by decide +kernel
theorem dX5_value_42 : decode cX5_value 42 = .ok (.iload_n 1, 1) := by decide +kernel
theorem dX5_value_43 : decode cX5_value 43 = .ok (.iaload, 1) := by decide +kernel
theorem dX5_value_44 : decode cX5_value 44 = .ok (.if_icmp .ge 151, 3) := by decide +kernel
theorem dX5_value_47 : decode cX5_value 47 = .ok (.iload 5, 2) := by decide +kernel
theorem dX5_value_49 : decode cX5_value 49 = .ok (.aload_n 0, 1) := by decide +kernel
theorem dX5_value_50 : decode cX5_value 50 = .ok (.getfield 7, 3) := by decide +kernel
theorem dX5_value_53 : decode cX5_value 53 = .ok (.arraylength, 1) := by decide +kernel
theorem dX5_value_54 : decode cX5_value 54 = .ok (.if_icmp .ge 141, 3) := by decide +kernel
theorem dX5_value_57 : decode cX5_value 57 = .ok (.aload_n 0, 1) := by decide +kernel
theorem dX5_value_58 : decode cX5_value 58 = .ok (.getfield 7, 3) := by decide +kernel
theorem dX5_value_61 : decode cX5_value 61 = .ok (.iload 5, 2) := by decide +kernel
theorem dX5_value_63 : decode cX5_value 63 = .ok (.iaload, 1) := by decide +kernel
theorem dX5_value_64 : decode cX5_value 64 = .ok (.istore 6, 2) := by decide +kernel
theorem dX5_value_66 : decode cX5_value 66 = .ok (.iload 6, 2) := by decide +kernel
theorem dX5_value_68 : decode cX5_value 68 = .ok (.bipush (-6), 2) := by decide +kernel
theorem dX5_value_70 : decode cX5_value 70 = .ok (.if_icmp .lt 36, 3) := by decide +kernel
theorem dX5_value_73 : decode cX5_value 73 = .ok (.iload 4, 2) := by decide +kernel
theorem dX5_value_75 : decode cX5_value 75 = .ok (.aload_n 3, 1) := by decide +kernel
theorem dX5_value_76 : decode cX5_value 76 = .ok (.arraylength, 1) := by decide +kernel
theorem dX5_value_77 : decode cX5_value 77 = .ok (.if_icmp .ge 112, 3) := by decide +kernel
theorem dX5_value_80 : decode cX5_value 80 = .ok (.aload_n 3, 1) := by decide +kernel
theorem dX5_value_81 : decode cX5_value 81 = .ok (.iload 4, 2) := by decide +kernel
theorem dX5_value_83 : decode cX5_value 83 = .ok (.iload 6, 2) := by decide +kernel
theorem dX5_value_85 : decode cX5_value 85 = .ok (.ifCond .lt 8, 3) := by decide +kernel
theorem dX5_value_88 : decode cX5_value 88 = .ok (.iload 6, 2) := by decide +kernel
theorem dX5_value_90 : decode cX5_value 90 = .ok (.goto 9, 3) := by decide +kernel
theorem dX5_value_93 : decode cX5_value 93 = .ok (.aload_n 2, 1) := by decide +kernel
theorem dX5_value_94 : decode cX5_value 94 = .ok (.iconst (-1), 1) := by decide +kernel
theorem dX5_value_95 : decode cX5_value 95 = .ok (.iload 6, 2) := by decide +kernel
theorem dX5_value_97 : decode cX5_value 97 = .ok (.isub, 1) := by decide +kernel
theorem dX5_value_98 : decode cX5_value 98 = .ok (.iaload, 1) := by decide +kernel
theorem dX5_value_99 : decode cX5_value 99 = .ok (.iastore, 1) := by decide +kernel
theorem dX5_value_100 : decode cX5_value 100 = .ok (.iinc 4 1, 3) := by decide +kernel
theorem dX5_value_103 : decode cX5_value 103 = .ok (.goto 86, 3) := by decide +kernel
theorem dX5_value_106 : decode cX5_value 106 = .ok (.iload 6, 2) := by decide +kernel
theorem dX5_value_108 : decode cX5_value 108 = .ok (.bipush (-8), 2) := by decide +kernel
theorem dX5_value_110 : decode cX5_value 110 = .ok (.if_icmp .lt 49, 3) := by decide +kernel
theorem dX5_value_113 : decode cX5_value 113 = .ok (.iload 4, 2) := by decide +kernel
theorem dX5_value_115 : decode cX5_value 115 = .ok (.iconst 1, 1) := by decide +kernel
theorem dX5_value_116 : decode cX5_value 116 = .ok (.if_icmp .lt 73, 3) := by decide +kernel
theorem dX5_value_119 : decode cX5_value 119 = .ok (.aload_n 3, 1) := by decide +kernel
theorem dX5_value_120 : decode cX5_value 120 = .ok (.iload 4, 2) := by decide +kernel
theorem dX5_value_122 : decode cX5_value 122 = .ok (.iconst 1, 1) := by decide +kernel
theorem dX5_value_123 : decode cX5_value 123 = .ok (.isub, 1) := by decide +kernel
theorem dX5_value_124 : decode cX5_value 124 = .ok (.iload 6, 2) := by decide +kernel
theorem dX5_value_126 : decode cX5_value 126 = .ok (.bipush (-7), 2) := by decide +kernel
theorem dX5_value_128 : decode cX5_value 128 = .ok (.if_icmp .ne 13, 3) := by decide +kernel
theorem dX5_value_131 : decode cX5_value 131 = .ok (.aload_n 3, 1) := by decide +kernel
theorem dX5_value_132 : decode cX5_value 132 = .ok (.iload 4, 2) := by decide +kernel
theorem dX5_value_134 : decode cX5_value 134 = .ok (.iconst 1, 1) := by decide +kernel
theorem dX5_value_135 : decode cX5_value 135 = .ok (.isub, 1) := by decide +kernel
theorem dX5_value_136 : decode cX5_value 136 = .ok (.iaload, 1) := by decide +kernel
theorem dX5_value_137 : decode cX5_value 137 = .ok (.ineg, 1) := by decide +kernel
theorem dX5_value_138 : decode cX5_value 138 = .ok (.goto 17, 3) := by decide +kernel
theorem dX5_value_141 : decode cX5_value 141 = .ok (.aload_n 3, 1) := by decide +kernel
theorem dX5_value_142 : decode cX5_value 142 = .ok (.iload 4, 2) := by decide +kernel
theorem dX5_value_144 : decode cX5_value 144 = .ok (.iconst 1, 1) := by decide +kernel
theorem dX5_value_145 : decode cX5_value 145 = .ok (.isub, 1) := by decide +kernel
theorem dX5_value_146 : decode cX5_value 146 = .ok (.iaload, 1) := by decide +kernel
theorem dX5_value_147 : decode cX5_value 147 = .ok (.ifCond .ne 7, 3) := by decide +kernel
theorem dX5_value_150 : decode cX5_value 150 = .ok (.iconst 1, 1) := by decide +kernel
theorem dX5_value_151 : decode cX5_value 151 = .ok (.goto 4, 3) := by decide +kernel
theorem dX5_value_154 : decode cX5_value 154 = .ok (.iconst 0, 1) := by decide +kernel
theorem dX5_value_155 : decode cX5_value 155 = .ok (.iastore, 1) := by decide +kernel
theorem dX5_value_156 : decode cX5_value 156 = .ok (.goto 33, 3) := by decide +kernel
theorem dX5_value_159 : decode cX5_value 159 = .ok (.iload 4, 2) := by decide +kernel
theorem dX5_value_161 : decode cX5_value 161 = .ok (.iconst 2, 1) := by decide +kernel
theorem dX5_value_162 : decode cX5_value 162 = .ok (.if_icmp .lt 27, 3) := by decide +kernel
theorem dX5_value_165 : decode cX5_value 165 = .ok (.iinc 4 (-1), 3) := by decide +kernel
theorem dX5_value_168 : decode cX5_value 168 = .ok (.aload_n 3, 1) := by decide +kernel
theorem dX5_value_169 : decode cX5_value 169 = .ok (.iload 4, 2) := by decide +kernel
theorem dX5_value_171 : decode cX5_value 171 = .ok (.iconst 1, 1) := by decide +kernel
theorem dX5_value_172 : decode cX5_value 172 = .ok (.isub, 1) := by decide +kernel
theorem dX5_value_173 : decode cX5_value 173 = .ok (.iload 6, 2) := by decide +kernel
theorem dX5_value_175 : decode cX5_value 175 = .ok (.aload_n 3, 1) := by decide +kernel
theorem dX5_value_176 : decode cX5_value 176 = .ok (.iload 4, 2) := by decide +kernel
theorem dX5_value_178 : decode cX5_value 178 = .ok (.iconst 1, 1) := by decide +kernel
theorem dX5_value_179 : decode cX5_value 179 = .ok (.isub, 1) := by decide +kernel
theorem dX5_value_180 : decode cX5_value 180 = .ok (.iaload, 1) := by decide +kernel
theorem dX5_value_181 : decode cX5_value 181 = .ok (.aload_n 3, 1) := by decide +kernel
theorem dX5_value_182 : decode cX5_value 182 = .ok (.iload 4, 2) := by decide +kernel
theorem dX5_value_184 : decode cX5_value 184 = .ok (.iaload, 1) := by decide +kernel
theorem dX5_value_185 : decode cX5_value 185 = .ok (.invokestatic 16, 3) := by decide +kernel
theorem dX5_value_188 : decode cX5_value 188 = .ok (.iastore, 1) := by decide +kernel
theorem dX5_value_189 : decode cX5_value 189 = .ok (.iinc 5 1, 3) := by decide +kernel
theorem dX5_value_192 : decode cX5_value 192 = .ok (.goto (-156), 3) := by decide +kernel
theorem dX5_value_195 : decode cX5_value 195 = .ok (.iload 4, 2) := by decide +kernel
theorem dX5_value_197 : decode cX5_value 197 = .ok (.ifCond .le 9, 3) := by decide +kernel
theorem dX5_value_200 : decode cX5_value 200 = .ok (.aload_n 3, 1) := by decide +kernel
theorem dX5_value_201 : decode cX5_value 201 = .ok (.iconst 0, 1) := by decide +kernel
theorem dX5_value_202 : decode cX5_value 202 = .ok (.iaload, 1) := by decide +kernel
theorem dX5_value_203 : decode cX5_value 203 = .ok (.goto 4, 3) := by decide +kernel
theorem dX5_value_206 : decode cX5_value 206 = .ok (.iconst 0, 1) := by decide +kernel
theorem dX5_value_207 : decode cX5_value 207 = .ok (.ireturn, 1) := by decide +kernel
theorem dX5_joined_0 : decode cX5_joined 0 = .ok (.iload_n 0, 1) := by decide +kernel
theorem dX5_joined_1 : decode cX5_joined 1 = .ok (.tableswitch 105 (-15) (-9) #[91, 77, 66, 55, 51, 47, 43], 43) := by decide +kernel
theorem dX5_joined_44 : decode cX5_joined 44 = .ok (.iload_n 1, 1) := by decide +kernel
theorem dX5_joined_45 : decode cX5_joined 45 = .ok (.iload_n 2, 1) := by decide +kernel
theorem dX5_joined_46 : decode cX5_joined 46 = .ok (.imul, 1) := by decide +kernel
theorem dX5_joined_47 : decode cX5_joined 47 = .ok (.ireturn, 1) := by decide +kernel
theorem dX5_joined_48 : decode cX5_joined 48 = .ok (.iload_n 1, 1) := by decide +kernel
theorem dX5_joined_49 : decode cX5_joined 49 = .ok (.iload_n 2, 1) := by decide +kernel
theorem dX5_joined_50 : decode cX5_joined 50 = .ok (.iadd, 1) := by decide +kernel
theorem dX5_joined_51 : decode cX5_joined 51 = .ok (.ireturn, 1) := by decide +kernel
theorem dX5_joined_52 : decode cX5_joined 52 = .ok (.iload_n 1, 1) := by decide +kernel
theorem dX5_joined_53 : decode cX5_joined 53 = .ok (.iload_n 2, 1) := by decide +kernel
theorem dX5_joined_54 : decode cX5_joined 54 = .ok (.isub, 1) := by decide +kernel
theorem dX5_joined_55 : decode cX5_joined 55 = .ok (.ireturn, 1) := by decide +kernel
theorem dX5_joined_56 : decode cX5_joined 56 = .ok (.iload_n 1, 1) := by decide +kernel
theorem dX5_joined_57 : decode cX5_joined 57 = .ok (.iload_n 2, 1) := by decide +kernel
theorem dX5_joined_58 : decode cX5_joined 58 = .ok (.if_icmp .ge 7, 3) := by decide +kernel
theorem dX5_joined_61 : decode cX5_joined 61 = .ok (.iconst 1, 1) := by decide +kernel
theorem dX5_joined_62 : decode cX5_joined 62 = .ok (.goto 4, 3) := by decide +kernel
theorem dX5_joined_65 : decode cX5_joined 65 = .ok (.iconst 0, 1) := by decide +kernel
theorem dX5_joined_66 : decode cX5_joined 66 = .ok (.ireturn, 1) := by decide +kernel
theorem dX5_joined_67 : decode cX5_joined 67 = .ok (.iload_n 1, 1) := by decide +kernel
theorem dX5_joined_68 : decode cX5_joined 68 = .ok (.iload_n 2, 1) := by decide +kernel
theorem dX5_joined_69 : decode cX5_joined 69 = .ok (.if_icmp .ne 7, 3) := by decide +kernel
theorem dX5_joined_72 : decode cX5_joined 72 = .ok (.iconst 1, 1) := by decide +kernel
theorem dX5_joined_73 : decode cX5_joined 73 = .ok (.goto 4, 3) := by decide +kernel
theorem dX5_joined_76 : decode cX5_joined 76 = .ok (.iconst 0, 1) := by decide +kernel
theorem dX5_joined_77 : decode cX5_joined 77 = .ok (.ireturn, 1) := by decide +kernel
theorem dX5_joined_78 : decode cX5_joined 78 = .ok (.iload_n 1, 1) := by decide +kernel
theorem dX5_joined_79 : decode cX5_joined 79 = .ok (.ifCond .eq 11, 3) := by decide +kernel
theorem dX5_joined_82 : decode cX5_joined 82 = .ok (.iload_n 2, 1) := by decide +kernel
theorem dX5_joined_83 : decode cX5_joined 83 = .ok (.ifCond .eq 7, 3) := by decide +kernel
theorem dX5_joined_86 : decode cX5_joined 86 = .ok (.iconst 1, 1) := by decide +kernel
theorem dX5_joined_87 : decode cX5_joined 87 = .ok (.goto 4, 3) := by decide +kernel
theorem dX5_joined_90 : decode cX5_joined 90 = .ok (.iconst 0, 1) := by decide +kernel
theorem dX5_joined_91 : decode cX5_joined 91 = .ok (.ireturn, 1) := by decide +kernel
theorem dX5_joined_92 : decode cX5_joined 92 = .ok (.iload_n 1, 1) := by decide +kernel
theorem dX5_joined_93 : decode cX5_joined 93 = .ok (.ifCond .ne 7, 3) := by decide +kernel
theorem dX5_joined_96 : decode cX5_joined 96 = .ok (.iload_n 2, 1) := by decide +kernel
theorem dX5_joined_97 : decode cX5_joined 97 = .ok (.ifCond .eq 7, 3) := by decide +kernel
theorem dX5_joined_100 : decode cX5_joined 100 = .ok (.iconst 1, 1) := by decide +kernel
theorem dX5_joined_101 : decode cX5_joined 101 = .ok (.goto 4, 3) := by decide +kernel
theorem dX5_joined_104 : decode cX5_joined 104 = .ok (.iconst 0, 1) := by decide +kernel
theorem dX5_joined_105 : decode cX5_joined 105 = .ok (.ireturn, 1) := by decide +kernel
theorem dX5_joined_106 : decode cX5_joined 106 = .ok (.iconst 0, 1) := by decide +kernel
theorem dX5_joined_107 : decode cX5_joined 107 = .ok (.ireturn, 1) := by decide +kernel
set_option maxRecDepth 20000 in
theorem ggX6_init_X1_init : GoodIn wsX6_init wsX1_init := goodIn_q _ [35, 3] [36, 2, 37, 38, 21, 39, 40, 41, 42, 74, 75, 76, 77, 78, 79, 80, 81, 82] rfl (by decide +kernel) (by decide +kernel)
set_option maxRecDepth 20000 in
theorem gX6_init_X1_init_n9 : GoodIn wsX6_init (wsX1_init) := ggX6_init_X1_init
set_option maxRecDepth 20000 in
theorem ggX6_init_X2_init : GoodIn wsX6_init wsX2_init := goodIn_q _ [44, 3] [45, 2, 21, 46, 47, 48, 49, 50, 51, 52, 53, 95, 96, 97, 98, 99, 100, 101, 102, 103, 104, 105] rfl (by decide +kernel) (by decide +kernel)
set_option maxRecDepth 20000 in
theorem gX6_init_X2_init_n24 : GoodIn wsX6_init (wsX2_init) := ggX6_init_X2_init
set_option maxRecDepth 20000 in
theorem ggX6_init_X0_init : GoodIn wsX6_init wsX0_init := goodIn_q _ [55, 3] [56, 2] rfl (by decide +kernel) (by decide +kernel)
set_option maxRecDepth 20000 in
theorem gX6_init_X0_init_n31 : GoodIn wsX6_init (wsX0_init) := ggX6_init_X0_init
set_option maxRecDepth 20000 in
theorem ggX6_init_X5_init : GoodIn wsX6_init wsX5_init := goodIn_q _ [59, 3] [60, 2, 61, 62, 108, 109] rfl (by decide +kernel) (by decide +kernel)
set_option maxRecDepth 20000 in
theorem gX6_init_X5_init : GoodIn wsX6_init (wsX5_init) := ggX6_init_X5_init
set_option maxRecDepth 20000 in
theorem ggX6_init_X4_init : GoodIn wsX6_init wsX4_init := goodIn_q _ [64, 3] [65, 2, 21, 66, 67, 68, 110, 111, 112, 113, 114, 115, 116, 117, 118, 119] rfl (by decide +kernel) (by decide +kernel)
set_option maxRecDepth 20000 in
theorem gX6_init_X4_init_n55 : GoodIn wsX6_init (wsX4_init) := ggX6_init_X4_init
set_option maxRecDepth 20000 in
theorem ggX6_init_X3_init : GoodIn wsX6_init wsX3_init := goodIn_q _ [70, 3] [71, 2, 72, 21, 73, 120, 121, 122] rfl (by decide +kernel) (by decide +kernel)
set_option maxRecDepth 20000 in
theorem gX6_init_X3_init_n70 : GoodIn wsX6_init (wsX3_init) := ggX6_init_X3_init
