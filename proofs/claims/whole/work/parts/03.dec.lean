theorem dX0_init_0 : decode cX0_init 0 = .ok (.aload_n 0, 1) := by decide +kernel
theorem dX0_init_1 : decode cX0_init 1 = .ok (.invokespecial 3, 3) := by decide +kernel
theorem dX0_init_4 : decode cX0_init 4 = .ok (.aload_n 0, 1) := by decide +kernel
theorem dX0_init_5 : decode cX0_init 5 = .ok (.new 9, 3) := by decide +kernel
theorem dX0_init_8 : decode cX0_init 8 = .ok (.dup, 1) := by decide +kernel
theorem dX0_init_9 : decode cX0_init 9 = .ok (.invokespecial 11, 3) := by decide +kernel
theorem dX0_init_12 : decode cX0_init 12 = .ok (.putfield 12, 3) := by decide +kernel
theorem dX0_init_15 : decode cX0_init 15 = .ok (.aload_n 0, 1) := by decide +kernel
theorem dX0_init_16 : decode cX0_init 16 = .ok (.new 18, 3) := by decide +kernel
theorem dX0_init_19 : decode cX0_init 19 = .ok (.dup, 1) := by decide +kernel
theorem dX0_init_20 : decode cX0_init 20 = .ok (.iconst 0, 1) := by decide +kernel
theorem dX0_init_21 : decode cX0_init 21 = .ok (.invokespecial 20, 3) := by decide +kernel
theorem dX0_init_24 : decode cX0_init 24 = .ok (.putfield 23, 3) := by decide +kernel
theorem dX0_init_27 : decode cX0_init 27 = .ok (.aload_n 0, 1) := by decide +kernel
theorem dX0_init_28 : decode cX0_init 28 = .ok (.new 18, 3) := by decide +kernel
theorem dX0_init_31 : decode cX0_init 31 = .ok (.dup, 1) := by decide +kernel
theorem dX0_init_32 : decode cX0_init 32 = .ok (.iconst 1, 1) := by decide +kernel
theorem dX0_init_33 : decode cX0_init 33 = .ok (.invokespecial 20, 3) := by decide +kernel
theorem dX0_init_36 : decode cX0_init 36 = .ok (.putfield 27, 3) := by decide +kernel
theorem dX0_init_39 : decode cX0_init 39 = .ok (.aload_n 0, 1) := by decide +kernel
theorem dX0_init_40 : decode cX0_init 40 = .ok (.new 30, 3) := by decide +kernel
theorem dX0_init_43 : decode cX0_init 43 = .ok (.dup, 1) := by decide +kernel
theorem dX0_init_44 : decode cX0_init 44 = .ok (.bipush 50, 2) := by decide +kernel
theorem dX0_init_46 : decode cX0_init 46 = .ok (.invokespecial 32, 3) := by decide +kernel
theorem dX0_init_49 : decode cX0_init 49 = .ok (.putfield 33, 3) := by decide +kernel
theorem dX0_init_52 : decode cX0_init 52 = .ok (.aload_n 0, 1) := by decide +kernel
theorem dX0_init_53 : decode cX0_init 53 = .ok (.new 30, 3) := by decide +kernel
theorem dX0_init_56 : decode cX0_init 56 = .ok (.dup, 1) := by decide +kernel
theorem dX0_init_57 : decode cX0_init 57 = .ok (.bipush 20, 2) := by decide +kernel
theorem dX0_init_59 : decode cX0_init 59 = .ok (.invokespecial 32, 3) := by decide +kernel
theorem dX0_init_62 : decode cX0_init 62 = .ok (.putfield 37, 3) := by decide +kernel
theorem dX0_init_65 : decode cX0_init 65 = .ok (.aload_n 0, 1) := by decide +kernel
theorem dX0_init_66 : decode cX0_init 66 = .ok (.iconst 1, 1) := by decide +kernel
theorem dX0_init_67 : decode cX0_init 67 = .ok (.putfield 40, 3) := by decide +kernel
theorem dX0_init_70 : decode cX0_init 70 = .ok (.return_, 1) := by decide +kernel
theorem dX0_lawOf_0 : decode cX0_lawOf 0 = .ok (.iload_n 1, 1) := by decide +kernel
theorem dX0_lawOf_1 : decode cX0_lawOf 1 = .ok (.ifCond .ne 10, 3) := by decide +kernel
theorem dX0_lawOf_4 : decode cX0_lawOf 4 = .ok (.aload_n 0, 1) := by decide +kernel
theorem dX0_lawOf_5 : decode cX0_lawOf 5 = .ok (.getfield 23, 3) := by decide +kernel
theorem dX0_lawOf_8 : decode cX0_lawOf 8 = .ok (.goto 7, 3) := by decide +kernel
theorem dX0_lawOf_11 : decode cX0_lawOf 11 = .ok (.aload_n 0, 1) := by decide +kernel
theorem dX0_lawOf_12 : decode cX0_lawOf 12 = .ok (.getfield 27, 3) := by decide +kernel
theorem dX0_lawOf_15 : decode cX0_lawOf 15 = .ok (.areturn, 1) := by decide +kernel
theorem dX0_draw_0 : decode cX0_draw 0 = .ok (.aload_n 0, 1) := by decide +kernel
theorem dX0_draw_1 : decode cX0_draw 1 = .ok (.aload_n 0, 1) := by decide +kernel
theorem dX0_draw_2 : decode cX0_draw 2 = .ok (.getfield 40, 3) := by decide +kernel
theorem dX0_draw_5 : decode cX0_draw 5 = .ok (.ldc 44, 2) := by decide +kernel
theorem dX0_draw_7 : decode cX0_draw 7 = .ok (.imul, 1) := by decide +kernel
theorem dX0_draw_8 : decode cX0_draw 8 = .ok (.sipush 12345, 3) := by decide +kernel
theorem dX0_draw_11 : decode cX0_draw 11 = .ok (.iadd, 1) := by decide +kernel
theorem dX0_draw_12 : decode cX0_draw 12 = .ok (.putfield 40, 3) := by decide +kernel
theorem dX0_draw_15 : decode cX0_draw 15 = .ok (.aload_n 0, 1) := by decide +kernel
theorem dX0_draw_16 : decode cX0_draw 16 = .ok (.getfield 40, 3) := by decide +kernel
theorem dX0_draw_19 : decode cX0_draw 19 = .ok (.bipush 8, 2) := by decide +kernel
theorem dX0_draw_21 : decode cX0_draw 21 = .ok (.iushr, 1) := by decide +kernel
theorem dX0_draw_22 : decode cX0_draw 22 = .ok (.ireturn, 1) := by decide +kernel
theorem dX0_copyFrom_0 : decode cX0_copyFrom 0 = .ok (.aload_n 0, 1) := by decide +kernel
theorem dX0_copyFrom_1 : decode cX0_copyFrom 1 = .ok (.getfield 12, 3) := by decide +kernel
theorem dX0_copyFrom_4 : decode cX0_copyFrom 4 = .ok (.aload_n 1, 1) := by decide +kernel
theorem dX0_copyFrom_5 : decode cX0_copyFrom 5 = .ok (.getfield 12, 3) := by decide +kernel
theorem dX0_copyFrom_8 : decode cX0_copyFrom 8 = .ok (.invokevirtual 45, 3) := by decide +kernel
theorem dX0_copyFrom_11 : decode cX0_copyFrom 11 = .ok (.aload_n 0, 1) := by decide +kernel
theorem dX0_copyFrom_12 : decode cX0_copyFrom 12 = .ok (.getfield 23, 3) := by decide +kernel
theorem dX0_copyFrom_15 : decode cX0_copyFrom 15 = .ok (.aload_n 1, 1) := by decide +kernel
theorem dX0_copyFrom_16 : decode cX0_copyFrom 16 = .ok (.getfield 23, 3) := by decide +kernel
theorem dX0_copyFrom_19 : decode cX0_copyFrom 19 = .ok (.invokevirtual 49, 3) := by decide +kernel
theorem dX0_copyFrom_22 : decode cX0_copyFrom 22 = .ok (.aload_n 0, 1) := by decide +kernel
theorem dX0_copyFrom_23 : decode cX0_copyFrom 23 = .ok (.getfield 27, 3) := by decide +kernel
theorem dX0_copyFrom_26 : decode cX0_copyFrom 26 = .ok (.aload_n 1, 1) := by decide +kernel
theorem dX0_copyFrom_27 : decode cX0_copyFrom 27 = .ok (.getfield 27, 3) := by decide +kernel
theorem dX0_copyFrom_30 : decode cX0_copyFrom 30 = .ok (.invokevirtual 49, 3) := by decide +kernel
theorem dX0_copyFrom_33 : decode cX0_copyFrom 33 = .ok (.aload_n 0, 1) := by decide +kernel
theorem dX0_copyFrom_34 : decode cX0_copyFrom 34 = .ok (.getfield 33, 3) := by decide +kernel
theorem dX0_copyFrom_37 : decode cX0_copyFrom 37 = .ok (.aload_n 1, 1) := by decide +kernel
theorem dX0_copyFrom_38 : decode cX0_copyFrom 38 = .ok (.getfield 33, 3) := by decide +kernel
theorem dX0_copyFrom_41 : decode cX0_copyFrom 41 = .ok (.invokevirtual 52, 3) := by decide +kernel
theorem dX0_copyFrom_44 : decode cX0_copyFrom 44 = .ok (.aload_n 0, 1) := by decide +kernel
theorem dX0_copyFrom_45 : decode cX0_copyFrom 45 = .ok (.getfield 37, 3) := by decide +kernel
theorem dX0_copyFrom_48 : decode cX0_copyFrom 48 = .ok (.aload_n 1, 1) := by decide +kernel
theorem dX0_copyFrom_49 : decode cX0_copyFrom 49 = .ok (.getfield 37, 3) := by decide +kernel
theorem dX0_copyFrom_52 : decode cX0_copyFrom 52 = .ok (.invokevirtual 52, 3) := by decide +kernel
theorem dX0_copyFrom_55 : decode cX0_copyFrom 55 = .ok (.aload_n 0, 1) := by decide +kernel
theorem dX0_copyFrom_56 : decode cX0_copyFrom 56 = .ok (.aload_n 1, 1) := by decide +kernel
theorem dX0_copyFrom_57 : decode cX0_copyFrom 57 = .ok (.getfield 40, 3) := by decide +kernel
theorem dX0_copyFrom_60 : decode cX0_copyFrom 60 = .ok (.putfield 40, 3) := by decide +kernel
theorem dX0_copyFrom_63 : decode cX0_copyFrom 63 = .ok (.return_, 1) := by decide +kernel
theorem dX1_init_0 : decode cX1_init 0 = .ok (.aload_n 0, 1) := by decide +kernel
theorem dX1_init_1 : decode cX1_init 1 = .ok (.invokespecial 3, 3) := by decide +kernel
theorem dX1_init_4 : decode cX1_init 4 = .ok (.aload_n 0, 1) := by decide +kernel
theorem dX1_init_5 : decode cX1_init 5 = .ok (.iconst 5, 1) := by decide +kernel
theorem dX1_init_6 : decode cX1_init 6 = .ok (.newarray .int, 2) := by decide +kernel
theorem dX1_init_8 : decode cX1_init 8 = .ok (.putfield 9, 3) := by decide +kernel
theorem dX1_init_11 : decode cX1_init 11 = .ok (.aload_n 0, 1) := by decide +kernel
theorem dX1_init_12 : decode cX1_init 12 = .ok (.iconst 5, 1) := by decide +kernel
theorem dX1_init_13 : decode cX1_init 13 = .ok (.newarray .int, 2) := by decide +kernel
theorem dX1_init_15 : decode cX1_init 15 = .ok (.putfield 15, 3) := by decide +kernel
theorem dX1_init_18 : decode cX1_init 18 = .ok (.aload_n 0, 1) := by decide +kernel
theorem dX1_init_19 : decode cX1_init 19 = .ok (.iconst 5, 1) := by decide +kernel
theorem dX1_init_20 : decode cX1_init 20 = .ok (.newarray .int, 2) := by decide +kernel
theorem dX1_init_22 : decode cX1_init 22 = .ok (.putfield 18, 3) := by decide +kernel
theorem dX1_init_25 : decode cX1_init 25 = .ok (.aload_n 0, 1) := by decide +kernel
theorem dX1_init_26 : decode cX1_init 26 = .ok (.iconst 5, 1) := by decide +kernel
theorem dX1_init_27 : decode cX1_init 27 = .ok (.newarray .boolean, 2) := by decide +kernel
theorem dX1_init_29 : decode cX1_init 29 = .ok (.putfield 21, 3) := by decide +kernel
theorem dX1_init_32 : decode cX1_init 32 = .ok (.aload_n 0, 1) := by decide +kernel
theorem dX1_init_33 : decode cX1_init 33 = .ok (.bipush 6, 2) := by decide +kernel
theorem dX1_init_35 : decode cX1_init 35 = .ok (.newarray .int, 2) := by decide +kernel
theorem dX1_init_37 : decode cX1_init 37 = .ok (.putfield 25, 3) := by decide +kernel
theorem dX1_init_40 : decode cX1_init 40 = .ok (.return_, 1) := by decide +kernel
theorem dX1_begin_0 : decode cX1_begin 0 = .ok (.aload_n 0, 1) := by decide +kernel
theorem dX1_begin_1 : decode cX1_begin 1 = .ok (.aload_n 1, 1) := by decide +kernel
theorem dX1_begin_2 : decode cX1_begin 2 = .ok (.getfield 28, 3) := by decide +kernel
theorem dX1_begin_5 : decode cX1_begin 5 = .ok (.putfield 34, 3) := by decide +kernel
theorem dX1_begin_8 : decode cX1_begin 8 = .ok (.iconst 0, 1) := by decide +kernel
theorem dX1_begin_9 : decode cX1_begin 9 = .ok (.istore_n 3, 1) := by decide +kernel
theorem dX1_begin_10 : decode cX1_begin 10 = .ok (.iload_n 3, 1) := by decide +kernel
theorem dX1_begin_11 : decode cX1_begin 11 = .ok (.aload_n 0, 1) := by decide +kernel
theorem dX1_begin_12 : decode cX1_begin 12 = .ok (.getfield 34, 3) := by decide +kernel
theorem dX1_begin_15 : decode cX1_begin 15 = .ok (.if_icmp .ge 66, 3) := by decide +kernel
theorem dX1_begin_18 : decode cX1_begin 18 = .ok (.aload_n 1, 1) := by decide +kernel
theorem dX1_begin_19 : decode cX1_begin 19 = .ok (.iload_n 3, 1) := by decide +kernel
theorem dX1_begin_20 : decode cX1_begin 20 = .ok (.invokevirtual 35, 3) := by decide +kernel
theorem dX1_begin_23 : decode cX1_begin 23 = .ok (.istore 4, 2) := by decide +kernel
theorem dX1_begin_25 : decode cX1_begin 25 = .ok (.aload_n 0, 1) := by decide +kernel
theorem dX1_begin_26 : decode cX1_begin 26 = .ok (.getfield 15, 3) := by decide +kernel
theorem dX1_begin_29 : decode cX1_begin 29 = .ok (.iload_n 3, 1) := by decide +kernel
theorem dX1_begin_30 : decode cX1_begin 30 = .ok (.iload 4, 2) := by decide +kernel
theorem dX1_begin_32 : decode cX1_begin 32 = .ok (.ifCond .eq 7, 3) := by decide +kernel
theorem dX1_begin_35 : decode cX1_begin 35 = .ok (.iconst 1, 1) := by decide +kernel
theorem dX1_begin_36 : decode cX1_begin 36 = .ok (.goto 14, 3) := by decide +kernel
theorem dX1_begin_39 : decode cX1_begin 39 = .ok (.aload_n 1, 1) := by decide +kernel
theorem dX1_begin_40 : decode cX1_begin 40 = .ok (.iload_n 3, 1) := by decide +kernel
theorem dX1_begin_41 : decode cX1_begin 41 = .ok (.invokevirtual 39, 3) := by decide +kernel
theorem dX1_begin_44 : decode cX1_begin 44 = .ok (.iload_n 2, 1) := by decide +kernel
theorem dX1_begin_45 : decode cX1_begin 45 = .ok (.iconst (-1), 1) := by decide +kernel
theorem dX1_begin_46 : decode cX1_begin 46 = .ok (.ixor, 1) := by decide +kernel
theorem dX1_begin_47 : decode cX1_begin 47 = .ok (.iand, 1) := by decide +kernel
theorem dX1_begin_48 : decode cX1_begin 48 = .ok (.iconst 1, 1) := by decide +kernel
theorem dX1_begin_49 : decode cX1_begin 49 = .ok (.ishl, 1) := by decide +kernel
theorem dX1_begin_50 : decode cX1_begin 50 = .ok (.iastore, 1) := by decide +kernel
theorem dX1_begin_51 : decode cX1_begin 51 = .ok (.aload_n 0, 1) := by decide +kernel
theorem dX1_begin_52 : decode cX1_begin 52 = .ok (.getfield 21, 3) := by decide +kernel
theorem dX1_begin_55 : decode cX1_begin 55 = .ok (.iload_n 3, 1) := by decide +kernel
theorem dX1_begin_56 : decode cX1_begin 56 = .ok (.iload 4, 2) := by decide +kernel
theorem dX1_begin_58 : decode cX1_begin 58 = .ok (.ifCond .ne 15, 3) := by decide +kernel
theorem dX1_begin_61 : decode cX1_begin 61 = .ok (.aload_n 1, 1) := by decide +kernel
theorem dX1_begin_62 : decode cX1_begin 62 = .ok (.iload_n 3, 1) := by decide +kernel
theorem dX1_begin_63 : decode cX1_begin 63 = .ok (.invokevirtual 43, 3) := by decide +kernel
theorem dX1_begin_66 : decode cX1_begin 66 = .ok (.ifCond .ne 7, 3) := by decide +kernel
theorem dX1_begin_69 : decode cX1_begin 69 = .ok (.iconst 1, 1) := by decide +kernel
theorem dX1_begin_70 : decode cX1_begin 70 = .ok (.goto 4, 3) := by decide +kernel
theorem dX1_begin_73 : decode cX1_begin 73 = .ok (.iconst 0, 1) := by decide +kernel
theorem dX1_begin_74 : decode cX1_begin 74 = .ok (.bastore, 1) := by decide +kernel
theorem dX1_begin_75 : decode cX1_begin 75 = .ok (.iinc 3 1, 3) := by decide +kernel
theorem dX1_begin_78 : decode cX1_begin 78 = .ok (.goto (-68), 3) := by decide +kernel
theorem dX1_begin_81 : decode cX1_begin 81 = .ok (.aload_n 0, 1) := by decide +kernel
theorem dX1_begin_82 : decode cX1_begin 82 = .ok (.iconst 0, 1) := by decide +kernel
theorem dX1_begin_83 : decode cX1_begin 83 = .ok (.putfield 46, 3) := by decide +kernel
theorem dX1_begin_86 : decode cX1_begin 86 = .ok (.aload_n 0, 1) := by decide +kernel
theorem dX1_begin_87 : decode cX1_begin 87 = .ok (.iconst 1, 1) := by decide +kernel
theorem dX1_begin_88 : decode cX1_begin 88 = .ok (.putfield 49, 3) := by decide +kernel
theorem dX1_begin_91 : decode cX1_begin 91 = .ok (.aload_n 0, 1) := by decide +kernel
theorem dX1_begin_92 : decode cX1_begin 92 = .ok (.getfield 18, 3) := by decide +kernel
theorem dX1_begin_95 : decode cX1_begin 95 = .ok (.iconst 0, 1) := by decide +kernel
theorem dX1_begin_96 : decode cX1_begin 96 = .ok (.aload_n 0, 1) := by decide +kernel
theorem dX1_begin_97 : decode cX1_begin 97 = .ok (.getfield 15, 3) := by decide +kernel
theorem dX1_begin_100 : decode cX1_begin 100 = .ok (.iconst 0, 1) := by decide +kernel
theorem dX1_begin_101 : decode cX1_begin 101 = .ok (.iaload, 1) := by decide +kernel
theorem dX1_begin_102 : decode cX1_begin 102 = .ok (.iastore, 1) := by decide +kernel
theorem dX1_begin_103 : decode cX1_begin 103 = .ok (.aload_n 0, 1) := by decide +kernel
theorem dX1_begin_104 : decode cX1_begin 104 = .ok (.getfield 25, 3) := by decide +kernel
theorem dX1_begin_107 : decode cX1_begin 107 = .ok (.iconst 0, 1) := by decide +kernel
theorem dX1_begin_108 : decode cX1_begin 108 = .ok (.iconst 0, 1) := by decide +kernel
theorem dX1_begin_109 : decode cX1_begin 109 = .ok (.iastore, 1) := by decide +kernel
theorem dX1_begin_110 : decode cX1_begin 110 = .ok (.return_, 1) := by decide +kernel
theorem dX1_goesOn_0 : decode cX1_goesOn 0 = .ok (.aload_n 0, 1) := by decide +kernel
theorem dX1_goesOn_1 : decode cX1_goesOn 1 = .ok (.getfield 49, 3) := by decide +kernel
theorem dX1_goesOn_4 : decode cX1_goesOn 4 = .ok (.ifCond .ne 13, 3) := by decide +kernel
theorem dX1_goesOn_7 : decode cX1_goesOn 7 = .ok (.aload_n 0, 1) := by decide +kernel
theorem dX1_goesOn_8 : decode cX1_goesOn 8 = .ok (.aload_n 0, 1) := by decide +kernel
theorem dX1_goesOn_9 : decode cX1_goesOn 9 = .ok (.getfield 34, 3) := by decide +kernel
theorem dX1_goesOn_12 : decode cX1_goesOn 12 = .ok (.iconst 1, 1) := by decide +kernel
theorem dX1_goesOn_13 : decode cX1_goesOn 13 = .ok (.isub, 1) := by decide +kernel
theorem dX1_goesOn_14 : decode cX1_goesOn 14 = .ok (.putfield 46, 3) := by decide +kernel
theorem dX1_goesOn_17 : decode cX1_goesOn 17 = .ok (.aload_n 0, 1) := by decide +kernel
theorem dX1_goesOn_18 : decode cX1_goesOn 18 = .ok (.iconst 0, 1) := by decide +kernel
theorem dX1_goesOn_19 : decode cX1_goesOn 19 = .ok (.putfield 49, 3) := by decide +kernel
theorem dX1_goesOn_22 : decode cX1_goesOn 22 = .ok (.iconst 0, 1) := by decide +kernel
theorem dX1_goesOn_23 : decode cX1_goesOn 23 = .ok (.istore_n 1, 1) := by decide +kernel
theorem dX1_goesOn_24 : decode cX1_goesOn 24 = .ok (.iload_n 1, 1) := by decide +kernel
theorem dX1_goesOn_25 : decode cX1_goesOn 25 = .ok (.ldc 53, 2) := by decide +kernel
theorem dX1_goesOn_27 : decode cX1_goesOn 27 = .ok (.if_icmp .ge 31, 3) := by decide +kernel
theorem dX1_goesOn_30 : decode cX1_goesOn 30 = .ok (.aload_n 0, 1) := by decide +kernel
theorem dX1_goesOn_31 : decode cX1_goesOn 31 = .ok (.getfield 46, 3) := by decide +kernel
theorem dX1_goesOn_34 : decode cX1_goesOn 34 = .ok (.ifCond .lt 24, 3) := by decide +kernel
theorem dX1_goesOn_37 : decode cX1_goesOn 37 = .ok (.aload_n 0, 1) := by decide +kernel
theorem dX1_goesOn_38 : decode cX1_goesOn 38 = .ok (.getfield 46, 3) := by decide +kernel
theorem dX1_goesOn_41 : decode cX1_goesOn 41 = .ok (.aload_n 0, 1) := by decide +kernel
theorem dX1_goesOn_42 : decode cX1_goesOn 42 = .ok (.getfield 34, 3) := by decide +kernel
theorem dX1_goesOn_45 : decode cX1_goesOn 45 = .ok (.if_icmp .ge 13, 3) := by decide +kernel
theorem dX1_goesOn_48 : decode cX1_goesOn 48 = .ok (.aload_n 0, 1) := by decide +kernel
theorem dX1_goesOn_49 : decode cX1_goesOn 49 = .ok (.invokevirtual 54, 3) := by decide +kernel
theorem dX1_goesOn_52 : decode cX1_goesOn 52 = .ok (.iinc 1 1, 3) := by decide +kernel
theorem dX1_goesOn_55 : decode cX1_goesOn 55 = .ok (.goto (-31), 3) := by decide +kernel
theorem dX1_goesOn_58 : decode cX1_goesOn 58 = .ok (.aload_n 0, 1) := by decide +kernel
theorem dX1_goesOn_59 : decode cX1_goesOn 59 = .ok (.getfield 46, 3) := by decide +kernel
theorem dX1_goesOn_62 : decode cX1_goesOn 62 = .ok (.aload_n 0, 1) := by decide +kernel
theorem dX1_goesOn_63 : decode cX1_goesOn 63 = .ok (.getfield 34, 3) := by decide +kernel
theorem dX1_goesOn_66 : decode cX1_goesOn 66 = .ok (.if_icmp .ne 7, 3) := by decide +kernel
theorem dX1_goesOn_69 : decode cX1_goesOn 69 = .ok (.iconst 1, 1) := by decide +kernel
theorem dX1_goesOn_70 : decode cX1_goesOn 70 = .ok (.goto 4, 3) := by decide +kernel
theorem dX1_goesOn_73 : decode cX1_goesOn 73 = .ok (.iconst 0, 1) := by decide +kernel
theorem dX1_goesOn_74 : decode cX1_goesOn 74 = .ok (.ireturn, 1) := by decide +kernel
theorem dX1_step_0 : decode cX1_step 0 = .ok (.aload_n 0, 1) := by decide +kernel
theorem dX1_step_1 : decode cX1_step 1 = .ok (.getfield 18, 3) := by decide +kernel
theorem dX1_step_4 : decode cX1_step 4 = .ok (.aload_n 0, 1) := by decide +kernel
theorem dX1_step_5 : decode cX1_step 5 = .ok (.getfield 46, 3) := by decide +kernel
theorem dX1_step_8 : decode cX1_step 8 = .ok (.iaload, 1) := by decide +kernel
theorem dX1_step_9 : decode cX1_step 9 = .ok (.aload_n 0, 1) := by decide +kernel
theorem dX1_step_10 : decode cX1_step 10 = .ok (.getfield 18, 3) := by decide +kernel
theorem dX1_step_13 : decode cX1_step 13 = .ok (.aload_n 0, 1) := by decide +kernel
theorem dX1_step_14 : decode cX1_step 14 = .ok (.getfield 46, 3) := by decide +kernel
theorem dX1_step_17 : decode cX1_step 17 = .ok (.iaload, 1) := by decide +kernel
theorem dX1_step_18 : decode cX1_step 18 = .ok (.ineg, 1) := by decide +kernel
theorem dX1_step_19 : decode cX1_step 19 = .ok (.iand, 1) := by decide +kernel
theorem dX1_step_20 : decode cX1_step 20 = .ok (.istore_n 1, 1) := by decide +kernel
theorem dX1_step_21 : decode cX1_step 21 = .ok (.iload_n 1, 1) := by decide +kernel
theorem dX1_step_22 : decode cX1_step 22 = .ok (.ifCond .ne 14, 3) := by decide +kernel
theorem dX1_step_25 : decode cX1_step 25 = .ok (.aload_n 0, 1) := by decide +kernel
theorem dX1_step_26 : decode cX1_step 26 = .ok (.dup, 1) := by decide +kernel
theorem dX1_step_27 : decode cX1_step 27 = .ok (.getfield 46, 3) := by decide +kernel
theorem dX1_step_30 : decode cX1_step 30 = .ok (.iconst 1, 1) := by decide +kernel
theorem dX1_step_31 : decode cX1_step 31 = .ok (.isub, 1) := by decide +kernel
theorem dX1_step_32 : decode cX1_step 32 = .ok (.putfield 46, 3) := by decide +kernel
theorem dX1_step_35 : decode cX1_step 35 = .ok (.return_, 1) := by decide +kernel
theorem dX1_step_36 : decode cX1_step 36 = .ok (.aload_n 0, 1) := by decide +kernel
theorem dX1_step_37 : decode cX1_step 37 = .ok (.getfield 18, 3) := by decide +kernel
theorem dX1_step_40 : decode cX1_step 40 = .ok (.aload_n 0, 1) := by decide +kernel
theorem dX1_step_41 : decode cX1_step 41 = .ok (.getfield 46, 3) := by decide +kernel
theorem dX1_step_44 : decode cX1_step 44 = .ok (.dup2, 1) := by decide +kernel
theorem dX1_step_45 : decode cX1_step 45 = .ok (.iaload, 1) := by decide +kernel
theorem dX1_step_46 : decode cX1_step 46 = .ok (.iload_n 1, 1) := by decide +kernel
theorem dX1_step_47 : decode cX1_step 47 = .ok (.iconst (-1), 1) := by decide +kernel
theorem dX1_step_48 : decode cX1_step 48 = .ok (.ixor, 1) := by decide +kernel
theorem dX1_step_49 : decode cX1_step 49 = .ok (.iand, 1) := by decide +kernel
theorem dX1_step_50 : decode cX1_step 50 = .ok (.iastore, 1) := by decide +kernel
theorem dX1_step_51 : decode cX1_step 51 = .ok (.aload_n 0, 1) := by decide +kernel
theorem dX1_step_52 : decode cX1_step 52 = .ok (.getfield 9, 3) := by decide +kernel
theorem dX1_step_55 : decode cX1_step 55 = .ok (.aload_n 0, 1) := by decide +kernel
theorem dX1_step_56 : decode cX1_step 56 = .ok (.getfield 46, 3) := by decide +kernel
theorem dX1_step_59 : decode cX1_step 59 = .ok (.iload_n 1, 1) := by decide +kernel
theorem dX1_step_60 : decode cX1_step 60 = .ok (.iconst 1, 1) := by decide +kernel
theorem dX1_step_61 : decode cX1_step 61 = .ok (.isub, 1) := by decide +kernel
theorem dX1_step_62 : decode cX1_step 62 = .ok (.invokestatic 57, 3) := by decide +kernel
theorem dX1_step_65 : decode cX1_step 65 = .ok (.iconst 1, 1) := by decide +kernel
theorem dX1_step_66 : decode cX1_step 66 = .ok (.isub, 1) := by decide +kernel
theorem dX1_step_67 : decode cX1_step 67 = .ok (.iastore, 1) := by decide +kernel
theorem dX1_step_68 : decode cX1_step 68 = .ok (.aload_n 0, 1) := by decide +kernel
theorem dX1_step_69 : decode cX1_step 69 = .ok (.getfield 25, 3) := by decide +kernel
theorem dX1_step_72 : decode cX1_step 72 = .ok (.aload_n 0, 1) := by decide +kernel
theorem dX1_step_73 : decode cX1_step 73 = .ok (.getfield 46, 3) := by decide +kernel
theorem dX1_step_76 : decode cX1_step 76 = .ok (.iconst 1, 1) := by decide +kernel
theorem dX1_step_77 : decode cX1_step 77 = .ok (.iadd, 1) := by decide +kernel
theorem dX1_step_78 : decode cX1_step 78 = .ok (.aload_n 0, 1) := by decide +kernel
theorem dX1_step_79 : decode cX1_step 79 = .ok (.getfield 25, 3) := by decide +kernel
theorem dX1_step_82 : decode cX1_step 82 = .ok (.aload_n 0, 1) := by decide +kernel
theorem dX1_step_83 : decode cX1_step 83 = .ok (.getfield 46, 3) := by decide +kernel
theorem dX1_step_86 : decode cX1_step 86 = .ok (.iaload, 1) := by decide +kernel
theorem dX1_step_87 : decode cX1_step 87 = .ok (.aload_n 0, 1) := by decide +kernel
theorem dX1_step_88 : decode cX1_step 88 = .ok (.getfield 21, 3) := by decide +kernel
theorem dX1_step_91 : decode cX1_step 91 = .ok (.aload_n 0, 1) := by decide +kernel
theorem dX1_step_92 : decode cX1_step 92 = .ok (.getfield 46, 3) := by decide +kernel
theorem dX1_step_95 : decode cX1_step 95 = .ok (.baload, 1) := by decide +kernel
theorem dX1_step_96 : decode cX1_step 96 = .ok (.ifCond .eq 7, 3) := by decide +kernel
theorem dX1_step_99 : decode cX1_step 99 = .ok (.iload_n 1, 1) := by decide +kernel
theorem dX1_step_100 : decode cX1_step 100 = .ok (.goto 4, 3) := by decide +kernel
theorem dX1_step_103 : decode cX1_step 103 = .ok (.iconst 0, 1) := by decide +kernel
theorem dX1_step_104 : decode cX1_step 104 = .ok (.ior, 1) := by decide +kernel
theorem dX1_step_105 : decode cX1_step 105 = .ok (.iastore, 1) := by decide +kernel
theorem dX1_step_106 : decode cX1_step 106 = .ok (.aload_n 0, 1) := by decide +kernel
theorem dX1_step_107 : decode cX1_step 107 = .ok (.dup, 1) := by decide +kernel
theorem dX1_step_108 : decode cX1_step 108 = .ok (.getfield 46, 3) := by decide +kernel
theorem dX1_step_111 : decode cX1_step 111 = .ok (.iconst 1, 1) := by decide +kernel
theorem dX1_step_112 : decode cX1_step 112 = .ok (.iadd, 1) := by decide +kernel
theorem dX1_step_113 : decode cX1_step 113 = .ok (.putfield 46, 3) := by decide +kernel
theorem dX1_step_116 : decode cX1_step 116 = .ok (.aload_n 0, 1) := by decide +kernel
theorem dX1_step_117 : decode cX1_step 117 = .ok (.getfield 46, 3) := by decide +kernel
theorem dX1_step_120 : decode cX1_step 120 = .ok (.aload_n 0, 1) := by decide +kernel
theorem dX1_step_121 : decode cX1_step 121 = .ok (.getfield 34, 3) := by decide +kernel
theorem dX1_step_124 : decode cX1_step 124 = .ok (.if_icmp .ge 49, 3) := by decide +kernel
theorem dX1_step_127 : decode cX1_step 127 = .ok (.aload_n 0, 1) := by decide +kernel
theorem dX1_step_128 : decode cX1_step 128 = .ok (.getfield 18, 3) := by decide +kernel
theorem dX1_step_131 : decode cX1_step 131 = .ok (.aload_n 0, 1) := by decide +kernel
theorem dX1_step_132 : decode cX1_step 132 = .ok (.getfield 46, 3) := by decide +kernel
theorem dX1_step_135 : decode cX1_step 135 = .ok (.aload_n 0, 1) := by decide +kernel
theorem dX1_step_136 : decode cX1_step 136 = .ok (.getfield 15, 3) := by decide +kernel
theorem dX1_step_139 : decode cX1_step 139 = .ok (.aload_n 0, 1) := by decide +kernel
theorem dX1_step_140 : decode cX1_step 140 = .ok (.getfield 46, 3) := by decide +kernel
theorem dX1_step_143 : decode cX1_step 143 = .ok (.iaload, 1) := by decide +kernel
theorem dX1_step_144 : decode cX1_step 144 = .ok (.aload_n 0, 1) := by decide +kernel
theorem dX1_step_145 : decode cX1_step 145 = .ok (.getfield 21, 3) := by decide +kernel
theorem dX1_step_148 : decode cX1_step 148 = .ok (.aload_n 0, 1) := by decide +kernel
theorem dX1_step_149 : decode cX1_step 149 = .ok (.getfield 46, 3) := by decide +kernel
theorem dX1_step_152 : decode cX1_step 152 = .ok (.baload, 1) := by decide +kernel
theorem dX1_step_153 : decode cX1_step 153 = .ok (.ifCond .eq 15, 3) := by decide +kernel
theorem dX1_step_156 : decode cX1_step 156 = .ok (.aload_n 0, 1) := by decide +kernel
theorem dX1_step_157 : decode cX1_step 157 = .ok (.getfield 25, 3) := by decide +kernel
theorem dX1_step_160 : decode cX1_step 160 = .ok (.aload_n 0, 1) := by decide +kernel
theorem dX1_step_161 : decode cX1_step 161 = .ok (.getfield 46, 3) := by decide +kernel
theorem dX1_step_164 : decode cX1_step 164 = .ok (.iaload, 1) := by decide +kernel
theorem dX1_step_165 : decode cX1_step 165 = .ok (.goto 4, 3) := by decide +kernel
theorem dX1_step_168 : decode cX1_step 168 = .ok (.iconst 0, 1) := by decide +kernel
theorem dX1_step_169 : decode cX1_step 169 = .ok (.iconst (-1), 1) := by decide +kernel
theorem dX1_step_170 : decode cX1_step 170 = .ok (.ixor, 1) := by decide +kernel
theorem dX1_step_171 : decode cX1_step 171 = .ok (.iand, 1) := by decide +kernel
theorem dX1_step_172 : decode cX1_step 172 = .ok (.iastore, 1) := by decide +kernel
theorem dX1_step_173 : decode cX1_step 173 = .ok (.return_, 1) := by decide +kernel
theorem dX1_whoPlay_0 : decode cX1_whoPlay 0 = .ok (.iconst 0, 1) := by decide +kernel
theorem dX1_whoPlay_1 : decode cX1_whoPlay 1 = .ok (.istore_n 1, 1) := by decide +kernel
theorem dX1_whoPlay_2 : decode cX1_whoPlay 2 = .ok (.iconst 0, 1) := by decide +kernel
theorem dX1_whoPlay_3 : decode cX1_whoPlay 3 = .ok (.istore_n 2, 1) := by decide +kernel
theorem dX1_whoPlay_4 : decode cX1_whoPlay 4 = .ok (.iload_n 2, 1) := by decide +kernel
theorem dX1_whoPlay_5 : decode cX1_whoPlay 5 = .ok (.aload_n 0, 1) := by decide +kernel
theorem dX1_whoPlay_6 : decode cX1_whoPlay 6 = .ok (.getfield 34, 3) := by decide +kernel
theorem dX1_whoPlay_9 : decode cX1_whoPlay 9 = .ok (.if_icmp .ge 29, 3) := by decide +kernel
theorem dX1_whoPlay_12 : decode cX1_whoPlay 12 = .ok (.aload_n 0, 1) := by decide +kernel
theorem dX1_whoPlay_13 : decode cX1_whoPlay 13 = .ok (.getfield 9, 3) := by decide +kernel
theorem dX1_whoPlay_16 : decode cX1_whoPlay 16 = .ok (.iload_n 2, 1) := by decide +kernel
theorem dX1_whoPlay_17 : decode cX1_whoPlay 17 = .ok (.iaload, 1) := by decide +kernel
theorem dX1_whoPlay_18 : decode cX1_whoPlay 18 = .ok (.ifCond .lt 14, 3) := by decide +kernel
theorem dX1_whoPlay_21 : decode cX1_whoPlay 21 = .ok (.iload_n 1, 1) := by decide +kernel
theorem dX1_whoPlay_22 : decode cX1_whoPlay 22 = .ok (.iconst 1, 1) := by decide +kernel
theorem dX1_whoPlay_23 : decode cX1_whoPlay 23 = .ok (.aload_n 0, 1) := by decide +kernel
theorem dX1_whoPlay_24 : decode cX1_whoPlay 24 = .ok (.getfield 9, 3) := by decide +kernel
theorem dX1_whoPlay_27 : decode cX1_whoPlay 27 = .ok (.iload_n 2, 1) := by decide +kernel
theorem dX1_whoPlay_28 : decode cX1_whoPlay 28 = .ok (.iaload, 1) := by decide +kernel
theorem dX1_whoPlay_29 : decode cX1_whoPlay 29 = .ok (.ishl, 1) := by decide +kernel
theorem dX1_whoPlay_30 : decode cX1_whoPlay 30 = .ok (.ior, 1) := by decide +kernel
theorem dX1_whoPlay_31 : decode cX1_whoPlay 31 = .ok (.istore_n 1, 1) := by decide +kernel
theorem dX1_whoPlay_32 : decode cX1_whoPlay 32 = .ok (.iinc 2 1, 3) := by decide +kernel
theorem dX1_whoPlay_35 : decode cX1_whoPlay 35 = .ok (.goto (-31), 3) := by decide +kernel
theorem dX1_whoPlay_38 : decode cX1_whoPlay 38 = .ok (.iload_n 1, 1) := by decide +kernel
theorem dX1_whoPlay_39 : decode cX1_whoPlay 39 = .ok (.ireturn, 1) := by decide +kernel
theorem dX1_unlike_0 : decode cX1_unlike 0 = .ok (.iconst 0, 1) := by decide +kernel
theorem dX1_unlike_1 : decode cX1_unlike 1 = .ok (.istore_n 2, 1) := by decide +kernel
theorem dX1_unlike_2 : decode cX1_unlike 2 = .ok (.iconst 0, 1) := by decide +kernel
theorem dX1_unlike_3 : decode cX1_unlike 3 = .ok (.istore_n 3, 1) := by decide +kernel
theorem dX1_unlike_4 : decode cX1_unlike 4 = .ok (.iload_n 3, 1) := by decide +kernel
theorem dX1_unlike_5 : decode cX1_unlike 5 = .ok (.aload_n 0, 1) := by decide +kernel
theorem dX1_unlike_6 : decode cX1_unlike 6 = .ok (.getfield 34, 3) := by decide +kernel
theorem dX1_unlike_9 : decode cX1_unlike 9 = .ok (.if_icmp .ge 24, 3) := by decide +kernel
theorem dX1_unlike_12 : decode cX1_unlike 12 = .ok (.aload_n 0, 1) := by decide +kernel
theorem dX1_unlike_13 : decode cX1_unlike 13 = .ok (.getfield 9, 3) := by decide +kernel
theorem dX1_unlike_16 : decode cX1_unlike 16 = .ok (.iload_n 3, 1) := by decide +kernel
theorem dX1_unlike_17 : decode cX1_unlike 17 = .ok (.iaload, 1) := by decide +kernel
theorem dX1_unlike_18 : decode cX1_unlike 18 = .ok (.aload_n 1, 1) := by decide +kernel
theorem dX1_unlike_19 : decode cX1_unlike 19 = .ok (.iload_n 3, 1) := by decide +kernel
theorem dX1_unlike_20 : decode cX1_unlike 20 = .ok (.iaload, 1) := by decide +kernel
theorem dX1_unlike_21 : decode cX1_unlike 21 = .ok (.if_icmp .eq 6, 3) := by decide +kernel
theorem dX1_unlike_24 : decode cX1_unlike 24 = .ok (.iinc 2 1, 3) := by decide +kernel
theorem dX1_unlike_27 : decode cX1_unlike 27 = .ok (.iinc 3 1, 3) := by decide +kernel
theorem dX1_unlike_30 : decode cX1_unlike 30 = .ok (.goto (-26), 3) := by decide +kernel
theorem dX1_unlike_33 : decode cX1_unlike 33 = .ok (.iload_n 2, 1) := by decide +kernel
theorem dX1_unlike_34 : decode cX1_unlike 34 = .ok (.ireturn, 1) := by decide +kernel
theorem dX2_init_0 : decode cX2_init 0 = .ok (.aload_n 0, 1) := by decide +kernel
theorem dX2_init_1 : decode cX2_init 1 = .ok (.invokespecial 3, 3) := by decide +kernel
theorem dX2_init_4 : decode cX2_init 4 = .ok (.aload_n 0, 1) := by decide +kernel
theorem dX2_init_5 : decode cX2_init 5 = .ok (.new 9, 3) := by decide +kernel
theorem dX2_init_8 : decode cX2_init 8 = .ok (.dup, 1) := by decide +kernel
theorem dX2_init_9 : decode cX2_init 9 = .ok (.bipush 50, 2) := by decide +kernel
theorem dX2_init_11 : decode cX2_init 11 = .ok (.invokespecial 11, 3) := by decide +kernel
theorem dX2_init_14 : decode cX2_init 14 = .ok (.putfield 14, 3) := by decide +kernel
theorem dX2_init_17 : decode cX2_init 17 = .ok (.aload_n 0, 1) := by decide +kernel
theorem dX2_init_18 : decode cX2_init 18 = .ok (.new 9, 3) := by decide +kernel
theorem dX2_init_21 : decode cX2_init 21 = .ok (.dup, 1) := by decide +kernel
theorem dX2_init_22 : decode cX2_init 22 = .ok (.bipush 50, 2) := by decide +kernel
theorem dX2_init_24 : decode cX2_init 24 = .ok (.invokespecial 11, 3) := by decide +kernel
theorem dX2_init_27 : decode cX2_init 27 = .ok (.putfield 20, 3) := by decide +kernel
theorem dX2_init_30 : decode cX2_init 30 = .ok (.aload_n 0, 1) := by decide +kernel
theorem dX2_init_31 : decode cX2_init 31 = .ok (.iload_n 1, 1) := by decide +kernel
theorem dX2_init_32 : decode cX2_init 32 = .ok (.putfield 23, 3) := by decide +kernel
theorem dX2_init_35 : decode cX2_init 35 = .ok (.return_, 1) := by decide +kernel
theorem dX2_write_0 : decode cX2_write 0 = .ok (.aload_n 0, 1) := by decide +kernel
theorem dX2_write_1 : decode cX2_write 1 = .ok (.getfield 14, 3) := by decide +kernel
theorem dX2_write_4 : decode cX2_write 4 = .ok (.aload_n 1, 1) := by decide +kernel
theorem dX2_write_5 : decode cX2_write 5 = .ok (.invokevirtual 27, 3) := by decide +kernel
theorem dX2_write_8 : decode cX2_write 8 = .ok (.return_, 1) := by decide +kernel
theorem dX2_copyFrom_0 : decode cX2_copyFrom 0 = .ok (.aload_n 0, 1) := by decide +kernel
theorem dX2_copyFrom_1 : decode cX2_copyFrom 1 = .ok (.getfield 14, 3) := by decide +kernel
theorem dX2_copyFrom_4 : decode cX2_copyFrom 4 = .ok (.aload_n 1, 1) := by decide +kernel
theorem dX2_copyFrom_5 : decode cX2_copyFrom 5 = .ok (.getfield 14, 3) := by decide +kernel
theorem dX2_copyFrom_8 : decode cX2_copyFrom 8 = .ok (.invokevirtual 27, 3) := by decide +kernel
theorem dX2_copyFrom_11 : decode cX2_copyFrom 11 = .ok (.return_, 1) := by decide +kernel
theorem dX2_gives_0 : decode cX2_gives 0 = .ok (.aload_n 0, 1) := by decide +kernel
theorem dX2_gives_1 : decode cX2_gives 1 = .ok (.getfield 23, 3) := by decide +kernel
theorem dX2_gives_4 : decode cX2_gives 4 = .ok (.ifCond .ne 9, 3) := by decide +kernel
theorem dX2_gives_7 : decode cX2_gives 7 = .ok (.sipush 999, 3) := by decide +kernel
theorem dX2_gives_10 : decode cX2_gives 10 = .ok (.goto 5, 3) := by decide +kernel
theorem dX2_gives_13 : decode cX2_gives 13 = .ok (.bipush 99, 2) := by decide +kernel
theorem dX2_gives_15 : decode cX2_gives 15 = .ok (.istore 4, 2) := by decide +kernel
theorem dX2_gives_17 : decode cX2_gives 17 = .ok (.aload_n 0, 1) := by decide +kernel
theorem dX2_gives_18 : decode cX2_gives 18 = .ok (.getfield 14, 3) := by decide +kernel
theorem dX2_gives_21 : decode cX2_gives 21 = .ok (.getfield 31, 3) := by decide +kernel
theorem dX2_gives_24 : decode cX2_gives 24 = .ok (.ifCond .ne 12, 3) := by decide +kernel
theorem dX2_gives_27 : decode cX2_gives 27 = .ok (.aload_n 0, 1) := by decide +kernel
theorem dX2_gives_28 : decode cX2_gives 28 = .ok (.iload_n 1, 1) := by decide +kernel
theorem dX2_gives_29 : decode cX2_gives 29 = .ok (.iload_n 3, 1) := by decide +kernel
theorem dX2_gives_30 : decode cX2_gives 30 = .ok (.invokevirtual 34, 3) := by decide +kernel
theorem dX2_gives_33 : decode cX2_gives 33 = .ok (.goto 10, 3) := by decide +kernel
theorem dX2_gives_36 : decode cX2_gives 36 = .ok (.aload_n 0, 1) := by decide +kernel
theorem dX2_gives_37 : decode cX2_gives 37 = .ok (.iload_n 1, 1) := by decide +kernel
theorem dX2_gives_38 : decode cX2_gives 38 = .ok (.iload_n 2, 1) := by decide +kernel
theorem dX2_gives_39 : decode cX2_gives 39 = .ok (.iload_n 3, 1) := by decide +kernel
theorem dX2_gives_40 : decode cX2_gives 40 = .ok (.invokevirtual 38, 3) := by decide +kernel
theorem dX2_gives_43 : decode cX2_gives 43 = .ok (.istore 5, 2) := by decide +kernel
theorem dX2_gives_45 : decode cX2_gives 45 = .ok (.iconst 0, 1) := by decide +kernel
theorem dX2_gives_46 : decode cX2_gives 46 = .ok (.iload 5, 2) := by decide +kernel
theorem dX2_gives_48 : decode cX2_gives 48 = .ok (.iload 4, 2) := by decide +kernel
theorem dX2_gives_50 : decode cX2_gives 50 = .ok (.invokestatic 42, 3) := by decide +kernel
theorem dX2_gives_53 : decode cX2_gives 53 = .ok (.invokestatic 47, 3) := by decide +kernel
theorem dX2_gives_56 : decode cX2_gives 56 = .ok (.ireturn, 1) := by decide +kernel
theorem dX2_withoutText_0 : decode cX2_withoutText 0 = .ok (.aload_n 0, 1) := by decide +kernel
theorem dX2_withoutText_1 : decode cX2_withoutText 1 = .ok (.getfield 23, 3) := by decide +kernel
theorem dX2_withoutText_4 : decode cX2_withoutText 4 = .ok (.ifCond .ne 9, 3) := by decide +kernel
theorem dX2_withoutText_7 : decode cX2_withoutText 7 = .ok (.iload_n 1, 1) := by decide +kernel
theorem dX2_withoutText_8 : decode cX2_withoutText 8 = .ok (.iload_n 2, 1) := by decide +kernel
theorem dX2_withoutText_9 : decode cX2_withoutText 9 = .ok (.iadd, 1) := by decide +kernel
theorem dX2_withoutText_10 : decode cX2_withoutText 10 = .ok (.goto 9, 3) := by decide +kernel
theorem dX2_withoutText_13 : decode cX2_withoutText 13 = .ok (.iconst 1, 1) := by decide +kernel
theorem dX2_withoutText_14 : decode cX2_withoutText 14 = .ok (.iload_n 1, 1) := by decide +kernel
theorem dX2_withoutText_15 : decode cX2_withoutText 15 = .ok (.bipush 10, 2) := by decide +kernel
theorem dX2_withoutText_17 : decode cX2_withoutText 17 = .ok (.idiv, 1) := by decide +kernel
theorem dX2_withoutText_18 : decode cX2_withoutText 18 = .ok (.iadd, 1) := by decide +kernel
theorem dX2_withoutText_19 : decode cX2_withoutText 19 = .ok (.ireturn, 1) := by decide +kernel
theorem dX2_worked_0 : decode cX2_worked 0 = .ok (.aload_n 0, 1) := by decide +kernel
theorem dX2_worked_1 : decode cX2_worked 1 = .ok (.getfield 20, 3) := by decide +kernel
theorem dX2_worked_4 : decode cX2_worked 4 = .ok (.invokevirtual 50, 3) := by decide +kernel
theorem dX2_worked_7 : decode cX2_worked 7 = .ok (.iconst 0, 1) := by decide +kernel
theorem dX2_worked_8 : decode cX2_worked 8 = .ok (.istore 4, 2) := by decide +kernel
theorem dX2_worked_10 : decode cX2_worked 10 = .ok (.iload 4, 2) := by decide +kernel
theorem dX2_worked_12 : decode cX2_worked 12 = .ok (.aload_n 0, 1) := by decide +kernel
theorem dX2_worked_13 : decode cX2_worked 13 = .ok (.getfield 14, 3) := by decide +kernel
theorem dX2_worked_16 : decode cX2_worked 16 = .ok (.getfield 31, 3) := by decide +kernel
theorem dX2_worked_19 : decode cX2_worked 19 = .ok (.if_icmp .ge 186, 3) := by decide +kernel
theorem dX2_worked_22 : decode cX2_worked 22 = .ok (.aload_n 0, 1) := by decide +kernel
theorem dX2_worked_23 : decode cX2_worked 23 = .ok (.getfield 14, 3) := by decide +kernel
theorem dX2_worked_26 : decode cX2_worked 26 = .ok (.getfield 53, 3) := by decide +kernel
theorem dX2_worked_29 : decode cX2_worked 29 = .ok (.iload 4, 2) := by decide +kernel
theorem dX2_worked_31 : decode cX2_worked 31 = .ok (.iaload, 1) := by decide +kernel
theorem dX2_worked_32 : decode cX2_worked 32 = .ok (.istore 5, 2) := by decide +kernel
theorem dX2_worked_34 : decode cX2_worked 34 = .ok (.aload_n 0, 1) := by decide +kernel
theorem dX2_worked_35 : decode cX2_worked 35 = .ok (.getfield 20, 3) := by decide +kernel
theorem dX2_worked_38 : decode cX2_worked 38 = .ok (.getfield 31, 3) := by decide +kernel
theorem dX2_worked_41 : decode cX2_worked 41 = .ok (.iconst 1, 1) := by decide +kernel
theorem dX2_worked_42 : decode cX2_worked 42 = .ok (.isub, 1) := by decide +kernel
theorem dX2_worked_43 : decode cX2_worked 43 = .ok (.istore 6, 2) := by decide +kernel
theorem dX2_worked_45 : decode cX2_worked 45 = .ok (.iload 5, 2) := by decide +kernel
theorem dX2_worked_47 : decode cX2_worked 47 = .ok (.ifCond .lt 15, 3) := by decide +kernel
theorem dX2_worked_50 : decode cX2_worked 50 = .ok (.aload_n 0, 1) := by decide +kernel
theorem dX2_worked_51 : decode cX2_worked 51 = .ok (.getfield 20, 3) := by decide +kernel
theorem dX2_worked_54 : decode cX2_worked 54 = .ok (.iload 5, 2) := by decide +kernel
theorem dX2_worked_56 : decode cX2_worked 56 = .ok (.invokevirtual 57, 3) := by decide +kernel
theorem dX2_worked_59 : decode cX2_worked 59 = .ok (.goto 140, 3) := by decide +kernel
theorem dX2_worked_62 : decode cX2_worked 62 = .ok (.iload 5, 2) := by decide +kernel
theorem dX2_worked_64 : decode cX2_worked 64 = .ok (.bipush (-3), 2) := by decide +kernel
theorem dX2_worked_66 : decode cX2_worked 66 = .ok (.if_icmp .lt 35, 3) := by decide +kernel
theorem dX2_worked_69 : decode cX2_worked 69 = .ok (.aload_n 0, 1) := by decide +kernel
theorem dX2_worked_70 : decode cX2_worked 70 = .ok (.getfield 20, 3) := by decide +kernel
theorem dX2_worked_73 : decode cX2_worked 73 = .ok (.iload 5, 2) := by decide +kernel
theorem dX2_worked_75 : decode cX2_worked 75 = .ok (.iconst (-1), 1) := by decide +kernel
theorem dX2_worked_76 : decode cX2_worked 76 = .ok (.if_icmp .ne 7, 3) := by decide +kernel
theorem dX2_worked_79 : decode cX2_worked 79 = .ok (.iload_n 1, 1) := by decide +kernel
theorem dX2_worked_80 : decode cX2_worked 80 = .ok (.goto 15, 3) := by decide +kernel
theorem dX2_worked_83 : decode cX2_worked 83 = .ok (.iload 5, 2) := by decide +kernel
theorem dX2_worked_85 : decode cX2_worked 85 = .ok (.bipush (-2), 2) := by decide +kernel
theorem dX2_worked_87 : decode cX2_worked 87 = .ok (.if_icmp .ne 7, 3) := by decide +kernel
theorem dX2_worked_90 : decode cX2_worked 90 = .ok (.iload_n 2, 1) := by decide +kernel
theorem dX2_worked_91 : decode cX2_worked 91 = .ok (.goto 4, 3) := by decide +kernel
theorem dX2_worked_94 : decode cX2_worked 94 = .ok (.iload_n 3, 1) := by decide +kernel
theorem dX2_worked_95 : decode cX2_worked 95 = .ok (.invokevirtual 57, 3) := by decide +kernel
theorem dX2_worked_98 : decode cX2_worked 98 = .ok (.goto 101, 3) := by decide +kernel
theorem dX2_worked_101 : decode cX2_worked 101 = .ok (.iload 5, 2) := by decide +kernel
theorem dX2_worked_103 : decode cX2_worked 103 = .ok (.bipush (-33), 2) := by decide +kernel
theorem dX2_worked_105 : decode cX2_worked 105 = .ok (.if_icmp .ne 39, 3) := by decide +kernel
theorem dX2_worked_108 : decode cX2_worked 108 = .ok (.iload 6, 2) := by decide +kernel
theorem dX2_worked_110 : decode cX2_worked 110 = .ok (.ifCond .lt 34, 3) := by decide +kernel
theorem dX2_worked_113 : decode cX2_worked 113 = .ok (.aload_n 0, 1) := by decide +kernel
theorem dX2_worked_114 : decode cX2_worked 114 = .ok (.getfield 20, 3) := by decide +kernel
theorem dX2_worked_117 : decode cX2_worked 117 = .ok (.getfield 53, 3) := by decide +kernel
theorem dX2_worked_120 : decode cX2_worked 120 = .ok (.iload 6, 2) := by decide +kernel
theorem dX2_worked_122 : decode cX2_worked 122 = .ok (.aload_n 0, 1) := by decide +kernel
theorem dX2_worked_123 : decode cX2_worked 123 = .ok (.getfield 20, 3) := by decide +kernel
theorem dX2_worked_126 : decode cX2_worked 126 = .ok (.getfield 53, 3) := by decide +kernel
theorem dX2_worked_129 : decode cX2_worked 129 = .ok (.iload 6, 2) := by decide +kernel
theorem dX2_worked_131 : decode cX2_worked 131 = .ok (.iaload, 1) := by decide +kernel
theorem dX2_worked_132 : decode cX2_worked 132 = .ok (.ifCond .ne 7, 3) := by decide +kernel
theorem dX2_worked_135 : decode cX2_worked 135 = .ok (.iconst 1, 1) := by decide +kernel
theorem dX2_worked_136 : decode cX2_worked 136 = .ok (.goto 4, 3) := by decide +kernel
theorem dX2_worked_139 : decode cX2_worked 139 = .ok (.iconst 0, 1) := by decide +kernel
theorem dX2_worked_140 : decode cX2_worked 140 = .ok (.iastore, 1) := by decide +kernel
theorem dX2_worked_141 : decode cX2_worked 141 = .ok (.goto 58, 3) := by decide +kernel
theorem dX2_worked_144 : decode cX2_worked 144 = .ok (.iload 6, 2) := by decide +kernel
theorem dX2_worked_146 : decode cX2_worked 146 = .ok (.iconst 1, 1) := by decide +kernel
theorem dX2_worked_147 : decode cX2_worked 147 = .ok (.if_icmp .lt 52, 3) := by decide +kernel
theorem dX2_worked_150 : decode cX2_worked 150 = .ok (.aload_n 0, 1) := by decide +kernel
theorem dX2_worked_151 : decode cX2_worked 151 = .ok (.getfield 20, 3) := by decide +kernel
theorem dX2_worked_154 : decode cX2_worked 154 = .ok (.getfield 53, 3) := by decide +kernel
theorem dX2_worked_157 : decode cX2_worked 157 = .ok (.iload 6, 2) := by decide +kernel
theorem dX2_worked_159 : decode cX2_worked 159 = .ok (.iconst 1, 1) := by decide +kernel
theorem dX2_worked_160 : decode cX2_worked 160 = .ok (.isub, 1) := by decide +kernel
theorem dX2_worked_161 : decode cX2_worked 161 = .ok (.iload 5, 2) := by decide +kernel
theorem dX2_worked_163 : decode cX2_worked 163 = .ok (.ineg, 1) := by decide +kernel
theorem dX2_worked_164 : decode cX2_worked 164 = .ok (.aload_n 0, 1) := by decide +kernel
theorem dX2_worked_165 : decode cX2_worked 165 = .ok (.getfield 20, 3) := by decide +kernel
theorem dX2_worked_168 : decode cX2_worked 168 = .ok (.getfield 53, 3) := by decide +kernel
theorem dX2_worked_171 : decode cX2_worked 171 = .ok (.iload 6, 2) := by decide +kernel
theorem dX2_worked_173 : decode cX2_worked 173 = .ok (.iconst 1, 1) := by decide +kernel
theorem dX2_worked_174 : decode cX2_worked 174 = .ok (.isub, 1) := by decide +kernel
theorem dX2_worked_175 : decode cX2_worked 175 = .ok (.iaload, 1) := by decide +kernel
theorem dX2_worked_176 : decode cX2_worked 176 = .ok (.aload_n 0, 1) := by decide +kernel
theorem dX2_worked_177 : decode cX2_worked 177 = .ok (.getfield 20, 3) := by decide +kernel
theorem dX2_worked_180 : decode cX2_worked 180 = .ok (.getfield 53, 3) := by decide +kernel
theorem dX2_worked_183 : decode cX2_worked 183 = .ok (.iload 6, 2) := by decide +kernel
theorem dX2_worked_185 : decode cX2_worked 185 = .ok (.iaload, 1) := by decide +kernel
theorem dX2_worked_186 : decode cX2_worked 186 = .ok (.invokestatic 60, 3) := by decide +kernel
theorem dX2_worked_189 : decode cX2_worked 189 = .ok (.iastore, 1) := by decide +kernel
theorem dX2_worked_190 : decode cX2_worked 190 = .ok (.aload_n 0, 1) := by decide +kernel
theorem dX2_worked_191 : decode cX2_worked 191 = .ok (.getfield 20, 3) := by decide +kernel
theorem dX2_worked_194 : decode cX2_worked 194 = .ok (.iload 6, 2) := by decide +kernel
theorem dX2_worked_196 : decode cX2_worked 196 = .ok (.putfield 31, 3) := by decide +kernel
theorem dX2_worked_199 : decode cX2_worked 199 = .ok (.iinc 4 1, 3) := by decide +kernel
theorem dX2_worked_202 : decode cX2_worked 202 = .ok (.goto (-192), 3) := by decide +kernel
theorem dX2_worked_205 : decode cX2_worked 205 = .ok (.aload_n 0, 1) := by decide +kernel
theorem dX2_worked_206 : decode cX2_worked 206 = .ok (.getfield 20, 3) := by decide +kernel
theorem dX2_worked_209 : decode cX2_worked 209 = .ok (.getfield 31, 3) := by decide +kernel
theorem dX2_worked_212 : decode cX2_worked 212 = .ok (.ifCond .le 15, 3) := by decide +kernel
theorem dX2_worked_215 : decode cX2_worked 215 = .ok (.aload_n 0, 1) := by decide +kernel
theorem dX2_worked_216 : decode cX2_worked 216 = .ok (.getfield 20, 3) := by decide +kernel
theorem dX2_worked_219 : decode cX2_worked 219 = .ok (.getfield 53, 3) := by decide +kernel
theorem dX2_worked_222 : decode cX2_worked 222 = .ok (.iconst 0, 1) := by decide +kernel
theorem dX2_worked_223 : decode cX2_worked 223 = .ok (.iaload, 1) := by decide +kernel
theorem dX2_worked_224 : decode cX2_worked 224 = .ok (.goto 4, 3) := by decide +kernel
theorem dX2_worked_227 : decode cX2_worked 227 = .ok (.iconst 0, 1) := by decide +kernel
theorem dX2_worked_228 : decode cX2_worked 228 = .ok (.ireturn, 1) := by decide +kernel
theorem dX2_joined_0 : decode cX2_joined 0 = .ok (.iload_n 0, 1) := by decide +kernel
theorem dX2_joined_1 : decode cX2_joined 1 = .ok (.lookupswitch 168 #[(38, 97), (42, 152), (43, 144), (45, 148), (47, 156), (60, 111), (61, 122), (62, 133), (124, 83)], 83) := by decide +kernel
theorem dX2_joined_84 : decode cX2_joined 84 = .ok (.iload_n 1, 1) := by decide +kernel
theorem dX2_joined_85 : decode cX2_joined 85 = .ok (.ifCond .ne 7, 3) := by decide +kernel
theorem dX2_joined_88 : decode cX2_joined 88 = .ok (.iload_n 2, 1) := by decide +kernel
theorem dX2_joined_89 : decode cX2_joined 89 = .ok (.ifCond .eq 7, 3) := by decide +kernel
theorem dX2_joined_92 : decode cX2_joined 92 = .ok (.iconst 1, 1) := by decide +kernel
theorem dX2_joined_93 : decode cX2_joined 93 = .ok (.goto 4, 3) := by decide +kernel
theorem dX2_joined_96 : decode cX2_joined 96 = .ok (.iconst 0, 1) := by decide +kernel
theorem dX2_joined_97 : decode cX2_joined 97 = .ok (.ireturn, 1) := by decide +kernel
theorem dX2_joined_98 : decode cX2_joined 98 = .ok (.iload_n 1, 1) := by decide +kernel
theorem dX2_joined_99 : decode cX2_joined 99 = .ok (.ifCond .eq 11, 3) := by decide +kernel
theorem dX2_joined_102 : decode cX2_joined 102 = .ok (.iload_n 2, 1) := by decide +kernel
theorem dX2_joined_103 : decode cX2_joined 103 = .ok (.ifCond .eq 7, 3) := by decide +kernel
theorem dX2_joined_106 : decode cX2_joined 106 = .ok (.iconst 1, 1) := by decide +kernel
theorem dX2_joined_107 : decode cX2_joined 107 = .ok (.goto 4, 3) := by decide +kernel
theorem dX2_joined_110 : decode cX2_joined 110 = .ok (.iconst 0, 1) := by decide +kernel
theorem dX2_joined_111 : decode cX2_joined 111 = .ok (.ireturn, 1) := by decide +kernel
theorem dX2_joined_112 : decode cX2_joined 112 = .ok (.iload_n 1, 1) := by decide +kernel
theorem dX2_joined_113 : decode cX2_joined 113 = .ok (.iload_n 2, 1) := by decide +kernel
theorem dX2_joined_114 : decode cX2_joined 114 = .ok (.if_icmp .ge 7, 3) := by decide +kernel
theorem dX2_joined_117 : decode cX2_joined 117 = .ok (.iconst 1, 1) := by decide +kernel
theorem dX2_joined_118 : decode cX2_joined 118 = .ok (.goto 4, 3) := by decide +kernel
theorem dX2_joined_121 : decode cX2_joined 121 = .ok (.iconst 0, 1) := by decide +kernel
theorem dX2_joined_122 : decode cX2_joined 122 = .ok (.ireturn, 1) := by decide +kernel
theorem dX2_joined_123 : decode cX2_joined 123 = .ok (.iload_n 1, 1) := by decide +kernel
theorem dX2_joined_124 : decode cX2_joined 124 = .ok (.iload_n 2, 1) := by decide +kernel
theorem dX2_joined_125 : decode cX2_joined 125 = .ok (.if_icmp .ne 7, 3) := by decide +kernel
theorem dX2_joined_128 : decode cX2_joined 128 = .ok (.iconst 1, 1) := by decide +kernel
theorem dX2_joined_129 : decode cX2_joined 129 = .ok (.goto 4, 3) := by decide +kernel
theorem dX2_joined_132 : decode cX2_joined 132 = .ok (.iconst 0, 1) := by decide +kernel
theorem dX2_joined_133 : decode cX2_joined 133 = .ok (.ireturn, 1) := by decide +kernel
theorem dX2_joined_134 : decode cX2_joined 134 = .ok (.iload_n 1, 1) := by decide +kernel
theorem dX2_joined_135 : decode cX2_joined 135 = .ok (.iload_n 2, 1) := by decide +kernel
theorem dX2_joined_136 : decode cX2_joined 136 = .ok (.if_icmp .le 7, 3) := by decide +kernel
theorem dX2_joined_139 : decode cX2_joined 139 = .ok (.iconst 1, 1) := by decide +kernel
theorem dX2_joined_140 : decode cX2_joined 140 = .ok (.goto 4, 3) := by decide +kernel
theorem dX2_joined_143 : decode cX2_joined 143 = .ok (.iconst 0, 1) := by decide +kernel
theorem dX2_joined_144 : decode cX2_joined 144 = .ok (.ireturn, 1) := by decide +kernel
theorem dX2_joined_145 : decode cX2_joined 145 = .ok (.iload_n 1, 1) := by decide +kernel
theorem dX2_joined_146 : decode cX2_joined 146 = .ok (.iload_n 2, 1) := by decide +kernel
theorem dX2_joined_147 : decode cX2_joined 147 = .ok (.iadd, 1) := by decide +kernel
theorem dX2_joined_148 : decode cX2_joined 148 = .ok (.ireturn, 1) := by decide +kernel
theorem dX2_joined_149 : decode cX2_joined 149 = .ok (.iload_n 1, 1) := by decide +kernel
theorem dX2_joined_150 : decode cX2_joined 150 = .ok (.iload_n 2, 1) := by decide +kernel
theorem dX2_joined_151 : decode cX2_joined 151 = .ok (.isub, 1) := by decide +kernel
theorem dX2_joined_152 : decode cX2_joined 152 = .ok (.ireturn, 1) := by decide +kernel
theorem dX2_joined_153 : decode cX2_joined 153 = .ok (.iload_n 1, 1) := by decide +kernel
theorem dX2_joined_154 : decode cX2_joined 154 = .ok (.iload_n 2, 1) := by decide +kernel
theorem dX2_joined_155 : decode cX2_joined 155 = .ok (.imul, 1) := by decide +kernel
theorem dX2_joined_156 : decode cX2_joined 156 = .ok (.ireturn, 1) := by decide +kernel
theorem dX2_joined_157 : decode cX2_joined 157 = .ok (.iload_n 2, 1) := by decide +kernel
theorem dX2_joined_158 : decode cX2_joined 158 = .ok (.ifCond .ne 7, 3) := by decide +kernel
theorem dX2_joined_161 : decode cX2_joined 161 = .ok (.iconst 0, 1) := by decide +kernel
theorem dX2_joined_162 : decode cX2_joined 162 = .ok (.goto 6, 3) := by decide +kernel
theorem dX2_joined_165 : decode cX2_joined 165 = .ok (.iload_n 1, 1) := by decide +kernel
theorem dX2_joined_166 : decode cX2_joined 166 = .ok (.iload_n 2, 1) := by decide +kernel
theorem dX2_joined_167 : decode cX2_joined 167 = .ok (.idiv, 1) := by decide +kernel
theorem dX2_joined_168 : decode cX2_joined 168 = .ok (.ireturn, 1) := by decide +kernel
theorem dX2_joined_169 : decode cX2_joined 169 = .ok (.iload_n 2, 1) := by decide +kernel
theorem dX2_joined_170 : decode cX2_joined 170 = .ok (.ifCond .ne 7, 3) := by decide +kernel
theorem dX2_joined_173 : decode cX2_joined 173 = .ok (.iconst 0, 1) := by decide +kernel
theorem dX2_joined_174 : decode cX2_joined 174 = .ok (.goto 6, 3) := by decide +kernel
theorem dX2_joined_177 : decode cX2_joined 177 = .ok (.iload_n 1, 1) := by decide +kernel
theorem dX2_joined_178 : decode cX2_joined 178 = .ok (.iload_n 2, 1) := by decide +kernel
theorem dX2_joined_179 : decode cX2_joined 179 = .ok (.irem, 1) := by decide +kernel
theorem dX2_joined_180 : decode cX2_joined 180 = .ok (.ireturn, 1) := by decide +kernel
theorem dX3_init_0 : decode cX3_init 0 = .ok (.aload_n 0, 1) := by decide +kernel
theorem dX3_init_1 : decode cX3_init 1 = .ok (.invokespecial 3, 3) := by decide +kernel
theorem dX3_init_4 : decode cX3_init 4 = .ok (.aload_n 0, 1) := by decide +kernel
theorem dX3_init_5 : decode cX3_init 5 = .ok (.new 9, 3) := by decide +kernel
theorem dX3_init_8 : decode cX3_init 8 = .ok (.dup, 1) := by decide +kernel
theorem dX3_init_9 : decode cX3_init 9 = .ok (.bipush 50, 2) := by decide +kernel
theorem dX3_init_11 : decode cX3_init 11 = .ok (.invokespecial 11, 3) := by decide +kernel
theorem dX3_init_14 : decode cX3_init 14 = .ok (.putfield 14, 3) := by decide +kernel
theorem dX3_init_17 : decode cX3_init 17 = .ok (.aload_n 0, 1) := by decide +kernel
theorem dX3_init_18 : decode cX3_init 18 = .ok (.new 9, 3) := by decide +kernel
theorem dX3_init_21 : decode cX3_init 21 = .ok (.dup, 1) := by decide +kernel
theorem dX3_init_22 : decode cX3_init 22 = .ok (.bipush 50, 2) := by decide +kernel
theorem dX3_init_24 : decode cX3_init 24 = .ok (.invokespecial 11, 3) := by decide +kernel
theorem dX3_init_27 : decode cX3_init 27 = .ok (.putfield 20, 3) := by decide +kernel
theorem dX3_init_30 : decode cX3_init 30 = .ok (.aload_n 0, 1) := by decide +kernel
theorem dX3_init_31 : decode cX3_init 31 = .ok (.ldc 23, 2) := by decide +kernel
theorem dX3_init_33 : decode cX3_init 33 = .ok (.putfield 25, 3) := by decide +kernel
theorem dX3_init_36 : decode cX3_init 36 = .ok (.return_, 1) := by decide +kernel
theorem dX3_reads_0 : decode cX3_reads 0 = .ok (.aload_n 0, 1) := by decide +kernel
theorem dX3_reads_1 : decode cX3_reads 1 = .ok (.getfield 20, 3) := by decide +kernel
theorem dX3_reads_4 : decode cX3_reads 4 = .ok (.aload_n 2, 1) := by decide +kernel
theorem dX3_reads_5 : decode cX3_reads 5 = .ok (.invokevirtual 29, 3) := by decide +kernel
theorem dX3_reads_8 : decode cX3_reads 8 = .ok (.aload_n 0, 1) := by decide +kernel
theorem dX3_reads_9 : decode cX3_reads 9 = .ok (.iload_n 1, 1) := by decide +kernel
theorem dX3_reads_10 : decode cX3_reads 10 = .ok (.ifCond .ne 8, 3) := by decide +kernel
theorem dX3_reads_13 : decode cX3_reads 13 = .ok (.ldc 23, 2) := by decide +kernel
theorem dX3_reads_15 : decode cX3_reads 15 = .ok (.goto 5, 3) := by decide +kernel
theorem dX3_reads_18 : decode cX3_reads 18 = .ok (.ldc 33, 2) := by decide +kernel
theorem dX3_reads_20 : decode cX3_reads 20 = .ok (.putfield 25, 3) := by decide +kernel
theorem dX3_reads_23 : decode cX3_reads 23 = .ok (.aload_n 0, 1) := by decide +kernel
theorem dX3_reads_24 : decode cX3_reads 24 = .ok (.iconst 0, 1) := by decide +kernel
theorem dX3_reads_25 : decode cX3_reads 25 = .ok (.putfield 35, 3) := by decide +kernel
theorem dX3_reads_28 : decode cX3_reads 28 = .ok (.aload_n 0, 1) := by decide +kernel
theorem dX3_reads_29 : decode cX3_reads 29 = .ok (.getfield 14, 3) := by decide +kernel
theorem dX3_reads_32 : decode cX3_reads 32 = .ok (.invokevirtual 39, 3) := by decide +kernel
theorem dX3_reads_35 : decode cX3_reads 35 = .ok (.aload_n 0, 1) := by decide +kernel
theorem dX3_reads_36 : decode cX3_reads 36 = .ok (.iconst 0, 1) := by decide +kernel
theorem dX3_reads_37 : decode cX3_reads 37 = .ok (.iconst 0, 1) := by decide +kernel
theorem dX3_reads_38 : decode cX3_reads 38 = .ok (.invokevirtual 42, 3) := by decide +kernel
theorem dX3_reads_41 : decode cX3_reads 41 = .ok (.ifCond .eq 21, 3) := by decide +kernel
theorem dX3_reads_44 : decode cX3_reads 44 = .ok (.aload_n 0, 1) := by decide +kernel
theorem dX3_reads_45 : decode cX3_reads 45 = .ok (.getfield 35, 3) := by decide +kernel
theorem dX3_reads_48 : decode cX3_reads 48 = .ok (.aload_n 0, 1) := by decide +kernel
theorem dX3_reads_49 : decode cX3_reads 49 = .ok (.getfield 20, 3) := by decide +kernel
theorem dX3_reads_52 : decode cX3_reads 52 = .ok (.getfield 46, 3) := by decide +kernel
theorem dX3_reads_55 : decode cX3_reads 55 = .ok (.if_icmp .ne 7, 3) := by decide +kernel
theorem dX3_reads_58 : decode cX3_reads 58 = .ok (.iconst 1, 1) := by decide +kernel
theorem dX3_reads_59 : decode cX3_reads 59 = .ok (.goto 4, 3) := by decide +kernel
theorem dX3_reads_62 : decode cX3_reads 62 = .ok (.iconst 0, 1) := by decide +kernel
theorem dX3_reads_63 : decode cX3_reads 63 = .ok (.ireturn, 1) := by decide +kernel
theorem dX3_sign_0 : decode cX3_sign 0 = .ok (.aload_n 0, 1) := by decide +kernel
theorem dX3_sign_1 : decode cX3_sign 1 = .ok (.getfield 35, 3) := by decide +kernel
theorem dX3_sign_4 : decode cX3_sign 4 = .ok (.aload_n 0, 1) := by decide +kernel
theorem dX3_sign_5 : decode cX3_sign 5 = .ok (.getfield 20, 3) := by decide +kernel
theorem dX3_sign_8 : decode cX3_sign 8 = .ok (.getfield 46, 3) := by decide +kernel
theorem dX3_sign_11 : decode cX3_sign 11 = .ok (.if_icmp .ge 18, 3) := by decide +kernel
theorem dX3_sign_14 : decode cX3_sign 14 = .ok (.aload_n 0, 1) := by decide +kernel
theorem dX3_sign_15 : decode cX3_sign 15 = .ok (.getfield 20, 3) := by decide +kernel
theorem dX3_sign_18 : decode cX3_sign 18 = .ok (.getfield 49, 3) := by decide +kernel
theorem dX3_sign_21 : decode cX3_sign 21 = .ok (.aload_n 0, 1) := by decide +kernel
theorem dX3_sign_22 : decode cX3_sign 22 = .ok (.getfield 35, 3) := by decide +kernel
theorem dX3_sign_25 : decode cX3_sign 25 = .ok (.iaload, 1) := by decide +kernel
theorem dX3_sign_26 : decode cX3_sign 26 = .ok (.goto 4, 3) := by decide +kernel
theorem dX3_sign_29 : decode cX3_sign 29 = .ok (.iconst (-1), 1) := by decide +kernel
theorem dX3_sign_30 : decode cX3_sign 30 = .ok (.ireturn, 1) := by decide +kernel
theorem dX3_levelOf_0 : decode cX3_levelOf 0 = .ok (.iload_n 0, 1) := by decide +kernel
theorem dX3_levelOf_1 : decode cX3_levelOf 1 = .ok (.lookupswitch 101 #[(37, 99), (38, 93), (42, 99), (43, 97), (45, 97), (47, 99), (60, 95), (61, 95), (62, 95), (124, 91)], 91) := by decide +kernel
theorem dX3_levelOf_92 : decode cX3_levelOf 92 = .ok (.iconst 0, 1) := by decide +kernel
theorem dX3_levelOf_93 : decode cX3_levelOf 93 = .ok (.ireturn, 1) := by decide +kernel
theorem dX3_levelOf_94 : decode cX3_levelOf 94 = .ok (.iconst 1, 1) := by decide +kernel
theorem dX3_levelOf_95 : decode cX3_levelOf 95 = .ok (.ireturn, 1) := by decide +kernel
theorem dX3_levelOf_96 : decode cX3_levelOf 96 = .ok (.iconst 2, 1) := by decide +kernel
theorem dX3_levelOf_97 : decode cX3_levelOf 97 = .ok (.ireturn, 1) := by decide +kernel
theorem dX3_levelOf_98 : decode cX3_levelOf 98 = .ok (.iconst 3, 1) := by decide +kernel
theorem dX3_levelOf_99 : decode cX3_levelOf 99 = .ok (.ireturn, 1) := by decide +kernel
theorem dX3_levelOf_100 : decode cX3_levelOf 100 = .ok (.iconst 4, 1) := by decide +kernel
theorem dX3_levelOf_101 : decode cX3_levelOf 101 = .ok (.ireturn, 1) := by decide +kernel
theorem dX3_levelOf_102 : decode cX3_levelOf 102 = .ok (.iconst (-1), 1) := by decide +kernel
theorem dX3_levelOf_103 : decode cX3_levelOf 103 = .ok (.ireturn, 1) := by decide +kernel
theorem dX3_readLevel_0 : decode cX3_readLevel 0 = .ok (.iload_n 1, 1) := by decide +kernel
theorem dX3_readLevel_1 : decode cX3_readLevel 1 = .ok (.iconst 5, 1) := by decide +kernel
theorem dX3_readLevel_2 : decode cX3_readLevel 2 = .ok (.if_icmp .lt 9, 3) := by decide +kernel
theorem dX3_readLevel_5 : decode cX3_readLevel 5 = .ok (.aload_n 0, 1) := by decide +kernel
theorem dX3_readLevel_6 : decode cX3_readLevel 6 = .ok (.iload_n 2, 1) := by decide +kernel
theorem dX3_readLevel_7 : decode cX3_readLevel 7 = .ok (.invokevirtual 53, 3) := by decide +kernel
theorem dX3_readLevel_10 : decode cX3_readLevel 10 = .ok (.ireturn, 1) := by decide +kernel
theorem dX3_readLevel_11 : decode cX3_readLevel 11 = .ok (.aload_n 0, 1) := by decide +kernel
theorem dX3_readLevel_12 : decode cX3_readLevel 12 = .ok (.iload_n 1, 1) := by decide +kernel
theorem dX3_readLevel_13 : decode cX3_readLevel 13 = .ok (.iconst 1, 1) := by decide +kernel
theorem dX3_readLevel_14 : decode cX3_readLevel 14 = .ok (.iadd, 1) := by decide +kernel
theorem dX3_readLevel_15 : decode cX3_readLevel 15 = .ok (.iload_n 2, 1) := by decide +kernel
theorem dX3_readLevel_16 : decode cX3_readLevel 16 = .ok (.invokevirtual 42, 3) := by decide +kernel
theorem dX3_readLevel_19 : decode cX3_readLevel 19 = .ok (.ifCond .ne 5, 3) := by decide +kernel
theorem dX3_readLevel_22 : decode cX3_readLevel 22 = .ok (.iconst 0, 1) := by decide +kernel
theorem dX3_readLevel_23 : decode cX3_readLevel 23 = .ok (.ireturn, 1) := by decide +kernel
theorem dX3_readLevel_24 : decode cX3_readLevel 24 = .ok (.iload_n 1, 1) := by decide +kernel
theorem dX3_readLevel_25 : decode cX3_readLevel 25 = .ok (.iconst 2, 1) := by decide +kernel
theorem dX3_readLevel_26 : decode cX3_readLevel 26 = .ok (.if_icmp .ne 7, 3) := by decide +kernel
theorem dX3_readLevel_29 : decode cX3_readLevel 29 = .ok (.iconst 1, 1) := by decide +kernel
theorem dX3_readLevel_30 : decode cX3_readLevel 30 = .ok (.goto 5, 3) := by decide +kernel
theorem dX3_readLevel_33 : decode cX3_readLevel 33 = .ok (.bipush 50, 2) := by decide +kernel
theorem dX3_readLevel_35 : decode cX3_readLevel 35 = .ok (.istore_n 3, 1) := by decide +kernel
theorem dX3_readLevel_36 : decode cX3_readLevel 36 = .ok (.iconst 0, 1) := by decide +kernel
theorem dX3_readLevel_37 : decode cX3_readLevel 37 = .ok (.istore 4, 2) := by decide +kernel
theorem dX3_readLevel_39 : decode cX3_readLevel 39 = .ok (.iload 4, 2) := by decide +kernel
theorem dX3_readLevel_41 : decode cX3_readLevel 41 = .ok (.iload_n 3, 1) := by decide +kernel
theorem dX3_readLevel_42 : decode cX3_readLevel 42 = .ok (.if_icmp .ge 59, 3) := by decide +kernel
theorem dX3_readLevel_45 : decode cX3_readLevel 45 = .ok (.aload_n 0, 1) := by decide +kernel
theorem dX3_readLevel_46 : decode cX3_readLevel 46 = .ok (.invokevirtual 57, 3) := by decide +kernel
theorem dX3_readLevel_49 : decode cX3_readLevel 49 = .ok (.invokestatic 61, 3) := by decide +kernel
theorem dX3_readLevel_52 : decode cX3_readLevel 52 = .ok (.iload_n 1, 1) := by decide +kernel
theorem dX3_readLevel_53 : decode cX3_readLevel 53 = .ok (.if_icmp .ne 48, 3) := by decide +kernel
theorem dX3_readLevel_56 : decode cX3_readLevel 56 = .ok (.aload_n 0, 1) := by decide +kernel
theorem dX3_readLevel_57 : decode cX3_readLevel 57 = .ok (.invokevirtual 57, 3) := by decide +kernel
theorem dX3_readLevel_60 : decode cX3_readLevel 60 = .ok (.istore 5, 2) := by decide +kernel
theorem dX3_readLevel_62 : decode cX3_readLevel 62 = .ok (.aload_n 0, 1) := by decide +kernel
theorem dX3_readLevel_63 : decode cX3_readLevel 63 = .ok (.dup, 1) := by decide +kernel
theorem dX3_readLevel_64 : decode cX3_readLevel 64 = .ok (.getfield 35, 3) := by decide +kernel
theorem dX3_readLevel_67 : decode cX3_readLevel 67 = .ok (.iconst 1, 1) := by decide +kernel
theorem dX3_readLevel_68 : decode cX3_readLevel 68 = .ok (.iadd, 1) := by decide +kernel
theorem dX3_readLevel_69 : decode cX3_readLevel 69 = .ok (.putfield 35, 3) := by decide +kernel
theorem dX3_readLevel_72 : decode cX3_readLevel 72 = .ok (.aload_n 0, 1) := by decide +kernel
theorem dX3_readLevel_73 : decode cX3_readLevel 73 = .ok (.iload_n 1, 1) := by decide +kernel
theorem dX3_readLevel_74 : decode cX3_readLevel 74 = .ok (.iconst 1, 1) := by decide +kernel
theorem dX3_readLevel_75 : decode cX3_readLevel 75 = .ok (.iadd, 1) := by decide +kernel
theorem dX3_readLevel_76 : decode cX3_readLevel 76 = .ok (.iload_n 2, 1) := by decide +kernel
theorem dX3_readLevel_77 : decode cX3_readLevel 77 = .ok (.invokevirtual 42, 3) := by decide +kernel
theorem dX3_readLevel_80 : decode cX3_readLevel 80 = .ok (.ifCond .ne 5, 3) := by decide +kernel
theorem dX3_readLevel_83 : decode cX3_readLevel 83 = .ok (.iconst 0, 1) := by decide +kernel
theorem dX3_readLevel_84 : decode cX3_readLevel 84 = .ok (.ireturn, 1) := by decide +kernel
theorem dX3_readLevel_85 : decode cX3_readLevel 85 = .ok (.aload_n 0, 1) := by decide +kernel
theorem dX3_readLevel_86 : decode cX3_readLevel 86 = .ok (.getfield 14, 3) := by decide +kernel
theorem dX3_readLevel_89 : decode cX3_readLevel 89 = .ok (.iload 5, 2) := by decide +kernel
theorem dX3_readLevel_91 : decode cX3_readLevel 91 = .ok (.ineg, 1) := by decide +kernel
theorem dX3_readLevel_92 : decode cX3_readLevel 92 = .ok (.invokevirtual 65, 3) := by decide +kernel
theorem dX3_readLevel_95 : decode cX3_readLevel 95 = .ok (.iinc 4 1, 3) := by decide +kernel
theorem dX3_readLevel_98 : decode cX3_readLevel 98 = .ok (.goto (-59), 3) := by decide +kernel
theorem dX3_readLevel_101 : decode cX3_readLevel 101 = .ok (.iconst 1, 1) := by decide +kernel
theorem dX3_readLevel_102 : decode cX3_readLevel 102 = .ok (.ireturn, 1) := by decide +kernel
theorem dX3_readSingle_0 : decode cX3_readSingle 0 = .ok (.aload_n 0, 1) := by decide +kernel
theorem dX3_readSingle_1 : decode cX3_readSingle 1 = .ok (.invokevirtual 57, 3) := by decide +kernel
theorem dX3_readSingle_4 : decode cX3_readSingle 4 = .ok (.istore_n 2, 1) := by decide +kernel
theorem dX3_readSingle_5 : decode cX3_readSingle 5 = .ok (.iload_n 2, 1) := by decide +kernel
theorem dX3_readSingle_6 : decode cX3_readSingle 6 = .ok (.invokestatic 68, 3) := by decide +kernel
theorem dX3_readSingle_9 : decode cX3_readSingle 9 = .ok (.ifCond .eq 9, 3) := by decide +kernel
theorem dX3_readSingle_12 : decode cX3_readSingle 12 = .ok (.aload_n 0, 1) := by decide +kernel
theorem dX3_readSingle_13 : decode cX3_readSingle 13 = .ok (.invokevirtual 71, 3) := by decide +kernel
theorem dX3_readSingle_16 : decode cX3_readSingle 16 = .ok (.iconst 1, 1) := by decide +kernel
theorem dX3_readSingle_17 : decode cX3_readSingle 17 = .ok (.ireturn, 1) := by decide +kernel
theorem dX3_readSingle_18 : decode cX3_readSingle 18 = .ok (.iload_n 2, 1) := by decide +kernel
theorem dX3_readSingle_19 : decode cX3_readSingle 19 = .ok (.bipush 33, 2) := by decide +kernel
theorem dX3_readSingle_21 : decode cX3_readSingle 21 = .ok (.if_icmp .eq 9, 3) := by decide +kernel
theorem dX3_readSingle_24 : decode cX3_readSingle 24 = .ok (.iload_n 2, 1) := by decide +kernel
theorem dX3_readSingle_25 : decode cX3_readSingle 25 = .ok (.bipush 40, 2) := by decide +kernel
theorem dX3_readSingle_27 : decode cX3_readSingle 27 = .ok (.if_icmp .ne 25, 3) := by decide +kernel
theorem dX3_readSingle_30 : decode cX3_readSingle 30 = .ok (.iload_n 1, 1) := by decide +kernel
theorem dX3_readSingle_31 : decode cX3_readSingle 31 = .ok (.iconst 5, 1) := by decide +kernel
theorem dX3_readSingle_32 : decode cX3_readSingle 32 = .ok (.if_icmp .ge 18, 3) := by decide +kernel
theorem dX3_readSingle_35 : decode cX3_readSingle 35 = .ok (.aload_n 0, 1) := by decide +kernel
theorem dX3_readSingle_36 : decode cX3_readSingle 36 = .ok (.iload_n 2, 1) := by decide +kernel
theorem dX3_readSingle_37 : decode cX3_readSingle 37 = .ok (.iload_n 1, 1) := by decide +kernel
theorem dX3_readSingle_38 : decode cX3_readSingle 38 = .ok (.iconst 1, 1) := by decide +kernel
theorem dX3_readSingle_39 : decode cX3_readSingle 39 = .ok (.iadd, 1) := by decide +kernel
theorem dX3_readSingle_40 : decode cX3_readSingle 40 = .ok (.invokevirtual 74, 3) := by decide +kernel
theorem dX3_readSingle_43 : decode cX3_readSingle 43 = .ok (.ifCond .eq 7, 3) := by decide +kernel
theorem dX3_readSingle_46 : decode cX3_readSingle 46 = .ok (.iconst 1, 1) := by decide +kernel
theorem dX3_readSingle_47 : decode cX3_readSingle 47 = .ok (.goto 4, 3) := by decide +kernel
theorem dX3_readSingle_50 : decode cX3_readSingle 50 = .ok (.iconst 0, 1) := by decide +kernel
theorem dX3_readSingle_51 : decode cX3_readSingle 51 = .ok (.ireturn, 1) := by decide +kernel
theorem dX3_readSingle_52 : decode cX3_readSingle 52 = .ok (.aload_n 0, 1) := by decide +kernel
theorem dX3_readSingle_53 : decode cX3_readSingle 53 = .ok (.iload_n 2, 1) := by decide +kernel
theorem dX3_readSingle_54 : decode cX3_readSingle 54 = .ok (.invokevirtual 77, 3) := by decide +kernel
theorem dX3_readSingle_57 : decode cX3_readSingle 57 = .ok (.ireturn, 1) := by decide +kernel
theorem dX3_readOpened_0 : decode cX3_readOpened 0 = .ok (.aload_n 0, 1) := by decide +kernel
theorem dX3_readOpened_1 : decode cX3_readOpened 1 = .ok (.dup, 1) := by decide +kernel
theorem dX3_readOpened_2 : decode cX3_readOpened 2 = .ok (.getfield 35, 3) := by decide +kernel
theorem dX3_readOpened_5 : decode cX3_readOpened 5 = .ok (.iconst 1, 1) := by decide +kernel
theorem dX3_readOpened_6 : decode cX3_readOpened 6 = .ok (.iadd, 1) := by decide +kernel
theorem dX3_readOpened_7 : decode cX3_readOpened 7 = .ok (.putfield 35, 3) := by decide +kernel
theorem dX3_readOpened_10 : decode cX3_readOpened 10 = .ok (.iload_n 1, 1) := by decide +kernel
theorem dX3_readOpened_11 : decode cX3_readOpened 11 = .ok (.bipush 33, 2) := by decide +kernel
theorem dX3_readOpened_13 : decode cX3_readOpened 13 = .ok (.if_icmp .ne 20, 3) := by decide +kernel
theorem dX3_readOpened_16 : decode cX3_readOpened 16 = .ok (.aload_n 0, 1) := by decide +kernel
theorem dX3_readOpened_17 : decode cX3_readOpened 17 = .ok (.iload_n 2, 1) := by decide +kernel
theorem dX3_readOpened_18 : decode cX3_readOpened 18 = .ok (.invokevirtual 53, 3) := by decide +kernel
theorem dX3_readOpened_21 : decode cX3_readOpened 21 = .ok (.istore_n 3, 1) := by decide +kernel
theorem dX3_readOpened_22 : decode cX3_readOpened 22 = .ok (.aload_n 0, 1) := by decide +kernel
theorem dX3_readOpened_23 : decode cX3_readOpened 23 = .ok (.getfield 14, 3) := by decide +kernel
theorem dX3_readOpened_26 : decode cX3_readOpened 26 = .ok (.iload_n 1, 1) := by decide +kernel
theorem dX3_readOpened_27 : decode cX3_readOpened 27 = .ok (.ineg, 1) := by decide +kernel
theorem dX3_readOpened_28 : decode cX3_readOpened 28 = .ok (.invokevirtual 65, 3) := by decide +kernel
theorem dX3_readOpened_31 : decode cX3_readOpened 31 = .ok (.iload_n 3, 1) := by decide +kernel
theorem dX3_readOpened_32 : decode cX3_readOpened 32 = .ok (.ireturn, 1) := by decide +kernel
theorem dX3_readOpened_33 : decode cX3_readOpened 33 = .ok (.aload_n 0, 1) := by decide +kernel
theorem dX3_readOpened_34 : decode cX3_readOpened 34 = .ok (.iconst 0, 1) := by decide +kernel
theorem dX3_readOpened_35 : decode cX3_readOpened 35 = .ok (.iload_n 2, 1) := by decide +kernel
theorem dX3_readOpened_36 : decode cX3_readOpened 36 = .ok (.invokevirtual 42, 3) := by decide +kernel
theorem dX3_readOpened_39 : decode cX3_readOpened 39 = .ok (.ifCond .eq 12, 3) := by decide +kernel
theorem dX3_readOpened_42 : decode cX3_readOpened 42 = .ok (.aload_n 0, 1) := by decide +kernel
theorem dX3_readOpened_43 : decode cX3_readOpened 43 = .ok (.invokevirtual 57, 3) := by decide +kernel
theorem dX3_readOpened_46 : decode cX3_readOpened 46 = .ok (.bipush 41, 2) := by decide +kernel
theorem dX3_readOpened_48 : decode cX3_readOpened 48 = .ok (.if_icmp .eq 5, 3) := by decide +kernel
theorem dX3_readOpened_51 : decode cX3_readOpened 51 = .ok (.iconst 0, 1) := by decide +kernel
theorem dX3_readOpened_52 : decode cX3_readOpened 52 = .ok (.ireturn, 1) := by decide +kernel
theorem dX3_readOpened_53 : decode cX3_readOpened 53 = .ok (.aload_n 0, 1) := by decide +kernel
theorem dX3_readOpened_54 : decode cX3_readOpened 54 = .ok (.dup, 1) := by decide +kernel
theorem dX3_readOpened_55 : decode cX3_readOpened 55 = .ok (.getfield 35, 3) := by decide +kernel
theorem dX3_readOpened_58 : decode cX3_readOpened 58 = .ok (.iconst 1, 1) := by decide +kernel
theorem dX3_readOpened_59 : decode cX3_readOpened 59 = .ok (.iadd, 1) := by decide +kernel
theorem dX3_readOpened_60 : decode cX3_readOpened 60 = .ok (.putfield 35, 3) := by decide +kernel
theorem dX3_readOpened_63 : decode cX3_readOpened 63 = .ok (.iconst 1, 1) := by decide +kernel
theorem dX3_readOpened_64 : decode cX3_readOpened 64 = .ok (.ireturn, 1) := by decide +kernel
theorem dX3_readNumber_0 : decode cX3_readNumber 0 = .ok (.iconst 0, 1) := by decide +kernel
theorem dX3_readNumber_1 : decode cX3_readNumber 1 = .ok (.istore_n 1, 1) := by decide +kernel
theorem dX3_readNumber_2 : decode cX3_readNumber 2 = .ok (.iconst 0, 1) := by decide +kernel
theorem dX3_readNumber_3 : decode cX3_readNumber 3 = .ok (.istore_n 2, 1) := by decide +kernel
theorem dX3_readNumber_4 : decode cX3_readNumber 4 = .ok (.iload_n 2, 1) := by decide +kernel
theorem dX3_readNumber_5 : decode cX3_readNumber 5 = .ok (.iconst 4, 1) := by decide +kernel
theorem dX3_readNumber_6 : decode cX3_readNumber 6 = .ok (.if_icmp .ge 42, 3) := by decide +kernel
theorem dX3_readNumber_9 : decode cX3_readNumber 9 = .ok (.aload_n 0, 1) := by decide +kernel
theorem dX3_readNumber_10 : decode cX3_readNumber 10 = .ok (.invokevirtual 57, 3) := by decide +kernel
theorem dX3_readNumber_13 : decode cX3_readNumber 13 = .ok (.invokestatic 68, 3) := by decide +kernel
theorem dX3_readNumber_16 : decode cX3_readNumber 16 = .ok (.ifCond .eq 32, 3) := by decide +kernel
theorem dX3_readNumber_19 : decode cX3_readNumber 19 = .ok (.iload_n 1, 1) := by decide +kernel
theorem dX3_readNumber_20 : decode cX3_readNumber 20 = .ok (.bipush 10, 2) := by decide +kernel
theorem dX3_readNumber_22 : decode cX3_readNumber 22 = .ok (.imul, 1) := by decide +kernel
theorem dX3_readNumber_23 : decode cX3_readNumber 23 = .ok (.aload_n 0, 1) := by decide +kernel
theorem dX3_readNumber_24 : decode cX3_readNumber 24 = .ok (.invokevirtual 57, 3) := by decide +kernel
theorem dX3_readNumber_27 : decode cX3_readNumber 27 = .ok (.iadd, 1) := by decide +kernel
theorem dX3_readNumber_28 : decode cX3_readNumber 28 = .ok (.bipush 48, 2) := by decide +kernel
theorem dX3_readNumber_30 : decode cX3_readNumber 30 = .ok (.isub, 1) := by decide +kernel
theorem dX3_readNumber_31 : decode cX3_readNumber 31 = .ok (.istore_n 1, 1) := by decide +kernel
theorem dX3_readNumber_32 : decode cX3_readNumber 32 = .ok (.aload_n 0, 1) := by decide +kernel
theorem dX3_readNumber_33 : decode cX3_readNumber 33 = .ok (.dup, 1) := by decide +kernel
theorem dX3_readNumber_34 : decode cX3_readNumber 34 = .ok (.getfield 35, 3) := by decide +kernel
theorem dX3_readNumber_37 : decode cX3_readNumber 37 = .ok (.iconst 1, 1) := by decide +kernel
theorem dX3_readNumber_38 : decode cX3_readNumber 38 = .ok (.iadd, 1) := by decide +kernel
theorem dX3_readNumber_39 : decode cX3_readNumber 39 = .ok (.putfield 35, 3) := by decide +kernel
theorem dX3_readNumber_42 : decode cX3_readNumber 42 = .ok (.iinc 2 1, 3) := by decide +kernel
theorem dX3_readNumber_45 : decode cX3_readNumber 45 = .ok (.goto (-41), 3) := by decide +kernel
theorem dX3_readNumber_48 : decode cX3_readNumber 48 = .ok (.aload_n 0, 1) := by decide +kernel
theorem dX3_readNumber_49 : decode cX3_readNumber 49 = .ok (.getfield 14, 3) := by decide +kernel
theorem dX3_readNumber_52 : decode cX3_readNumber 52 = .ok (.iload_n 1, 1) := by decide +kernel
theorem dX3_readNumber_53 : decode cX3_readNumber 53 = .ok (.invokevirtual 65, 3) := by decide +kernel
theorem dX3_readNumber_56 : decode cX3_readNumber 56 = .ok (.return_, 1) := by decide +kernel
theorem dX3_readName_0 : decode cX3_readName 0 = .ok (.iload_n 1, 1) := by decide +kernel
theorem dX3_readName_1 : decode cX3_readName 1 = .ok (.ifCond .ge 7, 3) := by decide +kernel
theorem dX3_readName_4 : decode cX3_readName 4 = .ok (.iconst (-1), 1) := by decide +kernel
theorem dX3_readName_5 : decode cX3_readName 5 = .ok (.goto 12, 3) := by decide +kernel
theorem dX3_readName_8 : decode cX3_readName 8 = .ok (.aload_n 0, 1) := by decide +kernel
theorem dX3_readName_9 : decode cX3_readName 9 = .ok (.getfield 25, 3) := by decide +kernel
theorem dX3_readName_12 : decode cX3_readName 12 = .ok (.iload_n 1, 1) := by decide +kernel
theorem dX3_readName_13 : decode cX3_readName 13 = .ok (.i2c, 1) := by decide +kernel
theorem dX3_readName_14 : decode cX3_readName 14 = .ok (.invokevirtual 80, 3) := by decide +kernel
theorem dX3_readName_17 : decode cX3_readName 17 = .ok (.istore_n 2, 1) := by decide +kernel
theorem dX3_readName_18 : decode cX3_readName 18 = .ok (.iload_n 2, 1) := by decide +kernel
theorem dX3_readName_19 : decode cX3_readName 19 = .ok (.ifCond .ge 5, 3) := by decide +kernel
theorem dX3_readName_22 : decode cX3_readName 22 = .ok (.iconst 0, 1) := by decide +kernel
theorem dX3_readName_23 : decode cX3_readName 23 = .ok (.ireturn, 1) := by decide +kernel
theorem dX3_readName_24 : decode cX3_readName 24 = .ok (.aload_n 0, 1) := by decide +kernel
theorem dX3_readName_25 : decode cX3_readName 25 = .ok (.dup, 1) := by decide +kernel
theorem dX3_readName_26 : decode cX3_readName 26 = .ok (.getfield 35, 3) := by decide +kernel
theorem dX3_readName_29 : decode cX3_readName 29 = .ok (.iconst 1, 1) := by decide +kernel
theorem dX3_readName_30 : decode cX3_readName 30 = .ok (.iadd, 1) := by decide +kernel
theorem dX3_readName_31 : decode cX3_readName 31 = .ok (.putfield 35, 3) := by decide +kernel
theorem dX3_readName_34 : decode cX3_readName 34 = .ok (.aload_n 0, 1) := by decide +kernel
theorem dX3_readName_35 : decode cX3_readName 35 = .ok (.getfield 14, 3) := by decide +kernel
theorem dX3_readName_38 : decode cX3_readName 38 = .ok (.iconst (-1), 1) := by decide +kernel
theorem dX3_readName_39 : decode cX3_readName 39 = .ok (.iload_n 2, 1) := by decide +kernel
theorem dX3_readName_40 : decode cX3_readName 40 = .ok (.isub, 1) := by decide +kernel
theorem dX3_readName_41 : decode cX3_readName 41 = .ok (.invokevirtual 65, 3) := by decide +kernel
theorem dX3_readName_44 : decode cX3_readName 44 = .ok (.iconst 1, 1) := by decide +kernel
theorem dX3_readName_45 : decode cX3_readName 45 = .ok (.ireturn, 1) := by decide +kernel
theorem dX3_isDigit_0 : decode cX3_isDigit 0 = .ok (.iload_n 0, 1) := by decide +kernel
theorem dX3_isDigit_1 : decode cX3_isDigit 1 = .ok (.bipush 48, 2) := by decide +kernel
theorem dX3_isDigit_3 : decode cX3_isDigit 3 = .ok (.if_icmp .lt 13, 3) := by decide +kernel
theorem dX3_isDigit_6 : decode cX3_isDigit 6 = .ok (.iload_n 0, 1) := by decide +kernel
theorem dX3_isDigit_7 : decode cX3_isDigit 7 = .ok (.bipush 57, 2) := by decide +kernel
theorem dX3_isDigit_9 : decode cX3_isDigit 9 = .ok (.if_icmp .gt 7, 3) := by decide +kernel
theorem dX3_isDigit_12 : decode cX3_isDigit 12 = .ok (.iconst 1, 1) := by decide +kernel
theorem dX3_isDigit_13 : decode cX3_isDigit 13 = .ok (.goto 4, 3) := by decide +kernel
theorem dX3_isDigit_16 : decode cX3_isDigit 16 = .ok (.iconst 0, 1) := by decide +kernel
theorem dX3_isDigit_17 : decode cX3_isDigit 17 = .ok (.ireturn, 1) := by decide +kernel
theorem dX4_init_0 : decode cX4_init 0 = .ok (.aload_n 0, 1) := by decide +kernel
theorem dX4_init_1 : decode cX4_init 1 = .ok (.invokespecial 1, 3) := by decide +kernel
theorem dX4_init_4 : decode cX4_init 4 = .ok (.aload_n 0, 1) := by decide +kernel
theorem dX4_init_5 : decode cX4_init 5 = .ok (.iload_n 1, 1) := by decide +kernel
theorem dX4_init_6 : decode cX4_init 6 = .ok (.iconst 0, 1) := by decide +kernel
theorem dX4_init_7 : decode cX4_init 7 = .ok (.invokestatic 7, 3) := by decide +kernel
theorem dX4_init_10 : decode cX4_init 10 = .ok (.newarray .int, 2) := by decide +kernel
theorem dX4_init_12 : decode cX4_init 12 = .ok (.putfield 13, 3) := by decide +kernel
theorem dX4_init_15 : decode cX4_init 15 = .ok (.return_, 1) := by decide +kernel
theorem dX4_add_0 : decode cX4_add 0 = .ok (.aload_n 0, 1) := by decide +kernel
theorem dX4_add_1 : decode cX4_add 1 = .ok (.getfield 19, 3) := by decide +kernel
theorem dX4_add_4 : decode cX4_add 4 = .ok (.aload_n 0, 1) := by decide +kernel
theorem dX4_add_5 : decode cX4_add 5 = .ok (.getfield 13, 3) := by decide +kernel
theorem dX4_add_8 : decode cX4_add 8 = .ok (.arraylength, 1) := by decide +kernel
theorem dX4_add_9 : decode cX4_add 9 = .ok (.if_icmp .ge 23, 3) := by decide +kernel
theorem dX4_add_12 : decode cX4_add 12 = .ok (.aload_n 0, 1) := by decide +kernel
theorem dX4_add_13 : decode cX4_add 13 = .ok (.getfield 13, 3) := by decide +kernel
theorem dX4_add_16 : decode cX4_add 16 = .ok (.aload_n 0, 1) := by decide +kernel
theorem dX4_add_17 : decode cX4_add 17 = .ok (.getfield 19, 3) := by decide +kernel
theorem dX4_add_20 : decode cX4_add 20 = .ok (.iload_n 1, 1) := by decide +kernel
theorem dX4_add_21 : decode cX4_add 21 = .ok (.iastore, 1) := by decide +kernel
theorem dX4_add_22 : decode cX4_add 22 = .ok (.aload_n 0, 1) := by decide +kernel
theorem dX4_add_23 : decode cX4_add 23 = .ok (.dup, 1) := by decide +kernel
theorem dX4_add_24 : decode cX4_add 24 = .ok (.getfield 19, 3) := by decide +kernel
theorem dX4_add_27 : decode cX4_add 27 = .ok (.iconst 1, 1) := by decide +kernel
theorem dX4_add_28 : decode cX4_add 28 = .ok (.iadd, 1) := by decide +kernel
theorem dX4_add_29 : decode cX4_add 29 = .ok (.putfield 19, 3) := by decide +kernel
theorem dX4_add_32 : decode cX4_add 32 = .ok (.return_, 1) := by decide +kernel
theorem dX4_clear_0 : decode cX4_clear 0 = .ok (.aload_n 0, 1) := by decide +kernel
theorem dX4_clear_1 : decode cX4_clear 1 = .ok (.iconst 0, 1) := by decide +kernel
theorem dX4_clear_2 : decode cX4_clear 2 = .ok (.putfield 19, 3) := by decide +kernel
theorem dX4_clear_5 : decode cX4_clear 5 = .ok (.return_, 1) := by decide +kernel
theorem dX4_copyFrom_0 : decode cX4_copyFrom 0 = .ok (.aload_n 0, 1) := by decide +kernel
theorem dX4_copyFrom_1 : decode cX4_copyFrom 1 = .ok (.aload_n 1, 1) := by decide +kernel
theorem dX4_copyFrom_2 : decode cX4_copyFrom 2 = .ok (.getfield 19, 3) := by decide +kernel
theorem dX4_copyFrom_5 : decode cX4_copyFrom 5 = .ok (.aload_n 0, 1) := by decide +kernel
theorem dX4_copyFrom_6 : decode cX4_copyFrom 6 = .ok (.getfield 13, 3) := by decide +kernel
theorem dX4_copyFrom_9 : decode cX4_copyFrom 9 = .ok (.arraylength, 1) := by decide +kernel
theorem dX4_copyFrom_10 : decode cX4_copyFrom 10 = .ok (.invokestatic 23, 3) := by decide +kernel
theorem dX4_copyFrom_13 : decode cX4_copyFrom 13 = .ok (.putfield 19, 3) := by decide +kernel
theorem dX4_copyFrom_16 : decode cX4_copyFrom 16 = .ok (.aload_n 1, 1) := by decide +kernel
theorem dX4_copyFrom_17 : decode cX4_copyFrom 17 = .ok (.getfield 13, 3) := by decide +kernel
theorem dX4_copyFrom_20 : decode cX4_copyFrom 20 = .ok (.iconst 0, 1) := by decide +kernel
theorem dX4_copyFrom_21 : decode cX4_copyFrom 21 = .ok (.aload_n 0, 1) := by decide +kernel
theorem dX4_copyFrom_22 : decode cX4_copyFrom 22 = .ok (.getfield 13, 3) := by decide +kernel
theorem dX4_copyFrom_25 : decode cX4_copyFrom 25 = .ok (.iconst 0, 1) := by decide +kernel
theorem dX4_copyFrom_26 : decode cX4_copyFrom 26 = .ok (.aload_n 0, 1) := by decide +kernel
theorem dX4_copyFrom_27 : decode cX4_copyFrom 27 = .ok (.getfield 19, 3) := by decide +kernel
theorem dX4_copyFrom_30 : decode cX4_copyFrom 30 = .ok (.invokestatic 26, 3) := by decide +kernel
theorem dX4_copyFrom_33 : decode cX4_copyFrom 33 = .ok (.return_, 1) := by decide +kernel
theorem dX5_init_0 : decode cX5_init 0 = .ok (.aload_n 0, 1) := by decide +kernel
theorem dX5_init_1 : decode cX5_init 1 = .ok (.invokespecial 3, 3) := by decide +kernel
theorem dX5_init_4 : decode cX5_init 4 = .ok (.aload_n 0, 1) := by decide +kernel
theorem dX5_init_5 : decode cX5_init 5 = .ok (.bipush 40, 2) := by decide +kernel
theorem dX5_init_7 : decode cX5_init 7 = .ok (.newarray .int, 2) := by decide +kernel
theorem dX5_init_9 : decode cX5_init 9 = .ok (.putfield 9, 3) := by decide +kernel
theorem dX5_init_12 : decode cX5_init 12 = .ok (.return_, 1) := by decide +kernel
theorem dX5_isMissing_0 : decode cX5_isMissing 0 = .ok (.aload_n 0, 1) := by decide +kernel
theorem dX5_isMissing_1 : decode cX5_isMissing 1 = .ok (.getfield 15, 3) := by decide +kernel
theorem dX5_isMissing_4 : decode cX5_isMissing 4 = .ok (.ifCond .ne 7, 3) := by decide +kernel
theorem dX5_isMissing_7 : decode cX5_isMissing 7 = .ok (.iconst 1, 1) := by decide +kernel
theorem dX5_isMissing_8 : decode cX5_isMissing 8 = .ok (.goto 4, 3) := by decide +kernel
theorem dX5_isMissing_11 : decode cX5_isMissing 11 = .ok (.iconst 0, 1) := by decide +kernel
theorem dX5_isMissing_12 : decode cX5_isMissing 12 = .ok (.ireturn, 1) := by decide +kernel
theorem dX5_renew_0 : decode cX5_renew 0 = .ok (.aload_n 0, 1) := by decide +kernel
theorem dX5_renew_1 : decode cX5_renew 1 = .ok (.iload_n 1, 1) := by decide +kernel
theorem dX5_renew_2 : decode cX5_renew 2 = .ok (.putfield 15, 3) := by decide +kernel
theorem dX5_renew_5 : decode cX5_renew 5 = .ok (.aload_n 0, 1) := by decide +kernel
theorem dX5_renew_6 : decode cX5_renew 6 = .ok (.iload_n 2, 1) := by decide +kernel
theorem dX5_renew_7 : decode cX5_renew 7 = .ok (.putfield 19, 3) := by decide +kernel
theorem dX5_renew_10 : decode cX5_renew 10 = .ok (.iconst 0, 1) := by decide +kernel
theorem dX5_renew_11 : decode cX5_renew 11 = .ok (.istore_n 3, 1) := by decide +kernel
theorem dX5_renew_12 : decode cX5_renew 12 = .ok (.iload_n 3, 1) := by decide +kernel
theorem dX5_renew_13 : decode cX5_renew 13 = .ok (.bipush 40, 2) := by decide +kernel
theorem dX5_renew_15 : decode cX5_renew 15 = .ok (.if_icmp .ge 16, 3) := by decide +kernel
theorem dX5_renew_18 : decode cX5_renew 18 = .ok (.aload_n 0, 1) := by decide +kernel
theorem dX5_renew_19 : decode cX5_renew 19 = .ok (.getfield 9, 3) := by decide +kernel
theorem dX5_renew_22 : decode cX5_renew 22 = .ok (.iload_n 3, 1) := by decide +kernel
theorem dX5_renew_23 : decode cX5_renew 23 = .ok (.iconst 0, 1) := by decide +kernel
theorem dX5_renew_24 : decode cX5_renew 24 = .ok (.iastore, 1) := by decide +kernel
theorem dX5_renew_25 : decode cX5_renew 25 = .ok (.iinc 3 1, 3) := by decide +kernel
theorem dX5_renew_28 : decode cX5_renew 28 = .ok (.goto (-16), 3) := by decide +kernel
theorem dX5_renew_31 : decode cX5_renew 31 = .ok (.return_, 1) := by decide +kernel
theorem dX5_lowest_0 : decode cX5_lowest 0 = .ok (.aload_n 0, 1) := by decide +kernel
theorem dX5_lowest_1 : decode cX5_lowest 1 = .ok (.getfield 15, 3) := by decide +kernel
theorem dX5_lowest_4 : decode cX5_lowest 4 = .ok (.bipush 8, 2) := by decide +kernel
theorem dX5_lowest_6 : decode cX5_lowest 6 = .ok (.if_icmp .ne 8, 3) := by decide +kernel
theorem dX5_lowest_9 : decode cX5_lowest 9 = .ok (.iload_n 1, 1) := by decide +kernel
theorem dX5_lowest_10 : decode cX5_lowest 10 = .ok (.i2b, 1) := by decide +kernel
theorem dX5_lowest_11 : decode cX5_lowest 11 = .ok (.goto 18, 3) := by decide +kernel
theorem dX5_lowest_14 : decode cX5_lowest 14 = .ok (.aload_n 0, 1) := by decide +kernel
theorem dX5_lowest_15 : decode cX5_lowest 15 = .ok (.getfield 15, 3) := by decide +kernel
theorem dX5_lowest_18 : decode cX5_lowest 18 = .ok (.bipush 16, 2) := by decide +kernel
theorem dX5_lowest_20 : decode cX5_lowest 20 = .ok (.if_icmp .ne 8, 3) := by decide +kernel
theorem dX5_lowest_23 : decode cX5_lowest 23 = .ok (.iload_n 1, 1) := by decide +kernel
theorem dX5_lowest_24 : decode cX5_lowest 24 = .ok (.i2s, 1) := by decide +kernel
theorem dX5_lowest_25 : decode cX5_lowest 25 = .ok (.goto 4, 3) := by decide +kernel
theorem dX5_lowest_28 : decode cX5_lowest 28 = .ok (.iload_n 1, 1) := by decide +kernel
theorem dX5_lowest_29 : decode cX5_lowest 29 = .ok (.ireturn, 1) := by decide +kernel
theorem dX5_holds_0 : decode cX5_holds 0 = .ok (.iload_n 1, 1) := by decide +kernel
theorem dX5_holds_1 : decode cX5_holds 1 = .ok (.ifCond .lt 29, 3) := by decide +kernel
theorem dX5_holds_4 : decode cX5_holds 4 = .ok (.iload_n 2, 1) := by decide +kernel
theorem dX5_holds_5 : decode cX5_holds 5 = .ok (.ifCond .lt 25, 3) := by decide +kernel
theorem dX5_holds_8 : decode cX5_holds 8 = .ok (.iload_n 2, 1) := by decide +kernel
theorem dX5_holds_9 : decode cX5_holds 9 = .ok (.aload_n 0, 1) := by decide +kernel
theorem dX5_holds_10 : decode cX5_holds 10 = .ok (.getfield 19, 3) := by decide +kernel
theorem dX5_holds_13 : decode cX5_holds 13 = .ok (.if_icmp .gt 17, 3) := by decide +kernel
theorem dX5_holds_16 : decode cX5_holds 16 = .ok (.iload_n 1, 1) := by decide +kernel
theorem dX5_holds_17 : decode cX5_holds 17 = .ok (.aload_n 0, 1) := by decide +kernel
theorem dX5_holds_18 : decode cX5_holds 18 = .ok (.getfield 19, 3) := by decide +kernel
theorem dX5_holds_21 : decode cX5_holds 21 = .ok (.iload_n 2, 1) := by decide +kernel
theorem dX5_holds_22 : decode cX5_holds 22 = .ok (.isub, 1) := by decide +kernel
theorem dX5_holds_23 : decode cX5_holds 23 = .ok (.if_icmp .gt 7, 3) := by decide +kernel
theorem dX5_holds_26 : decode cX5_holds 26 = .ok (.iconst 1, 1) := by decide +kernel
theorem dX5_holds_27 : decode cX5_holds 27 = .ok (.goto 4, 3) := by decide +kernel
theorem dX5_holds_30 : decode cX5_holds 30 = .ok (.iconst 0, 1) := by decide +kernel
theorem dX5_holds_31 : decode cX5_holds 31 = .ok (.ireturn, 1) := by decide +kernel
theorem dX6_init_0 : decode cX6_init 0 = .ok (.aload_n 0, 1) := by decide +kernel
theorem dX6_init_1 : decode cX6_init 1 = .ok (.invokespecial 3, 3) := by decide +kernel
theorem dX6_init_4 : decode cX6_init 4 = .ok (.aload_n 0, 1) := by decide +kernel
theorem dX6_init_5 : decode cX6_init 5 = .ok (.iconst 5, 1) := by decide +kernel
theorem dX6_init_6 : decode cX6_init 6 = .ok (.newarray .int, 2) := by decide +kernel
theorem dX6_init_8 : decode cX6_init 8 = .ok (.putfield 9, 3) := by decide +kernel
theorem dX6_init_11 : decode cX6_init 11 = .ok (.aload_n 0, 1) := by decide +kernel
theorem dX6_init_12 : decode cX6_init 12 = .ok (.iconst 5, 1) := by decide +kernel
theorem dX6_init_13 : decode cX6_init 13 = .ok (.newarray .int, 2) := by decide +kernel
theorem dX6_init_15 : decode cX6_init 15 = .ok (.putfield 15, 3) := by decide +kernel
theorem dX6_init_18 : decode cX6_init 18 = .ok (.aload_n 0, 1) := by decide +kernel
theorem dX6_init_19 : decode cX6_init 19 = .ok (.iconst 5, 1) := by decide +kernel
theorem dX6_init_20 : decode cX6_init 20 = .ok (.newarray .int, 2) := by decide +kernel
theorem dX6_init_22 : decode cX6_init 22 = .ok (.putfield 18, 3) := by decide +kernel
theorem dX6_init_25 : decode cX6_init 25 = .ok (.aload_n 0, 1) := by decide +kernel
theorem dX6_init_26 : decode cX6_init 26 = .ok (.iconst 5, 1) := by decide +kernel
theorem dX6_init_27 : decode cX6_init 27 = .ok (.newarray .int, 2) := by decide +kernel
theorem dX6_init_29 : decode cX6_init 29 = .ok (.putfield 21, 3) := by decide +kernel
theorem dX6_init_32 : decode cX6_init 32 = .ok (.aload_n 0, 1) := by decide +kernel
theorem dX6_init_33 : decode cX6_init 33 = .ok (.bipush 6, 2) := by decide +kernel
theorem dX6_init_35 : decode cX6_init 35 = .ok (.newarray .int, 2) := by decide +kernel
theorem dX6_init_37 : decode cX6_init 37 = .ok (.putfield 24, 3) := by decide +kernel
theorem dX6_init_40 : decode cX6_init 40 = .ok (.aload_n 0, 1) := by decide +kernel
theorem dX6_init_41 : decode cX6_init 41 = .ok (.bipush 6, 2) := by decide +kernel
theorem dX6_init_43 : decode cX6_init 43 = .ok (.newarray .int, 2) := by decide +kernel
theorem dX6_init_45 : decode cX6_init 45 = .ok (.putfield 27, 3) := by decide +kernel
theorem dX6_init_48 : decode cX6_init 48 = .ok (.aload_n 0, 1) := by decide +kernel
theorem dX6_init_49 : decode cX6_init 49 = .ok (.bipush 6, 2) := by decide +kernel
theorem dX6_init_51 : decode cX6_init 51 = .ok (.newarray .int, 2) := by decide +kernel
theorem dX6_init_53 : decode cX6_init 53 = .ok (.putfield 30, 3) := by decide +kernel
theorem dX6_init_56 : decode cX6_init 56 = .ok (.aload_n 0, 1) := by decide +kernel
theorem dX6_init_57 : decode cX6_init 57 = .ok (.bipush 6, 2) := by decide +kernel
theorem dX6_init_59 : decode cX6_init 59 = .ok (.newarray .int, 2) := by decide +kernel
theorem dX6_init_61 : decode cX6_init 61 = .ok (.putfield 33, 3) := by decide +kernel
theorem dX6_init_64 : decode cX6_init 64 = .ok (.return_, 1) := by decide +kernel
theorem dX6_copyFrom_0 : decode cX6_copyFrom 0 = .ok (.aload_n 0, 1) := by decide +kernel
theorem dX6_copyFrom_1 : decode cX6_copyFrom 1 = .ok (.aload_n 1, 1) := by decide +kernel
theorem dX6_copyFrom_2 : decode cX6_copyFrom 2 = .ok (.getfield 36, 3) := by decide +kernel
theorem dX6_copyFrom_5 : decode cX6_copyFrom 5 = .ok (.putfield 36, 3) := by decide +kernel
theorem dX6_copyFrom_8 : decode cX6_copyFrom 8 = .ok (.aload_n 1, 1) := by decide +kernel
theorem dX6_copyFrom_9 : decode cX6_copyFrom 9 = .ok (.getfield 9, 3) := by decide +kernel
theorem dX6_copyFrom_12 : decode cX6_copyFrom 12 = .ok (.iconst 0, 1) := by decide +kernel
theorem dX6_copyFrom_13 : decode cX6_copyFrom 13 = .ok (.aload_n 0, 1) := by decide +kernel
theorem dX6_copyFrom_14 : decode cX6_copyFrom 14 = .ok (.getfield 9, 3) := by decide +kernel
theorem dX6_copyFrom_17 : decode cX6_copyFrom 17 = .ok (.iconst 0, 1) := by decide +kernel
theorem dX6_copyFrom_18 : decode cX6_copyFrom 18 = .ok (.iconst 5, 1) := by decide +kernel
theorem dX6_copyFrom_19 : decode cX6_copyFrom 19 = .ok (.invokestatic 40, 3) := by decide +kernel
theorem dX6_copyFrom_22 : decode cX6_copyFrom 22 = .ok (.aload_n 1, 1) := by decide +kernel
theorem dX6_copyFrom_23 : decode cX6_copyFrom 23 = .ok (.getfield 15, 3) := by decide +kernel
theorem dX6_copyFrom_26 : decode cX6_copyFrom 26 = .ok (.iconst 0, 1) := by decide +kernel
theorem dX6_copyFrom_27 : decode cX6_copyFrom 27 = .ok (.aload_n 0, 1) := by decide +kernel
theorem dX6_copyFrom_28 : decode cX6_copyFrom 28 = .ok (.getfield 15, 3) := by decide +kernel
theorem dX6_copyFrom_31 : decode cX6_copyFrom 31 = .ok (.iconst 0, 1) := by decide +kernel
theorem dX6_copyFrom_32 : decode cX6_copyFrom 32 = .ok (.iconst 5, 1) := by decide +kernel
theorem dX6_copyFrom_33 : decode cX6_copyFrom 33 = .ok (.invokestatic 40, 3) := by decide +kernel
theorem dX6_copyFrom_36 : decode cX6_copyFrom 36 = .ok (.aload_n 1, 1) := by decide +kernel
theorem dX6_copyFrom_37 : decode cX6_copyFrom 37 = .ok (.getfield 18, 3) := by decide +kernel
theorem dX6_copyFrom_40 : decode cX6_copyFrom 40 = .ok (.iconst 0, 1) := by decide +kernel
theorem dX6_copyFrom_41 : decode cX6_copyFrom 41 = .ok (.aload_n 0, 1) := by decide +kernel
theorem dX6_copyFrom_42 : decode cX6_copyFrom 42 = .ok (.getfield 18, 3) := by decide +kernel
theorem dX6_copyFrom_45 : decode cX6_copyFrom 45 = .ok (.iconst 0, 1) := by decide +kernel
theorem dX6_copyFrom_46 : decode cX6_copyFrom 46 = .ok (.iconst 5, 1) := by decide +kernel
theorem dX6_copyFrom_47 : decode cX6_copyFrom 47 = .ok (.invokestatic 40, 3) := by decide +kernel
theorem dX6_copyFrom_50 : decode cX6_copyFrom 50 = .ok (.aload_n 1, 1) := by decide +kernel
theorem dX6_copyFrom_51 : decode cX6_copyFrom 51 = .ok (.getfield 21, 3) := by decide +kernel
theorem dX6_copyFrom_54 : decode cX6_copyFrom 54 = .ok (.iconst 0, 1) := by decide +kernel
theorem dX6_copyFrom_55 : decode cX6_copyFrom 55 = .ok (.aload_n 0, 1) := by decide +kernel
theorem dX6_copyFrom_56 : decode cX6_copyFrom 56 = .ok (.getfield 21, 3) := by decide +kernel
theorem dX6_copyFrom_59 : decode cX6_copyFrom 59 = .ok (.iconst 0, 1) := by decide +kernel
theorem dX6_copyFrom_60 : decode cX6_copyFrom 60 = .ok (.iconst 5, 1) := by decide +kernel
theorem dX6_copyFrom_61 : decode cX6_copyFrom 61 = .ok (.invokestatic 40, 3) := by decide +kernel
theorem dX6_copyFrom_64 : decode cX6_copyFrom 64 = .ok (.aload_n 0, 1) := by decide +kernel
theorem dX6_copyFrom_65 : decode cX6_copyFrom 65 = .ok (.aload_n 1, 1) := by decide +kernel
theorem dX6_copyFrom_66 : decode cX6_copyFrom 66 = .ok (.getfield 46, 3) := by decide +kernel
theorem dX6_copyFrom_69 : decode cX6_copyFrom 69 = .ok (.putfield 46, 3) := by decide +kernel
theorem dX6_copyFrom_72 : decode cX6_copyFrom 72 = .ok (.aload_n 1, 1) := by decide +kernel
theorem dX6_copyFrom_73 : decode cX6_copyFrom 73 = .ok (.getfield 24, 3) := by decide +kernel
theorem dX6_copyFrom_76 : decode cX6_copyFrom 76 = .ok (.iconst 0, 1) := by decide +kernel
theorem dX6_copyFrom_77 : decode cX6_copyFrom 77 = .ok (.aload_n 0, 1) := by decide +kernel
theorem dX6_copyFrom_78 : decode cX6_copyFrom 78 = .ok (.getfield 24, 3) := by decide +kernel
theorem dX6_copyFrom_81 : decode cX6_copyFrom 81 = .ok (.iconst 0, 1) := by decide +kernel
theorem dX6_copyFrom_82 : decode cX6_copyFrom 82 = .ok (.bipush 6, 2) := by decide +kernel
theorem dX6_copyFrom_84 : decode cX6_copyFrom 84 = .ok (.invokestatic 40, 3) := by decide +kernel
theorem dX6_copyFrom_87 : decode cX6_copyFrom 87 = .ok (.aload_n 1, 1) := by decide +kernel
theorem dX6_copyFrom_88 : decode cX6_copyFrom 88 = .ok (.getfield 27, 3) := by decide +kernel
theorem dX6_copyFrom_91 : decode cX6_copyFrom 91 = .ok (.iconst 0, 1) := by decide +kernel
theorem dX6_copyFrom_92 : decode cX6_copyFrom 92 = .ok (.aload_n 0, 1) := by decide +kernel
theorem dX6_copyFrom_93 : decode cX6_copyFrom 93 = .ok (.getfield 27, 3) := by decide +kernel
theorem dX6_copyFrom_96 : decode cX6_copyFrom 96 = .ok (.iconst 0, 1) := by decide +kernel
theorem dX6_copyFrom_97 : decode cX6_copyFrom 97 = .ok (.bipush 6, 2) := by decide +kernel
theorem dX6_copyFrom_99 : decode cX6_copyFrom 99 = .ok (.invokestatic 40, 3) := by decide +kernel
theorem dX6_copyFrom_102 : decode cX6_copyFrom 102 = .ok (.aload_n 1, 1) := by decide +kernel
theorem dX6_copyFrom_103 : decode cX6_copyFrom 103 = .ok (.getfield 30, 3) := by decide +kernel
theorem dX6_copyFrom_106 : decode cX6_copyFrom 106 = .ok (.iconst 0, 1) := by decide +kernel
theorem dX6_copyFrom_107 : decode cX6_copyFrom 107 = .ok (.aload_n 0, 1) := by decide +kernel
theorem dX6_copyFrom_108 : decode cX6_copyFrom 108 = .ok (.getfield 30, 3) := by decide +kernel
theorem dX6_copyFrom_111 : decode cX6_copyFrom 111 = .ok (.iconst 0, 1) := by decide +kernel
theorem dX6_copyFrom_112 : decode cX6_copyFrom 112 = .ok (.bipush 6, 2) := by decide +kernel
theorem dX6_copyFrom_114 : decode cX6_copyFrom 114 = .ok (.invokestatic 40, 3) := by decide +kernel
theorem dX6_copyFrom_117 : decode cX6_copyFrom 117 = .ok (.aload_n 1, 1) := by decide +kernel
theorem dX6_copyFrom_118 : decode cX6_copyFrom 118 = .ok (.getfield 33, 3) := by decide +kernel
theorem dX6_copyFrom_121 : decode cX6_copyFrom 121 = .ok (.iconst 0, 1) := by decide +kernel
theorem dX6_copyFrom_122 : decode cX6_copyFrom 122 = .ok (.aload_n 0, 1) := by decide +kernel
theorem dX6_copyFrom_123 : decode cX6_copyFrom 123 = .ok (.getfield 33, 3) := by decide +kernel
theorem dX6_copyFrom_126 : decode cX6_copyFrom 126 = .ok (.iconst 0, 1) := by decide +kernel
theorem dX6_copyFrom_127 : decode cX6_copyFrom 127 = .ok (.bipush 6, 2) := by decide +kernel
theorem dX6_copyFrom_129 : decode cX6_copyFrom 129 = .ok (.invokestatic 40, 3) := by decide +kernel
theorem dX6_copyFrom_132 : decode cX6_copyFrom 132 = .ok (.aload_n 0, 1) := by decide +kernel
theorem dX6_copyFrom_133 : decode cX6_copyFrom 133 = .ok (.aload_n 1, 1) := by decide +kernel
theorem dX6_copyFrom_134 : decode cX6_copyFrom 134 = .ok (.getfield 49, 3) := by decide +kernel
theorem dX6_copyFrom_137 : decode cX6_copyFrom 137 = .ok (.putfield 49, 3) := by decide +kernel
theorem dX6_copyFrom_140 : decode cX6_copyFrom 140 = .ok (.aload_n 0, 1) := by decide +kernel
theorem dX6_copyFrom_141 : decode cX6_copyFrom 141 = .ok (.aload_n 1, 1) := by decide +kernel
theorem dX6_copyFrom_142 : decode cX6_copyFrom 142 = .ok (.getfield 52, 3) := by decide +kernel
theorem dX6_copyFrom_145 : decode cX6_copyFrom 145 = .ok (.putfield 52, 3) := by decide +kernel
theorem dX6_copyFrom_148 : decode cX6_copyFrom 148 = .ok (.aload_n 0, 1) := by decide +kernel
theorem dX6_copyFrom_149 : decode cX6_copyFrom 149 = .ok (.aload_n 1, 1) := by decide +kernel
theorem dX6_copyFrom_150 : decode cX6_copyFrom 150 = .ok (.getfield 55, 3) := by decide +kernel
theorem dX6_copyFrom_153 : decode cX6_copyFrom 153 = .ok (.putfield 55, 3) := by decide +kernel
theorem dX6_copyFrom_156 : decode cX6_copyFrom 156 = .ok (.return_, 1) := by decide +kernel
theorem dX6_hasPart_0 : decode cX6_hasPart 0 = .ok (.iload_n 1, 1) := by decide +kernel
theorem dX6_hasPart_1 : decode cX6_hasPart 1 = .ok (.ifCond .lt 15, 3) := by decide +kernel
theorem dX6_hasPart_4 : decode cX6_hasPart 4 = .ok (.iload_n 1, 1) := by decide +kernel
theorem dX6_hasPart_5 : decode cX6_hasPart 5 = .ok (.aload_n 0, 1) := by decide +kernel
theorem dX6_hasPart_6 : decode cX6_hasPart 6 = .ok (.getfield 36, 3) := by decide +kernel
theorem dX6_hasPart_9 : decode cX6_hasPart 9 = .ok (.if_icmp .ge 7, 3) := by decide +kernel
theorem dX6_hasPart_12 : decode cX6_hasPart 12 = .ok (.iconst 1, 1) := by decide +kernel
theorem dX6_hasPart_13 : decode cX6_hasPart 13 = .ok (.goto 4, 3) := by decide +kernel
theorem dX6_hasPart_16 : decode cX6_hasPart 16 = .ok (.iconst 0, 1) := by decide +kernel
theorem dX6_hasPart_17 : decode cX6_hasPart 17 = .ok (.ireturn, 1) := by decide +kernel
theorem dX6_hasPlayer_0 : decode cX6_hasPlayer 0 = .ok (.iload_n 1, 1) := by decide +kernel
theorem dX6_hasPlayer_1 : decode cX6_hasPlayer 1 = .ok (.ifCond .lt 15, 3) := by decide +kernel
theorem dX6_hasPlayer_4 : decode cX6_hasPlayer 4 = .ok (.iload_n 1, 1) := by decide +kernel
theorem dX6_hasPlayer_5 : decode cX6_hasPlayer 5 = .ok (.aload_n 0, 1) := by decide +kernel
theorem dX6_hasPlayer_6 : decode cX6_hasPlayer 6 = .ok (.getfield 46, 3) := by decide +kernel
theorem dX6_hasPlayer_9 : decode cX6_hasPlayer 9 = .ok (.if_icmp .ge 7, 3) := by decide +kernel
theorem dX6_hasPlayer_12 : decode cX6_hasPlayer 12 = .ok (.iconst 1, 1) := by decide +kernel
theorem dX6_hasPlayer_13 : decode cX6_hasPlayer 13 = .ok (.goto 4, 3) := by decide +kernel
theorem dX6_hasPlayer_16 : decode cX6_hasPlayer 16 = .ok (.iconst 0, 1) := by decide +kernel
theorem dX6_hasPlayer_17 : decode cX6_hasPlayer 17 = .ok (.ireturn, 1) := by decide +kernel
theorem dX6_allParts_0 : decode cX6_allParts 0 = .ok (.iconst 1, 1) := by decide +kernel
theorem dX6_allParts_1 : decode cX6_allParts 1 = .ok (.aload_n 0, 1) := by decide +kernel
theorem dX6_allParts_2 : decode cX6_allParts 2 = .ok (.getfield 36, 3) := by decide +kernel
theorem dX6_allParts_5 : decode cX6_allParts 5 = .ok (.ishl, 1) := by decide +kernel
theorem dX6_allParts_6 : decode cX6_allParts 6 = .ok (.iconst 1, 1) := by decide +kernel
theorem dX6_allParts_7 : decode cX6_allParts 7 = .ok (.isub, 1) := by decide +kernel
theorem dX6_allParts_8 : decode cX6_allParts 8 = .ok (.ireturn, 1) := by decide +kernel
theorem dX6_allPlayers_0 : decode cX6_allPlayers 0 = .ok (.iconst 1, 1) := by decide +kernel
theorem dX6_allPlayers_1 : decode cX6_allPlayers 1 = .ok (.aload_n 0, 1) := by decide +kernel
theorem dX6_allPlayers_2 : decode cX6_allPlayers 2 = .ok (.getfield 46, 3) := by decide +kernel
theorem dX6_allPlayers_5 : decode cX6_allPlayers 5 = .ok (.ishl, 1) := by decide +kernel
theorem dX6_allPlayers_6 : decode cX6_allPlayers 6 = .ok (.iconst 1, 1) := by decide +kernel
theorem dX6_allPlayers_7 : decode cX6_allPlayers 7 = .ok (.isub, 1) := by decide +kernel
theorem dX6_allPlayers_8 : decode cX6_allPlayers 8 = .ok (.ireturn, 1) := by decide +kernel
theorem dX6_addPart_0 : decode cX6_addPart 0 = .ok (.aload_n 0, 1) := by decide +kernel
theorem dX6_addPart_1 : decode cX6_addPart 1 = .ok (.getfield 36, 3) := by decide +kernel
theorem dX6_addPart_4 : decode cX6_addPart 4 = .ok (.istore_n 3, 1) := by decide +kernel
theorem dX6_addPart_5 : decode cX6_addPart 5 = .ok (.iload_n 3, 1) := by decide +kernel
theorem dX6_addPart_6 : decode cX6_addPart 6 = .ok (.iconst 5, 1) := by decide +kernel
theorem dX6_addPart_7 : decode cX6_addPart 7 = .ok (.if_icmp .ge 26, 3) := by decide +kernel
theorem dX6_addPart_10 : decode cX6_addPart 10 = .ok (.aload_n 0, 1) := by decide +kernel
theorem dX6_addPart_11 : decode cX6_addPart 11 = .ok (.iload_n 3, 1) := by decide +kernel
theorem dX6_addPart_12 : decode cX6_addPart 12 = .ok (.iload_n 1, 1) := by decide +kernel
theorem dX6_addPart_13 : decode cX6_addPart 13 = .ok (.invokevirtual 58, 3) := by decide +kernel
theorem dX6_addPart_16 : decode cX6_addPart 16 = .ok (.aload_n 0, 1) := by decide +kernel
theorem dX6_addPart_17 : decode cX6_addPart 17 = .ok (.getfield 18, 3) := by decide +kernel
theorem dX6_addPart_20 : decode cX6_addPart 20 = .ok (.iload_n 3, 1) := by decide +kernel
theorem dX6_addPart_21 : decode cX6_addPart 21 = .ok (.iload_n 2, 1) := by decide +kernel
theorem dX6_addPart_22 : decode cX6_addPart 22 = .ok (.iastore, 1) := by decide +kernel
theorem dX6_addPart_23 : decode cX6_addPart 23 = .ok (.aload_n 0, 1) := by decide +kernel
theorem dX6_addPart_24 : decode cX6_addPart 24 = .ok (.dup, 1) := by decide +kernel
theorem dX6_addPart_25 : decode cX6_addPart 25 = .ok (.getfield 36, 3) := by decide +kernel
theorem dX6_addPart_28 : decode cX6_addPart 28 = .ok (.iconst 1, 1) := by decide +kernel
theorem dX6_addPart_29 : decode cX6_addPart 29 = .ok (.iadd, 1) := by decide +kernel
theorem dX6_addPart_30 : decode cX6_addPart 30 = .ok (.putfield 36, 3) := by decide +kernel
theorem dX6_addPart_33 : decode cX6_addPart 33 = .ok (.iload_n 3, 1) := by decide +kernel
theorem dX6_addPart_34 : decode cX6_addPart 34 = .ok (.ireturn, 1) := by decide +kernel
theorem dX6_shape_0 : decode cX6_shape 0 = .ok (.aload_n 0, 1) := by decide +kernel
theorem dX6_shape_1 : decode cX6_shape 1 = .ok (.getfield 9, 3) := by decide +kernel
theorem dX6_shape_4 : decode cX6_shape 4 = .ok (.iload_n 1, 1) := by decide +kernel
theorem dX6_shape_5 : decode cX6_shape 5 = .ok (.iload_n 2, 1) := by decide +kernel
theorem dX6_shape_6 : decode cX6_shape 6 = .ok (.bipush 10, 2) := by decide +kernel
theorem dX6_shape_8 : decode cX6_shape 8 = .ok (.idiv, 1) := by decide +kernel
theorem dX6_shape_9 : decode cX6_shape 9 = .ok (.iastore, 1) := by decide +kernel
theorem dX6_shape_10 : decode cX6_shape 10 = .ok (.aload_n 0, 1) := by decide +kernel
theorem dX6_shape_11 : decode cX6_shape 11 = .ok (.getfield 15, 3) := by decide +kernel
theorem dX6_shape_14 : decode cX6_shape 14 = .ok (.iload_n 1, 1) := by decide +kernel
theorem dX6_shape_15 : decode cX6_shape 15 = .ok (.iload_n 2, 1) := by decide +kernel
theorem dX6_shape_16 : decode cX6_shape 16 = .ok (.bipush 10, 2) := by decide +kernel
theorem dX6_shape_18 : decode cX6_shape 18 = .ok (.irem, 1) := by decide +kernel
theorem dX6_shape_19 : decode cX6_shape 19 = .ok (.iastore, 1) := by decide +kernel
theorem dX6_shape_20 : decode cX6_shape 20 = .ok (.return_, 1) := by decide +kernel
theorem dX6_addPlayer_0 : decode cX6_addPlayer 0 = .ok (.aload_n 0, 1) := by decide +kernel
theorem dX6_addPlayer_1 : decode cX6_addPlayer 1 = .ok (.getfield 46, 3) := by decide +kernel
theorem dX6_addPlayer_4 : decode cX6_addPlayer 4 = .ok (.istore_n 3, 1) := by decide +kernel
theorem dX6_addPlayer_5 : decode cX6_addPlayer 5 = .ok (.iload_n 3, 1) := by decide +kernel
theorem dX6_addPlayer_6 : decode cX6_addPlayer 6 = .ok (.bipush 6, 2) := by decide +kernel
theorem dX6_addPlayer_8 : decode cX6_addPlayer 8 = .ok (.if_icmp .ge 27, 3) := by decide +kernel
theorem dX6_addPlayer_11 : decode cX6_addPlayer 11 = .ok (.aload_n 0, 1) := by decide +kernel
theorem dX6_addPlayer_12 : decode cX6_addPlayer 12 = .ok (.getfield 30, 3) := by decide +kernel
theorem dX6_addPlayer_15 : decode cX6_addPlayer 15 = .ok (.iload_n 3, 1) := by decide +kernel
theorem dX6_addPlayer_16 : decode cX6_addPlayer 16 = .ok (.iload_n 1, 1) := by decide +kernel
theorem dX6_addPlayer_17 : decode cX6_addPlayer 17 = .ok (.iastore, 1) := by decide +kernel
theorem dX6_addPlayer_18 : decode cX6_addPlayer 18 = .ok (.aload_n 0, 1) := by decide +kernel
theorem dX6_addPlayer_19 : decode cX6_addPlayer 19 = .ok (.getfield 24, 3) := by decide +kernel
theorem dX6_addPlayer_22 : decode cX6_addPlayer 22 = .ok (.iload_n 3, 1) := by decide +kernel
theorem dX6_addPlayer_23 : decode cX6_addPlayer 23 = .ok (.iload_n 2, 1) := by decide +kernel
theorem dX6_addPlayer_24 : decode cX6_addPlayer 24 = .ok (.iastore, 1) := by decide +kernel
theorem dX6_addPlayer_25 : decode cX6_addPlayer 25 = .ok (.aload_n 0, 1) := by decide +kernel
theorem dX6_addPlayer_26 : decode cX6_addPlayer 26 = .ok (.dup, 1) := by decide +kernel
theorem dX6_addPlayer_27 : decode cX6_addPlayer 27 = .ok (.getfield 46, 3) := by decide +kernel
theorem dX6_addPlayer_30 : decode cX6_addPlayer 30 = .ok (.iconst 1, 1) := by decide +kernel
theorem dX6_addPlayer_31 : decode cX6_addPlayer 31 = .ok (.iadd, 1) := by decide +kernel
theorem dX6_addPlayer_32 : decode cX6_addPlayer 32 = .ok (.putfield 46, 3) := by decide +kernel
theorem dX6_addPlayer_35 : decode cX6_addPlayer 35 = .ok (.iload_n 3, 1) := by decide +kernel
theorem dX6_addPlayer_36 : decode cX6_addPlayer 36 = .ok (.ireturn, 1) := by decide +kernel
theorem dX6_swapIll_0 : decode cX6_swapIll 0 = .ok (.aload_n 0, 1) := by decide +kernel
theorem dX6_swapIll_1 : decode cX6_swapIll 1 = .ok (.getfield 49, 3) := by decide +kernel
theorem dX6_swapIll_4 : decode cX6_swapIll 4 = .ok (.iload_n 1, 1) := by decide +kernel
theorem dX6_swapIll_5 : decode cX6_swapIll 5 = .ok (.ishr, 1) := by decide +kernel
theorem dX6_swapIll_6 : decode cX6_swapIll 6 = .ok (.iconst 1, 1) := by decide +kernel
theorem dX6_swapIll_7 : decode cX6_swapIll 7 = .ok (.iand, 1) := by decide +kernel
theorem dX6_swapIll_8 : decode cX6_swapIll 8 = .ok (.istore_n 3, 1) := by decide +kernel
theorem dX6_swapIll_9 : decode cX6_swapIll 9 = .ok (.aload_n 0, 1) := by decide +kernel
theorem dX6_swapIll_10 : decode cX6_swapIll 10 = .ok (.aload_n 0, 1) := by decide +kernel
theorem dX6_swapIll_11 : decode cX6_swapIll 11 = .ok (.getfield 49, 3) := by decide +kernel
theorem dX6_swapIll_14 : decode cX6_swapIll 14 = .ok (.iconst 1, 1) := by decide +kernel
theorem dX6_swapIll_15 : decode cX6_swapIll 15 = .ok (.iload_n 1, 1) := by decide +kernel
theorem dX6_swapIll_16 : decode cX6_swapIll 16 = .ok (.ishl, 1) := by decide +kernel
theorem dX6_swapIll_17 : decode cX6_swapIll 17 = .ok (.iconst (-1), 1) := by decide +kernel
theorem dX6_swapIll_18 : decode cX6_swapIll 18 = .ok (.ixor, 1) := by decide +kernel
theorem dX6_swapIll_19 : decode cX6_swapIll 19 = .ok (.iand, 1) := by decide +kernel
theorem dX6_swapIll_20 : decode cX6_swapIll 20 = .ok (.iload_n 2, 1) := by decide +kernel
theorem dX6_swapIll_21 : decode cX6_swapIll 21 = .ok (.iload_n 1, 1) := by decide +kernel
theorem dX6_swapIll_22 : decode cX6_swapIll 22 = .ok (.ishl, 1) := by decide +kernel
theorem dX6_swapIll_23 : decode cX6_swapIll 23 = .ok (.ior, 1) := by decide +kernel
theorem dX6_swapIll_24 : decode cX6_swapIll 24 = .ok (.putfield 49, 3) := by decide +kernel
theorem dX6_swapIll_27 : decode cX6_swapIll 27 = .ok (.iload_n 3, 1) := by decide +kernel
theorem dX6_swapIll_28 : decode cX6_swapIll 28 = .ok (.ireturn, 1) := by decide +kernel
theorem dX6_whoKnow_0 : decode cX6_whoKnow 0 = .ok (.aload_n 0, 1) := by decide +kernel
theorem dX6_whoKnow_1 : decode cX6_whoKnow 1 = .ok (.aload_n 0, 1) := by decide +kernel
theorem dX6_whoKnow_2 : decode cX6_whoKnow 2 = .ok (.getfield 24, 3) := by decide +kernel
theorem dX6_whoKnow_5 : decode cX6_whoKnow 5 = .ok (.iload_n 1, 1) := by decide +kernel
theorem dX6_whoKnow_6 : decode cX6_whoKnow 6 = .ok (.invokevirtual 62, 3) := by decide +kernel
theorem dX6_whoKnow_9 : decode cX6_whoKnow 9 = .ok (.ireturn, 1) := by decide +kernel
theorem dX6_whoHold_0 : decode cX6_whoHold 0 = .ok (.iconst 0, 1) := by decide +kernel
theorem dX6_whoHold_1 : decode cX6_whoHold 1 = .ok (.istore_n 3, 1) := by decide +kernel
theorem dX6_whoHold_2 : decode cX6_whoHold 2 = .ok (.iconst 0, 1) := by decide +kernel
theorem dX6_whoHold_3 : decode cX6_whoHold 3 = .ok (.istore 4, 2) := by decide +kernel
theorem dX6_whoHold_5 : decode cX6_whoHold 5 = .ok (.iload 4, 2) := by decide +kernel
theorem dX6_whoHold_7 : decode cX6_whoHold 7 = .ok (.aload_n 0, 1) := by decide +kernel
theorem dX6_whoHold_8 : decode cX6_whoHold 8 = .ok (.getfield 46, 3) := by decide +kernel
theorem dX6_whoHold_11 : decode cX6_whoHold 11 = .ok (.if_icmp .ge 23, 3) := by decide +kernel
theorem dX6_whoHold_14 : decode cX6_whoHold 14 = .ok (.iload_n 3, 1) := by decide +kernel
theorem dX6_whoHold_15 : decode cX6_whoHold 15 = .ok (.aload_n 1, 1) := by decide +kernel
theorem dX6_whoHold_16 : decode cX6_whoHold 16 = .ok (.iload 4, 2) := by decide +kernel
theorem dX6_whoHold_18 : decode cX6_whoHold 18 = .ok (.iaload, 1) := by decide +kernel
theorem dX6_whoHold_19 : decode cX6_whoHold 19 = .ok (.iload_n 2, 1) := by decide +kernel
theorem dX6_whoHold_20 : decode cX6_whoHold 20 = .ok (.ishr, 1) := by decide +kernel
theorem dX6_whoHold_21 : decode cX6_whoHold 21 = .ok (.iconst 1, 1) := by decide +kernel
theorem dX6_whoHold_22 : decode cX6_whoHold 22 = .ok (.iand, 1) := by decide +kernel
theorem dX6_whoHold_23 : decode cX6_whoHold 23 = .ok (.iload 4, 2) := by decide +kernel
theorem dX6_whoHold_25 : decode cX6_whoHold 25 = .ok (.ishl, 1) := by decide +kernel
theorem dX6_whoHold_26 : decode cX6_whoHold 26 = .ok (.ior, 1) := by decide +kernel
theorem dX6_whoHold_27 : decode cX6_whoHold 27 = .ok (.istore_n 3, 1) := by decide +kernel
theorem dX6_whoHold_28 : decode cX6_whoHold 28 = .ok (.iinc 4 1, 3) := by decide +kernel
theorem dX6_whoHold_31 : decode cX6_whoHold 31 = .ok (.goto (-26), 3) := by decide +kernel
theorem dX6_whoHold_34 : decode cX6_whoHold 34 = .ok (.iload_n 3, 1) := by decide +kernel
theorem dX6_whoHold_35 : decode cX6_whoHold 35 = .ok (.ireturn, 1) := by decide +kernel
theorem dX6_whoOwn_0 : decode cX6_whoOwn 0 = .ok (.iconst 0, 1) := by decide +kernel
theorem dX6_whoOwn_1 : decode cX6_whoOwn 1 = .ok (.istore_n 2, 1) := by decide +kernel
theorem dX6_whoOwn_2 : decode cX6_whoOwn 2 = .ok (.iconst 0, 1) := by decide +kernel
theorem dX6_whoOwn_3 : decode cX6_whoOwn 3 = .ok (.istore_n 3, 1) := by decide +kernel
theorem dX6_whoOwn_4 : decode cX6_whoOwn 4 = .ok (.iload_n 3, 1) := by decide +kernel
theorem dX6_whoOwn_5 : decode cX6_whoOwn 5 = .ok (.aload_n 0, 1) := by decide +kernel
theorem dX6_whoOwn_6 : decode cX6_whoOwn 6 = .ok (.getfield 46, 3) := by decide +kernel
theorem dX6_whoOwn_9 : decode cX6_whoOwn 9 = .ok (.if_icmp .ge 25, 3) := by decide +kernel
theorem dX6_whoOwn_12 : decode cX6_whoOwn 12 = .ok (.aload_n 0, 1) := by decide +kernel
theorem dX6_whoOwn_13 : decode cX6_whoOwn 13 = .ok (.getfield 30, 3) := by decide +kernel
theorem dX6_whoOwn_16 : decode cX6_whoOwn 16 = .ok (.iload_n 3, 1) := by decide +kernel
theorem dX6_whoOwn_17 : decode cX6_whoOwn 17 = .ok (.iaload, 1) := by decide +kernel
theorem dX6_whoOwn_18 : decode cX6_whoOwn 18 = .ok (.iload_n 1, 1) := by decide +kernel
theorem dX6_whoOwn_19 : decode cX6_whoOwn 19 = .ok (.if_icmp .ne 9, 3) := by decide +kernel
theorem dX6_whoOwn_22 : decode cX6_whoOwn 22 = .ok (.iload_n 2, 1) := by decide +kernel
theorem dX6_whoOwn_23 : decode cX6_whoOwn 23 = .ok (.iconst 1, 1) := by decide +kernel
theorem dX6_whoOwn_24 : decode cX6_whoOwn 24 = .ok (.iload_n 3, 1) := by decide +kernel
theorem dX6_whoOwn_25 : decode cX6_whoOwn 25 = .ok (.ishl, 1) := by decide +kernel
theorem dX6_whoOwn_26 : decode cX6_whoOwn 26 = .ok (.ior, 1) := by decide +kernel
theorem dX6_whoOwn_27 : decode cX6_whoOwn 27 = .ok (.istore_n 2, 1) := by decide +kernel
theorem dX6_whoOwn_28 : decode cX6_whoOwn 28 = .ok (.iinc 3 1, 3) := by decide +kernel
theorem dX6_whoOwn_31 : decode cX6_whoOwn 31 = .ok (.goto (-27), 3) := by decide +kernel
theorem dX6_whoOwn_34 : decode cX6_whoOwn 34 = .ok (.iload_n 2, 1) := by decide +kernel
theorem dX6_whoOwn_35 : decode cX6_whoOwn 35 = .ok (.ireturn, 1) := by decide +kernel
theorem dX6_isShared_0 : decode cX6_isShared 0 = .ok (.aload_n 0, 1) := by decide +kernel
theorem dX6_isShared_1 : decode cX6_isShared 1 = .ok (.getfield 9, 3) := by decide +kernel
theorem dX6_isShared_4 : decode cX6_isShared 4 = .ok (.iload_n 1, 1) := by decide +kernel
theorem dX6_isShared_5 : decode cX6_isShared 5 = .ok (.iaload, 1) := by decide +kernel
theorem dX6_isShared_6 : decode cX6_isShared 6 = .ok (.iconst 1, 1) := by decide +kernel
theorem dX6_isShared_7 : decode cX6_isShared 7 = .ok (.invokestatic 66, 3) := by decide +kernel
theorem dX6_isShared_10 : decode cX6_isShared 10 = .ok (.ireturn, 1) := by decide +kernel
theorem dX6_isEmpty_0 : decode cX6_isEmpty 0 = .ok (.aload_n 0, 1) := by decide +kernel
theorem dX6_isEmpty_1 : decode cX6_isEmpty 1 = .ok (.getfield 9, 3) := by decide +kernel
theorem dX6_isEmpty_4 : decode cX6_isEmpty 4 = .ok (.iload_n 1, 1) := by decide +kernel
theorem dX6_isEmpty_5 : decode cX6_isEmpty 5 = .ok (.iaload, 1) := by decide +kernel
theorem dX6_isEmpty_6 : decode cX6_isEmpty 6 = .ok (.iconst 3, 1) := by decide +kernel
theorem dX6_isEmpty_7 : decode cX6_isEmpty 7 = .ok (.if_icmp .eq 23, 3) := by decide +kernel
theorem dX6_isEmpty_10 : decode cX6_isEmpty 10 = .ok (.aload_n 0, 1) := by decide +kernel
theorem dX6_isEmpty_11 : decode cX6_isEmpty 11 = .ok (.getfield 9, 3) := by decide +kernel
theorem dX6_isEmpty_14 : decode cX6_isEmpty 14 = .ok (.iload_n 1, 1) := by decide +kernel
theorem dX6_isEmpty_15 : decode cX6_isEmpty 15 = .ok (.iaload, 1) := by decide +kernel
theorem dX6_isEmpty_16 : decode cX6_isEmpty 16 = .ok (.bipush 6, 2) := by decide +kernel
theorem dX6_isEmpty_18 : decode cX6_isEmpty 18 = .ok (.if_icmp .ne 16, 3) := by decide +kernel
theorem dX6_isEmpty_21 : decode cX6_isEmpty 21 = .ok (.aload_n 0, 1) := by decide +kernel
theorem dX6_isEmpty_22 : decode cX6_isEmpty 22 = .ok (.getfield 55, 3) := by decide +kernel
theorem dX6_isEmpty_25 : decode cX6_isEmpty 25 = .ok (.iconst 1, 1) := by decide +kernel
theorem dX6_isEmpty_26 : decode cX6_isEmpty 26 = .ok (.iand, 1) := by decide +kernel
theorem dX6_isEmpty_27 : decode cX6_isEmpty 27 = .ok (.ifCond .ne 7, 3) := by decide +kernel
theorem dX6_isEmpty_30 : decode cX6_isEmpty 30 = .ok (.iconst 1, 1) := by decide +kernel
theorem dX6_isEmpty_31 : decode cX6_isEmpty 31 = .ok (.goto 4, 3) := by decide +kernel
theorem dX6_isEmpty_34 : decode cX6_isEmpty 34 = .ok (.iconst 0, 1) := by decide +kernel
theorem dX6_isEmpty_35 : decode cX6_isEmpty 35 = .ok (.ireturn, 1) := by decide +kernel
theorem dX6_whoMay_0 : decode cX6_whoMay 0 = .ok (.aload_n 0, 1) := by decide +kernel
theorem dX6_whoMay_1 : decode cX6_whoMay 1 = .ok (.invokevirtual 70, 3) := by decide +kernel
theorem dX6_whoMay_4 : decode cX6_whoMay 4 = .ok (.aload_n 0, 1) := by decide +kernel
theorem dX6_whoMay_5 : decode cX6_whoMay 5 = .ok (.getfield 49, 3) := by decide +kernel
theorem dX6_whoMay_8 : decode cX6_whoMay 8 = .ok (.iconst (-1), 1) := by decide +kernel
theorem dX6_whoMay_9 : decode cX6_whoMay 9 = .ok (.ixor, 1) := by decide +kernel
theorem dX6_whoMay_10 : decode cX6_whoMay 10 = .ok (.iand, 1) := by decide +kernel
theorem dX6_whoMay_11 : decode cX6_whoMay 11 = .ok (.istore_n 2, 1) := by decide +kernel
theorem dX6_whoMay_12 : decode cX6_whoMay 12 = .ok (.aload_n 0, 1) := by decide +kernel
theorem dX6_whoMay_13 : decode cX6_whoMay 13 = .ok (.getfield 9, 3) := by decide +kernel
theorem dX6_whoMay_16 : decode cX6_whoMay 16 = .ok (.iload_n 1, 1) := by decide +kernel
theorem dX6_whoMay_17 : decode cX6_whoMay 17 = .ok (.iaload, 1) := by decide +kernel
theorem dX6_whoMay_18 : decode cX6_whoMay 18 = .ok (.tableswitch 103 2 6 #[34, 48, 50, 81, 83], 34) := by decide +kernel
theorem dX6_whoMay_52 : decode cX6_whoMay 52 = .ok (.iload_n 2, 1) := by decide +kernel
theorem dX6_whoMay_53 : decode cX6_whoMay 53 = .ok (.aload_n 0, 1) := by decide +kernel
theorem dX6_whoMay_54 : decode cX6_whoMay 54 = .ok (.aload_n 0, 1) := by decide +kernel
theorem dX6_whoMay_55 : decode cX6_whoMay 55 = .ok (.getfield 27, 3) := by decide +kernel
theorem dX6_whoMay_58 : decode cX6_whoMay 58 = .ok (.iload_n 1, 1) := by decide +kernel
theorem dX6_whoMay_59 : decode cX6_whoMay 59 = .ok (.invokevirtual 62, 3) := by decide +kernel
theorem dX6_whoMay_62 : decode cX6_whoMay 62 = .ok (.iconst (-1), 1) := by decide +kernel
theorem dX6_whoMay_63 : decode cX6_whoMay 63 = .ok (.ixor, 1) := by decide +kernel
theorem dX6_whoMay_64 : decode cX6_whoMay 64 = .ok (.iand, 1) := by decide +kernel
theorem dX6_whoMay_65 : decode cX6_whoMay 65 = .ok (.ireturn, 1) := by decide +kernel
theorem dX6_whoMay_66 : decode cX6_whoMay 66 = .ok (.iconst 0, 1) := by decide +kernel
theorem dX6_whoMay_67 : decode cX6_whoMay 67 = .ok (.ireturn, 1) := by decide +kernel
theorem dX6_whoMay_68 : decode cX6_whoMay 68 = .ok (.iload_n 2, 1) := by decide +kernel
theorem dX6_whoMay_69 : decode cX6_whoMay 69 = .ok (.aload_n 0, 1) := by decide +kernel
theorem dX6_whoMay_70 : decode cX6_whoMay 70 = .ok (.getfield 18, 3) := by decide +kernel
theorem dX6_whoMay_73 : decode cX6_whoMay 73 = .ok (.iload_n 1, 1) := by decide +kernel
theorem dX6_whoMay_74 : decode cX6_whoMay 74 = .ok (.iaload, 1) := by decide +kernel
theorem dX6_whoMay_75 : decode cX6_whoMay 75 = .ok (.bipush 50, 2) := by decide +kernel
theorem dX6_whoMay_77 : decode cX6_whoMay 77 = .ok (.if_icmp .gt 11, 3) := by decide +kernel
theorem dX6_whoMay_80 : decode cX6_whoMay 80 = .ok (.aload_n 0, 1) := by decide +kernel
theorem dX6_whoMay_81 : decode cX6_whoMay 81 = .ok (.iload_n 1, 1) := by decide +kernel
theorem dX6_whoMay_82 : decode cX6_whoMay 82 = .ok (.invokevirtual 74, 3) := by decide +kernel
theorem dX6_whoMay_85 : decode cX6_whoMay 85 = .ok (.goto 12, 3) := by decide +kernel
theorem dX6_whoMay_88 : decode cX6_whoMay 88 = .ok (.aload_n 0, 1) := by decide +kernel
theorem dX6_whoMay_89 : decode cX6_whoMay 89 = .ok (.aload_n 0, 1) := by decide +kernel
theorem dX6_whoMay_90 : decode cX6_whoMay 90 = .ok (.getfield 24, 3) := by decide +kernel
theorem dX6_whoMay_93 : decode cX6_whoMay 93 = .ok (.iload_n 1, 1) := by decide +kernel
theorem dX6_whoMay_94 : decode cX6_whoMay 94 = .ok (.invokevirtual 62, 3) := by decide +kernel
theorem dX6_whoMay_97 : decode cX6_whoMay 97 = .ok (.iand, 1) := by decide +kernel
theorem dX6_whoMay_98 : decode cX6_whoMay 98 = .ok (.ireturn, 1) := by decide +kernel
theorem dX6_whoMay_99 : decode cX6_whoMay 99 = .ok (.iload_n 2, 1) := by decide +kernel
theorem dX6_whoMay_100 : decode cX6_whoMay 100 = .ok (.ireturn, 1) := by decide +kernel
theorem dX6_whoMay_101 : decode cX6_whoMay 101 = .ok (.aload_n 0, 1) := by decide +kernel
theorem dX6_whoMay_102 : decode cX6_whoMay 102 = .ok (.iload_n 1, 1) := by decide +kernel
theorem dX6_whoMay_103 : decode cX6_whoMay 103 = .ok (.invokevirtual 78, 3) := by decide +kernel
theorem dX6_whoMay_106 : decode cX6_whoMay 106 = .ok (.ifCond .eq 7, 3) := by decide +kernel
theorem dX6_whoMay_109 : decode cX6_whoMay 109 = .ok (.iconst 0, 1) := by decide +kernel
theorem dX6_whoMay_110 : decode cX6_whoMay 110 = .ok (.goto 10, 3) := by decide +kernel
theorem dX6_whoMay_113 : decode cX6_whoMay 113 = .ok (.iload_n 2, 1) := by decide +kernel
theorem dX6_whoMay_114 : decode cX6_whoMay 114 = .ok (.aload_n 0, 1) := by decide +kernel
theorem dX6_whoMay_115 : decode cX6_whoMay 115 = .ok (.iload_n 1, 1) := by decide +kernel
theorem dX6_whoMay_116 : decode cX6_whoMay 116 = .ok (.invokevirtual 82, 3) := by decide +kernel
theorem dX6_whoMay_119 : decode cX6_whoMay 119 = .ok (.iand, 1) := by decide +kernel
theorem dX6_whoMay_120 : decode cX6_whoMay 120 = .ok (.ireturn, 1) := by decide +kernel
theorem dX6_whoMay_121 : decode cX6_whoMay 121 = .ok (.iload_n 2, 1) := by decide +kernel
theorem dX6_whoMay_122 : decode cX6_whoMay 122 = .ok (.aload_n 0, 1) := by decide +kernel
theorem dX6_whoMay_123 : decode cX6_whoMay 123 = .ok (.iload_n 1, 1) := by decide +kernel
theorem dX6_whoMay_124 : decode cX6_whoMay 124 = .ok (.invokevirtual 74, 3) := by decide +kernel
theorem dX6_whoMay_127 : decode cX6_whoMay 127 = .ok (.iand, 1) := by decide +kernel
theorem dX6_whoMay_128 : decode cX6_whoMay 128 = .ok (.ireturn, 1) := by decide +kernel
theorem dX6_whoStandIn_0 : decode cX6_whoStandIn 0 = .ok (.aload_n 0, 1) := by decide +kernel
theorem dX6_whoStandIn_1 : decode cX6_whoStandIn 1 = .ok (.getfield 52, 3) := by decide +kernel
theorem dX6_whoStandIn_4 : decode cX6_whoStandIn 4 = .ok (.iconst 1, 1) := by decide +kernel
theorem dX6_whoStandIn_5 : decode cX6_whoStandIn 5 = .ok (.if_icmp .ne 9, 3) := by decide +kernel
theorem dX6_whoStandIn_8 : decode cX6_whoStandIn 8 = .ok (.aload_n 0, 1) := by decide +kernel
theorem dX6_whoStandIn_9 : decode cX6_whoStandIn 9 = .ok (.iload_n 1, 1) := by decide +kernel
theorem dX6_whoStandIn_10 : decode cX6_whoStandIn 10 = .ok (.invokevirtual 82, 3) := by decide +kernel
theorem dX6_whoStandIn_13 : decode cX6_whoStandIn 13 = .ok (.ireturn, 1) := by decide +kernel
theorem dX6_whoStandIn_14 : decode cX6_whoStandIn 14 = .ok (.aload_n 0, 1) := by decide +kernel
theorem dX6_whoStandIn_15 : decode cX6_whoStandIn 15 = .ok (.aload_n 0, 1) := by decide +kernel
theorem dX6_whoStandIn_16 : decode cX6_whoStandIn 16 = .ok (.getfield 24, 3) := by decide +kernel
theorem dX6_whoStandIn_19 : decode cX6_whoStandIn 19 = .ok (.iload_n 1, 1) := by decide +kernel
theorem dX6_whoStandIn_20 : decode cX6_whoStandIn 20 = .ok (.invokevirtual 62, 3) := by decide +kernel
theorem dX6_whoStandIn_23 : decode cX6_whoStandIn 23 = .ok (.aload_n 0, 1) := by decide +kernel
theorem dX6_whoStandIn_24 : decode cX6_whoStandIn 24 = .ok (.aload_n 0, 1) := by decide +kernel
theorem dX6_whoStandIn_25 : decode cX6_whoStandIn 25 = .ok (.getfield 27, 3) := by decide +kernel
theorem dX6_whoStandIn_28 : decode cX6_whoStandIn 28 = .ok (.iload_n 1, 1) := by decide +kernel
theorem dX6_whoStandIn_29 : decode cX6_whoStandIn 29 = .ok (.invokevirtual 62, 3) := by decide +kernel
theorem dX6_whoStandIn_32 : decode cX6_whoStandIn 32 = .ok (.iconst (-1), 1) := by decide +kernel
theorem dX6_whoStandIn_33 : decode cX6_whoStandIn 33 = .ok (.ixor, 1) := by decide +kernel
theorem dX6_whoStandIn_34 : decode cX6_whoStandIn 34 = .ok (.iand, 1) := by decide +kernel
theorem dX6_whoStandIn_35 : decode cX6_whoStandIn 35 = .ok (.aload_n 0, 1) := by decide +kernel
theorem dX6_whoStandIn_36 : decode cX6_whoStandIn 36 = .ok (.iload_n 1, 1) := by decide +kernel
theorem dX6_whoStandIn_37 : decode cX6_whoStandIn 37 = .ok (.invokevirtual 82, 3) := by decide +kernel
theorem dX6_whoStandIn_40 : decode cX6_whoStandIn 40 = .ok (.iconst (-1), 1) := by decide +kernel
theorem dX6_whoStandIn_41 : decode cX6_whoStandIn 41 = .ok (.ixor, 1) := by decide +kernel
theorem dX6_whoStandIn_42 : decode cX6_whoStandIn 42 = .ok (.iand, 1) := by decide +kernel
theorem dX6_whoStandIn_43 : decode cX6_whoStandIn 43 = .ok (.ireturn, 1) := by decide +kernel
theorem dX6_whatMay_0 : decode cX6_whatMay 0 = .ok (.iconst 0, 1) := by decide +kernel
theorem dX6_whatMay_1 : decode cX6_whatMay 1 = .ok (.istore_n 2, 1) := by decide +kernel
theorem dX6_whatMay_2 : decode cX6_whatMay 2 = .ok (.iconst 0, 1) := by decide +kernel
theorem dX6_whatMay_3 : decode cX6_whatMay 3 = .ok (.istore_n 3, 1) := by decide +kernel
theorem dX6_whatMay_4 : decode cX6_whatMay 4 = .ok (.iload_n 3, 1) := by decide +kernel
theorem dX6_whatMay_5 : decode cX6_whatMay 5 = .ok (.aload_n 0, 1) := by decide +kernel
theorem dX6_whatMay_6 : decode cX6_whatMay 6 = .ok (.getfield 36, 3) := by decide +kernel
theorem dX6_whatMay_9 : decode cX6_whatMay 9 = .ok (.if_icmp .ge 23, 3) := by decide +kernel
theorem dX6_whatMay_12 : decode cX6_whatMay 12 = .ok (.iload_n 2, 1) := by decide +kernel
theorem dX6_whatMay_13 : decode cX6_whatMay 13 = .ok (.aload_n 0, 1) := by decide +kernel
theorem dX6_whatMay_14 : decode cX6_whatMay 14 = .ok (.iload_n 3, 1) := by decide +kernel
theorem dX6_whatMay_15 : decode cX6_whatMay 15 = .ok (.invokevirtual 85, 3) := by decide +kernel
theorem dX6_whatMay_18 : decode cX6_whatMay 18 = .ok (.iload_n 1, 1) := by decide +kernel
theorem dX6_whatMay_19 : decode cX6_whatMay 19 = .ok (.ishr, 1) := by decide +kernel
theorem dX6_whatMay_20 : decode cX6_whatMay 20 = .ok (.iconst 1, 1) := by decide +kernel
theorem dX6_whatMay_21 : decode cX6_whatMay 21 = .ok (.iand, 1) := by decide +kernel
theorem dX6_whatMay_22 : decode cX6_whatMay 22 = .ok (.iload_n 3, 1) := by decide +kernel
theorem dX6_whatMay_23 : decode cX6_whatMay 23 = .ok (.ishl, 1) := by decide +kernel
theorem dX6_whatMay_24 : decode cX6_whatMay 24 = .ok (.ior, 1) := by decide +kernel
theorem dX6_whatMay_25 : decode cX6_whatMay 25 = .ok (.istore_n 2, 1) := by decide +kernel
theorem dX6_whatMay_26 : decode cX6_whatMay 26 = .ok (.iinc 3 1, 3) := by decide +kernel
theorem dX6_whatMay_29 : decode cX6_whatMay 29 = .ok (.goto (-25), 3) := by decide +kernel
theorem dX6_whatMay_32 : decode cX6_whatMay 32 = .ok (.iload_n 2, 1) := by decide +kernel
theorem dX6_whatMay_33 : decode cX6_whatMay 33 = .ok (.ireturn, 1) := by decide +kernel
theorem dX6_allPurses_0 : decode cX6_allPurses 0 = .ok (.iconst 0, 1) := by decide +kernel
theorem dX6_allPurses_1 : decode cX6_allPurses 1 = .ok (.istore_n 1, 1) := by decide +kernel
theorem dX6_allPurses_2 : decode cX6_allPurses 2 = .ok (.iconst 0, 1) := by decide +kernel
theorem dX6_allPurses_3 : decode cX6_allPurses 3 = .ok (.istore_n 2, 1) := by decide +kernel
theorem dX6_allPurses_4 : decode cX6_allPurses 4 = .ok (.iload_n 2, 1) := by decide +kernel
theorem dX6_allPurses_5 : decode cX6_allPurses 5 = .ok (.aload_n 0, 1) := by decide +kernel
theorem dX6_allPurses_6 : decode cX6_allPurses 6 = .ok (.getfield 46, 3) := by decide +kernel
theorem dX6_allPurses_9 : decode cX6_allPurses 9 = .ok (.if_icmp .ge 18, 3) := by decide +kernel
theorem dX6_allPurses_12 : decode cX6_allPurses 12 = .ok (.iload_n 1, 1) := by decide +kernel
theorem dX6_allPurses_13 : decode cX6_allPurses 13 = .ok (.aload_n 0, 1) := by decide +kernel
theorem dX6_allPurses_14 : decode cX6_allPurses 14 = .ok (.getfield 33, 3) := by decide +kernel
theorem dX6_allPurses_17 : decode cX6_allPurses 17 = .ok (.iload_n 2, 1) := by decide +kernel
theorem dX6_allPurses_18 : decode cX6_allPurses 18 = .ok (.iaload, 1) := by decide +kernel
theorem dX6_allPurses_19 : decode cX6_allPurses 19 = .ok (.iadd, 1) := by decide +kernel
theorem dX6_allPurses_20 : decode cX6_allPurses 20 = .ok (.istore_n 1, 1) := by decide +kernel
theorem dX6_allPurses_21 : decode cX6_allPurses 21 = .ok (.iinc 2 1, 3) := by decide +kernel
theorem dX6_allPurses_24 : decode cX6_allPurses 24 = .ok (.goto (-20), 3) := by decide +kernel
theorem dX6_allPurses_27 : decode cX6_allPurses 27 = .ok (.iload_n 1, 1) := by decide +kernel
theorem dX6_allPurses_28 : decode cX6_allPurses 28 = .ok (.ireturn, 1) := by decide +kernel
theorem dX6_allApplause_0 : decode cX6_allApplause 0 = .ok (.iconst 0, 1) := by decide +kernel
theorem dX6_allApplause_1 : decode cX6_allApplause 1 = .ok (.istore_n 1, 1) := by decide +kernel
theorem dX6_allApplause_2 : decode cX6_allApplause 2 = .ok (.iconst 0, 1) := by decide +kernel
theorem dX6_allApplause_3 : decode cX6_allApplause 3 = .ok (.istore_n 2, 1) := by decide +kernel
theorem dX6_allApplause_4 : decode cX6_allApplause 4 = .ok (.iload_n 2, 1) := by decide +kernel
theorem dX6_allApplause_5 : decode cX6_allApplause 5 = .ok (.aload_n 0, 1) := by decide +kernel
theorem dX6_allApplause_6 : decode cX6_allApplause 6 = .ok (.getfield 36, 3) := by decide +kernel
theorem dX6_allApplause_9 : decode cX6_allApplause 9 = .ok (.if_icmp .ge 18, 3) := by decide +kernel
theorem dX6_allApplause_12 : decode cX6_allApplause 12 = .ok (.iload_n 1, 1) := by decide +kernel
theorem dX6_allApplause_13 : decode cX6_allApplause 13 = .ok (.aload_n 0, 1) := by decide +kernel
theorem dX6_allApplause_14 : decode cX6_allApplause 14 = .ok (.getfield 21, 3) := by decide +kernel
theorem dX6_allApplause_17 : decode cX6_allApplause 17 = .ok (.iload_n 2, 1) := by decide +kernel
theorem dX6_allApplause_18 : decode cX6_allApplause 18 = .ok (.iaload, 1) := by decide +kernel
theorem dX6_allApplause_19 : decode cX6_allApplause 19 = .ok (.iadd, 1) := by decide +kernel
theorem dX6_allApplause_20 : decode cX6_allApplause 20 = .ok (.istore_n 1, 1) := by decide +kernel
theorem dX6_allApplause_21 : decode cX6_allApplause 21 = .ok (.iinc 2 1, 3) := by decide +kernel
theorem dX6_allApplause_24 : decode cX6_allApplause 24 = .ok (.goto (-20), 3) := by decide +kernel
theorem dX6_allApplause_27 : decode cX6_allApplause 27 = .ok (.iload_n 1, 1) := by decide +kernel
theorem dX6_allApplause_28 : decode cX6_allApplause 28 = .ok (.ireturn, 1) := by decide +kernel
theorem dX6_clapsFor_0 : decode cX6_clapsFor 0 = .ok (.aload_n 2, 1) := by decide +kernel
theorem dX6_clapsFor_1 : decode cX6_clapsFor 1 = .ok (.aload_n 0, 1) := by decide +kernel
theorem dX6_clapsFor_2 : decode cX6_clapsFor 2 = .ok (.getfield 18, 3) := by decide +kernel
theorem dX6_clapsFor_5 : decode cX6_clapsFor 5 = .ok (.iload_n 1, 1) := by decide +kernel
theorem dX6_clapsFor_6 : decode cX6_clapsFor 6 = .ok (.iaload, 1) := by decide +kernel
theorem dX6_clapsFor_7 : decode cX6_clapsFor 7 = .ok (.aload_n 0, 1) := by decide +kernel
theorem dX6_clapsFor_8 : decode cX6_clapsFor 8 = .ok (.getfield 15, 3) := by decide +kernel
theorem dX6_clapsFor_11 : decode cX6_clapsFor 11 = .ok (.iload_n 1, 1) := by decide +kernel
theorem dX6_clapsFor_12 : decode cX6_clapsFor 12 = .ok (.iaload, 1) := by decide +kernel
theorem dX6_clapsFor_13 : decode cX6_clapsFor 13 = .ok (.aload_n 0, 1) := by decide +kernel
theorem dX6_clapsFor_14 : decode cX6_clapsFor 14 = .ok (.iload_n 1, 1) := by decide +kernel
theorem dX6_clapsFor_15 : decode cX6_clapsFor 15 = .ok (.invokevirtual 88, 3) := by decide +kernel
theorem dX6_clapsFor_18 : decode cX6_clapsFor 18 = .ok (.invokestatic 91, 3) := by decide +kernel
theorem dX6_clapsFor_21 : decode cX6_clapsFor 21 = .ok (.invokevirtual 96, 3) := by decide +kernel
theorem dX6_clapsFor_24 : decode cX6_clapsFor 24 = .ok (.ireturn, 1) := by decide +kernel
theorem dX6_wageFor_0 : decode cX6_wageFor 0 = .ok (.aload_n 3, 1) := by decide +kernel
theorem dX6_wageFor_1 : decode cX6_wageFor 1 = .ok (.aload_n 0, 1) := by decide +kernel
theorem dX6_wageFor_2 : decode cX6_wageFor 2 = .ok (.getfield 18, 3) := by decide +kernel
theorem dX6_wageFor_5 : decode cX6_wageFor 5 = .ok (.iload_n 1, 1) := by decide +kernel
theorem dX6_wageFor_6 : decode cX6_wageFor 6 = .ok (.iaload, 1) := by decide +kernel
theorem dX6_wageFor_7 : decode cX6_wageFor 7 = .ok (.aload_n 0, 1) := by decide +kernel
theorem dX6_wageFor_8 : decode cX6_wageFor 8 = .ok (.getfield 27, 3) := by decide +kernel
theorem dX6_wageFor_11 : decode cX6_wageFor 11 = .ok (.iload_n 2, 1) := by decide +kernel
theorem dX6_wageFor_12 : decode cX6_wageFor 12 = .ok (.iaload, 1) := by decide +kernel
theorem dX6_wageFor_13 : decode cX6_wageFor 13 = .ok (.invokestatic 91, 3) := by decide +kernel
theorem dX6_wageFor_16 : decode cX6_wageFor 16 = .ok (.aload_n 0, 1) := by decide +kernel
theorem dX6_wageFor_17 : decode cX6_wageFor 17 = .ok (.getfield 55, 3) := by decide +kernel
theorem dX6_wageFor_20 : decode cX6_wageFor 20 = .ok (.invokevirtual 96, 3) := by decide +kernel
theorem dX6_wageFor_23 : decode cX6_wageFor 23 = .ok (.ireturn, 1) := by decide +kernel
theorem dX6_play_0 : decode cX6_play 0 = .ok (.iconst 0, 1) := by decide +kernel
theorem dX6_play_1 : decode cX6_play 1 = .ok (.istore 4, 2) := by decide +kernel
theorem dX6_play_3 : decode cX6_play 3 = .ok (.iload 4, 2) := by decide +kernel
theorem dX6_play_5 : decode cX6_play 5 = .ok (.aload_n 0, 1) := by decide +kernel
theorem dX6_play_6 : decode cX6_play 6 = .ok (.getfield 36, 3) := by decide +kernel
theorem dX6_play_9 : decode cX6_play 9 = .ok (.if_icmp .ge 81, 3) := by decide +kernel
theorem dX6_play_12 : decode cX6_play 12 = .ok (.aload_n 1, 1) := by decide +kernel
theorem dX6_play_13 : decode cX6_play 13 = .ok (.iload 4, 2) := by decide +kernel
theorem dX6_play_15 : decode cX6_play 15 = .ok (.iaload, 1) := by decide +kernel
theorem dX6_play_16 : decode cX6_play 16 = .ok (.istore 5, 2) := by decide +kernel
theorem dX6_play_18 : decode cX6_play 18 = .ok (.aload_n 0, 1) := by decide +kernel
theorem dX6_play_19 : decode cX6_play 19 = .ok (.iload 5, 2) := by decide +kernel
theorem dX6_play_21 : decode cX6_play 21 = .ok (.invokevirtual 102, 3) := by decide +kernel
theorem dX6_play_24 : decode cX6_play 24 = .ok (.ifCond .eq 60, 3) := by decide +kernel
theorem dX6_play_27 : decode cX6_play 27 = .ok (.aload_n 0, 1) := by decide +kernel
theorem dX6_play_28 : decode cX6_play 28 = .ok (.getfield 21, 3) := by decide +kernel
theorem dX6_play_31 : decode cX6_play 31 = .ok (.iload 4, 2) := by decide +kernel
theorem dX6_play_33 : decode cX6_play 33 = .ok (.aload_n 0, 1) := by decide +kernel
theorem dX6_play_34 : decode cX6_play 34 = .ok (.getfield 21, 3) := by decide +kernel
theorem dX6_play_37 : decode cX6_play 37 = .ok (.iload 4, 2) := by decide +kernel
theorem dX6_play_39 : decode cX6_play 39 = .ok (.iaload, 1) := by decide +kernel
theorem dX6_play_40 : decode cX6_play 40 = .ok (.aload_n 0, 1) := by decide +kernel
theorem dX6_play_41 : decode cX6_play 41 = .ok (.iload 4, 2) := by decide +kernel
theorem dX6_play_43 : decode cX6_play 43 = .ok (.aload_n 2, 1) := by decide +kernel
theorem dX6_play_44 : decode cX6_play 44 = .ok (.invokevirtual 105, 3) := by decide +kernel
theorem dX6_play_47 : decode cX6_play 47 = .ok (.iadd, 1) := by decide +kernel
theorem dX6_play_48 : decode cX6_play 48 = .ok (.ldc 109, 2) := by decide +kernel
theorem dX6_play_50 : decode cX6_play 50 = .ok (.invokestatic 110, 3) := by decide +kernel
theorem dX6_play_53 : decode cX6_play 53 = .ok (.iastore, 1) := by decide +kernel
theorem dX6_play_54 : decode cX6_play 54 = .ok (.aload_n 0, 1) := by decide +kernel
theorem dX6_play_55 : decode cX6_play 55 = .ok (.getfield 33, 3) := by decide +kernel
theorem dX6_play_58 : decode cX6_play 58 = .ok (.iload 5, 2) := by decide +kernel
theorem dX6_play_60 : decode cX6_play 60 = .ok (.aload_n 0, 1) := by decide +kernel
theorem dX6_play_61 : decode cX6_play 61 = .ok (.getfield 33, 3) := by decide +kernel
theorem dX6_play_64 : decode cX6_play 64 = .ok (.iload 5, 2) := by decide +kernel
theorem dX6_play_66 : decode cX6_play 66 = .ok (.iaload, 1) := by decide +kernel
theorem dX6_play_67 : decode cX6_play 67 = .ok (.aload_n 0, 1) := by decide +kernel
theorem dX6_play_68 : decode cX6_play 68 = .ok (.iload 4, 2) := by decide +kernel
theorem dX6_play_70 : decode cX6_play 70 = .ok (.iload 5, 2) := by decide +kernel
theorem dX6_play_72 : decode cX6_play 72 = .ok (.aload_n 3, 1) := by decide +kernel
theorem dX6_play_73 : decode cX6_play 73 = .ok (.invokevirtual 116, 3) := by decide +kernel
theorem dX6_play_76 : decode cX6_play 76 = .ok (.iadd, 1) := by decide +kernel
theorem dX6_play_77 : decode cX6_play 77 = .ok (.sipush 9999, 3) := by decide +kernel
theorem dX6_play_80 : decode cX6_play 80 = .ok (.invokestatic 110, 3) := by decide +kernel
theorem dX6_play_83 : decode cX6_play 83 = .ok (.iastore, 1) := by decide +kernel
theorem dX6_play_84 : decode cX6_play 84 = .ok (.iinc 4 1, 3) := by decide +kernel
theorem dX6_play_87 : decode cX6_play 87 = .ok (.goto (-84), 3) := by decide +kernel
theorem dX6_play_90 : decode cX6_play 90 = .ok (.iconst 0, 1) := by decide +kernel
theorem dX6_play_91 : decode cX6_play 91 = .ok (.istore 4, 2) := by decide +kernel
theorem dX6_play_93 : decode cX6_play 93 = .ok (.iload 4, 2) := by decide +kernel
theorem dX6_play_95 : decode cX6_play 95 = .ok (.aload_n 0, 1) := by decide +kernel
theorem dX6_play_96 : decode cX6_play 96 = .ok (.getfield 46, 3) := by decide +kernel
theorem dX6_play_99 : decode cX6_play 99 = .ok (.if_icmp .ge 22, 3) := by decide +kernel
theorem dX6_play_102 : decode cX6_play 102 = .ok (.aload_n 0, 1) := by decide +kernel
theorem dX6_play_103 : decode cX6_play 103 = .ok (.iload 4, 2) := by decide +kernel
theorem dX6_play_105 : decode cX6_play 105 = .ok (.aload_n 0, 1) := by decide +kernel
theorem dX6_play_106 : decode cX6_play 106 = .ok (.aload_n 1, 1) := by decide +kernel
theorem dX6_play_107 : decode cX6_play 107 = .ok (.iload 4, 2) := by decide +kernel
theorem dX6_play_109 : decode cX6_play 109 = .ok (.invokevirtual 120, 3) := by decide +kernel
theorem dX6_play_112 : decode cX6_play 112 = .ok (.invokevirtual 123, 3) := by decide +kernel
theorem dX6_play_115 : decode cX6_play 115 = .ok (.iinc 4 1, 3) := by decide +kernel
theorem dX6_play_118 : decode cX6_play 118 = .ok (.goto (-25), 3) := by decide +kernel
theorem dX6_play_121 : decode cX6_play 121 = .ok (.aload_n 0, 1) := by decide +kernel
theorem dX6_play_122 : decode cX6_play 122 = .ok (.iconst 0, 1) := by decide +kernel
theorem dX6_play_123 : decode cX6_play 123 = .ok (.putfield 52, 3) := by decide +kernel
theorem dX6_play_126 : decode cX6_play 126 = .ok (.aload_n 0, 1) := by decide +kernel
theorem dX6_play_127 : decode cX6_play 127 = .ok (.dup, 1) := by decide +kernel
theorem dX6_play_128 : decode cX6_play 128 = .ok (.getfield 55, 3) := by decide +kernel
theorem dX6_play_131 : decode cX6_play 131 = .ok (.iconst 1, 1) := by decide +kernel
theorem dX6_play_132 : decode cX6_play 132 = .ok (.iadd, 1) := by decide +kernel
theorem dX6_play_133 : decode cX6_play 133 = .ok (.putfield 55, 3) := by decide +kernel
theorem dX6_play_136 : decode cX6_play 136 = .ok (.return_, 1) := by decide +kernel
theorem dX6_partsIn_0 : decode cX6_partsIn 0 = .ok (.iconst 0, 1) := by decide +kernel
theorem dX6_partsIn_1 : decode cX6_partsIn 1 = .ok (.istore_n 3, 1) := by decide +kernel
theorem dX6_partsIn_2 : decode cX6_partsIn 2 = .ok (.iconst 0, 1) := by decide +kernel
theorem dX6_partsIn_3 : decode cX6_partsIn 3 = .ok (.istore 4, 2) := by decide +kernel
theorem dX6_partsIn_5 : decode cX6_partsIn 5 = .ok (.iload 4, 2) := by decide +kernel
theorem dX6_partsIn_7 : decode cX6_partsIn 7 = .ok (.aload_n 0, 1) := by decide +kernel
theorem dX6_partsIn_8 : decode cX6_partsIn 8 = .ok (.getfield 36, 3) := by decide +kernel
theorem dX6_partsIn_11 : decode cX6_partsIn 11 = .ok (.if_icmp .ge 24, 3) := by decide +kernel
theorem dX6_partsIn_14 : decode cX6_partsIn 14 = .ok (.aload_n 1, 1) := by decide +kernel
theorem dX6_partsIn_15 : decode cX6_partsIn 15 = .ok (.iload 4, 2) := by decide +kernel
theorem dX6_partsIn_17 : decode cX6_partsIn 17 = .ok (.iaload, 1) := by decide +kernel
theorem dX6_partsIn_18 : decode cX6_partsIn 18 = .ok (.iload_n 2, 1) := by decide +kernel
theorem dX6_partsIn_19 : decode cX6_partsIn 19 = .ok (.if_icmp .ne 10, 3) := by decide +kernel
theorem dX6_partsIn_22 : decode cX6_partsIn 22 = .ok (.iload_n 3, 1) := by decide +kernel
theorem dX6_partsIn_23 : decode cX6_partsIn 23 = .ok (.iconst 1, 1) := by decide +kernel
theorem dX6_partsIn_24 : decode cX6_partsIn 24 = .ok (.iload 4, 2) := by decide +kernel
theorem dX6_partsIn_26 : decode cX6_partsIn 26 = .ok (.ishl, 1) := by decide +kernel
theorem dX6_partsIn_27 : decode cX6_partsIn 27 = .ok (.ior, 1) := by decide +kernel
theorem dX6_partsIn_28 : decode cX6_partsIn 28 = .ok (.istore_n 3, 1) := by decide +kernel
theorem dX6_partsIn_29 : decode cX6_partsIn 29 = .ok (.iinc 4 1, 3) := by decide +kernel
theorem dX6_partsIn_32 : decode cX6_partsIn 32 = .ok (.goto (-27), 3) := by decide +kernel
theorem dX6_partsIn_35 : decode cX6_partsIn 35 = .ok (.iload_n 3, 1) := by decide +kernel
theorem dX6_partsIn_36 : decode cX6_partsIn 36 = .ok (.ireturn, 1) := by decide +kernel
theorem dX6_learnFrom_0 : decode cX6_learnFrom 0 = .ok (.aload_n 0, 1) := by decide +kernel
theorem dX6_learnFrom_1 : decode cX6_learnFrom 1 = .ok (.getfield 27, 3) := by decide +kernel
theorem dX6_learnFrom_4 : decode cX6_learnFrom 4 = .ok (.iload_n 1, 1) := by decide +kernel
theorem dX6_learnFrom_5 : decode cX6_learnFrom 5 = .ok (.dup2, 1) := by decide +kernel
theorem dX6_learnFrom_6 : decode cX6_learnFrom 6 = .ok (.iaload, 1) := by decide +kernel
theorem dX6_learnFrom_7 : decode cX6_learnFrom 7 = .ok (.iload_n 2, 1) := by decide +kernel
theorem dX6_learnFrom_8 : decode cX6_learnFrom 8 = .ok (.ior, 1) := by decide +kernel
theorem dX6_learnFrom_9 : decode cX6_learnFrom 9 = .ok (.iastore, 1) := by decide +kernel
theorem dX6_learnFrom_10 : decode cX6_learnFrom 10 = .ok (.aload_n 0, 1) := by decide +kernel
theorem dX6_learnFrom_11 : decode cX6_learnFrom 11 = .ok (.getfield 24, 3) := by decide +kernel
theorem dX6_learnFrom_14 : decode cX6_learnFrom 14 = .ok (.iload_n 1, 1) := by decide +kernel
theorem dX6_learnFrom_15 : decode cX6_learnFrom 15 = .ok (.dup2, 1) := by decide +kernel
theorem dX6_learnFrom_16 : decode cX6_learnFrom 16 = .ok (.iaload, 1) := by decide +kernel
theorem dX6_learnFrom_17 : decode cX6_learnFrom 17 = .ok (.iload_n 2, 1) := by decide +kernel
theorem dX6_learnFrom_18 : decode cX6_learnFrom 18 = .ok (.iconst 1, 1) := by decide +kernel
theorem dX6_learnFrom_19 : decode cX6_learnFrom 19 = .ok (.ishl, 1) := by decide +kernel
theorem dX6_learnFrom_20 : decode cX6_learnFrom 20 = .ok (.iload_n 2, 1) := by decide +kernel
theorem dX6_learnFrom_21 : decode cX6_learnFrom 21 = .ok (.iconst 1, 1) := by decide +kernel
theorem dX6_learnFrom_22 : decode cX6_learnFrom 22 = .ok (.ishr, 1) := by decide +kernel
theorem dX6_learnFrom_23 : decode cX6_learnFrom 23 = .ok (.ior, 1) := by decide +kernel
theorem dX6_learnFrom_24 : decode cX6_learnFrom 24 = .ok (.aload_n 0, 1) := by decide +kernel
theorem dX6_learnFrom_25 : decode cX6_learnFrom 25 = .ok (.invokevirtual 126, 3) := by decide +kernel
theorem dX6_learnFrom_28 : decode cX6_learnFrom 28 = .ok (.iand, 1) := by decide +kernel
theorem dX6_learnFrom_29 : decode cX6_learnFrom 29 = .ok (.ior, 1) := by decide +kernel
theorem dX6_learnFrom_30 : decode cX6_learnFrom 30 = .ok (.iastore, 1) := by decide +kernel
theorem dX6_learnFrom_31 : decode cX6_learnFrom 31 = .ok (.return_, 1) := by decide +kernel
theorem dX7_init_0 : decode cX7_init 0 = .ok (.aload_n 0, 1) := by decide +kernel
theorem dX7_init_1 : decode cX7_init 1 = .ok (.invokespecial 3, 3) := by decide +kernel
theorem dX7_init_4 : decode cX7_init 4 = .ok (.aload_n 0, 1) := by decide +kernel
theorem dX7_init_5 : decode cX7_init 5 = .ok (.new 9, 3) := by decide +kernel
theorem dX7_init_8 : decode cX7_init 8 = .ok (.dup, 1) := by decide +kernel
theorem dX7_init_9 : decode cX7_init 9 = .ok (.bipush 40, 2) := by decide +kernel
theorem dX7_init_11 : decode cX7_init 11 = .ok (.invokespecial 11, 3) := by decide +kernel
theorem dX7_init_14 : decode cX7_init 14 = .ok (.putfield 14, 3) := by decide +kernel
theorem dX7_init_17 : decode cX7_init 17 = .ok (.return_, 1) := by decide +kernel
theorem dX7_raise_0 : decode cX7_raise 0 = .ok (.aload_n 0, 1) := by decide +kernel
theorem dX7_raise_1 : decode cX7_raise 1 = .ok (.iload_n 1, 1) := by decide +kernel
theorem dX7_raise_2 : decode cX7_raise 2 = .ok (.putfield 20, 3) := by decide +kernel
theorem dX7_raise_5 : decode cX7_raise 5 = .ok (.aload_n 0, 1) := by decide +kernel
theorem dX7_raise_6 : decode cX7_raise 6 = .ok (.iload_n 2, 1) := by decide +kernel
theorem dX7_raise_7 : decode cX7_raise 7 = .ok (.putfield 24, 3) := by decide +kernel
theorem dX7_raise_10 : decode cX7_raise 10 = .ok (.aload_n 0, 1) := by decide +kernel
theorem dX7_raise_11 : decode cX7_raise 11 = .ok (.iload_n 3, 1) := by decide +kernel
theorem dX7_raise_12 : decode cX7_raise 12 = .ok (.putfield 27, 3) := by decide +kernel
theorem dX7_raise_15 : decode cX7_raise 15 = .ok (.aload_n 0, 1) := by decide +kernel
theorem dX7_raise_16 : decode cX7_raise 16 = .ok (.getfield 14, 3) := by decide +kernel
theorem dX7_raise_19 : decode cX7_raise 19 = .ok (.invokevirtual 30, 3) := by decide +kernel
theorem dX7_raise_22 : decode cX7_raise 22 = .ok (.aload_n 0, 1) := by decide +kernel
theorem dX7_raise_23 : decode cX7_raise 23 = .ok (.iload 4, 2) := by decide +kernel
theorem dX7_raise_25 : decode cX7_raise 25 = .ok (.iload 5, 2) := by decide +kernel
theorem dX7_raise_27 : decode cX7_raise 27 = .ok (.iconst 0, 1) := by decide +kernel
theorem dX7_raise_28 : decode cX7_raise 28 = .ok (.invokevirtual 33, 3) := by decide +kernel
theorem dX7_raise_31 : decode cX7_raise 31 = .ok (.ireturn, 1) := by decide +kernel
theorem dX7_own_0 : decode cX7_own 0 = .ok (.aload_n 0, 1) := by decide +kernel
theorem dX7_own_1 : decode cX7_own 1 = .ok (.aload_n 0, 1) := by decide +kernel
theorem dX7_own_2 : decode cX7_own 2 = .ok (.getfield 20, 3) := by decide +kernel
theorem dX7_own_5 : decode cX7_own 5 = .ok (.iload_n 1, 1) := by decide +kernel
theorem dX7_own_6 : decode cX7_own 6 = .ok (.iload_n 2, 1) := by decide +kernel
theorem dX7_own_7 : decode cX7_own 7 = .ok (.iload_n 3, 1) := by decide +kernel
theorem dX7_own_8 : decode cX7_own 8 = .ok (.invokevirtual 37, 3) := by decide +kernel
theorem dX7_own_11 : decode cX7_own 11 = .ok (.ireturn, 1) := by decide +kernel
theorem dX7_from_0 : decode cX7_from 0 = .ok (.iload_n 1, 1) := by decide +kernel
theorem dX7_from_1 : decode cX7_from 1 = .ok (.istore 5, 2) := by decide +kernel
theorem dX7_from_3 : decode cX7_from 3 = .ok (.iconst 0, 1) := by decide +kernel
theorem dX7_from_4 : decode cX7_from 4 = .ok (.istore 6, 2) := by decide +kernel
theorem dX7_from_6 : decode cX7_from 6 = .ok (.iload 6, 2) := by decide +kernel
theorem dX7_from_8 : decode cX7_from 8 = .ok (.bipush 7, 2) := by decide +kernel
theorem dX7_from_10 : decode cX7_from 10 = .ok (.if_icmp .ge 53, 3) := by decide +kernel
theorem dX7_from_13 : decode cX7_from 13 = .ok (.iload 5, 2) := by decide +kernel
theorem dX7_from_15 : decode cX7_from 15 = .ok (.ifCond .lt 48, 3) := by decide +kernel
theorem dX7_from_18 : decode cX7_from 18 = .ok (.getstatic 41, 3) := by decide +kernel
theorem dX7_from_21 : decode cX7_from 21 = .ok (.iload 5, 2) := by decide +kernel
theorem dX7_from_23 : decode cX7_from 23 = .ok (.iconst 4, 1) := by decide +kernel
theorem dX7_from_24 : decode cX7_from 24 = .ok (.imul, 1) := by decide +kernel
theorem dX7_from_25 : decode cX7_from 25 = .ok (.iload_n 2, 1) := by decide +kernel
theorem dX7_from_26 : decode cX7_from 26 = .ok (.iadd, 1) := by decide +kernel
theorem dX7_from_27 : decode cX7_from 27 = .ok (.iaload, 1) := by decide +kernel
theorem dX7_from_28 : decode cX7_from 28 = .ok (.istore 7, 2) := by decide +kernel
theorem dX7_from_30 : decode cX7_from 30 = .ok (.iload 7, 2) := by decide +kernel
theorem dX7_from_32 : decode cX7_from 32 = .ok (.ifCond .eq 17, 3) := by decide +kernel
theorem dX7_from_35 : decode cX7_from 35 = .ok (.aload_n 0, 1) := by decide +kernel
theorem dX7_from_36 : decode cX7_from 36 = .ok (.iload 7, 2) := by decide +kernel
theorem dX7_from_38 : decode cX7_from 38 = .ok (.iload 5, 2) := by decide +kernel
theorem dX7_from_40 : decode cX7_from 40 = .ok (.iload_n 3, 1) := by decide +kernel
theorem dX7_from_41 : decode cX7_from 41 = .ok (.iload 4, 2) := by decide +kernel
theorem dX7_from_43 : decode cX7_from 43 = .ok (.iconst 1, 1) := by decide +kernel
theorem dX7_from_44 : decode cX7_from 44 = .ok (.iadd, 1) := by decide +kernel
theorem dX7_from_45 : decode cX7_from 45 = .ok (.invokevirtual 45, 3) := by decide +kernel
theorem dX7_from_48 : decode cX7_from 48 = .ok (.ireturn, 1) := by decide +kernel
theorem dX7_from_49 : decode cX7_from 49 = .ok (.getstatic 48, 3) := by decide +kernel
theorem dX7_from_52 : decode cX7_from 52 = .ok (.iload 5, 2) := by decide +kernel
theorem dX7_from_54 : decode cX7_from 54 = .ok (.iaload, 1) := by decide +kernel
theorem dX7_from_55 : decode cX7_from 55 = .ok (.istore 5, 2) := by decide +kernel
theorem dX7_from_57 : decode cX7_from 57 = .ok (.iinc 6 1, 3) := by decide +kernel
theorem dX7_from_60 : decode cX7_from 60 = .ok (.goto (-54), 3) := by decide +kernel
theorem dX7_from_63 : decode cX7_from 63 = .ok (.iconst 0, 1) := by decide +kernel
theorem dX7_from_64 : decode cX7_from 64 = .ok (.ireturn, 1) := by decide +kernel
theorem dX7_begun_0 : decode cX7_begun 0 = .ok (.iload 4, 2) := by decide +kernel
theorem dX7_begun_2 : decode cX7_begun 2 = .ok (.bipush 40, 2) := by decide +kernel
theorem dX7_begun_4 : decode cX7_begun 4 = .ok (.if_icmp .le 5, 3) := by decide +kernel
theorem dX7_begun_7 : decode cX7_begun 7 = .ok (.iconst 0, 1) := by decide +kernel
theorem dX7_begun_8 : decode cX7_begun 8 = .ok (.ireturn, 1) := by decide +kernel
theorem dX7_begun_9 : decode cX7_begun 9 = .ok (.aload_n 0, 1) := by decide +kernel
theorem dX7_begun_10 : decode cX7_begun 10 = .ok (.getfield 14, 3) := by decide +kernel
theorem dX7_begun_13 : decode cX7_begun 13 = .ok (.iload_n 1, 1) := by decide +kernel
theorem dX7_begun_14 : decode cX7_begun 14 = .ok (.invokevirtual 51, 3) := by decide +kernel
theorem dX7_begun_17 : decode cX7_begun 17 = .ok (.getstatic 48, 3) := by decide +kernel
theorem dX7_begun_20 : decode cX7_begun 20 = .ok (.iload_n 2, 1) := by decide +kernel
theorem dX7_begun_21 : decode cX7_begun 21 = .ok (.iaload, 1) := by decide +kernel
theorem dX7_begun_22 : decode cX7_begun 22 = .ok (.istore 5, 2) := by decide +kernel
theorem dX7_begun_24 : decode cX7_begun 24 = .ok (.iload_n 1, 1) := by decide +kernel
theorem dX7_begun_25 : decode cX7_begun 25 = .ok (.lookupswitch 256 #[(10, 99), (11, 106), (12, 117), (13, 124), (20, 142), (30, 162), (40, 175), (50, 187), (60, 200), (70, 220), (71, 236)], 99) := by decide +kernel
theorem dX7_begun_124 : decode cX7_begun 124 = .ok (.iload_n 3, 1) := by decide +kernel
theorem dX7_begun_125 : decode cX7_begun 125 = .ok (.aload_n 0, 1) := by decide +kernel
theorem dX7_begun_126 : decode cX7_begun 126 = .ok (.getfield 24, 3) := by decide +kernel
theorem dX7_begun_129 : decode cX7_begun 129 = .ok (.iadd, 1) := by decide +kernel
theorem dX7_begun_130 : decode cX7_begun 130 = .ok (.ireturn, 1) := by decide +kernel
theorem dX7_begun_131 : decode cX7_begun 131 = .ok (.aload_n 0, 1) := by decide +kernel
theorem dX7_begun_132 : decode cX7_begun 132 = .ok (.iconst 0, 1) := by decide +kernel
theorem dX7_begun_133 : decode cX7_begun 133 = .ok (.iload_n 3, 1) := by decide +kernel
theorem dX7_begun_134 : decode cX7_begun 134 = .ok (.iload 4, 2) := by decide +kernel
theorem dX7_begun_136 : decode cX7_begun 136 = .ok (.invokevirtual 33, 3) := by decide +kernel
theorem dX7_begun_139 : decode cX7_begun 139 = .ok (.iconst 2, 1) := by decide +kernel
theorem dX7_begun_140 : decode cX7_begun 140 = .ok (.imul, 1) := by decide +kernel
theorem dX7_begun_141 : decode cX7_begun 141 = .ok (.ireturn, 1) := by decide +kernel
theorem dX7_begun_142 : decode cX7_begun 142 = .ok (.iload_n 3, 1) := by decide +kernel
theorem dX7_begun_143 : decode cX7_begun 143 = .ok (.aload_n 0, 1) := by decide +kernel
theorem dX7_begun_144 : decode cX7_begun 144 = .ok (.getfield 27, 3) := by decide +kernel
theorem dX7_begun_147 : decode cX7_begun 147 = .ok (.isub, 1) := by decide +kernel
theorem dX7_begun_148 : decode cX7_begun 148 = .ok (.ireturn, 1) := by decide +kernel
theorem dX7_begun_149 : decode cX7_begun 149 = .ok (.aload_n 0, 1) := by decide +kernel
theorem dX7_begun_150 : decode cX7_begun 150 = .ok (.iconst 1, 1) := by decide +kernel
theorem dX7_begun_151 : decode cX7_begun 151 = .ok (.iload_n 3, 1) := by decide +kernel
theorem dX7_begun_152 : decode cX7_begun 152 = .ok (.iload 4, 2) := by decide +kernel
theorem dX7_begun_154 : decode cX7_begun 154 = .ok (.invokevirtual 33, 3) := by decide +kernel
theorem dX7_begun_157 : decode cX7_begun 157 = .ok (.aload_n 0, 1) := by decide +kernel
theorem dX7_begun_158 : decode cX7_begun 158 = .ok (.iconst 2, 1) := by decide +kernel
theorem dX7_begun_159 : decode cX7_begun 159 = .ok (.iload_n 3, 1) := by decide +kernel
theorem dX7_begun_160 : decode cX7_begun 160 = .ok (.iload 4, 2) := by decide +kernel
theorem dX7_begun_162 : decode cX7_begun 162 = .ok (.invokevirtual 33, 3) := by decide +kernel
theorem dX7_begun_165 : decode cX7_begun 165 = .ok (.ixor, 1) := by decide +kernel
theorem dX7_begun_166 : decode cX7_begun 166 = .ok (.ireturn, 1) := by decide +kernel
theorem dX7_begun_167 : decode cX7_begun 167 = .ok (.aload_n 0, 1) := by decide +kernel
theorem dX7_begun_168 : decode cX7_begun 168 = .ok (.iload 5, 2) := by decide +kernel
theorem dX7_begun_170 : decode cX7_begun 170 = .ok (.iconst 1, 1) := by decide +kernel
theorem dX7_begun_171 : decode cX7_begun 171 = .ok (.iload_n 3, 1) := by decide +kernel
theorem dX7_begun_172 : decode cX7_begun 172 = .ok (.iload 4, 2) := by decide +kernel
theorem dX7_begun_174 : decode cX7_begun 174 = .ok (.invokevirtual 37, 3) := by decide +kernel
theorem dX7_begun_177 : decode cX7_begun 177 = .ok (.aload_n 0, 1) := by decide +kernel
theorem dX7_begun_178 : decode cX7_begun 178 = .ok (.iconst 2, 1) := by decide +kernel
theorem dX7_begun_179 : decode cX7_begun 179 = .ok (.iconst 1, 1) := by decide +kernel
theorem dX7_begun_180 : decode cX7_begun 180 = .ok (.iload 4, 2) := by decide +kernel
theorem dX7_begun_182 : decode cX7_begun 182 = .ok (.invokevirtual 33, 3) := by decide +kernel
theorem dX7_begun_185 : decode cX7_begun 185 = .ok (.isub, 1) := by decide +kernel
theorem dX7_begun_186 : decode cX7_begun 186 = .ok (.ireturn, 1) := by decide +kernel
theorem dX7_begun_187 : decode cX7_begun 187 = .ok (.aload_n 0, 1) := by decide +kernel
theorem dX7_begun_188 : decode cX7_begun 188 = .ok (.iload 5, 2) := by decide +kernel
theorem dX7_begun_190 : decode cX7_begun 190 = .ok (.iconst 0, 1) := by decide +kernel
theorem dX7_begun_191 : decode cX7_begun 191 = .ok (.iload_n 3, 1) := by decide +kernel
theorem dX7_begun_192 : decode cX7_begun 192 = .ok (.iload 4, 2) := by decide +kernel
theorem dX7_begun_194 : decode cX7_begun 194 = .ok (.invokevirtual 37, 3) := by decide +kernel
theorem dX7_begun_197 : decode cX7_begun 197 = .ok (.iconst 3, 1) := by decide +kernel
theorem dX7_begun_198 : decode cX7_begun 198 = .ok (.imul, 1) := by decide +kernel
theorem dX7_begun_199 : decode cX7_begun 199 = .ok (.ireturn, 1) := by decide +kernel
theorem dX7_begun_200 : decode cX7_begun 200 = .ok (.aload_n 0, 1) := by decide +kernel
theorem dX7_begun_201 : decode cX7_begun 201 = .ok (.iload 5, 2) := by decide +kernel
theorem dX7_begun_203 : decode cX7_begun 203 = .ok (.iconst 2, 1) := by decide +kernel
theorem dX7_begun_204 : decode cX7_begun 204 = .ok (.iload_n 3, 1) := by decide +kernel
theorem dX7_begun_205 : decode cX7_begun 205 = .ok (.iload 4, 2) := by decide +kernel
theorem dX7_begun_207 : decode cX7_begun 207 = .ok (.invokevirtual 37, 3) := by decide +kernel
theorem dX7_begun_210 : decode cX7_begun 210 = .ok (.ineg, 1) := by decide +kernel
theorem dX7_begun_211 : decode cX7_begun 211 = .ok (.ireturn, 1) := by decide +kernel
theorem dX7_begun_212 : decode cX7_begun 212 = .ok (.aload_n 0, 1) := by decide +kernel
theorem dX7_begun_213 : decode cX7_begun 213 = .ok (.iload 5, 2) := by decide +kernel
theorem dX7_begun_215 : decode cX7_begun 215 = .ok (.iconst 1, 1) := by decide +kernel
theorem dX7_begun_216 : decode cX7_begun 216 = .ok (.iload_n 3, 1) := by decide +kernel
theorem dX7_begun_217 : decode cX7_begun 217 = .ok (.iconst 1, 1) := by decide +kernel
theorem dX7_begun_218 : decode cX7_begun 218 = .ok (.iadd, 1) := by decide +kernel
theorem dX7_begun_219 : decode cX7_begun 219 = .ok (.iload 4, 2) := by decide +kernel
theorem dX7_begun_221 : decode cX7_begun 221 = .ok (.invokevirtual 37, 3) := by decide +kernel
theorem dX7_begun_224 : decode cX7_begun 224 = .ok (.ireturn, 1) := by decide +kernel
theorem dX7_begun_225 : decode cX7_begun 225 = .ok (.aload_n 0, 1) := by decide +kernel
theorem dX7_begun_226 : decode cX7_begun 226 = .ok (.iload 5, 2) := by decide +kernel
theorem dX7_begun_228 : decode cX7_begun 228 = .ok (.iconst 3, 1) := by decide +kernel
theorem dX7_begun_229 : decode cX7_begun 229 = .ok (.iload_n 3, 1) := by decide +kernel
theorem dX7_begun_230 : decode cX7_begun 230 = .ok (.iload 4, 2) := by decide +kernel
theorem dX7_begun_232 : decode cX7_begun 232 = .ok (.invokevirtual 37, 3) := by decide +kernel
theorem dX7_begun_235 : decode cX7_begun 235 = .ok (.aload_n 0, 1) := by decide +kernel
theorem dX7_begun_236 : decode cX7_begun 236 = .ok (.iconst 0, 1) := by decide +kernel
theorem dX7_begun_237 : decode cX7_begun 237 = .ok (.iconst 2, 1) := by decide +kernel
theorem dX7_begun_238 : decode cX7_begun 238 = .ok (.iload 4, 2) := by decide +kernel
theorem dX7_begun_240 : decode cX7_begun 240 = .ok (.invokevirtual 33, 3) := by decide +kernel
theorem dX7_begun_243 : decode cX7_begun 243 = .ok (.isub, 1) := by decide +kernel
theorem dX7_begun_244 : decode cX7_begun 244 = .ok (.ireturn, 1) := by decide +kernel
theorem dX7_begun_245 : decode cX7_begun 245 = .ok (.aload_n 0, 1) := by decide +kernel
theorem dX7_begun_246 : decode cX7_begun 246 = .ok (.iload 5, 2) := by decide +kernel
theorem dX7_begun_248 : decode cX7_begun 248 = .ok (.iconst 2, 1) := by decide +kernel
theorem dX7_begun_249 : decode cX7_begun 249 = .ok (.iload_n 3, 1) := by decide +kernel
theorem dX7_begun_250 : decode cX7_begun 250 = .ok (.iload 4, 2) := by decide +kernel
theorem dX7_begun_252 : decode cX7_begun 252 = .ok (.invokevirtual 37, 3) := by decide +kernel
theorem dX7_begun_255 : decode cX7_begun 255 = .ok (.aload_n 0, 1) := by decide +kernel
theorem dX7_begun_256 : decode cX7_begun 256 = .ok (.getfield 24, 3) := by decide +kernel
theorem dX7_begun_259 : decode cX7_begun 259 = .ok (.ixor, 1) := by decide +kernel
theorem dX7_begun_260 : decode cX7_begun 260 = .ok (.ireturn, 1) := by decide +kernel
theorem dX7_begun_261 : decode cX7_begun 261 = .ok (.aload_n 0, 1) := by decide +kernel
theorem dX7_begun_262 : decode cX7_begun 262 = .ok (.iconst 1, 1) := by decide +kernel
theorem dX7_begun_263 : decode cX7_begun 263 = .ok (.iload_n 3, 1) := by decide +kernel
theorem dX7_begun_264 : decode cX7_begun 264 = .ok (.iload 4, 2) := by decide +kernel
theorem dX7_begun_266 : decode cX7_begun 266 = .ok (.invokevirtual 33, 3) := by decide +kernel
theorem dX7_begun_269 : decode cX7_begun 269 = .ok (.aload_n 0, 1) := by decide +kernel
theorem dX7_begun_270 : decode cX7_begun 270 = .ok (.iload 5, 2) := by decide +kernel
theorem dX7_begun_272 : decode cX7_begun 272 = .ok (.iconst 3, 1) := by decide +kernel
theorem dX7_begun_273 : decode cX7_begun 273 = .ok (.iload_n 3, 1) := by decide +kernel
theorem dX7_begun_274 : decode cX7_begun 274 = .ok (.iload 4, 2) := by decide +kernel
theorem dX7_begun_276 : decode cX7_begun 276 = .ok (.invokevirtual 37, 3) := by decide +kernel
theorem dX7_begun_279 : decode cX7_begun 279 = .ok (.isub, 1) := by decide +kernel
theorem dX7_begun_280 : decode cX7_begun 280 = .ok (.ireturn, 1) := by decide +kernel
theorem dX7_begun_281 : decode cX7_begun 281 = .ok (.iconst 0, 1) := by decide +kernel
theorem dX7_begun_282 : decode cX7_begun 282 = .ok (.ireturn, 1) := by decide +kernel
theorem dX8_init_0 : decode cX8_init 0 = .ok (.aload_n 0, 1) := by decide +kernel
theorem dX8_init_1 : decode cX8_init 1 = .ok (.invokespecial 1, 3) := by decide +kernel
theorem dX8_init_4 : decode cX8_init 4 = .ok (.aload_n 0, 1) := by decide +kernel
theorem dX8_init_5 : decode cX8_init 5 = .ok (.new 7, 3) := by decide +kernel
theorem dX8_init_8 : decode cX8_init 8 = .ok (.dup, 1) := by decide +kernel
theorem dX8_init_9 : decode cX8_init 9 = .ok (.invokespecial 9, 3) := by decide +kernel
theorem dX8_init_12 : decode cX8_init 12 = .ok (.putfield 10, 3) := by decide +kernel
theorem dX8_init_15 : decode cX8_init 15 = .ok (.aload_n 0, 1) := by decide +kernel
theorem dX8_init_16 : decode cX8_init 16 = .ok (.new 7, 3) := by decide +kernel
theorem dX8_init_19 : decode cX8_init 19 = .ok (.dup, 1) := by decide +kernel
theorem dX8_init_20 : decode cX8_init 20 = .ok (.invokespecial 9, 3) := by decide +kernel
theorem dX8_init_23 : decode cX8_init 23 = .ok (.putfield 16, 3) := by decide +kernel
theorem dX8_init_26 : decode cX8_init 26 = .ok (.aload_n 0, 1) := by decide +kernel
theorem dX8_init_27 : decode cX8_init 27 = .ok (.new 19, 3) := by decide +kernel
theorem dX8_init_30 : decode cX8_init 30 = .ok (.dup, 1) := by decide +kernel
theorem dX8_init_31 : decode cX8_init 31 = .ok (.invokespecial 21, 3) := by decide +kernel
theorem dX8_init_34 : decode cX8_init 34 = .ok (.putfield 22, 3) := by decide +kernel
theorem dX8_init_37 : decode cX8_init 37 = .ok (.aload_n 0, 1) := by decide +kernel
theorem dX8_init_38 : decode cX8_init 38 = .ok (.new 26, 3) := by decide +kernel
theorem dX8_init_41 : decode cX8_init 41 = .ok (.dup, 1) := by decide +kernel
theorem dX8_init_42 : decode cX8_init 42 = .ok (.invokespecial 28, 3) := by decide +kernel
theorem dX8_init_45 : decode cX8_init 45 = .ok (.putfield 29, 3) := by decide +kernel
theorem dX8_init_48 : decode cX8_init 48 = .ok (.aload_n 0, 1) := by decide +kernel
theorem dX8_init_49 : decode cX8_init 49 = .ok (.new 33, 3) := by decide +kernel
theorem dX8_init_52 : decode cX8_init 52 = .ok (.dup, 1) := by decide +kernel
theorem dX8_init_53 : decode cX8_init 53 = .ok (.invokespecial 35, 3) := by decide +kernel
theorem dX8_init_56 : decode cX8_init 56 = .ok (.putfield 36, 3) := by decide +kernel
theorem dX8_init_59 : decode cX8_init 59 = .ok (.aload_n 0, 1) := by decide +kernel
theorem dX8_init_60 : decode cX8_init 60 = .ok (.new 40, 3) := by decide +kernel
theorem dX8_init_63 : decode cX8_init 63 = .ok (.dup, 1) := by decide +kernel
theorem dX8_init_64 : decode cX8_init 64 = .ok (.invokespecial 42, 3) := by decide +kernel
theorem dX8_init_67 : decode cX8_init 67 = .ok (.putfield 43, 3) := by decide +kernel
theorem dX8_init_70 : decode cX8_init 70 = .ok (.aload_n 0, 1) := by decide +kernel
theorem dX8_init_71 : decode cX8_init 71 = .ok (.iconst 4, 1) := by decide +kernel
theorem dX8_init_72 : decode cX8_init 72 = .ok (.anewarray 47, 3) := by decide +kernel
theorem dX8_init_75 : decode cX8_init 75 = .ok (.putfield 49, 3) := by decide +kernel
theorem dX8_init_78 : decode cX8_init 78 = .ok (.iconst 0, 1) := by decide +kernel
theorem dX8_init_79 : decode cX8_init 79 = .ok (.istore_n 1, 1) := by decide +kernel
theorem dX8_init_80 : decode cX8_init 80 = .ok (.iload_n 1, 1) := by decide +kernel
theorem dX8_init_81 : decode cX8_init 81 = .ok (.iconst 4, 1) := by decide +kernel
theorem dX8_init_82 : decode cX8_init 82 = .ok (.if_icmp .ge 22, 3) := by decide +kernel
theorem dX8_init_85 : decode cX8_init 85 = .ok (.aload_n 0, 1) := by decide +kernel
theorem dX8_init_86 : decode cX8_init 86 = .ok (.getfield 49, 3) := by decide +kernel
theorem dX8_init_89 : decode cX8_init 89 = .ok (.iload_n 1, 1) := by decide +kernel
theorem dX8_init_90 : decode cX8_init 90 = .ok (.new 47, 3) := by decide +kernel
theorem dX8_init_93 : decode cX8_init 93 = .ok (.dup, 1) := by decide +kernel
theorem dX8_init_94 : decode cX8_init 94 = .ok (.invokespecial 53, 3) := by decide +kernel
theorem dX8_init_97 : decode cX8_init 97 = .ok (.aastore, 1) := by decide +kernel
theorem dX8_init_98 : decode cX8_init 98 = .ok (.iinc 1 1, 3) := by decide +kernel
theorem dX8_init_101 : decode cX8_init 101 = .ok (.goto (-21), 3) := by decide +kernel
theorem dX8_init_104 : decode cX8_init 104 = .ok (.aload_n 0, 1) := by decide +kernel
theorem dX8_init_105 : decode cX8_init 105 = .ok (.bipush 30, 2) := by decide +kernel
theorem dX8_init_107 : decode cX8_init 107 = .ok (.newarray .int, 2) := by decide +kernel
theorem dX8_init_109 : decode cX8_init 109 = .ok (.putfield 54, 3) := by decide +kernel
theorem dX8_init_112 : decode cX8_init 112 = .ok (.aload_n 0, 1) := by decide +kernel
theorem dX8_init_113 : decode cX8_init 113 = .ok (.bipush 6, 2) := by decide +kernel
theorem dX8_init_115 : decode cX8_init 115 = .ok (.newarray .int, 2) := by decide +kernel
theorem dX8_init_117 : decode cX8_init 117 = .ok (.putfield 58, 3) := by decide +kernel
theorem dX8_init_120 : decode cX8_init 120 = .ok (.return_, 1) := by decide +kernel
theorem dX8_part_0 : decode cX8_part 0 = .ok (.iload_n 1, 1) := by decide +kernel
theorem dX8_part_1 : decode cX8_part 1 = .ok (.invokestatic 61, 3) := by decide +kernel
theorem dX8_part_4 : decode cX8_part 4 = .ok (.ifCond .eq 13, 3) := by decide +kernel
theorem dX8_part_7 : decode cX8_part 7 = .ok (.iload_n 2, 1) := by decide +kernel
theorem dX8_part_8 : decode cX8_part 8 = .ok (.iconst 0, 1) := by decide +kernel
theorem dX8_part_9 : decode cX8_part 9 = .ok (.bipush 99, 2) := by decide +kernel
theorem dX8_part_11 : decode cX8_part 11 = .ok (.invokestatic 65, 3) := by decide +kernel
theorem dX8_part_14 : decode cX8_part 14 = .ok (.ifCond .ne 9, 3) := by decide +kernel
theorem dX8_part_17 : decode cX8_part 17 = .ok (.aload_n 0, 1) := by decide +kernel
theorem dX8_part_18 : decode cX8_part 18 = .ok (.iconst 1, 1) := by decide +kernel
theorem dX8_part_19 : decode cX8_part 19 = .ok (.invokevirtual 69, 3) := by decide +kernel
theorem dX8_part_22 : decode cX8_part 22 = .ok (.ireturn, 1) := by decide +kernel
theorem dX8_part_23 : decode cX8_part 23 = .ok (.aload_n 0, 1) := by decide +kernel
theorem dX8_part_24 : decode cX8_part 24 = .ok (.getfield 10, 3) := by decide +kernel
theorem dX8_part_27 : decode cX8_part 27 = .ok (.getfield 73, 3) := by decide +kernel
theorem dX8_part_30 : decode cX8_part 30 = .ok (.getfield 76, 3) := by decide +kernel
theorem dX8_part_33 : decode cX8_part 33 = .ok (.iconst 5, 1) := by decide +kernel
theorem dX8_part_34 : decode cX8_part 34 = .ok (.if_icmp .lt 9, 3) := by decide +kernel
theorem dX8_part_37 : decode cX8_part 37 = .ok (.aload_n 0, 1) := by decide +kernel
theorem dX8_part_38 : decode cX8_part 38 = .ok (.iconst 4, 1) := by decide +kernel
theorem dX8_part_39 : decode cX8_part 39 = .ok (.invokevirtual 69, 3) := by decide +kernel
theorem dX8_part_42 : decode cX8_part 42 = .ok (.ireturn, 1) := by decide +kernel
theorem dX8_part_43 : decode cX8_part 43 = .ok (.aload_n 0, 1) := by decide +kernel
theorem dX8_part_44 : decode cX8_part 44 = .ok (.getfield 10, 3) := by decide +kernel
theorem dX8_part_47 : decode cX8_part 47 = .ok (.getfield 73, 3) := by decide +kernel
theorem dX8_part_50 : decode cX8_part 50 = .ok (.iload_n 1, 1) := by decide +kernel
theorem dX8_part_51 : decode cX8_part 51 = .ok (.iload_n 2, 1) := by decide +kernel
theorem dX8_part_52 : decode cX8_part 52 = .ok (.invokevirtual 80, 3) := by decide +kernel
theorem dX8_part_55 : decode cX8_part 55 = .ok (.ireturn, 1) := by decide +kernel
theorem dX8_ofPart_0 : decode cX8_ofPart 0 = .ok (.aload_n 0, 1) := by decide +kernel
theorem dX8_ofPart_1 : decode cX8_ofPart 1 = .ok (.getfield 10, 3) := by decide +kernel
theorem dX8_ofPart_4 : decode cX8_ofPart 4 = .ok (.getfield 73, 3) := by decide +kernel
theorem dX8_ofPart_7 : decode cX8_ofPart 7 = .ok (.astore_n 3, 1) := by decide +kernel
theorem dX8_ofPart_8 : decode cX8_ofPart 8 = .ok (.aload_n 3, 1) := by decide +kernel
theorem dX8_ofPart_9 : decode cX8_ofPart 9 = .ok (.iload_n 1, 1) := by decide +kernel
theorem dX8_ofPart_10 : decode cX8_ofPart 10 = .ok (.invokevirtual 84, 3) := by decide +kernel
theorem dX8_ofPart_13 : decode cX8_ofPart 13 = .ok (.ifCond .ne 9, 3) := by decide +kernel
theorem dX8_ofPart_16 : decode cX8_ofPart 16 = .ok (.aload_n 0, 1) := by decide +kernel
theorem dX8_ofPart_17 : decode cX8_ofPart 17 = .ok (.iconst 1, 1) := by decide +kernel
theorem dX8_ofPart_18 : decode cX8_ofPart 18 = .ok (.invokevirtual 69, 3) := by decide +kernel
theorem dX8_ofPart_21 : decode cX8_ofPart 21 = .ok (.ireturn, 1) := by decide +kernel
theorem dX8_ofPart_22 : decode cX8_ofPart 22 = .ok (.iload_n 2, 1) := by decide +kernel
theorem dX8_ofPart_23 : decode cX8_ofPart 23 = .ok (.tableswitch 95 0 6 #[41, 48, 55, 62, 69, 83, 89], 41) := by decide +kernel
theorem dX8_ofPart_64 : decode cX8_ofPart 64 = .ok (.aload_n 3, 1) := by decide +kernel
theorem dX8_ofPart_65 : decode cX8_ofPart 65 = .ok (.getfield 87, 3) := by decide +kernel
theorem dX8_ofPart_68 : decode cX8_ofPart 68 = .ok (.iload_n 1, 1) := by decide +kernel
theorem dX8_ofPart_69 : decode cX8_ofPart 69 = .ok (.iaload, 1) := by decide +kernel
theorem dX8_ofPart_70 : decode cX8_ofPart 70 = .ok (.ireturn, 1) := by decide +kernel
theorem dX8_ofPart_71 : decode cX8_ofPart 71 = .ok (.aload_n 3, 1) := by decide +kernel
theorem dX8_ofPart_72 : decode cX8_ofPart 72 = .ok (.getfield 90, 3) := by decide +kernel
theorem dX8_ofPart_75 : decode cX8_ofPart 75 = .ok (.iload_n 1, 1) := by decide +kernel
theorem dX8_ofPart_76 : decode cX8_ofPart 76 = .ok (.iaload, 1) := by decide +kernel
theorem dX8_ofPart_77 : decode cX8_ofPart 77 = .ok (.ireturn, 1) := by decide +kernel
theorem dX8_ofPart_78 : decode cX8_ofPart 78 = .ok (.aload_n 3, 1) := by decide +kernel
theorem dX8_ofPart_79 : decode cX8_ofPart 79 = .ok (.getfield 93, 3) := by decide +kernel
theorem dX8_ofPart_82 : decode cX8_ofPart 82 = .ok (.iload_n 1, 1) := by decide +kernel
theorem dX8_ofPart_83 : decode cX8_ofPart 83 = .ok (.iaload, 1) := by decide +kernel
theorem dX8_ofPart_84 : decode cX8_ofPart 84 = .ok (.ireturn, 1) := by decide +kernel
theorem dX8_ofPart_85 : decode cX8_ofPart 85 = .ok (.aload_n 3, 1) := by decide +kernel
theorem dX8_ofPart_86 : decode cX8_ofPart 86 = .ok (.getfield 96, 3) := by decide +kernel
theorem dX8_ofPart_89 : decode cX8_ofPart 89 = .ok (.iload_n 1, 1) := by decide +kernel
theorem dX8_ofPart_90 : decode cX8_ofPart 90 = .ok (.iaload, 1) := by decide +kernel
theorem dX8_ofPart_91 : decode cX8_ofPart 91 = .ok (.ireturn, 1) := by decide +kernel
theorem dX8_ofPart_92 : decode cX8_ofPart 92 = .ok (.aload_n 3, 1) := by decide +kernel
theorem dX8_ofPart_93 : decode cX8_ofPart 93 = .ok (.iload_n 1, 1) := by decide +kernel
theorem dX8_ofPart_94 : decode cX8_ofPart 94 = .ok (.invokevirtual 99, 3) := by decide +kernel
theorem dX8_ofPart_97 : decode cX8_ofPart 97 = .ok (.ifCond .eq 7, 3) := by decide +kernel
theorem dX8_ofPart_100 : decode cX8_ofPart 100 = .ok (.iconst 1, 1) := by decide +kernel
theorem dX8_ofPart_101 : decode cX8_ofPart 101 = .ok (.goto 4, 3) := by decide +kernel
theorem dX8_ofPart_104 : decode cX8_ofPart 104 = .ok (.iconst 0, 1) := by decide +kernel
theorem dX8_ofPart_105 : decode cX8_ofPart 105 = .ok (.ireturn, 1) := by decide +kernel
theorem dX8_ofPart_106 : decode cX8_ofPart 106 = .ok (.aload_n 3, 1) := by decide +kernel
theorem dX8_ofPart_107 : decode cX8_ofPart 107 = .ok (.iload_n 1, 1) := by decide +kernel
theorem dX8_ofPart_108 : decode cX8_ofPart 108 = .ok (.invokevirtual 102, 3) := by decide +kernel
theorem dX8_ofPart_111 : decode cX8_ofPart 111 = .ok (.ireturn, 1) := by decide +kernel
theorem dX8_ofPart_112 : decode cX8_ofPart 112 = .ok (.aload_n 3, 1) := by decide +kernel
theorem dX8_ofPart_113 : decode cX8_ofPart 113 = .ok (.iload_n 1, 1) := by decide +kernel
theorem dX8_ofPart_114 : decode cX8_ofPart 114 = .ok (.invokevirtual 105, 3) := by decide +kernel
theorem dX8_ofPart_117 : decode cX8_ofPart 117 = .ok (.ireturn, 1) := by decide +kernel
theorem dX8_ofPart_118 : decode cX8_ofPart 118 = .ok (.aload_n 0, 1) := by decide +kernel
theorem dX8_ofPart_119 : decode cX8_ofPart 119 = .ok (.iconst 1, 1) := by decide +kernel
theorem dX8_ofPart_120 : decode cX8_ofPart 120 = .ok (.invokevirtual 69, 3) := by decide +kernel
theorem dX8_ofPart_123 : decode cX8_ofPart 123 = .ok (.ireturn, 1) := by decide +kernel
theorem dX8_lines_0 : decode cX8_lines 0 = .ok (.aload_n 0, 1) := by decide +kernel
theorem dX8_lines_1 : decode cX8_lines 1 = .ok (.getfield 10, 3) := by decide +kernel
theorem dX8_lines_4 : decode cX8_lines 4 = .ok (.getfield 73, 3) := by decide +kernel
theorem dX8_lines_7 : decode cX8_lines 7 = .ok (.iload_n 1, 1) := by decide +kernel
theorem dX8_lines_8 : decode cX8_lines 8 = .ok (.invokevirtual 84, 3) := by decide +kernel
theorem dX8_lines_11 : decode cX8_lines 11 = .ok (.ifCond .eq 13, 3) := by decide +kernel
theorem dX8_lines_14 : decode cX8_lines 14 = .ok (.iload_n 2, 1) := by decide +kernel
theorem dX8_lines_15 : decode cX8_lines 15 = .ok (.iconst 0, 1) := by decide +kernel
theorem dX8_lines_16 : decode cX8_lines 16 = .ok (.bipush 99, 2) := by decide +kernel
theorem dX8_lines_18 : decode cX8_lines 18 = .ok (.invokestatic 65, 3) := by decide +kernel
theorem dX8_lines_21 : decode cX8_lines 21 = .ok (.ifCond .ne 9, 3) := by decide +kernel
theorem dX8_lines_24 : decode cX8_lines 24 = .ok (.aload_n 0, 1) := by decide +kernel
theorem dX8_lines_25 : decode cX8_lines 25 = .ok (.iconst 1, 1) := by decide +kernel
theorem dX8_lines_26 : decode cX8_lines 26 = .ok (.invokevirtual 69, 3) := by decide +kernel
theorem dX8_lines_29 : decode cX8_lines 29 = .ok (.ireturn, 1) := by decide +kernel
theorem dX8_lines_30 : decode cX8_lines 30 = .ok (.aload_n 0, 1) := by decide +kernel
theorem dX8_lines_31 : decode cX8_lines 31 = .ok (.getfield 10, 3) := by decide +kernel
theorem dX8_lines_34 : decode cX8_lines 34 = .ok (.getfield 73, 3) := by decide +kernel
theorem dX8_lines_37 : decode cX8_lines 37 = .ok (.getfield 93, 3) := by decide +kernel
theorem dX8_lines_40 : decode cX8_lines 40 = .ok (.iload_n 1, 1) := by decide +kernel
theorem dX8_lines_41 : decode cX8_lines 41 = .ok (.iaload, 1) := by decide +kernel
theorem dX8_lines_42 : decode cX8_lines 42 = .ok (.istore_n 3, 1) := by decide +kernel
theorem dX8_lines_43 : decode cX8_lines 43 = .ok (.aload_n 0, 1) := by decide +kernel
theorem dX8_lines_44 : decode cX8_lines 44 = .ok (.getfield 10, 3) := by decide +kernel
theorem dX8_lines_47 : decode cX8_lines 47 = .ok (.getfield 73, 3) := by decide +kernel
theorem dX8_lines_50 : decode cX8_lines 50 = .ok (.getfield 93, 3) := by decide +kernel
theorem dX8_lines_53 : decode cX8_lines 53 = .ok (.iload_n 1, 1) := by decide +kernel
theorem dX8_lines_54 : decode cX8_lines 54 = .ok (.iload_n 2, 1) := by decide +kernel
theorem dX8_lines_55 : decode cX8_lines 55 = .ok (.iastore, 1) := by decide +kernel
theorem dX8_lines_56 : decode cX8_lines 56 = .ok (.iload_n 3, 1) := by decide +kernel
theorem dX8_lines_57 : decode cX8_lines 57 = .ok (.ireturn, 1) := by decide +kernel
theorem dX8_become_0 : decode cX8_become 0 = .ok (.aload_n 0, 1) := by decide +kernel
theorem dX8_become_1 : decode cX8_become 1 = .ok (.getfield 10, 3) := by decide +kernel
theorem dX8_become_4 : decode cX8_become 4 = .ok (.getfield 73, 3) := by decide +kernel
theorem dX8_become_7 : decode cX8_become 7 = .ok (.iload_n 1, 1) := by decide +kernel
theorem dX8_become_8 : decode cX8_become 8 = .ok (.invokevirtual 84, 3) := by decide +kernel
theorem dX8_become_11 : decode cX8_become 11 = .ok (.ifCond .eq 10, 3) := by decide +kernel
theorem dX8_become_14 : decode cX8_become 14 = .ok (.iload_n 2, 1) := by decide +kernel
theorem dX8_become_15 : decode cX8_become 15 = .ok (.invokestatic 61, 3) := by decide +kernel
theorem dX8_become_18 : decode cX8_become 18 = .ok (.ifCond .ne 9, 3) := by decide +kernel
theorem dX8_become_21 : decode cX8_become 21 = .ok (.aload_n 0, 1) := by decide +kernel
theorem dX8_become_22 : decode cX8_become 22 = .ok (.iconst 1, 1) := by decide +kernel
theorem dX8_become_23 : decode cX8_become 23 = .ok (.invokevirtual 69, 3) := by decide +kernel
theorem dX8_become_26 : decode cX8_become 26 = .ok (.ireturn, 1) := by decide +kernel
theorem dX8_become_27 : decode cX8_become 27 = .ok (.aload_n 0, 1) := by decide +kernel
theorem dX8_become_28 : decode cX8_become 28 = .ok (.getfield 10, 3) := by decide +kernel
theorem dX8_become_31 : decode cX8_become 31 = .ok (.getfield 73, 3) := by decide +kernel
theorem dX8_become_34 : decode cX8_become 34 = .ok (.getfield 87, 3) := by decide +kernel
theorem dX8_become_37 : decode cX8_become 37 = .ok (.iload_n 1, 1) := by decide +kernel
theorem dX8_become_38 : decode cX8_become 38 = .ok (.iaload, 1) := by decide +kernel
theorem dX8_become_39 : decode cX8_become 39 = .ok (.istore_n 3, 1) := by decide +kernel
theorem dX8_become_40 : decode cX8_become 40 = .ok (.aload_n 0, 1) := by decide +kernel
theorem dX8_become_41 : decode cX8_become 41 = .ok (.getfield 10, 3) := by decide +kernel
theorem dX8_become_44 : decode cX8_become 44 = .ok (.getfield 73, 3) := by decide +kernel
theorem dX8_become_47 : decode cX8_become 47 = .ok (.iload_n 1, 1) := by decide +kernel
theorem dX8_become_48 : decode cX8_become 48 = .ok (.iload_n 2, 1) := by decide +kernel
theorem dX8_become_49 : decode cX8_become 49 = .ok (.invokevirtual 108, 3) := by decide +kernel
theorem dX8_become_52 : decode cX8_become 52 = .ok (.iload_n 3, 1) := by decide +kernel
theorem dX8_become_53 : decode cX8_become 53 = .ok (.ireturn, 1) := by decide +kernel
theorem dX8_as_0 : decode cX8_as 0 = .ok (.aload_n 0, 1) := by decide +kernel
theorem dX8_as_1 : decode cX8_as 1 = .ok (.getfield 10, 3) := by decide +kernel
theorem dX8_as_4 : decode cX8_as 4 = .ok (.getfield 73, 3) := by decide +kernel
theorem dX8_as_7 : decode cX8_as 7 = .ok (.iload_n 1, 1) := by decide +kernel
theorem dX8_as_8 : decode cX8_as 8 = .ok (.invokevirtual 84, 3) := by decide +kernel
theorem dX8_as_11 : decode cX8_as 11 = .ok (.ifCond .eq 13, 3) := by decide +kernel
theorem dX8_as_14 : decode cX8_as 14 = .ok (.iload_n 2, 1) := by decide +kernel
theorem dX8_as_15 : decode cX8_as 15 = .ok (.iconst 0, 1) := by decide +kernel
theorem dX8_as_16 : decode cX8_as 16 = .ok (.bipush 6, 2) := by decide +kernel
theorem dX8_as_18 : decode cX8_as 18 = .ok (.invokestatic 65, 3) := by decide +kernel
theorem dX8_as_21 : decode cX8_as 21 = .ok (.ifCond .ne 9, 3) := by decide +kernel
theorem dX8_as_24 : decode cX8_as 24 = .ok (.aload_n 0, 1) := by decide +kernel
theorem dX8_as_25 : decode cX8_as 25 = .ok (.iconst 1, 1) := by decide +kernel
theorem dX8_as_26 : decode cX8_as 26 = .ok (.invokevirtual 69, 3) := by decide +kernel
theorem dX8_as_29 : decode cX8_as 29 = .ok (.ireturn, 1) := by decide +kernel
theorem dX8_as_30 : decode cX8_as 30 = .ok (.aload_n 0, 1) := by decide +kernel
theorem dX8_as_31 : decode cX8_as 31 = .ok (.getfield 10, 3) := by decide +kernel
theorem dX8_as_34 : decode cX8_as 34 = .ok (.getfield 73, 3) := by decide +kernel
theorem dX8_as_37 : decode cX8_as 37 = .ok (.getfield 87, 3) := by decide +kernel
theorem dX8_as_40 : decode cX8_as 40 = .ok (.iload_n 1, 1) := by decide +kernel
theorem dX8_as_41 : decode cX8_as 41 = .ok (.iaload, 1) := by decide +kernel
theorem dX8_as_42 : decode cX8_as 42 = .ok (.iload_n 2, 1) := by decide +kernel
theorem dX8_as_43 : decode cX8_as 43 = .ok (.invokestatic 112, 3) := by decide +kernel
theorem dX8_as_46 : decode cX8_as 46 = .ok (.ifCond .ne 9, 3) := by decide +kernel
theorem dX8_as_49 : decode cX8_as 49 = .ok (.aload_n 0, 1) := by decide +kernel
theorem dX8_as_50 : decode cX8_as 50 = .ok (.iconst 5, 1) := by decide +kernel
theorem dX8_as_51 : decode cX8_as 51 = .ok (.invokevirtual 69, 3) := by decide +kernel
theorem dX8_as_54 : decode cX8_as 54 = .ok (.ireturn, 1) := by decide +kernel
theorem dX8_as_55 : decode cX8_as 55 = .ok (.aload_n 0, 1) := by decide +kernel
theorem dX8_as_56 : decode cX8_as 56 = .ok (.getfield 10, 3) := by decide +kernel
theorem dX8_as_59 : decode cX8_as 59 = .ok (.getfield 73, 3) := by decide +kernel
theorem dX8_as_62 : decode cX8_as 62 = .ok (.getfield 90, 3) := by decide +kernel
theorem dX8_as_65 : decode cX8_as 65 = .ok (.iload_n 1, 1) := by decide +kernel
theorem dX8_as_66 : decode cX8_as 66 = .ok (.iaload, 1) := by decide +kernel
theorem dX8_as_67 : decode cX8_as 67 = .ok (.ireturn, 1) := by decide +kernel
theorem dX8_player_0 : decode cX8_player 0 = .ok (.iload_n 1, 1) := by decide +kernel
theorem dX8_player_1 : decode cX8_player 1 = .ok (.iconst (-1), 1) := by decide +kernel
theorem dX8_player_2 : decode cX8_player 2 = .ok (.if_icmp .eq 23, 3) := by decide +kernel
theorem dX8_player_5 : decode cX8_player 5 = .ok (.aload_n 0, 1) := by decide +kernel
theorem dX8_player_6 : decode cX8_player 6 = .ok (.getfield 10, 3) := by decide +kernel
theorem dX8_player_9 : decode cX8_player 9 = .ok (.getfield 73, 3) := by decide +kernel
theorem dX8_player_12 : decode cX8_player 12 = .ok (.iload_n 1, 1) := by decide +kernel
theorem dX8_player_13 : decode cX8_player 13 = .ok (.invokevirtual 84, 3) := by decide +kernel
theorem dX8_player_16 : decode cX8_player 16 = .ok (.ifCond .ne 9, 3) := by decide +kernel
theorem dX8_player_19 : decode cX8_player 19 = .ok (.aload_n 0, 1) := by decide +kernel
theorem dX8_player_20 : decode cX8_player 20 = .ok (.iconst 1, 1) := by decide +kernel
theorem dX8_player_21 : decode cX8_player 21 = .ok (.invokevirtual 69, 3) := by decide +kernel
theorem dX8_player_24 : decode cX8_player 24 = .ok (.ireturn, 1) := by decide +kernel
theorem dX8_player_25 : decode cX8_player 25 = .ok (.aload_n 0, 1) := by decide +kernel
theorem dX8_player_26 : decode cX8_player 26 = .ok (.getfield 10, 3) := by decide +kernel
theorem dX8_player_29 : decode cX8_player 29 = .ok (.getfield 73, 3) := by decide +kernel
theorem dX8_player_32 : decode cX8_player 32 = .ok (.getfield 116, 3) := by decide +kernel
theorem dX8_player_35 : decode cX8_player 35 = .ok (.bipush 6, 2) := by decide +kernel
theorem dX8_player_37 : decode cX8_player 37 = .ok (.if_icmp .lt 9, 3) := by decide +kernel
theorem dX8_player_40 : decode cX8_player 40 = .ok (.aload_n 0, 1) := by decide +kernel
theorem dX8_player_41 : decode cX8_player 41 = .ok (.iconst 4, 1) := by decide +kernel
theorem dX8_player_42 : decode cX8_player 42 = .ok (.invokevirtual 69, 3) := by decide +kernel
theorem dX8_player_45 : decode cX8_player 45 = .ok (.ireturn, 1) := by decide +kernel
theorem dX8_player_46 : decode cX8_player 46 = .ok (.aload_n 0, 1) := by decide +kernel
theorem dX8_player_47 : decode cX8_player 47 = .ok (.getfield 10, 3) := by decide +kernel
theorem dX8_player_50 : decode cX8_player 50 = .ok (.getfield 73, 3) := by decide +kernel
theorem dX8_player_53 : decode cX8_player 53 = .ok (.iload_n 1, 1) := by decide +kernel
theorem dX8_player_54 : decode cX8_player 54 = .ok (.iload_n 1, 1) := by decide +kernel
theorem dX8_player_55 : decode cX8_player 55 = .ok (.ifCond .ge 7, 3) := by decide +kernel
theorem dX8_player_58 : decode cX8_player 58 = .ok (.iconst 0, 1) := by decide +kernel
theorem dX8_player_59 : decode cX8_player 59 = .ok (.goto 6, 3) := by decide +kernel
theorem dX8_player_62 : decode cX8_player 62 = .ok (.iconst 1, 1) := by decide +kernel
theorem dX8_player_63 : decode cX8_player 63 = .ok (.iload_n 1, 1) := by decide +kernel
theorem dX8_player_64 : decode cX8_player 64 = .ok (.ishl, 1) := by decide +kernel
theorem dX8_player_65 : decode cX8_player 65 = .ok (.invokevirtual 119, 3) := by decide +kernel
theorem dX8_player_68 : decode cX8_player 68 = .ok (.ireturn, 1) := by decide +kernel
theorem dX8_ofPlayer_0 : decode cX8_ofPlayer 0 = .ok (.aload_n 0, 1) := by decide +kernel
theorem dX8_ofPlayer_1 : decode cX8_ofPlayer 1 = .ok (.getfield 10, 3) := by decide +kernel
theorem dX8_ofPlayer_4 : decode cX8_ofPlayer 4 = .ok (.getfield 73, 3) := by decide +kernel
theorem dX8_ofPlayer_7 : decode cX8_ofPlayer 7 = .ok (.astore_n 3, 1) := by decide +kernel
theorem dX8_ofPlayer_8 : decode cX8_ofPlayer 8 = .ok (.aload_n 3, 1) := by decide +kernel
theorem dX8_ofPlayer_9 : decode cX8_ofPlayer 9 = .ok (.iload_n 1, 1) := by decide +kernel
theorem dX8_ofPlayer_10 : decode cX8_ofPlayer 10 = .ok (.invokevirtual 122, 3) := by decide +kernel
theorem dX8_ofPlayer_13 : decode cX8_ofPlayer 13 = .ok (.ifCond .ne 9, 3) := by decide +kernel
theorem dX8_ofPlayer_16 : decode cX8_ofPlayer 16 = .ok (.aload_n 0, 1) := by decide +kernel
theorem dX8_ofPlayer_17 : decode cX8_ofPlayer 17 = .ok (.iconst 1, 1) := by decide +kernel
theorem dX8_ofPlayer_18 : decode cX8_ofPlayer 18 = .ok (.invokevirtual 69, 3) := by decide +kernel
theorem dX8_ofPlayer_21 : decode cX8_ofPlayer 21 = .ok (.ireturn, 1) := by decide +kernel
theorem dX8_ofPlayer_22 : decode cX8_ofPlayer 22 = .ok (.iload_n 2, 1) := by decide +kernel
theorem dX8_ofPlayer_23 : decode cX8_ofPlayer 23 = .ok (.tableswitch 80 0 5 #[37, 44, 51, 58, 65, 74], 37) := by decide +kernel
theorem dX8_ofPlayer_60 : decode cX8_ofPlayer 60 = .ok (.aload_n 3, 1) := by decide +kernel
theorem dX8_ofPlayer_61 : decode cX8_ofPlayer 61 = .ok (.getfield 125, 3) := by decide +kernel
theorem dX8_ofPlayer_64 : decode cX8_ofPlayer 64 = .ok (.iload_n 1, 1) := by decide +kernel
theorem dX8_ofPlayer_65 : decode cX8_ofPlayer 65 = .ok (.iaload, 1) := by decide +kernel
theorem dX8_ofPlayer_66 : decode cX8_ofPlayer 66 = .ok (.ireturn, 1) := by decide +kernel
theorem dX8_ofPlayer_67 : decode cX8_ofPlayer 67 = .ok (.aload_n 3, 1) := by decide +kernel
theorem dX8_ofPlayer_68 : decode cX8_ofPlayer 68 = .ok (.getfield 128, 3) := by decide +kernel
theorem dX8_ofPlayer_71 : decode cX8_ofPlayer 71 = .ok (.iload_n 1, 1) := by decide +kernel
theorem dX8_ofPlayer_72 : decode cX8_ofPlayer 72 = .ok (.iaload, 1) := by decide +kernel
theorem dX8_ofPlayer_73 : decode cX8_ofPlayer 73 = .ok (.ireturn, 1) := by decide +kernel
theorem dX8_ofPlayer_74 : decode cX8_ofPlayer 74 = .ok (.aload_n 3, 1) := by decide +kernel
theorem dX8_ofPlayer_75 : decode cX8_ofPlayer 75 = .ok (.getfield 131, 3) := by decide +kernel
theorem dX8_ofPlayer_78 : decode cX8_ofPlayer 78 = .ok (.iload_n 1, 1) := by decide +kernel
theorem dX8_ofPlayer_79 : decode cX8_ofPlayer 79 = .ok (.iaload, 1) := by decide +kernel
theorem dX8_ofPlayer_80 : decode cX8_ofPlayer 80 = .ok (.ireturn, 1) := by decide +kernel
theorem dX8_ofPlayer_81 : decode cX8_ofPlayer 81 = .ok (.aload_n 3, 1) := by decide +kernel
theorem dX8_ofPlayer_82 : decode cX8_ofPlayer 82 = .ok (.getfield 134, 3) := by decide +kernel
theorem dX8_ofPlayer_85 : decode cX8_ofPlayer 85 = .ok (.iload_n 1, 1) := by decide +kernel
theorem dX8_ofPlayer_86 : decode cX8_ofPlayer 86 = .ok (.iaload, 1) := by decide +kernel
theorem dX8_ofPlayer_87 : decode cX8_ofPlayer 87 = .ok (.ireturn, 1) := by decide +kernel
theorem dX8_ofPlayer_88 : decode cX8_ofPlayer 88 = .ok (.aload_n 3, 1) := by decide +kernel
theorem dX8_ofPlayer_89 : decode cX8_ofPlayer 89 = .ok (.getfield 137, 3) := by decide +kernel
theorem dX8_ofPlayer_92 : decode cX8_ofPlayer 92 = .ok (.iload_n 1, 1) := by decide +kernel
theorem dX8_ofPlayer_93 : decode cX8_ofPlayer 93 = .ok (.ishr, 1) := by decide +kernel
theorem dX8_ofPlayer_94 : decode cX8_ofPlayer 94 = .ok (.iconst 1, 1) := by decide +kernel
theorem dX8_ofPlayer_95 : decode cX8_ofPlayer 95 = .ok (.iand, 1) := by decide +kernel
theorem dX8_ofPlayer_96 : decode cX8_ofPlayer 96 = .ok (.ireturn, 1) := by decide +kernel
theorem dX8_ofPlayer_97 : decode cX8_ofPlayer 97 = .ok (.aload_n 3, 1) := by decide +kernel
theorem dX8_ofPlayer_98 : decode cX8_ofPlayer 98 = .ok (.iload_n 1, 1) := by decide +kernel
theorem dX8_ofPlayer_99 : decode cX8_ofPlayer 99 = .ok (.invokevirtual 140, 3) := by decide +kernel
theorem dX8_ofPlayer_102 : decode cX8_ofPlayer 102 = .ok (.ireturn, 1) := by decide +kernel
theorem dX8_ofPlayer_103 : decode cX8_ofPlayer 103 = .ok (.aload_n 0, 1) := by decide +kernel
theorem dX8_ofPlayer_104 : decode cX8_ofPlayer 104 = .ok (.iconst 1, 1) := by decide +kernel
theorem dX8_ofPlayer_105 : decode cX8_ofPlayer 105 = .ok (.invokevirtual 69, 3) := by decide +kernel
theorem dX8_ofPlayer_108 : decode cX8_ofPlayer 108 = .ok (.ireturn, 1) := by decide +kernel
theorem dX8_change_0 : decode cX8_change 0 = .ok (.aload_n 0, 1) := by decide +kernel
theorem dX8_change_1 : decode cX8_change 1 = .ok (.getfield 10, 3) := by decide +kernel
theorem dX8_change_4 : decode cX8_change 4 = .ok (.getfield 73, 3) := by decide +kernel
theorem dX8_change_7 : decode cX8_change 7 = .ok (.astore 4, 2) := by decide +kernel
theorem dX8_change_9 : decode cX8_change 9 = .ok (.aload 4, 2) := by decide +kernel
theorem dX8_change_11 : decode cX8_change 11 = .ok (.iload_n 1, 1) := by decide +kernel
theorem dX8_change_12 : decode cX8_change 12 = .ok (.invokevirtual 122, 3) := by decide +kernel
theorem dX8_change_15 : decode cX8_change 15 = .ok (.ifCond .ne 9, 3) := by decide +kernel
theorem dX8_change_18 : decode cX8_change 18 = .ok (.aload_n 0, 1) := by decide +kernel
theorem dX8_change_19 : decode cX8_change 19 = .ok (.iconst 1, 1) := by decide +kernel
theorem dX8_change_20 : decode cX8_change 20 = .ok (.invokevirtual 69, 3) := by decide +kernel
theorem dX8_change_23 : decode cX8_change 23 = .ok (.ireturn, 1) := by decide +kernel
theorem dX8_change_24 : decode cX8_change 24 = .ok (.iload_n 2, 1) := by decide +kernel
theorem dX8_change_25 : decode cX8_change 25 = .ok (.tableswitch 154 0 3 #[31, 63, 95, 129], 31) := by decide +kernel
theorem dX8_change_56 : decode cX8_change 56 = .ok (.iload_n 3, 1) := by decide +kernel
theorem dX8_change_57 : decode cX8_change 57 = .ok (.iconst 0, 1) := by decide +kernel
theorem dX8_change_58 : decode cX8_change 58 = .ok (.aload 4, 2) := by decide +kernel
theorem dX8_change_60 : decode cX8_change 60 = .ok (.invokevirtual 143, 3) := by decide +kernel
theorem dX8_change_63 : decode cX8_change 63 = .ok (.invokestatic 65, 3) := by decide +kernel
theorem dX8_change_66 : decode cX8_change 66 = .ok (.ifCond .eq 16, 3) := by decide +kernel
theorem dX8_change_69 : decode cX8_change 69 = .ok (.aload 4, 2) := by decide +kernel
theorem dX8_change_71 : decode cX8_change 71 = .ok (.getfield 125, 3) := by decide +kernel
theorem dX8_change_74 : decode cX8_change 74 = .ok (.iload_n 1, 1) := by decide +kernel
theorem dX8_change_75 : decode cX8_change 75 = .ok (.iload_n 3, 1) := by decide +kernel
theorem dX8_change_76 : decode cX8_change 76 = .ok (.invokestatic 147, 3) := by decide +kernel
theorem dX8_change_79 : decode cX8_change 79 = .ok (.goto 8, 3) := by decide +kernel
theorem dX8_change_82 : decode cX8_change 82 = .ok (.aload_n 0, 1) := by decide +kernel
theorem dX8_change_83 : decode cX8_change 83 = .ok (.iconst 1, 1) := by decide +kernel
theorem dX8_change_84 : decode cX8_change 84 = .ok (.invokevirtual 69, 3) := by decide +kernel
theorem dX8_change_87 : decode cX8_change 87 = .ok (.ireturn, 1) := by decide +kernel
theorem dX8_change_88 : decode cX8_change 88 = .ok (.iload_n 3, 1) := by decide +kernel
theorem dX8_change_89 : decode cX8_change 89 = .ok (.iconst 0, 1) := by decide +kernel
theorem dX8_change_90 : decode cX8_change 90 = .ok (.aload 4, 2) := by decide +kernel
theorem dX8_change_92 : decode cX8_change 92 = .ok (.invokevirtual 143, 3) := by decide +kernel
theorem dX8_change_95 : decode cX8_change 95 = .ok (.invokestatic 65, 3) := by decide +kernel
theorem dX8_change_98 : decode cX8_change 98 = .ok (.ifCond .eq 16, 3) := by decide +kernel
theorem dX8_change_101 : decode cX8_change 101 = .ok (.aload 4, 2) := by decide +kernel
theorem dX8_change_103 : decode cX8_change 103 = .ok (.getfield 128, 3) := by decide +kernel
theorem dX8_change_106 : decode cX8_change 106 = .ok (.iload_n 1, 1) := by decide +kernel
theorem dX8_change_107 : decode cX8_change 107 = .ok (.iload_n 3, 1) := by decide +kernel
theorem dX8_change_108 : decode cX8_change 108 = .ok (.invokestatic 147, 3) := by decide +kernel
theorem dX8_change_111 : decode cX8_change 111 = .ok (.goto 8, 3) := by decide +kernel
theorem dX8_change_114 : decode cX8_change 114 = .ok (.aload_n 0, 1) := by decide +kernel
theorem dX8_change_115 : decode cX8_change 115 = .ok (.iconst 1, 1) := by decide +kernel
theorem dX8_change_116 : decode cX8_change 116 = .ok (.invokevirtual 69, 3) := by decide +kernel
theorem dX8_change_119 : decode cX8_change 119 = .ok (.ireturn, 1) := by decide +kernel
theorem dX8_change_120 : decode cX8_change 120 = .ok (.iload_n 3, 1) := by decide +kernel
theorem dX8_change_121 : decode cX8_change 121 = .ok (.iconst (-1), 1) := by decide +kernel
theorem dX8_change_122 : decode cX8_change 122 = .ok (.aload 4, 2) := by decide +kernel
theorem dX8_change_124 : decode cX8_change 124 = .ok (.getfield 76, 3) := by decide +kernel
theorem dX8_change_127 : decode cX8_change 127 = .ok (.iconst 1, 1) := by decide +kernel
theorem dX8_change_128 : decode cX8_change 128 = .ok (.isub, 1) := by decide +kernel
theorem dX8_change_129 : decode cX8_change 129 = .ok (.invokestatic 65, 3) := by decide +kernel
theorem dX8_change_132 : decode cX8_change 132 = .ok (.ifCond .eq 16, 3) := by decide +kernel
theorem dX8_change_135 : decode cX8_change 135 = .ok (.aload 4, 2) := by decide +kernel
theorem dX8_change_137 : decode cX8_change 137 = .ok (.getfield 131, 3) := by decide +kernel
theorem dX8_change_140 : decode cX8_change 140 = .ok (.iload_n 1, 1) := by decide +kernel
theorem dX8_change_141 : decode cX8_change 141 = .ok (.iload_n 3, 1) := by decide +kernel
theorem dX8_change_142 : decode cX8_change 142 = .ok (.invokestatic 147, 3) := by decide +kernel
theorem dX8_change_145 : decode cX8_change 145 = .ok (.goto 8, 3) := by decide +kernel
theorem dX8_change_148 : decode cX8_change 148 = .ok (.aload_n 0, 1) := by decide +kernel
theorem dX8_change_149 : decode cX8_change 149 = .ok (.iconst 1, 1) := by decide +kernel
theorem dX8_change_150 : decode cX8_change 150 = .ok (.invokevirtual 69, 3) := by decide +kernel
theorem dX8_change_153 : decode cX8_change 153 = .ok (.ireturn, 1) := by decide +kernel
theorem dX8_change_154 : decode cX8_change 154 = .ok (.iload_n 3, 1) := by decide +kernel
theorem dX8_change_155 : decode cX8_change 155 = .ok (.iconst 0, 1) := by decide +kernel
theorem dX8_change_156 : decode cX8_change 156 = .ok (.iconst 1, 1) := by decide +kernel
theorem dX8_change_157 : decode cX8_change 157 = .ok (.invokestatic 65, 3) := by decide +kernel
theorem dX8_change_160 : decode cX8_change 160 = .ok (.ifCond .eq 13, 3) := by decide +kernel
theorem dX8_change_163 : decode cX8_change 163 = .ok (.aload 4, 2) := by decide +kernel
theorem dX8_change_165 : decode cX8_change 165 = .ok (.iload_n 1, 1) := by decide +kernel
theorem dX8_change_166 : decode cX8_change 166 = .ok (.iload_n 3, 1) := by decide +kernel
theorem dX8_change_167 : decode cX8_change 167 = .ok (.invokevirtual 151, 3) := by decide +kernel
theorem dX8_change_170 : decode cX8_change 170 = .ok (.goto 8, 3) := by decide +kernel
theorem dX8_change_173 : decode cX8_change 173 = .ok (.aload_n 0, 1) := by decide +kernel
theorem dX8_change_174 : decode cX8_change 174 = .ok (.iconst 1, 1) := by decide +kernel
theorem dX8_change_175 : decode cX8_change 175 = .ok (.invokevirtual 69, 3) := by decide +kernel
theorem dX8_change_178 : decode cX8_change 178 = .ok (.ireturn, 1) := by decide +kernel
theorem dX8_change_179 : decode cX8_change 179 = .ok (.aload_n 0, 1) := by decide +kernel
theorem dX8_change_180 : decode cX8_change 180 = .ok (.iconst 1, 1) := by decide +kernel
theorem dX8_change_181 : decode cX8_change 181 = .ok (.invokevirtual 69, 3) := by decide +kernel
theorem dX8_change_184 : decode cX8_change 184 = .ok (.ireturn, 1) := by decide +kernel
theorem dX8_gala_0 : decode cX8_gala 0 = .ok (.iload_n 1, 1) := by decide +kernel
theorem dX8_gala_1 : decode cX8_gala 1 = .ok (.iconst 0, 1) := by decide +kernel
theorem dX8_gala_2 : decode cX8_gala 2 = .ok (.iconst 1, 1) := by decide +kernel
theorem dX8_gala_3 : decode cX8_gala 3 = .ok (.invokestatic 65, 3) := by decide +kernel
theorem dX8_gala_6 : decode cX8_gala 6 = .ok (.ifCond .ne 9, 3) := by decide +kernel
theorem dX8_gala_9 : decode cX8_gala 9 = .ok (.aload_n 0, 1) := by decide +kernel
theorem dX8_gala_10 : decode cX8_gala 10 = .ok (.iconst 1, 1) := by decide +kernel
theorem dX8_gala_11 : decode cX8_gala 11 = .ok (.invokevirtual 69, 3) := by decide +kernel
theorem dX8_gala_14 : decode cX8_gala 14 = .ok (.ireturn, 1) := by decide +kernel
theorem dX8_gala_15 : decode cX8_gala 15 = .ok (.aload_n 0, 1) := by decide +kernel
theorem dX8_gala_16 : decode cX8_gala 16 = .ok (.getfield 10, 3) := by decide +kernel
theorem dX8_gala_19 : decode cX8_gala 19 = .ok (.getfield 73, 3) := by decide +kernel
theorem dX8_gala_22 : decode cX8_gala 22 = .ok (.getfield 154, 3) := by decide +kernel
theorem dX8_gala_25 : decode cX8_gala 25 = .ok (.istore_n 2, 1) := by decide +kernel
theorem dX8_gala_26 : decode cX8_gala 26 = .ok (.aload_n 0, 1) := by decide +kernel
theorem dX8_gala_27 : decode cX8_gala 27 = .ok (.getfield 10, 3) := by decide +kernel
theorem dX8_gala_30 : decode cX8_gala 30 = .ok (.getfield 73, 3) := by decide +kernel
theorem dX8_gala_33 : decode cX8_gala 33 = .ok (.iload_n 1, 1) := by decide +kernel
theorem dX8_gala_34 : decode cX8_gala 34 = .ok (.putfield 154, 3) := by decide +kernel
theorem dX8_gala_37 : decode cX8_gala 37 = .ok (.iload_n 2, 1) := by decide +kernel
theorem dX8_gala_38 : decode cX8_gala 38 = .ok (.ireturn, 1) := by decide +kernel
theorem dX8_feed_0 : decode cX8_feed 0 = .ok (.iload_n 3, 1) := by decide +kernel
theorem dX8_feed_1 : decode cX8_feed 1 = .ok (.iconst 1, 1) := by decide +kernel
theorem dX8_feed_2 : decode cX8_feed 2 = .ok (.bipush 8, 2) := by decide +kernel
theorem dX8_feed_4 : decode cX8_feed 4 = .ok (.invokestatic 65, 3) := by decide +kernel
theorem dX8_feed_7 : decode cX8_feed 7 = .ok (.ifCond .ne 9, 3) := by decide +kernel
theorem dX8_feed_10 : decode cX8_feed 10 = .ok (.aload_n 0, 1) := by decide +kernel
theorem dX8_feed_11 : decode cX8_feed 11 = .ok (.iconst 1, 1) := by decide +kernel
theorem dX8_feed_12 : decode cX8_feed 12 = .ok (.invokevirtual 69, 3) := by decide +kernel
theorem dX8_feed_15 : decode cX8_feed 15 = .ok (.ireturn, 1) := by decide +kernel
theorem dX8_feed_16 : decode cX8_feed 16 = .ok (.aload_n 0, 1) := by decide +kernel
theorem dX8_feed_17 : decode cX8_feed 17 = .ok (.getfield 10, 3) := by decide +kernel
theorem dX8_feed_20 : decode cX8_feed 20 = .ok (.getfield 157, 3) := by decide +kernel
theorem dX8_feed_23 : decode cX8_feed 23 = .ok (.getfield 161, 3) := by decide +kernel
theorem dX8_feed_26 : decode cX8_feed 26 = .ok (.iload_n 3, 1) := by decide +kernel
theorem dX8_feed_27 : decode cX8_feed 27 = .ok (.iadd, 1) := by decide +kernel
theorem dX8_feed_28 : decode cX8_feed 28 = .ok (.bipush 50, 2) := by decide +kernel
theorem dX8_feed_30 : decode cX8_feed 30 = .ok (.if_icmp .le 9, 3) := by decide +kernel
theorem dX8_feed_33 : decode cX8_feed 33 = .ok (.aload_n 0, 1) := by decide +kernel
theorem dX8_feed_34 : decode cX8_feed 34 = .ok (.iconst 4, 1) := by decide +kernel
theorem dX8_feed_35 : decode cX8_feed 35 = .ok (.invokevirtual 69, 3) := by decide +kernel
theorem dX8_feed_38 : decode cX8_feed 38 = .ok (.ireturn, 1) := by decide +kernel
theorem dX8_feed_39 : decode cX8_feed 39 = .ok (.iconst 0, 1) := by decide +kernel
theorem dX8_feed_40 : decode cX8_feed 40 = .ok (.istore 4, 2) := by decide +kernel
theorem dX8_feed_42 : decode cX8_feed 42 = .ok (.iload 4, 2) := by decide +kernel
theorem dX8_feed_44 : decode cX8_feed 44 = .ok (.iload_n 3, 1) := by decide +kernel
theorem dX8_feed_45 : decode cX8_feed 45 = .ok (.if_icmp .ge 31, 3) := by decide +kernel
theorem dX8_feed_48 : decode cX8_feed 48 = .ok (.aload_n 0, 1) := by decide +kernel
theorem dX8_feed_49 : decode cX8_feed 49 = .ok (.getfield 10, 3) := by decide +kernel
theorem dX8_feed_52 : decode cX8_feed 52 = .ok (.getfield 157, 3) := by decide +kernel
theorem dX8_feed_55 : decode cX8_feed 55 = .ok (.lload_n 1, 1) := by decide +kernel
theorem dX8_feed_56 : decode cX8_feed 56 = .ok (.bipush 8, 2) := by decide +kernel
theorem dX8_feed_58 : decode cX8_feed 58 = .ok (.iload 4, 2) := by decide +kernel
theorem dX8_feed_60 : decode cX8_feed 60 = .ok (.imul, 1) := by decide +kernel
theorem dX8_feed_61 : decode cX8_feed 61 = .ok (.lushr, 1) := by decide +kernel
theorem dX8_feed_62 : decode cX8_feed 62 = .ok (.l2i, 1) := by decide +kernel
theorem dX8_feed_63 : decode cX8_feed 63 = .ok (.sipush 255, 3) := by decide +kernel
theorem dX8_feed_66 : decode cX8_feed 66 = .ok (.iand, 1) := by decide +kernel
theorem dX8_feed_67 : decode cX8_feed 67 = .ok (.invokevirtual 166, 3) := by decide +kernel
theorem dX8_feed_70 : decode cX8_feed 70 = .ok (.iinc 4 1, 3) := by decide +kernel
theorem dX8_feed_73 : decode cX8_feed 73 = .ok (.goto (-31), 3) := by decide +kernel
theorem dX8_feed_76 : decode cX8_feed 76 = .ok (.aload_n 0, 1) := by decide +kernel
theorem dX8_feed_77 : decode cX8_feed 77 = .ok (.getfield 10, 3) := by decide +kernel
theorem dX8_feed_80 : decode cX8_feed 80 = .ok (.getfield 157, 3) := by decide +kernel
theorem dX8_feed_83 : decode cX8_feed 83 = .ok (.getfield 161, 3) := by decide +kernel
theorem dX8_feed_86 : decode cX8_feed 86 = .ok (.ireturn, 1) := by decide +kernel
theorem dX8_text_0 : decode cX8_text 0 = .ok (.iload_n 1, 1) := by decide +kernel
theorem dX8_text_1 : decode cX8_text 1 = .ok (.iconst 0, 1) := by decide +kernel
theorem dX8_text_2 : decode cX8_text 2 = .ok (.iconst 1, 1) := by decide +kernel
theorem dX8_text_3 : decode cX8_text 3 = .ok (.invokestatic 65, 3) := by decide +kernel
theorem dX8_text_6 : decode cX8_text 6 = .ok (.ifCond .ne 9, 3) := by decide +kernel
theorem dX8_text_9 : decode cX8_text 9 = .ok (.aload_n 0, 1) := by decide +kernel
theorem dX8_text_10 : decode cX8_text 10 = .ok (.iconst 1, 1) := by decide +kernel
theorem dX8_text_11 : decode cX8_text 11 = .ok (.invokevirtual 69, 3) := by decide +kernel
theorem dX8_text_14 : decode cX8_text 14 = .ok (.ireturn, 1) := by decide +kernel
theorem dX8_text_15 : decode cX8_text 15 = .ok (.aload_n 0, 1) := by decide +kernel
theorem dX8_text_16 : decode cX8_text 16 = .ok (.getfield 36, 3) := by decide +kernel
theorem dX8_text_19 : decode cX8_text 19 = .ok (.iload_n 1, 1) := by decide +kernel
theorem dX8_text_20 : decode cX8_text 20 = .ok (.aload_n 0, 1) := by decide +kernel
theorem dX8_text_21 : decode cX8_text 21 = .ok (.getfield 10, 3) := by decide +kernel
theorem dX8_text_24 : decode cX8_text 24 = .ok (.getfield 157, 3) := by decide +kernel
theorem dX8_text_27 : decode cX8_text 27 = .ok (.invokevirtual 170, 3) := by decide +kernel
theorem dX8_text_30 : decode cX8_text 30 = .ok (.istore_n 2, 1) := by decide +kernel
theorem dX8_text_31 : decode cX8_text 31 = .ok (.aload_n 0, 1) := by decide +kernel
theorem dX8_text_32 : decode cX8_text 32 = .ok (.getfield 10, 3) := by decide +kernel
theorem dX8_text_35 : decode cX8_text 35 = .ok (.getfield 157, 3) := by decide +kernel
theorem dX8_text_38 : decode cX8_text 38 = .ok (.invokevirtual 174, 3) := by decide +kernel
theorem dX8_text_41 : decode cX8_text 41 = .ok (.iload_n 2, 1) := by decide +kernel
theorem dX8_text_42 : decode cX8_text 42 = .ok (.ifCond .ne 14, 3) := by decide +kernel
theorem dX8_text_45 : decode cX8_text 45 = .ok (.bipush (-10), 2) := by decide +kernel
theorem dX8_text_47 : decode cX8_text 47 = .ok (.aload_n 0, 1) := by decide +kernel
theorem dX8_text_48 : decode cX8_text 48 = .ok (.getfield 36, 3) := by decide +kernel
theorem dX8_text_51 : decode cX8_text 51 = .ok (.getfield 177, 3) := by decide +kernel
theorem dX8_text_54 : decode cX8_text 54 = .ok (.isub, 1) := by decide +kernel
theorem dX8_text_55 : decode cX8_text 55 = .ok (.ireturn, 1) := by decide +kernel
theorem dX8_text_56 : decode cX8_text 56 = .ok (.aload_n 0, 1) := by decide +kernel
theorem dX8_text_57 : decode cX8_text 57 = .ok (.getfield 10, 3) := by decide +kernel
theorem dX8_text_60 : decode cX8_text 60 = .ok (.iload_n 1, 1) := by decide +kernel
theorem dX8_text_61 : decode cX8_text 61 = .ok (.invokevirtual 180, 3) := by decide +kernel
theorem dX8_text_64 : decode cX8_text 64 = .ok (.aload_n 0, 1) := by decide +kernel
theorem dX8_text_65 : decode cX8_text 65 = .ok (.getfield 36, 3) := by decide +kernel
theorem dX8_text_68 : decode cX8_text 68 = .ok (.getfield 184, 3) := by decide +kernel
theorem dX8_text_71 : decode cX8_text 71 = .ok (.invokevirtual 187, 3) := by decide +kernel
theorem dX8_text_74 : decode cX8_text 74 = .ok (.iconst 1, 1) := by decide +kernel
theorem dX8_text_75 : decode cX8_text 75 = .ok (.ireturn, 1) := by decide +kernel
theorem dX8_law_0 : decode cX8_law 0 = .ok (.iload_n 1, 1) := by decide +kernel
theorem dX8_law_1 : decode cX8_law 1 = .ok (.iconst 0, 1) := by decide +kernel
theorem dX8_law_2 : decode cX8_law 2 = .ok (.iconst 1, 1) := by decide +kernel
theorem dX8_law_3 : decode cX8_law 3 = .ok (.invokestatic 65, 3) := by decide +kernel
theorem dX8_law_6 : decode cX8_law 6 = .ok (.ifCond .ne 9, 3) := by decide +kernel
theorem dX8_law_9 : decode cX8_law 9 = .ok (.aload_n 0, 1) := by decide +kernel
theorem dX8_law_10 : decode cX8_law 10 = .ok (.iconst 1, 1) := by decide +kernel
theorem dX8_law_11 : decode cX8_law 11 = .ok (.invokevirtual 69, 3) := by decide +kernel
theorem dX8_law_14 : decode cX8_law 14 = .ok (.ireturn, 1) := by decide +kernel
theorem dX8_law_15 : decode cX8_law 15 = .ok (.aload_n 0, 1) := by decide +kernel
theorem dX8_law_16 : decode cX8_law 16 = .ok (.getfield 10, 3) := by decide +kernel
theorem dX8_law_19 : decode cX8_law 19 = .ok (.iload_n 1, 1) := by decide +kernel
theorem dX8_law_20 : decode cX8_law 20 = .ok (.invokevirtual 180, 3) := by decide +kernel
theorem dX8_law_23 : decode cX8_law 23 = .ok (.iload_n 2, 1) := by decide +kernel
theorem dX8_law_24 : decode cX8_law 24 = .ok (.iload_n 3, 1) := by decide +kernel
theorem dX8_law_25 : decode cX8_law 25 = .ok (.iload 4, 2) := by decide +kernel
theorem dX8_law_27 : decode cX8_law 27 = .ok (.invokevirtual 193, 3) := by decide +kernel
theorem dX8_law_30 : decode cX8_law 30 = .ok (.ireturn, 1) := by decide +kernel
theorem dX8_cast_0 : decode cX8_cast 0 = .ok (.aload_n 0, 1) := by decide +kernel
theorem dX8_cast_1 : decode cX8_cast 1 = .ok (.iload_n 1, 1) := by decide +kernel
theorem dX8_cast_2 : decode cX8_cast 2 = .ok (.invokevirtual 197, 3) := by decide +kernel
theorem dX8_cast_5 : decode cX8_cast 5 = .ok (.astore_n 2, 1) := by decide +kernel
theorem dX8_cast_6 : decode cX8_cast 6 = .ok (.aload_n 2, 1) := by decide +kernel
theorem dX8_cast_7 : decode cX8_cast 7 = .ok (.ifnonnull 9, 3) := by decide +kernel
theorem dX8_cast_10 : decode cX8_cast 10 = .ok (.aload_n 0, 1) := by decide +kernel
theorem dX8_cast_11 : decode cX8_cast 11 = .ok (.iconst 1, 1) := by decide +kernel
theorem dX8_cast_12 : decode cX8_cast 12 = .ok (.invokevirtual 69, 3) := by decide +kernel
theorem dX8_cast_15 : decode cX8_cast 15 = .ok (.ireturn, 1) := by decide +kernel
theorem dX8_cast_16 : decode cX8_cast 16 = .ok (.aload_n 2, 1) := by decide +kernel
theorem dX8_cast_17 : decode cX8_cast 17 = .ok (.invokevirtual 201, 3) := by decide +kernel
theorem dX8_cast_20 : decode cX8_cast 20 = .ok (.ifCond .eq 9, 3) := by decide +kernel
theorem dX8_cast_23 : decode cX8_cast 23 = .ok (.aload_n 0, 1) := by decide +kernel
theorem dX8_cast_24 : decode cX8_cast 24 = .ok (.iconst 2, 1) := by decide +kernel
theorem dX8_cast_25 : decode cX8_cast 25 = .ok (.invokevirtual 69, 3) := by decide +kernel
theorem dX8_cast_28 : decode cX8_cast 28 = .ok (.ireturn, 1) := by decide +kernel
theorem dX8_cast_29 : decode cX8_cast 29 = .ok (.aload_n 0, 1) := by decide +kernel
theorem dX8_cast_30 : decode cX8_cast 30 = .ok (.aload_n 2, 1) := by decide +kernel
theorem dX8_cast_31 : decode cX8_cast 31 = .ok (.invokevirtual 205, 3) := by decide +kernel
theorem dX8_cast_34 : decode cX8_cast 34 = .ok (.ifCond .ge 19, 3) := by decide +kernel
theorem dX8_cast_37 : decode cX8_cast 37 = .ok (.aload_n 0, 1) := by decide +kernel
theorem dX8_cast_38 : decode cX8_cast 38 = .ok (.getfield 10, 3) := by decide +kernel
theorem dX8_cast_41 : decode cX8_cast 41 = .ok (.getfield 73, 3) := by decide +kernel
theorem dX8_cast_44 : decode cX8_cast 44 = .ok (.getfield 209, 3) := by decide +kernel
theorem dX8_cast_47 : decode cX8_cast 47 = .ok (.sipush 9999, 3) := by decide +kernel
theorem dX8_cast_50 : decode cX8_cast 50 = .ok (.if_icmp .lt 9, 3) := by decide +kernel
theorem dX8_cast_53 : decode cX8_cast 53 = .ok (.aload_n 0, 1) := by decide +kernel
theorem dX8_cast_54 : decode cX8_cast 54 = .ok (.iconst 3, 1) := by decide +kernel
theorem dX8_cast_55 : decode cX8_cast 55 = .ok (.invokevirtual 69, 3) := by decide +kernel
theorem dX8_cast_58 : decode cX8_cast 58 = .ok (.ireturn, 1) := by decide +kernel
theorem dX8_cast_59 : decode cX8_cast 59 = .ok (.aload_n 0, 1) := by decide +kernel
theorem dX8_cast_60 : decode cX8_cast 60 = .ok (.getfield 10, 3) := by decide +kernel
theorem dX8_cast_63 : decode cX8_cast 63 = .ok (.getfield 73, 3) := by decide +kernel
theorem dX8_cast_66 : decode cX8_cast 66 = .ok (.aload_n 2, 1) := by decide +kernel
theorem dX8_cast_67 : decode cX8_cast 67 = .ok (.getfield 212, 3) := by decide +kernel
theorem dX8_cast_70 : decode cX8_cast 70 = .ok (.aload_n 0, 1) := by decide +kernel
theorem dX8_cast_71 : decode cX8_cast 71 = .ok (.getfield 10, 3) := by decide +kernel
theorem dX8_cast_74 : decode cX8_cast 74 = .ok (.getfield 215, 3) := by decide +kernel
theorem dX8_cast_77 : decode cX8_cast 77 = .ok (.aload_n 0, 1) := by decide +kernel
theorem dX8_cast_78 : decode cX8_cast 78 = .ok (.getfield 10, 3) := by decide +kernel
theorem dX8_cast_81 : decode cX8_cast 81 = .ok (.getfield 219, 3) := by decide +kernel
theorem dX8_cast_84 : decode cX8_cast 84 = .ok (.invokevirtual 222, 3) := by decide +kernel
theorem dX8_cast_87 : decode cX8_cast 87 = .ok (.aload_n 0, 1) := by decide +kernel
theorem dX8_cast_88 : decode cX8_cast 88 = .ok (.getfield 10, 3) := by decide +kernel
theorem dX8_cast_91 : decode cX8_cast 91 = .ok (.getfield 73, 3) := by decide +kernel
theorem dX8_cast_94 : decode cX8_cast 94 = .ok (.getfield 209, 3) := by decide +kernel
theorem dX8_cast_97 : decode cX8_cast 97 = .ok (.ireturn, 1) := by decide +kernel
theorem dX8_nights_0 : decode cX8_nights 0 = .ok (.iload_n 1, 1) := by decide +kernel
theorem dX8_nights_1 : decode cX8_nights 1 = .ok (.iconst 1, 1) := by decide +kernel
theorem dX8_nights_2 : decode cX8_nights 2 = .ok (.bipush 60, 2) := by decide +kernel
theorem dX8_nights_4 : decode cX8_nights 4 = .ok (.invokestatic 65, 3) := by decide +kernel
theorem dX8_nights_7 : decode cX8_nights 7 = .ok (.ifCond .ne 9, 3) := by decide +kernel
theorem dX8_nights_10 : decode cX8_nights 10 = .ok (.aload_n 0, 1) := by decide +kernel
theorem dX8_nights_11 : decode cX8_nights 11 = .ok (.iconst 1, 1) := by decide +kernel
theorem dX8_nights_12 : decode cX8_nights 12 = .ok (.invokevirtual 69, 3) := by decide +kernel
theorem dX8_nights_15 : decode cX8_nights 15 = .ok (.ireturn, 1) := by decide +kernel
theorem dX8_nights_16 : decode cX8_nights 16 = .ok (.aload_n 0, 1) := by decide +kernel
theorem dX8_nights_17 : decode cX8_nights 17 = .ok (.aload_n 0, 1) := by decide +kernel
theorem dX8_nights_18 : decode cX8_nights 18 = .ok (.getfield 10, 3) := by decide +kernel
theorem dX8_nights_21 : decode cX8_nights 21 = .ok (.getfield 73, 3) := by decide +kernel
theorem dX8_nights_24 : decode cX8_nights 24 = .ok (.iload_n 1, 1) := by decide +kernel
theorem dX8_nights_25 : decode cX8_nights 25 = .ok (.sipush 9999, 3) := by decide +kernel
theorem dX8_nights_28 : decode cX8_nights 28 = .ok (.aload_n 0, 1) := by decide +kernel
theorem dX8_nights_29 : decode cX8_nights 29 = .ok (.getfield 10, 3) := by decide +kernel
theorem dX8_nights_32 : decode cX8_nights 32 = .ok (.getfield 73, 3) := by decide +kernel
theorem dX8_nights_35 : decode cX8_nights 35 = .ok (.getfield 209, 3) := by decide +kernel
theorem dX8_nights_38 : decode cX8_nights 38 = .ok (.isub, 1) := by decide +kernel
theorem dX8_nights_39 : decode cX8_nights 39 = .ok (.invokestatic 226, 3) := by decide +kernel
theorem dX8_nights_42 : decode cX8_nights 42 = .ok (.invokevirtual 231, 3) := by decide +kernel
theorem dX8_nights_45 : decode cX8_nights 45 = .ok (.ireturn, 1) := by decide +kernel
theorem dX8_loose_0 : decode cX8_loose 0 = .ok (.iload_n 1, 1) := by decide +kernel
theorem dX8_loose_1 : decode cX8_loose 1 = .ok (.iconst 1, 1) := by decide +kernel
theorem dX8_loose_2 : decode cX8_loose 2 = .ok (.bipush 40, 2) := by decide +kernel
theorem dX8_loose_4 : decode cX8_loose 4 = .ok (.invokestatic 65, 3) := by decide +kernel
theorem dX8_loose_7 : decode cX8_loose 7 = .ok (.ifCond .ne 9, 3) := by decide +kernel
theorem dX8_loose_10 : decode cX8_loose 10 = .ok (.aload_n 0, 1) := by decide +kernel
theorem dX8_loose_11 : decode cX8_loose 11 = .ok (.iconst 1, 1) := by decide +kernel
theorem dX8_loose_12 : decode cX8_loose 12 = .ok (.invokevirtual 69, 3) := by decide +kernel
theorem dX8_loose_15 : decode cX8_loose 15 = .ok (.ireturn, 1) := by decide +kernel
theorem dX8_loose_16 : decode cX8_loose 16 = .ok (.aload_n 0, 1) := by decide +kernel
theorem dX8_loose_17 : decode cX8_loose 17 = .ok (.getfield 10, 3) := by decide +kernel
theorem dX8_loose_20 : decode cX8_loose 20 = .ok (.getfield 73, 3) := by decide +kernel
theorem dX8_loose_23 : decode cX8_loose 23 = .ok (.astore_n 2, 1) := by decide +kernel
theorem dX8_loose_24 : decode cX8_loose 24 = .ok (.aload_n 2, 1) := by decide +kernel
theorem dX8_loose_25 : decode cX8_loose 25 = .ok (.getfield 209, 3) := by decide +kernel
theorem dX8_loose_28 : decode cX8_loose 28 = .ok (.iload_n 1, 1) := by decide +kernel
theorem dX8_loose_29 : decode cX8_loose 29 = .ok (.iadd, 1) := by decide +kernel
theorem dX8_loose_30 : decode cX8_loose 30 = .ok (.sipush 9999, 3) := by decide +kernel
theorem dX8_loose_33 : decode cX8_loose 33 = .ok (.if_icmp .le 9, 3) := by decide +kernel
theorem dX8_loose_36 : decode cX8_loose 36 = .ok (.aload_n 0, 1) := by decide +kernel
theorem dX8_loose_37 : decode cX8_loose 37 = .ok (.iconst 3, 1) := by decide +kernel
theorem dX8_loose_38 : decode cX8_loose 38 = .ok (.invokevirtual 69, 3) := by decide +kernel
theorem dX8_loose_41 : decode cX8_loose 41 = .ok (.ireturn, 1) := by decide +kernel
theorem dX8_loose_42 : decode cX8_loose 42 = .ok (.iconst 0, 1) := by decide +kernel
theorem dX8_loose_43 : decode cX8_loose 43 = .ok (.istore_n 3, 1) := by decide +kernel
theorem dX8_loose_44 : decode cX8_loose 44 = .ok (.iload_n 3, 1) := by decide +kernel
theorem dX8_loose_45 : decode cX8_loose 45 = .ok (.iload_n 1, 1) := by decide +kernel
theorem dX8_loose_46 : decode cX8_loose 46 = .ok (.if_icmp .ge 58, 3) := by decide +kernel
theorem dX8_loose_49 : decode cX8_loose 49 = .ok (.aload_n 2, 1) := by decide +kernel
theorem dX8_loose_50 : decode cX8_loose 50 = .ok (.getfield 116, 3) := by decide +kernel
theorem dX8_loose_53 : decode cX8_loose 53 = .ok (.ifCond .le 26, 3) := by decide +kernel
theorem dX8_loose_56 : decode cX8_loose 56 = .ok (.aload_n 2, 1) := by decide +kernel
theorem dX8_loose_57 : decode cX8_loose 57 = .ok (.dup, 1) := by decide +kernel
theorem dX8_loose_58 : decode cX8_loose 58 = .ok (.getfield 137, 3) := by decide +kernel
theorem dX8_loose_61 : decode cX8_loose 61 = .ok (.iconst 1, 1) := by decide +kernel
theorem dX8_loose_62 : decode cX8_loose 62 = .ok (.aload_n 0, 1) := by decide +kernel
theorem dX8_loose_63 : decode cX8_loose 63 = .ok (.getfield 10, 3) := by decide +kernel
theorem dX8_loose_66 : decode cX8_loose 66 = .ok (.invokevirtual 235, 3) := by decide +kernel
theorem dX8_loose_69 : decode cX8_loose 69 = .ok (.aload_n 2, 1) := by decide +kernel
theorem dX8_loose_70 : decode cX8_loose 70 = .ok (.getfield 116, 3) := by decide +kernel
theorem dX8_loose_73 : decode cX8_loose 73 = .ok (.irem, 1) := by decide +kernel
theorem dX8_loose_74 : decode cX8_loose 74 = .ok (.ishl, 1) := by decide +kernel
theorem dX8_loose_75 : decode cX8_loose 75 = .ok (.ixor, 1) := by decide +kernel
theorem dX8_loose_76 : decode cX8_loose 76 = .ok (.putfield 137, 3) := by decide +kernel
theorem dX8_loose_79 : decode cX8_loose 79 = .ok (.aload_n 0, 1) := by decide +kernel
theorem dX8_loose_80 : decode cX8_loose 80 = .ok (.aload_n 2, 1) := by decide +kernel
theorem dX8_loose_81 : decode cX8_loose 81 = .ok (.iconst 1, 1) := by decide +kernel
theorem dX8_loose_82 : decode cX8_loose 82 = .ok (.invokevirtual 231, 3) := by decide +kernel
theorem dX8_loose_85 : decode cX8_loose 85 = .ok (.ifCond .ne 13, 3) := by decide +kernel
theorem dX8_loose_88 : decode cX8_loose 88 = .ok (.aload_n 2, 1) := by decide +kernel
theorem dX8_loose_89 : decode cX8_loose 89 = .ok (.dup, 1) := by decide +kernel
theorem dX8_loose_90 : decode cX8_loose 90 = .ok (.getfield 209, 3) := by decide +kernel
theorem dX8_loose_93 : decode cX8_loose 93 = .ok (.iconst 1, 1) := by decide +kernel
theorem dX8_loose_94 : decode cX8_loose 94 = .ok (.iadd, 1) := by decide +kernel
theorem dX8_loose_95 : decode cX8_loose 95 = .ok (.putfield 209, 3) := by decide +kernel
theorem dX8_loose_98 : decode cX8_loose 98 = .ok (.iinc 3 1, 3) := by decide +kernel
theorem dX8_loose_101 : decode cX8_loose 101 = .ok (.goto (-57), 3) := by decide +kernel
theorem dX8_loose_104 : decode cX8_loose 104 = .ok (.aload_n 2, 1) := by decide +kernel
theorem dX8_loose_105 : decode cX8_loose 105 = .ok (.invokevirtual 238, 3) := by decide +kernel
theorem dX8_loose_108 : decode cX8_loose 108 = .ok (.ireturn, 1) := by decide +kernel
theorem dX8_first_0 : decode cX8_first 0 = .ok (.aload_n 0, 1) := by decide +kernel
theorem dX8_first_1 : decode cX8_first 1 = .ok (.getfield 10, 3) := by decide +kernel
theorem dX8_first_4 : decode cX8_first 4 = .ok (.getfield 73, 3) := by decide +kernel
theorem dX8_first_7 : decode cX8_first 7 = .ok (.iload_n 1, 1) := by decide +kernel
theorem dX8_first_8 : decode cX8_first 8 = .ok (.invokevirtual 84, 3) := by decide +kernel
theorem dX8_first_11 : decode cX8_first 11 = .ok (.ifCond .ne 9, 3) := by decide +kernel
theorem dX8_first_14 : decode cX8_first 14 = .ok (.aload_n 0, 1) := by decide +kernel
theorem dX8_first_15 : decode cX8_first 15 = .ok (.iconst 1, 1) := by decide +kernel
theorem dX8_first_16 : decode cX8_first 16 = .ok (.invokevirtual 69, 3) := by decide +kernel
theorem dX8_first_19 : decode cX8_first 19 = .ok (.ireturn, 1) := by decide +kernel
theorem dX8_first_20 : decode cX8_first 20 = .ok (.aload_n 0, 1) := by decide +kernel
theorem dX8_first_21 : decode cX8_first 21 = .ok (.getfield 29, 3) := by decide +kernel
theorem dX8_first_24 : decode cX8_first 24 = .ok (.aload_n 0, 1) := by decide +kernel
theorem dX8_first_25 : decode cX8_first 25 = .ok (.getfield 10, 3) := by decide +kernel
theorem dX8_first_28 : decode cX8_first 28 = .ok (.getfield 73, 3) := by decide +kernel
theorem dX8_first_31 : decode cX8_first 31 = .ok (.iconst 0, 1) := by decide +kernel
theorem dX8_first_32 : decode cX8_first 32 = .ok (.invokevirtual 241, 3) := by decide +kernel
theorem dX8_first_35 : decode cX8_first 35 = .ok (.aload_n 0, 1) := by decide +kernel
theorem dX8_first_36 : decode cX8_first 36 = .ok (.getfield 29, 3) := by decide +kernel
theorem dX8_first_39 : decode cX8_first 39 = .ok (.invokevirtual 245, 3) := by decide +kernel
theorem dX8_first_42 : decode cX8_first 42 = .ok (.ifCond .eq 15, 3) := by decide +kernel
theorem dX8_first_45 : decode cX8_first 45 = .ok (.aload_n 0, 1) := by decide +kernel
theorem dX8_first_46 : decode cX8_first 46 = .ok (.getfield 29, 3) := by decide +kernel
theorem dX8_first_49 : decode cX8_first 49 = .ok (.getfield 248, 3) := by decide +kernel
theorem dX8_first_52 : decode cX8_first 52 = .ok (.iload_n 1, 1) := by decide +kernel
theorem dX8_first_53 : decode cX8_first 53 = .ok (.iaload, 1) := by decide +kernel
theorem dX8_first_54 : decode cX8_first 54 = .ok (.goto 8, 3) := by decide +kernel
theorem dX8_first_57 : decode cX8_first 57 = .ok (.aload_n 0, 1) := by decide +kernel
theorem dX8_first_58 : decode cX8_first 58 = .ok (.iconst 2, 1) := by decide +kernel
theorem dX8_first_59 : decode cX8_first 59 = .ok (.invokevirtual 69, 3) := by decide +kernel
theorem dX8_first_62 : decode cX8_first 62 = .ok (.ireturn, 1) := by decide +kernel
theorem dX8_castings_0 : decode cX8_castings 0 = .ok (.aload_n 0, 1) := by decide +kernel
theorem dX8_castings_1 : decode cX8_castings 1 = .ok (.getfield 29, 3) := by decide +kernel
theorem dX8_castings_4 : decode cX8_castings 4 = .ok (.aload_n 0, 1) := by decide +kernel
theorem dX8_castings_5 : decode cX8_castings 5 = .ok (.getfield 10, 3) := by decide +kernel
theorem dX8_castings_8 : decode cX8_castings 8 = .ok (.getfield 73, 3) := by decide +kernel
theorem dX8_castings_11 : decode cX8_castings 11 = .ok (.iconst 0, 1) := by decide +kernel
theorem dX8_castings_12 : decode cX8_castings 12 = .ok (.invokevirtual 241, 3) := by decide +kernel
theorem dX8_castings_15 : decode cX8_castings 15 = .ok (.iconst 0, 1) := by decide +kernel
theorem dX8_castings_16 : decode cX8_castings 16 = .ok (.istore_n 1, 1) := by decide +kernel
theorem dX8_castings_17 : decode cX8_castings 17 = .ok (.iload_n 1, 1) := by decide +kernel
theorem dX8_castings_18 : decode cX8_castings 18 = .ok (.ldc 251, 2) := by decide +kernel
theorem dX8_castings_20 : decode cX8_castings 20 = .ok (.if_icmp .ge 19, 3) := by decide +kernel
theorem dX8_castings_23 : decode cX8_castings 23 = .ok (.aload_n 0, 1) := by decide +kernel
theorem dX8_castings_24 : decode cX8_castings 24 = .ok (.getfield 29, 3) := by decide +kernel
theorem dX8_castings_27 : decode cX8_castings 27 = .ok (.invokevirtual 245, 3) := by decide +kernel
theorem dX8_castings_30 : decode cX8_castings 30 = .ok (.ifCond .eq 9, 3) := by decide +kernel
theorem dX8_castings_33 : decode cX8_castings 33 = .ok (.iinc 1 1, 3) := by decide +kernel
theorem dX8_castings_36 : decode cX8_castings 36 = .ok (.goto (-19), 3) := by decide +kernel
theorem dX8_castings_39 : decode cX8_castings 39 = .ok (.iload_n 1, 1) := by decide +kernel
theorem dX8_castings_40 : decode cX8_castings 40 = .ok (.ireturn, 1) := by decide +kernel
theorem dX8_season_0 : decode cX8_season 0 = .ok (.aload_n 0, 1) := by decide +kernel
theorem dX8_season_1 : decode cX8_season 1 = .ok (.aload_n 0, 1) := by decide +kernel
theorem dX8_season_2 : decode cX8_season 2 = .ok (.invokevirtual 252, 3) := by decide +kernel
theorem dX8_season_5 : decode cX8_season 5 = .ok (.bipush 60, 2) := by decide +kernel
theorem dX8_season_7 : decode cX8_season 7 = .ok (.invokevirtual 231, 3) := by decide +kernel
theorem dX8_season_10 : decode cX8_season 10 = .ok (.ireturn, 1) := by decide +kernel
theorem dX8_then_0 : decode cX8_then 0 = .ok (.iload_n 1, 1) := by decide +kernel
theorem dX8_then_1 : decode cX8_then 1 = .ok (.iconst 0, 1) := by decide +kernel
theorem dX8_then_2 : decode cX8_then 2 = .ok (.bipush 60, 2) := by decide +kernel
theorem dX8_then_4 : decode cX8_then 4 = .ok (.invokestatic 65, 3) := by decide +kernel
theorem dX8_then_7 : decode cX8_then 7 = .ok (.ifCond .eq 26, 3) := by decide +kernel
theorem dX8_then_10 : decode cX8_then 10 = .ok (.aload_n 0, 1) := by decide +kernel
theorem dX8_then_11 : decode cX8_then 11 = .ok (.getfield 10, 3) := by decide +kernel
theorem dX8_then_14 : decode cX8_then 14 = .ok (.getfield 73, 3) := by decide +kernel
theorem dX8_then_17 : decode cX8_then 17 = .ok (.iload_n 2, 1) := by decide +kernel
theorem dX8_then_18 : decode cX8_then 18 = .ok (.invokevirtual 122, 3) := by decide +kernel
theorem dX8_then_21 : decode cX8_then 21 = .ok (.ifCond .eq 12, 3) := by decide +kernel
theorem dX8_then_24 : decode cX8_then 24 = .ok (.iload_n 3, 1) := by decide +kernel
theorem dX8_then_25 : decode cX8_then 25 = .ok (.iconst 0, 1) := by decide +kernel
theorem dX8_then_26 : decode cX8_then 26 = .ok (.iconst 2, 1) := by decide +kernel
theorem dX8_then_27 : decode cX8_then 27 = .ok (.invokestatic 65, 3) := by decide +kernel
theorem dX8_then_30 : decode cX8_then 30 = .ok (.ifCond .ne 9, 3) := by decide +kernel
theorem dX8_then_33 : decode cX8_then 33 = .ok (.aload_n 0, 1) := by decide +kernel
theorem dX8_then_34 : decode cX8_then 34 = .ok (.iconst 1, 1) := by decide +kernel
theorem dX8_then_35 : decode cX8_then 35 = .ok (.invokevirtual 69, 3) := by decide +kernel
theorem dX8_then_38 : decode cX8_then 38 = .ok (.ireturn, 1) := by decide +kernel
theorem dX8_then_39 : decode cX8_then 39 = .ok (.aload_n 0, 1) := by decide +kernel
theorem dX8_then_40 : decode cX8_then 40 = .ok (.invokevirtual 252, 3) := by decide +kernel
theorem dX8_then_43 : decode cX8_then 43 = .ok (.astore 4, 2) := by decide +kernel
theorem dX8_then_45 : decode cX8_then 45 = .ok (.aload_n 0, 1) := by decide +kernel
theorem dX8_then_46 : decode cX8_then 46 = .ok (.aload 4, 2) := by decide +kernel
theorem dX8_then_48 : decode cX8_then 48 = .ok (.iload_n 1, 1) := by decide +kernel
theorem dX8_then_49 : decode cX8_then 49 = .ok (.invokevirtual 231, 3) := by decide +kernel
theorem dX8_then_52 : decode cX8_then 52 = .ok (.pop, 1) := by decide +kernel
theorem dX8_then_53 : decode cX8_then 53 = .ok (.iload_n 3, 1) := by decide +kernel
theorem dX8_then_54 : decode cX8_then 54 = .ok (.lookupswitch 42 #[(0, 26), (1, 34)], 26) := by decide +kernel
theorem dX8_then_80 : decode cX8_then 80 = .ok (.aload 4, 2) := by decide +kernel
theorem dX8_then_82 : decode cX8_then 82 = .ok (.getfield 125, 3) := by decide +kernel
theorem dX8_then_85 : decode cX8_then 85 = .ok (.iload_n 2, 1) := by decide +kernel
theorem dX8_then_86 : decode cX8_then 86 = .ok (.iaload, 1) := by decide +kernel
theorem dX8_then_87 : decode cX8_then 87 = .ok (.ireturn, 1) := by decide +kernel
theorem dX8_then_88 : decode cX8_then 88 = .ok (.aload 4, 2) := by decide +kernel
theorem dX8_then_90 : decode cX8_then 90 = .ok (.getfield 128, 3) := by decide +kernel
theorem dX8_then_93 : decode cX8_then 93 = .ok (.iload_n 2, 1) := by decide +kernel
theorem dX8_then_94 : decode cX8_then 94 = .ok (.iaload, 1) := by decide +kernel
theorem dX8_then_95 : decode cX8_then 95 = .ok (.ireturn, 1) := by decide +kernel
theorem dX8_then_96 : decode cX8_then 96 = .ok (.aload 4, 2) := by decide +kernel
theorem dX8_then_98 : decode cX8_then 98 = .ok (.getfield 134, 3) := by decide +kernel
theorem dX8_then_101 : decode cX8_then 101 = .ok (.iload_n 2, 1) := by decide +kernel
theorem dX8_then_102 : decode cX8_then 102 = .ok (.iaload, 1) := by decide +kernel
theorem dX8_then_103 : decode cX8_then 103 = .ok (.ireturn, 1) := by decide +kernel
theorem dX8_learns_0 : decode cX8_learns 0 = .ok (.aload_n 0, 1) := by decide +kernel
theorem dX8_learns_1 : decode cX8_learns 1 = .ok (.getfield 10, 3) := by decide +kernel
theorem dX8_learns_4 : decode cX8_learns 4 = .ok (.getfield 73, 3) := by decide +kernel
theorem dX8_learns_7 : decode cX8_learns 7 = .ok (.iload_n 1, 1) := by decide +kernel
theorem dX8_learns_8 : decode cX8_learns 8 = .ok (.invokevirtual 122, 3) := by decide +kernel
theorem dX8_learns_11 : decode cX8_learns 11 = .ok (.ifCond .eq 17, 3) := by decide +kernel
theorem dX8_learns_14 : decode cX8_learns 14 = .ok (.aload_n 0, 1) := by decide +kernel
theorem dX8_learns_15 : decode cX8_learns 15 = .ok (.getfield 10, 3) := by decide +kernel
theorem dX8_learns_18 : decode cX8_learns 18 = .ok (.getfield 73, 3) := by decide +kernel
theorem dX8_learns_21 : decode cX8_learns 21 = .ok (.iload_n 2, 1) := by decide +kernel
theorem dX8_learns_22 : decode cX8_learns 22 = .ok (.invokevirtual 84, 3) := by decide +kernel
theorem dX8_learns_25 : decode cX8_learns 25 = .ok (.ifCond .ne 9, 3) := by decide +kernel
theorem dX8_learns_28 : decode cX8_learns 28 = .ok (.aload_n 0, 1) := by decide +kernel
theorem dX8_learns_29 : decode cX8_learns 29 = .ok (.iconst 1, 1) := by decide +kernel
theorem dX8_learns_30 : decode cX8_learns 30 = .ok (.invokevirtual 69, 3) := by decide +kernel
theorem dX8_learns_33 : decode cX8_learns 33 = .ok (.ireturn, 1) := by decide +kernel
theorem dX8_learns_34 : decode cX8_learns 34 = .ok (.aload_n 0, 1) := by decide +kernel
theorem dX8_learns_35 : decode cX8_learns 35 = .ok (.invokevirtual 252, 3) := by decide +kernel
theorem dX8_learns_38 : decode cX8_learns 38 = .ok (.astore_n 3, 1) := by decide +kernel
theorem dX8_learns_39 : decode cX8_learns 39 = .ok (.iconst 0, 1) := by decide +kernel
theorem dX8_learns_40 : decode cX8_learns 40 = .ok (.istore 4, 2) := by decide +kernel
theorem dX8_learns_42 : decode cX8_learns 42 = .ok (.iload 4, 2) := by decide +kernel
theorem dX8_learns_44 : decode cX8_learns 44 = .ok (.bipush 60, 2) := by decide +kernel
theorem dX8_learns_46 : decode cX8_learns 46 = .ok (.if_icmp .gt 41, 3) := by decide +kernel
theorem dX8_learns_49 : decode cX8_learns 49 = .ok (.aload_n 3, 1) := by decide +kernel
theorem dX8_learns_50 : decode cX8_learns 50 = .ok (.getfield 125, 3) := by decide +kernel
theorem dX8_learns_53 : decode cX8_learns 53 = .ok (.iload_n 1, 1) := by decide +kernel
theorem dX8_learns_54 : decode cX8_learns 54 = .ok (.iaload, 1) := by decide +kernel
theorem dX8_learns_55 : decode cX8_learns 55 = .ok (.iload_n 2, 1) := by decide +kernel
theorem dX8_learns_56 : decode cX8_learns 56 = .ok (.ishr, 1) := by decide +kernel
theorem dX8_learns_57 : decode cX8_learns 57 = .ok (.iconst 1, 1) := by decide +kernel
theorem dX8_learns_58 : decode cX8_learns 58 = .ok (.iand, 1) := by decide +kernel
theorem dX8_learns_59 : decode cX8_learns 59 = .ok (.iconst 1, 1) := by decide +kernel
theorem dX8_learns_60 : decode cX8_learns 60 = .ok (.if_icmp .ne 6, 3) := by decide +kernel
theorem dX8_learns_63 : decode cX8_learns 63 = .ok (.iload 4, 2) := by decide +kernel
theorem dX8_learns_65 : decode cX8_learns 65 = .ok (.ireturn, 1) := by decide +kernel
theorem dX8_learns_66 : decode cX8_learns 66 = .ok (.aload_n 0, 1) := by decide +kernel
theorem dX8_learns_67 : decode cX8_learns 67 = .ok (.aload_n 3, 1) := by decide +kernel
theorem dX8_learns_68 : decode cX8_learns 68 = .ok (.iconst 1, 1) := by decide +kernel
theorem dX8_learns_69 : decode cX8_learns 69 = .ok (.invokevirtual 231, 3) := by decide +kernel
theorem dX8_learns_72 : decode cX8_learns 72 = .ok (.ifCond .ne 9, 3) := by decide +kernel
theorem dX8_learns_75 : decode cX8_learns 75 = .ok (.aload_n 0, 1) := by decide +kernel
theorem dX8_learns_76 : decode cX8_learns 76 = .ok (.iconst 2, 1) := by decide +kernel
theorem dX8_learns_77 : decode cX8_learns 77 = .ok (.invokevirtual 69, 3) := by decide +kernel
theorem dX8_learns_80 : decode cX8_learns 80 = .ok (.ireturn, 1) := by decide +kernel
theorem dX8_learns_81 : decode cX8_learns 81 = .ok (.iinc 4 1, 3) := by decide +kernel
theorem dX8_learns_84 : decode cX8_learns 84 = .ok (.goto (-42), 3) := by decide +kernel
theorem dX8_learns_87 : decode cX8_learns 87 = .ok (.aload_n 0, 1) := by decide +kernel
theorem dX8_learns_88 : decode cX8_learns 88 = .ok (.iconst 2, 1) := by decide +kernel
theorem dX8_learns_89 : decode cX8_learns 89 = .ok (.invokevirtual 69, 3) := by decide +kernel
theorem dX8_learns_92 : decode cX8_learns 92 = .ok (.ireturn, 1) := by decide +kernel
theorem dX8_blocked_0 : decode cX8_blocked 0 = .ok (.iconst 0, 1) := by decide +kernel
theorem dX8_blocked_1 : decode cX8_blocked 1 = .ok (.istore_n 1, 1) := by decide +kernel
theorem dX8_blocked_2 : decode cX8_blocked 2 = .ok (.iconst 0, 1) := by decide +kernel
theorem dX8_blocked_3 : decode cX8_blocked 3 = .ok (.istore_n 2, 1) := by decide +kernel
theorem dX8_blocked_4 : decode cX8_blocked 4 = .ok (.iload_n 2, 1) := by decide +kernel
theorem dX8_blocked_5 : decode cX8_blocked 5 = .ok (.aload_n 0, 1) := by decide +kernel
theorem dX8_blocked_6 : decode cX8_blocked 6 = .ok (.getfield 10, 3) := by decide +kernel
theorem dX8_blocked_9 : decode cX8_blocked 9 = .ok (.getfield 73, 3) := by decide +kernel
theorem dX8_blocked_12 : decode cX8_blocked 12 = .ok (.getfield 76, 3) := by decide +kernel
theorem dX8_blocked_15 : decode cX8_blocked 15 = .ok (.if_icmp .ge 43, 3) := by decide +kernel
theorem dX8_blocked_18 : decode cX8_blocked 18 = .ok (.aload_n 0, 1) := by decide +kernel
theorem dX8_blocked_19 : decode cX8_blocked 19 = .ok (.getfield 10, 3) := by decide +kernel
theorem dX8_blocked_22 : decode cX8_blocked 22 = .ok (.getfield 73, 3) := by decide +kernel
theorem dX8_blocked_25 : decode cX8_blocked 25 = .ok (.iload_n 2, 1) := by decide +kernel
theorem dX8_blocked_26 : decode cX8_blocked 26 = .ok (.invokevirtual 99, 3) := by decide +kernel
theorem dX8_blocked_29 : decode cX8_blocked 29 = .ok (.ifCond .ne 23, 3) := by decide +kernel
theorem dX8_blocked_32 : decode cX8_blocked 32 = .ok (.aload_n 0, 1) := by decide +kernel
theorem dX8_blocked_33 : decode cX8_blocked 33 = .ok (.getfield 10, 3) := by decide +kernel
theorem dX8_blocked_36 : decode cX8_blocked 36 = .ok (.getfield 73, 3) := by decide +kernel
theorem dX8_blocked_39 : decode cX8_blocked 39 = .ok (.iload_n 2, 1) := by decide +kernel
theorem dX8_blocked_40 : decode cX8_blocked 40 = .ok (.invokevirtual 102, 3) := by decide +kernel
theorem dX8_blocked_43 : decode cX8_blocked 43 = .ok (.ifCond .ne 9, 3) := by decide +kernel
theorem dX8_blocked_46 : decode cX8_blocked 46 = .ok (.iload_n 1, 1) := by decide +kernel
theorem dX8_blocked_47 : decode cX8_blocked 47 = .ok (.iconst 1, 1) := by decide +kernel
theorem dX8_blocked_48 : decode cX8_blocked 48 = .ok (.iload_n 2, 1) := by decide +kernel
theorem dX8_blocked_49 : decode cX8_blocked 49 = .ok (.ishl, 1) := by decide +kernel
theorem dX8_blocked_50 : decode cX8_blocked 50 = .ok (.ior, 1) := by decide +kernel
theorem dX8_blocked_51 : decode cX8_blocked 51 = .ok (.istore_n 1, 1) := by decide +kernel
theorem dX8_blocked_52 : decode cX8_blocked 52 = .ok (.iinc 2 1, 3) := by decide +kernel
theorem dX8_blocked_55 : decode cX8_blocked 55 = .ok (.goto (-51), 3) := by decide +kernel
theorem dX8_blocked_58 : decode cX8_blocked 58 = .ok (.iload_n 1, 1) := by decide +kernel
theorem dX8_blocked_59 : decode cX8_blocked 59 = .ok (.ireturn, 1) := by decide +kernel
theorem dX8_idle_0 : decode cX8_idle 0 = .ok (.aload_n 0, 1) := by decide +kernel
theorem dX8_idle_1 : decode cX8_idle 1 = .ok (.getfield 10, 3) := by decide +kernel
theorem dX8_idle_4 : decode cX8_idle 4 = .ok (.getfield 73, 3) := by decide +kernel
theorem dX8_idle_7 : decode cX8_idle 7 = .ok (.invokevirtual 256, 3) := by decide +kernel
theorem dX8_idle_10 : decode cX8_idle 10 = .ok (.istore_n 1, 1) := by decide +kernel
theorem dX8_idle_11 : decode cX8_idle 11 = .ok (.aload_n 0, 1) := by decide +kernel
theorem dX8_idle_12 : decode cX8_idle 12 = .ok (.getfield 29, 3) := by decide +kernel
theorem dX8_idle_15 : decode cX8_idle 15 = .ok (.aload_n 0, 1) := by decide +kernel
theorem dX8_idle_16 : decode cX8_idle 16 = .ok (.getfield 10, 3) := by decide +kernel
theorem dX8_idle_19 : decode cX8_idle 19 = .ok (.getfield 73, 3) := by decide +kernel
theorem dX8_idle_22 : decode cX8_idle 22 = .ok (.iconst 0, 1) := by decide +kernel
theorem dX8_idle_23 : decode cX8_idle 23 = .ok (.invokevirtual 241, 3) := by decide +kernel
theorem dX8_idle_26 : decode cX8_idle 26 = .ok (.iconst 0, 1) := by decide +kernel
theorem dX8_idle_27 : decode cX8_idle 27 = .ok (.istore_n 2, 1) := by decide +kernel
theorem dX8_idle_28 : decode cX8_idle 28 = .ok (.iload_n 2, 1) := by decide +kernel
theorem dX8_idle_29 : decode cX8_idle 29 = .ok (.ldc 251, 2) := by decide +kernel
theorem dX8_idle_31 : decode cX8_idle 31 = .ok (.if_icmp .ge 35, 3) := by decide +kernel
theorem dX8_idle_34 : decode cX8_idle 34 = .ok (.iload_n 1, 1) := by decide +kernel
theorem dX8_idle_35 : decode cX8_idle 35 = .ok (.ifCond .eq 31, 3) := by decide +kernel
theorem dX8_idle_38 : decode cX8_idle 38 = .ok (.aload_n 0, 1) := by decide +kernel
theorem dX8_idle_39 : decode cX8_idle 39 = .ok (.getfield 29, 3) := by decide +kernel
theorem dX8_idle_42 : decode cX8_idle 42 = .ok (.invokevirtual 245, 3) := by decide +kernel
theorem dX8_idle_45 : decode cX8_idle 45 = .ok (.ifCond .eq 21, 3) := by decide +kernel
theorem dX8_idle_48 : decode cX8_idle 48 = .ok (.iload_n 1, 1) := by decide +kernel
theorem dX8_idle_49 : decode cX8_idle 49 = .ok (.aload_n 0, 1) := by decide +kernel
theorem dX8_idle_50 : decode cX8_idle 50 = .ok (.getfield 29, 3) := by decide +kernel
theorem dX8_idle_53 : decode cX8_idle 53 = .ok (.invokevirtual 259, 3) := by decide +kernel
theorem dX8_idle_56 : decode cX8_idle 56 = .ok (.iconst (-1), 1) := by decide +kernel
theorem dX8_idle_57 : decode cX8_idle 57 = .ok (.ixor, 1) := by decide +kernel
theorem dX8_idle_58 : decode cX8_idle 58 = .ok (.iand, 1) := by decide +kernel
theorem dX8_idle_59 : decode cX8_idle 59 = .ok (.istore_n 1, 1) := by decide +kernel
theorem dX8_idle_60 : decode cX8_idle 60 = .ok (.iinc 2 1, 3) := by decide +kernel
theorem dX8_idle_63 : decode cX8_idle 63 = .ok (.goto (-35), 3) := by decide +kernel
theorem dX8_idle_66 : decode cX8_idle 66 = .ok (.iload_n 1, 1) := by decide +kernel
theorem dX8_idle_67 : decode cX8_idle 67 = .ok (.ireturn, 1) := by decide +kernel
theorem dX8_changes_0 : decode cX8_changes 0 = .ok (.aload_n 0, 1) := by decide +kernel
theorem dX8_changes_1 : decode cX8_changes 1 = .ok (.iload_n 1, 1) := by decide +kernel
theorem dX8_changes_2 : decode cX8_changes 2 = .ok (.invokevirtual 197, 3) := by decide +kernel
theorem dX8_changes_5 : decode cX8_changes 5 = .ok (.astore_n 3, 1) := by decide +kernel
theorem dX8_changes_6 : decode cX8_changes 6 = .ok (.aload_n 3, 1) := by decide +kernel
theorem dX8_changes_7 : decode cX8_changes 7 = .ok (.ifnull 17, 3) := by decide +kernel
theorem dX8_changes_10 : decode cX8_changes 10 = .ok (.aload_n 0, 1) := by decide +kernel
theorem dX8_changes_11 : decode cX8_changes 11 = .ok (.getfield 10, 3) := by decide +kernel
theorem dX8_changes_14 : decode cX8_changes 14 = .ok (.getfield 73, 3) := by decide +kernel
theorem dX8_changes_17 : decode cX8_changes 17 = .ok (.iload_n 2, 1) := by decide +kernel
theorem dX8_changes_18 : decode cX8_changes 18 = .ok (.invokevirtual 122, 3) := by decide +kernel
theorem dX8_changes_21 : decode cX8_changes 21 = .ok (.ifCond .ne 9, 3) := by decide +kernel
theorem dX8_changes_24 : decode cX8_changes 24 = .ok (.aload_n 0, 1) := by decide +kernel
theorem dX8_changes_25 : decode cX8_changes 25 = .ok (.iconst 1, 1) := by decide +kernel
theorem dX8_changes_26 : decode cX8_changes 26 = .ok (.invokevirtual 69, 3) := by decide +kernel
theorem dX8_changes_29 : decode cX8_changes 29 = .ok (.ireturn, 1) := by decide +kernel
theorem dX8_changes_30 : decode cX8_changes 30 = .ok (.aload_n 3, 1) := by decide +kernel
theorem dX8_changes_31 : decode cX8_changes 31 = .ok (.invokevirtual 201, 3) := by decide +kernel
theorem dX8_changes_34 : decode cX8_changes 34 = .ok (.ifCond .ne 20, 3) := by decide +kernel
theorem dX8_changes_37 : decode cX8_changes 37 = .ok (.aload_n 3, 1) := by decide +kernel
theorem dX8_changes_38 : decode cX8_changes 38 = .ok (.getfield 262, 3) := by decide +kernel
theorem dX8_changes_41 : decode cX8_changes 41 = .ok (.aload_n 0, 1) := by decide +kernel
theorem dX8_changes_42 : decode cX8_changes 42 = .ok (.getfield 10, 3) := by decide +kernel
theorem dX8_changes_45 : decode cX8_changes 45 = .ok (.getfield 73, 3) := by decide +kernel
theorem dX8_changes_48 : decode cX8_changes 48 = .ok (.getfield 76, 3) := by decide +kernel
theorem dX8_changes_51 : decode cX8_changes 51 = .ok (.if_icmp .eq 9, 3) := by decide +kernel
theorem dX8_changes_54 : decode cX8_changes 54 = .ok (.aload_n 0, 1) := by decide +kernel
theorem dX8_changes_55 : decode cX8_changes 55 = .ok (.iconst 2, 1) := by decide +kernel
theorem dX8_changes_56 : decode cX8_changes 56 = .ok (.invokevirtual 69, 3) := by decide +kernel
theorem dX8_changes_59 : decode cX8_changes 59 = .ok (.ireturn, 1) := by decide +kernel
theorem dX8_changes_60 : decode cX8_changes 60 = .ok (.bipush 6, 2) := by decide +kernel
theorem dX8_changes_62 : decode cX8_changes 62 = .ok (.istore 4, 2) := by decide +kernel
theorem dX8_changes_64 : decode cX8_changes 64 = .ok (.aload_n 0, 1) := by decide +kernel
theorem dX8_changes_65 : decode cX8_changes 65 = .ok (.getfield 29, 3) := by decide +kernel
theorem dX8_changes_68 : decode cX8_changes 68 = .ok (.aload_n 0, 1) := by decide +kernel
theorem dX8_changes_69 : decode cX8_changes 69 = .ok (.getfield 10, 3) := by decide +kernel
theorem dX8_changes_72 : decode cX8_changes 72 = .ok (.getfield 73, 3) := by decide +kernel
theorem dX8_changes_75 : decode cX8_changes 75 = .ok (.iconst 1, 1) := by decide +kernel
theorem dX8_changes_76 : decode cX8_changes 76 = .ok (.iload_n 2, 1) := by decide +kernel
theorem dX8_changes_77 : decode cX8_changes 77 = .ok (.ishl, 1) := by decide +kernel
theorem dX8_changes_78 : decode cX8_changes 78 = .ok (.invokevirtual 241, 3) := by decide +kernel
theorem dX8_changes_81 : decode cX8_changes 81 = .ok (.iconst 0, 1) := by decide +kernel
theorem dX8_changes_82 : decode cX8_changes 82 = .ok (.istore 5, 2) := by decide +kernel
theorem dX8_changes_84 : decode cX8_changes 84 = .ok (.iload 5, 2) := by decide +kernel
theorem dX8_changes_86 : decode cX8_changes 86 = .ok (.ldc 251, 2) := by decide +kernel
theorem dX8_changes_88 : decode cX8_changes 88 = .ok (.if_icmp .ge 42, 3) := by decide +kernel
theorem dX8_changes_91 : decode cX8_changes 91 = .ok (.iload 4, 2) := by decide +kernel
theorem dX8_changes_93 : decode cX8_changes 93 = .ok (.ifCond .le 37, 3) := by decide +kernel
theorem dX8_changes_96 : decode cX8_changes 96 = .ok (.aload_n 0, 1) := by decide +kernel
theorem dX8_changes_97 : decode cX8_changes 97 = .ok (.getfield 29, 3) := by decide +kernel
theorem dX8_changes_100 : decode cX8_changes 100 = .ok (.invokevirtual 245, 3) := by decide +kernel
theorem dX8_changes_103 : decode cX8_changes 103 = .ok (.ifCond .eq 27, 3) := by decide +kernel
theorem dX8_changes_106 : decode cX8_changes 106 = .ok (.iload 4, 2) := by decide +kernel
theorem dX8_changes_108 : decode cX8_changes 108 = .ok (.aload_n 0, 1) := by decide +kernel
theorem dX8_changes_109 : decode cX8_changes 109 = .ok (.getfield 29, 3) := by decide +kernel
theorem dX8_changes_112 : decode cX8_changes 112 = .ok (.aload_n 3, 1) := by decide +kernel
theorem dX8_changes_113 : decode cX8_changes 113 = .ok (.getfield 212, 3) := by decide +kernel
theorem dX8_changes_116 : decode cX8_changes 116 = .ok (.invokevirtual 265, 3) := by decide +kernel
theorem dX8_changes_119 : decode cX8_changes 119 = .ok (.invokestatic 226, 3) := by decide +kernel
theorem dX8_changes_122 : decode cX8_changes 122 = .ok (.istore 4, 2) := by decide +kernel
theorem dX8_changes_124 : decode cX8_changes 124 = .ok (.iinc 5 1, 3) := by decide +kernel
theorem dX8_changes_127 : decode cX8_changes 127 = .ok (.goto (-43), 3) := by decide +kernel
theorem dX8_changes_130 : decode cX8_changes 130 = .ok (.iload 4, 2) := by decide +kernel
theorem dX8_changes_132 : decode cX8_changes 132 = .ok (.iconst 5, 1) := by decide +kernel
theorem dX8_changes_133 : decode cX8_changes 133 = .ok (.if_icmp .gt 8, 3) := by decide +kernel
theorem dX8_changes_136 : decode cX8_changes 136 = .ok (.iload 4, 2) := by decide +kernel
theorem dX8_changes_138 : decode cX8_changes 138 = .ok (.goto 8, 3) := by decide +kernel
theorem dX8_changes_141 : decode cX8_changes 141 = .ok (.aload_n 0, 1) := by decide +kernel
theorem dX8_changes_142 : decode cX8_changes 142 = .ok (.iconst 2, 1) := by decide +kernel
theorem dX8_changes_143 : decode cX8_changes 143 = .ok (.invokevirtual 69, 3) := by decide +kernel
theorem dX8_changes_146 : decode cX8_changes 146 = .ok (.ireturn, 1) := by decide +kernel
theorem dX8_tells_0 : decode cX8_tells 0 = .ok (.iload_n 1, 1) := by decide +kernel
theorem dX8_tells_1 : decode cX8_tells 1 = .ok (.iconst 0, 1) := by decide +kernel
theorem dX8_tells_2 : decode cX8_tells 2 = .ok (.aload_n 0, 1) := by decide +kernel
theorem dX8_tells_3 : decode cX8_tells 3 = .ok (.getfield 10, 3) := by decide +kernel
theorem dX8_tells_6 : decode cX8_tells 6 = .ok (.getfield 73, 3) := by decide +kernel
theorem dX8_tells_9 : decode cX8_tells 9 = .ok (.invokevirtual 256, 3) := by decide +kernel
theorem dX8_tells_12 : decode cX8_tells 12 = .ok (.invokestatic 65, 3) := by decide +kernel
theorem dX8_tells_15 : decode cX8_tells 15 = .ok (.ifCond .ne 9, 3) := by decide +kernel
theorem dX8_tells_18 : decode cX8_tells 18 = .ok (.aload_n 0, 1) := by decide +kernel
theorem dX8_tells_19 : decode cX8_tells 19 = .ok (.iconst 1, 1) := by decide +kernel
theorem dX8_tells_20 : decode cX8_tells 20 = .ok (.invokevirtual 69, 3) := by decide +kernel
theorem dX8_tells_23 : decode cX8_tells 23 = .ok (.ireturn, 1) := by decide +kernel
theorem dX8_tells_24 : decode cX8_tells 24 = .ok (.iconst 0, 1) := by decide +kernel
theorem dX8_tells_25 : decode cX8_tells 25 = .ok (.istore_n 2, 1) := by decide +kernel
theorem dX8_tells_26 : decode cX8_tells 26 = .ok (.iconst 0, 1) := by decide +kernel
theorem dX8_tells_27 : decode cX8_tells 27 = .ok (.istore_n 3, 1) := by decide +kernel
theorem dX8_tells_28 : decode cX8_tells 28 = .ok (.iload_n 3, 1) := by decide +kernel
theorem dX8_tells_29 : decode cX8_tells 29 = .ok (.aload_n 0, 1) := by decide +kernel
theorem dX8_tells_30 : decode cX8_tells 30 = .ok (.getfield 10, 3) := by decide +kernel
theorem dX8_tells_33 : decode cX8_tells 33 = .ok (.getfield 73, 3) := by decide +kernel
theorem dX8_tells_36 : decode cX8_tells 36 = .ok (.getfield 116, 3) := by decide +kernel
theorem dX8_tells_39 : decode cX8_tells 39 = .ok (.if_icmp .ge 33, 3) := by decide +kernel
theorem dX8_tells_42 : decode cX8_tells 42 = .ok (.iload_n 1, 1) := by decide +kernel
theorem dX8_tells_43 : decode cX8_tells 43 = .ok (.iload_n 3, 1) := by decide +kernel
theorem dX8_tells_44 : decode cX8_tells 44 = .ok (.ishr, 1) := by decide +kernel
theorem dX8_tells_45 : decode cX8_tells 45 = .ok (.iconst 1, 1) := by decide +kernel
theorem dX8_tells_46 : decode cX8_tells 46 = .ok (.iand, 1) := by decide +kernel
theorem dX8_tells_47 : decode cX8_tells 47 = .ok (.iconst 1, 1) := by decide +kernel
theorem dX8_tells_48 : decode cX8_tells 48 = .ok (.if_icmp .ne 18, 3) := by decide +kernel
theorem dX8_tells_51 : decode cX8_tells 51 = .ok (.iload_n 2, 1) := by decide +kernel
theorem dX8_tells_52 : decode cX8_tells 52 = .ok (.aload_n 0, 1) := by decide +kernel
theorem dX8_tells_53 : decode cX8_tells 53 = .ok (.getfield 10, 3) := by decide +kernel
theorem dX8_tells_56 : decode cX8_tells 56 = .ok (.getfield 73, 3) := by decide +kernel
theorem dX8_tells_59 : decode cX8_tells 59 = .ok (.getfield 125, 3) := by decide +kernel
theorem dX8_tells_62 : decode cX8_tells 62 = .ok (.iload_n 3, 1) := by decide +kernel
theorem dX8_tells_63 : decode cX8_tells 63 = .ok (.iaload, 1) := by decide +kernel
theorem dX8_tells_64 : decode cX8_tells 64 = .ok (.ior, 1) := by decide +kernel
theorem dX8_tells_65 : decode cX8_tells 65 = .ok (.istore_n 2, 1) := by decide +kernel
theorem dX8_tells_66 : decode cX8_tells 66 = .ok (.iinc 3 1, 3) := by decide +kernel
theorem dX8_tells_69 : decode cX8_tells 69 = .ok (.goto (-41), 3) := by decide +kernel
theorem dX8_tells_72 : decode cX8_tells 72 = .ok (.iload_n 2, 1) := by decide +kernel
theorem dX8_tells_73 : decode cX8_tells 73 = .ok (.ireturn, 1) := by decide +kernel
theorem dX8_fits_0 : decode cX8_fits 0 = .ok (.aload_n 0, 1) := by decide +kernel
theorem dX8_fits_1 : decode cX8_fits 1 = .ok (.iload_n 1, 1) := by decide +kernel
theorem dX8_fits_2 : decode cX8_fits 2 = .ok (.invokevirtual 197, 3) := by decide +kernel
theorem dX8_fits_5 : decode cX8_fits 5 = .ok (.astore_n 3, 1) := by decide +kernel
theorem dX8_fits_6 : decode cX8_fits 6 = .ok (.aload_n 3, 1) := by decide +kernel
theorem dX8_fits_7 : decode cX8_fits 7 = .ok (.ifnull 23, 3) := by decide +kernel
theorem dX8_fits_10 : decode cX8_fits 10 = .ok (.iload_n 2, 1) := by decide +kernel
theorem dX8_fits_11 : decode cX8_fits 11 = .ok (.iconst (-1), 1) := by decide +kernel
theorem dX8_fits_12 : decode cX8_fits 12 = .ok (.aload_n 0, 1) := by decide +kernel
theorem dX8_fits_13 : decode cX8_fits 13 = .ok (.getfield 10, 3) := by decide +kernel
theorem dX8_fits_16 : decode cX8_fits 16 = .ok (.getfield 73, 3) := by decide +kernel
theorem dX8_fits_19 : decode cX8_fits 19 = .ok (.getfield 76, 3) := by decide +kernel
theorem dX8_fits_22 : decode cX8_fits 22 = .ok (.iconst 1, 1) := by decide +kernel
theorem dX8_fits_23 : decode cX8_fits 23 = .ok (.isub, 1) := by decide +kernel
theorem dX8_fits_24 : decode cX8_fits 24 = .ok (.invokestatic 65, 3) := by decide +kernel
theorem dX8_fits_27 : decode cX8_fits 27 = .ok (.ifCond .ne 9, 3) := by decide +kernel
theorem dX8_fits_30 : decode cX8_fits 30 = .ok (.aload_n 0, 1) := by decide +kernel
theorem dX8_fits_31 : decode cX8_fits 31 = .ok (.iconst 1, 1) := by decide +kernel
theorem dX8_fits_32 : decode cX8_fits 32 = .ok (.invokevirtual 69, 3) := by decide +kernel
theorem dX8_fits_35 : decode cX8_fits 35 = .ok (.ireturn, 1) := by decide +kernel
theorem dX8_fits_36 : decode cX8_fits 36 = .ok (.aload_n 3, 1) := by decide +kernel
theorem dX8_fits_37 : decode cX8_fits 37 = .ok (.invokevirtual 201, 3) := by decide +kernel
theorem dX8_fits_40 : decode cX8_fits 40 = .ok (.ifCond .ne 20, 3) := by decide +kernel
theorem dX8_fits_43 : decode cX8_fits 43 = .ok (.aload_n 3, 1) := by decide +kernel
theorem dX8_fits_44 : decode cX8_fits 44 = .ok (.getfield 262, 3) := by decide +kernel
theorem dX8_fits_47 : decode cX8_fits 47 = .ok (.aload_n 0, 1) := by decide +kernel
theorem dX8_fits_48 : decode cX8_fits 48 = .ok (.getfield 10, 3) := by decide +kernel
theorem dX8_fits_51 : decode cX8_fits 51 = .ok (.getfield 73, 3) := by decide +kernel
theorem dX8_fits_54 : decode cX8_fits 54 = .ok (.getfield 116, 3) := by decide +kernel
theorem dX8_fits_57 : decode cX8_fits 57 = .ok (.if_icmp .eq 9, 3) := by decide +kernel
theorem dX8_fits_60 : decode cX8_fits 60 = .ok (.aload_n 0, 1) := by decide +kernel
theorem dX8_fits_61 : decode cX8_fits 61 = .ok (.iconst 2, 1) := by decide +kernel
theorem dX8_fits_62 : decode cX8_fits 62 = .ok (.invokevirtual 69, 3) := by decide +kernel
theorem dX8_fits_65 : decode cX8_fits 65 = .ok (.ireturn, 1) := by decide +kernel
theorem dX8_fits_66 : decode cX8_fits 66 = .ok (.aload_n 0, 1) := by decide +kernel
theorem dX8_fits_67 : decode cX8_fits 67 = .ok (.invokevirtual 269, 3) := by decide +kernel
theorem dX8_fits_70 : decode cX8_fits 70 = .ok (.iconst 0, 1) := by decide +kernel
theorem dX8_fits_71 : decode cX8_fits 71 = .ok (.istore 4, 2) := by decide +kernel
theorem dX8_fits_73 : decode cX8_fits 73 = .ok (.aload_n 0, 1) := by decide +kernel
theorem dX8_fits_74 : decode cX8_fits 74 = .ok (.getfield 29, 3) := by decide +kernel
theorem dX8_fits_77 : decode cX8_fits 77 = .ok (.aload_n 0, 1) := by decide +kernel
theorem dX8_fits_78 : decode cX8_fits 78 = .ok (.getfield 10, 3) := by decide +kernel
theorem dX8_fits_81 : decode cX8_fits 81 = .ok (.getfield 73, 3) := by decide +kernel
theorem dX8_fits_84 : decode cX8_fits 84 = .ok (.iconst 0, 1) := by decide +kernel
theorem dX8_fits_85 : decode cX8_fits 85 = .ok (.invokevirtual 241, 3) := by decide +kernel
theorem dX8_fits_88 : decode cX8_fits 88 = .ok (.iconst 0, 1) := by decide +kernel
theorem dX8_fits_89 : decode cX8_fits 89 = .ok (.istore 5, 2) := by decide +kernel
theorem dX8_fits_91 : decode cX8_fits 91 = .ok (.iload 5, 2) := by decide +kernel
theorem dX8_fits_93 : decode cX8_fits 93 = .ok (.ldc 251, 2) := by decide +kernel
theorem dX8_fits_95 : decode cX8_fits 95 = .ok (.if_icmp .ge 44, 3) := by decide +kernel
theorem dX8_fits_98 : decode cX8_fits 98 = .ok (.aload_n 0, 1) := by decide +kernel
theorem dX8_fits_99 : decode cX8_fits 99 = .ok (.getfield 29, 3) := by decide +kernel
theorem dX8_fits_102 : decode cX8_fits 102 = .ok (.invokevirtual 245, 3) := by decide +kernel
theorem dX8_fits_105 : decode cX8_fits 105 = .ok (.ifCond .eq 34, 3) := by decide +kernel
theorem dX8_fits_108 : decode cX8_fits 108 = .ok (.aload_n 0, 1) := by decide +kernel
theorem dX8_fits_109 : decode cX8_fits 109 = .ok (.aload_n 3, 1) := by decide +kernel
theorem dX8_fits_110 : decode cX8_fits 110 = .ok (.invokevirtual 272, 3) := by decide +kernel
theorem dX8_fits_113 : decode cX8_fits 113 = .ok (.ifCond .eq 20, 3) := by decide +kernel
theorem dX8_fits_116 : decode cX8_fits 116 = .ok (.iload_n 2, 1) := by decide +kernel
theorem dX8_fits_117 : decode cX8_fits 117 = .ok (.ifCond .lt 13, 3) := by decide +kernel
theorem dX8_fits_120 : decode cX8_fits 120 = .ok (.aload_n 0, 1) := by decide +kernel
theorem dX8_fits_121 : decode cX8_fits 121 = .ok (.getfield 29, 3) := by decide +kernel
theorem dX8_fits_124 : decode cX8_fits 124 = .ok (.getfield 248, 3) := by decide +kernel
theorem dX8_fits_127 : decode cX8_fits 127 = .ok (.iload_n 2, 1) := by decide +kernel
theorem dX8_fits_128 : decode cX8_fits 128 = .ok (.iaload, 1) := by decide +kernel
theorem dX8_fits_129 : decode cX8_fits 129 = .ok (.ireturn, 1) := by decide +kernel
theorem dX8_fits_130 : decode cX8_fits 130 = .ok (.iinc 4 1, 3) := by decide +kernel
theorem dX8_fits_133 : decode cX8_fits 133 = .ok (.iinc 5 1, 3) := by decide +kernel
theorem dX8_fits_136 : decode cX8_fits 136 = .ok (.goto (-45), 3) := by decide +kernel
theorem dX8_fits_139 : decode cX8_fits 139 = .ok (.iload_n 2, 1) := by decide +kernel
theorem dX8_fits_140 : decode cX8_fits 140 = .ok (.ifCond .lt 11, 3) := by decide +kernel
theorem dX8_fits_143 : decode cX8_fits 143 = .ok (.aload_n 0, 1) := by decide +kernel
theorem dX8_fits_144 : decode cX8_fits 144 = .ok (.iconst 2, 1) := by decide +kernel
theorem dX8_fits_145 : decode cX8_fits 145 = .ok (.invokevirtual 69, 3) := by decide +kernel
theorem dX8_fits_148 : decode cX8_fits 148 = .ok (.goto 5, 3) := by decide +kernel
theorem dX8_fits_151 : decode cX8_fits 151 = .ok (.iload 4, 2) := by decide +kernel
theorem dX8_fits_153 : decode cX8_fits 153 = .ok (.ireturn, 1) := by decide +kernel
theorem dX8_spare_0 : decode cX8_spare 0 = .ok (.iload_n 1, 1) := by decide +kernel
theorem dX8_spare_1 : decode cX8_spare 1 = .ok (.iconst 0, 1) := by decide +kernel
theorem dX8_spare_2 : decode cX8_spare 2 = .ok (.aload_n 0, 1) := by decide +kernel
theorem dX8_spare_3 : decode cX8_spare 3 = .ok (.getfield 10, 3) := by decide +kernel
theorem dX8_spare_6 : decode cX8_spare 6 = .ok (.getfield 73, 3) := by decide +kernel
theorem dX8_spare_9 : decode cX8_spare 9 = .ok (.invokevirtual 143, 3) := by decide +kernel
theorem dX8_spare_12 : decode cX8_spare 12 = .ok (.invokestatic 65, 3) := by decide +kernel
theorem dX8_spare_15 : decode cX8_spare 15 = .ok (.ifCond .ne 9, 3) := by decide +kernel
theorem dX8_spare_18 : decode cX8_spare 18 = .ok (.aload_n 0, 1) := by decide +kernel
theorem dX8_spare_19 : decode cX8_spare 19 = .ok (.iconst 1, 1) := by decide +kernel
theorem dX8_spare_20 : decode cX8_spare 20 = .ok (.invokevirtual 69, 3) := by decide +kernel
theorem dX8_spare_23 : decode cX8_spare 23 = .ok (.ireturn, 1) := by decide +kernel
theorem dX8_spare_24 : decode cX8_spare 24 = .ok (.aload_n 0, 1) := by decide +kernel
theorem dX8_spare_25 : decode cX8_spare 25 = .ok (.getfield 10, 3) := by decide +kernel
theorem dX8_spare_28 : decode cX8_spare 28 = .ok (.getfield 73, 3) := by decide +kernel
theorem dX8_spare_31 : decode cX8_spare 31 = .ok (.getfield 116, 3) := by decide +kernel
theorem dX8_spare_34 : decode cX8_spare 34 = .ok (.bipush 6, 2) := by decide +kernel
theorem dX8_spare_36 : decode cX8_spare 36 = .ok (.if_icmp .lt 9, 3) := by decide +kernel
theorem dX8_spare_39 : decode cX8_spare 39 = .ok (.aload_n 0, 1) := by decide +kernel
theorem dX8_spare_40 : decode cX8_spare 40 = .ok (.iconst 4, 1) := by decide +kernel
theorem dX8_spare_41 : decode cX8_spare 41 = .ok (.invokevirtual 69, 3) := by decide +kernel
theorem dX8_spare_44 : decode cX8_spare 44 = .ok (.ireturn, 1) := by decide +kernel
theorem dX8_spare_45 : decode cX8_spare 45 = .ok (.aload_n 0, 1) := by decide +kernel
theorem dX8_spare_46 : decode cX8_spare 46 = .ok (.aload_n 0, 1) := by decide +kernel
theorem dX8_spare_47 : decode cX8_spare 47 = .ok (.invokevirtual 252, 3) := by decide +kernel
theorem dX8_spare_50 : decode cX8_spare 50 = .ok (.bipush 60, 2) := by decide +kernel
theorem dX8_spare_52 : decode cX8_spare 52 = .ok (.invokevirtual 231, 3) := by decide +kernel
theorem dX8_spare_55 : decode cX8_spare 55 = .ok (.istore_n 2, 1) := by decide +kernel
theorem dX8_spare_56 : decode cX8_spare 56 = .ok (.aload_n 0, 1) := by decide +kernel
theorem dX8_spare_57 : decode cX8_spare 57 = .ok (.invokevirtual 252, 3) := by decide +kernel
theorem dX8_spare_60 : decode cX8_spare 60 = .ok (.astore_n 3, 1) := by decide +kernel
theorem dX8_spare_61 : decode cX8_spare 61 = .ok (.aload_n 3, 1) := by decide +kernel
theorem dX8_spare_62 : decode cX8_spare 62 = .ok (.iconst (-1), 1) := by decide +kernel
theorem dX8_spare_63 : decode cX8_spare 63 = .ok (.iload_n 1, 1) := by decide +kernel
theorem dX8_spare_64 : decode cX8_spare 64 = .ok (.invokevirtual 119, 3) := by decide +kernel
theorem dX8_spare_67 : decode cX8_spare 67 = .ok (.pop, 1) := by decide +kernel
theorem dX8_spare_68 : decode cX8_spare 68 = .ok (.aload_n 0, 1) := by decide +kernel
theorem dX8_spare_69 : decode cX8_spare 69 = .ok (.aload_n 3, 1) := by decide +kernel
theorem dX8_spare_70 : decode cX8_spare 70 = .ok (.bipush 60, 2) := by decide +kernel
theorem dX8_spare_72 : decode cX8_spare 72 = .ok (.invokevirtual 231, 3) := by decide +kernel
theorem dX8_spare_75 : decode cX8_spare 75 = .ok (.iload_n 2, 1) := by decide +kernel
theorem dX8_spare_76 : decode cX8_spare 76 = .ok (.isub, 1) := by decide +kernel
theorem dX8_spare_77 : decode cX8_spare 77 = .ok (.ireturn, 1) := by decide +kernel
theorem dX8_seed_0 : decode cX8_seed 0 = .ok (.aload_n 0, 1) := by decide +kernel
theorem dX8_seed_1 : decode cX8_seed 1 = .ok (.getfield 10, 3) := by decide +kernel
theorem dX8_seed_4 : decode cX8_seed 4 = .ok (.getfield 276, 3) := by decide +kernel
theorem dX8_seed_7 : decode cX8_seed 7 = .ok (.istore_n 2, 1) := by decide +kernel
theorem dX8_seed_8 : decode cX8_seed 8 = .ok (.aload_n 0, 1) := by decide +kernel
theorem dX8_seed_9 : decode cX8_seed 9 = .ok (.getfield 10, 3) := by decide +kernel
theorem dX8_seed_12 : decode cX8_seed 12 = .ok (.iload_n 1, 1) := by decide +kernel
theorem dX8_seed_13 : decode cX8_seed 13 = .ok (.putfield 276, 3) := by decide +kernel
theorem dX8_seed_16 : decode cX8_seed 16 = .ok (.iload_n 2, 1) := by decide +kernel
theorem dX8_seed_17 : decode cX8_seed 17 = .ok (.ireturn, 1) := by decide +kernel
theorem dX8_voice_0 : decode cX8_voice 0 = .ok (.aload_n 0, 1) := by decide +kernel
theorem dX8_voice_1 : decode cX8_voice 1 = .ok (.getfield 10, 3) := by decide +kernel
theorem dX8_voice_4 : decode cX8_voice 4 = .ok (.getfield 73, 3) := by decide +kernel
theorem dX8_voice_7 : decode cX8_voice 7 = .ok (.iload_n 1, 1) := by decide +kernel
theorem dX8_voice_8 : decode cX8_voice 8 = .ok (.invokevirtual 84, 3) := by decide +kernel
theorem dX8_voice_11 : decode cX8_voice 11 = .ok (.ifCond .eq 12, 3) := by decide +kernel
theorem dX8_voice_14 : decode cX8_voice 14 = .ok (.iload_n 2, 1) := by decide +kernel
theorem dX8_voice_15 : decode cX8_voice 15 = .ok (.iconst 0, 1) := by decide +kernel
theorem dX8_voice_16 : decode cX8_voice 16 = .ok (.iconst 3, 1) := by decide +kernel
theorem dX8_voice_17 : decode cX8_voice 17 = .ok (.invokestatic 65, 3) := by decide +kernel
theorem dX8_voice_20 : decode cX8_voice 20 = .ok (.ifCond .ne 9, 3) := by decide +kernel
theorem dX8_voice_23 : decode cX8_voice 23 = .ok (.aload_n 0, 1) := by decide +kernel
theorem dX8_voice_24 : decode cX8_voice 24 = .ok (.iconst 1, 1) := by decide +kernel
theorem dX8_voice_25 : decode cX8_voice 25 = .ok (.invokevirtual 69, 3) := by decide +kernel
theorem dX8_voice_28 : decode cX8_voice 28 = .ok (.ireturn, 1) := by decide +kernel
theorem dX8_voice_29 : decode cX8_voice 29 = .ok (.aload_n 0, 1) := by decide +kernel
theorem dX8_voice_30 : decode cX8_voice 30 = .ok (.getfield 43, 3) := by decide +kernel
theorem dX8_voice_33 : decode cX8_voice 33 = .ok (.aload_n 0, 1) := by decide +kernel
theorem dX8_voice_34 : decode cX8_voice 34 = .ok (.getfield 10, 3) := by decide +kernel
theorem dX8_voice_37 : decode cX8_voice 37 = .ok (.getfield 73, 3) := by decide +kernel
theorem dX8_voice_40 : decode cX8_voice 40 = .ok (.getfield 87, 3) := by decide +kernel
theorem dX8_voice_43 : decode cX8_voice 43 = .ok (.iload_n 1, 1) := by decide +kernel
theorem dX8_voice_44 : decode cX8_voice 44 = .ok (.iaload, 1) := by decide +kernel
theorem dX8_voice_45 : decode cX8_voice 45 = .ok (.iload_n 1, 1) := by decide +kernel
theorem dX8_voice_46 : decode cX8_voice 46 = .ok (.aload_n 0, 1) := by decide +kernel
theorem dX8_voice_47 : decode cX8_voice 47 = .ok (.getfield 10, 3) := by decide +kernel
theorem dX8_voice_50 : decode cX8_voice 50 = .ok (.getfield 73, 3) := by decide +kernel
theorem dX8_voice_53 : decode cX8_voice 53 = .ok (.getfield 90, 3) := by decide +kernel
theorem dX8_voice_56 : decode cX8_voice 56 = .ok (.iload_n 1, 1) := by decide +kernel
theorem dX8_voice_57 : decode cX8_voice 57 = .ok (.iaload, 1) := by decide +kernel
theorem dX8_voice_58 : decode cX8_voice 58 = .ok (.iload_n 2, 1) := by decide +kernel
theorem dX8_voice_59 : decode cX8_voice 59 = .ok (.iload_n 3, 1) := by decide +kernel
theorem dX8_voice_60 : decode cX8_voice 60 = .ok (.invokevirtual 279, 3) := by decide +kernel
theorem dX8_voice_63 : decode cX8_voice 63 = .ok (.ireturn, 1) := by decide +kernel
theorem dX8_trace_0 : decode cX8_trace 0 = .ok (.iload_n 1, 1) := by decide +kernel
theorem dX8_trace_1 : decode cX8_trace 1 = .ok (.iconst 0, 1) := by decide +kernel
theorem dX8_trace_2 : decode cX8_trace 2 = .ok (.aload_n 0, 1) := by decide +kernel
theorem dX8_trace_3 : decode cX8_trace 3 = .ok (.getfield 43, 3) := by decide +kernel
theorem dX8_trace_6 : decode cX8_trace 6 = .ok (.getfield 283, 3) := by decide +kernel
theorem dX8_trace_9 : decode cX8_trace 9 = .ok (.getfield 161, 3) := by decide +kernel
theorem dX8_trace_12 : decode cX8_trace 12 = .ok (.iconst 1, 1) := by decide +kernel
theorem dX8_trace_13 : decode cX8_trace 13 = .ok (.isub, 1) := by decide +kernel
theorem dX8_trace_14 : decode cX8_trace 14 = .ok (.invokestatic 65, 3) := by decide +kernel
theorem dX8_trace_17 : decode cX8_trace 17 = .ok (.ifCond .ne 9, 3) := by decide +kernel
theorem dX8_trace_20 : decode cX8_trace 20 = .ok (.aload_n 0, 1) := by decide +kernel
theorem dX8_trace_21 : decode cX8_trace 21 = .ok (.iconst 2, 1) := by decide +kernel
theorem dX8_trace_22 : decode cX8_trace 22 = .ok (.invokevirtual 69, 3) := by decide +kernel
theorem dX8_trace_25 : decode cX8_trace 25 = .ok (.ireturn, 1) := by decide +kernel
theorem dX8_trace_26 : decode cX8_trace 26 = .ok (.aload_n 0, 1) := by decide +kernel
theorem dX8_trace_27 : decode cX8_trace 27 = .ok (.getfield 43, 3) := by decide +kernel
theorem dX8_trace_30 : decode cX8_trace 30 = .ok (.getfield 283, 3) := by decide +kernel
theorem dX8_trace_33 : decode cX8_trace 33 = .ok (.getfield 286, 3) := by decide +kernel
theorem dX8_trace_36 : decode cX8_trace 36 = .ok (.iload_n 1, 1) := by decide +kernel
theorem dX8_trace_37 : decode cX8_trace 37 = .ok (.iaload, 1) := by decide +kernel
theorem dX8_trace_38 : decode cX8_trace 38 = .ok (.ireturn, 1) := by decide +kernel
theorem dX8_sheet_0 : decode cX8_sheet 0 = .ok (.aload_n 0, 1) := by decide +kernel
theorem dX8_sheet_1 : decode cX8_sheet 1 = .ok (.iload_n 1, 1) := by decide +kernel
theorem dX8_sheet_2 : decode cX8_sheet 2 = .ok (.invokevirtual 197, 3) := by decide +kernel
theorem dX8_sheet_5 : decode cX8_sheet 5 = .ok (.astore 4, 2) := by decide +kernel
theorem dX8_sheet_7 : decode cX8_sheet 7 = .ok (.aload 4, 2) := by decide +kernel
theorem dX8_sheet_9 : decode cX8_sheet 9 = .ok (.ifnull 25, 3) := by decide +kernel
theorem dX8_sheet_12 : decode cX8_sheet 12 = .ok (.iload_n 2, 1) := by decide +kernel
theorem dX8_sheet_13 : decode cX8_sheet 13 = .ok (.ifCond .eq 27, 3) := by decide +kernel
theorem dX8_sheet_16 : decode cX8_sheet 16 = .ok (.iload_n 2, 1) := by decide +kernel
theorem dX8_sheet_17 : decode cX8_sheet 17 = .ok (.bipush 8, 2) := by decide +kernel
theorem dX8_sheet_19 : decode cX8_sheet 19 = .ok (.if_icmp .eq 21, 3) := by decide +kernel
theorem dX8_sheet_22 : decode cX8_sheet 22 = .ok (.iload_n 2, 1) := by decide +kernel
theorem dX8_sheet_23 : decode cX8_sheet 23 = .ok (.bipush 16, 2) := by decide +kernel
theorem dX8_sheet_25 : decode cX8_sheet 25 = .ok (.if_icmp .eq 15, 3) := by decide +kernel
theorem dX8_sheet_28 : decode cX8_sheet 28 = .ok (.iload_n 2, 1) := by decide +kernel
theorem dX8_sheet_29 : decode cX8_sheet 29 = .ok (.bipush 32, 2) := by decide +kernel
theorem dX8_sheet_31 : decode cX8_sheet 31 = .ok (.if_icmp .eq 9, 3) := by decide +kernel
theorem dX8_sheet_34 : decode cX8_sheet 34 = .ok (.aload_n 0, 1) := by decide +kernel
theorem dX8_sheet_35 : decode cX8_sheet 35 = .ok (.iconst 1, 1) := by decide +kernel
theorem dX8_sheet_36 : decode cX8_sheet 36 = .ok (.invokevirtual 69, 3) := by decide +kernel
theorem dX8_sheet_39 : decode cX8_sheet 39 = .ok (.ireturn, 1) := by decide +kernel
theorem dX8_sheet_40 : decode cX8_sheet 40 = .ok (.iload_n 2, 1) := by decide +kernel
theorem dX8_sheet_41 : decode cX8_sheet 41 = .ok (.ifCond .eq 13, 3) := by decide +kernel
theorem dX8_sheet_44 : decode cX8_sheet 44 = .ok (.iload_n 3, 1) := by decide +kernel
theorem dX8_sheet_45 : decode cX8_sheet 45 = .ok (.ifCond .ge 9, 3) := by decide +kernel
theorem dX8_sheet_48 : decode cX8_sheet 48 = .ok (.aload_n 0, 1) := by decide +kernel
theorem dX8_sheet_49 : decode cX8_sheet 49 = .ok (.iconst 3, 1) := by decide +kernel
theorem dX8_sheet_50 : decode cX8_sheet 50 = .ok (.invokevirtual 69, 3) := by decide +kernel
theorem dX8_sheet_53 : decode cX8_sheet 53 = .ok (.ireturn, 1) := by decide +kernel
theorem dX8_sheet_54 : decode cX8_sheet 54 = .ok (.iload_n 2, 1) := by decide +kernel
theorem dX8_sheet_55 : decode cX8_sheet 55 = .ok (.ifCond .eq 15, 3) := by decide +kernel
theorem dX8_sheet_58 : decode cX8_sheet 58 = .ok (.iload_n 3, 1) := by decide +kernel
theorem dX8_sheet_59 : decode cX8_sheet 59 = .ok (.bipush 40, 2) := by decide +kernel
theorem dX8_sheet_61 : decode cX8_sheet 61 = .ok (.if_icmp .le 9, 3) := by decide +kernel
theorem dX8_sheet_64 : decode cX8_sheet 64 = .ok (.aload_n 0, 1) := by decide +kernel
theorem dX8_sheet_65 : decode cX8_sheet 65 = .ok (.iconst 1, 1) := by decide +kernel
theorem dX8_sheet_66 : decode cX8_sheet 66 = .ok (.invokevirtual 69, 3) := by decide +kernel
theorem dX8_sheet_69 : decode cX8_sheet 69 = .ok (.ireturn, 1) := by decide +kernel
theorem dX8_sheet_70 : decode cX8_sheet 70 = .ok (.aload 4, 2) := by decide +kernel
theorem dX8_sheet_72 : decode cX8_sheet 72 = .ok (.iload_n 2, 1) := by decide +kernel
theorem dX8_sheet_73 : decode cX8_sheet 73 = .ok (.iload_n 2, 1) := by decide +kernel
theorem dX8_sheet_74 : decode cX8_sheet 74 = .ok (.ifCond .ne 7, 3) := by decide +kernel
theorem dX8_sheet_77 : decode cX8_sheet 77 = .ok (.iconst 0, 1) := by decide +kernel
theorem dX8_sheet_78 : decode cX8_sheet 78 = .ok (.goto 4, 3) := by decide +kernel
theorem dX8_sheet_81 : decode cX8_sheet 81 = .ok (.iload_n 3, 1) := by decide +kernel
theorem dX8_sheet_82 : decode cX8_sheet 82 = .ok (.invokevirtual 289, 3) := by decide +kernel
theorem dX8_sheet_85 : decode cX8_sheet 85 = .ok (.iconst 1, 1) := by decide +kernel
theorem dX8_sheet_86 : decode cX8_sheet 86 = .ok (.ireturn, 1) := by decide +kernel
theorem dX8_put_0 : decode cX8_put 0 = .ok (.aload_n 0, 1) := by decide +kernel
theorem dX8_put_1 : decode cX8_put 1 = .ok (.iload_n 1, 1) := by decide +kernel
theorem dX8_put_2 : decode cX8_put 2 = .ok (.invokevirtual 197, 3) := by decide +kernel
theorem dX8_put_5 : decode cX8_put 5 = .ok (.astore 4, 2) := by decide +kernel
theorem dX8_put_7 : decode cX8_put 7 = .ok (.aload 4, 2) := by decide +kernel
theorem dX8_put_9 : decode cX8_put 9 = .ok (.ifnonnull 9, 3) := by decide +kernel
theorem dX8_put_12 : decode cX8_put 12 = .ok (.aload_n 0, 1) := by decide +kernel
theorem dX8_put_13 : decode cX8_put 13 = .ok (.iconst 1, 1) := by decide +kernel
theorem dX8_put_14 : decode cX8_put 14 = .ok (.invokevirtual 69, 3) := by decide +kernel
theorem dX8_put_17 : decode cX8_put 17 = .ok (.ireturn, 1) := by decide +kernel
theorem dX8_put_18 : decode cX8_put 18 = .ok (.aload 4, 2) := by decide +kernel
theorem dX8_put_20 : decode cX8_put 20 = .ok (.invokevirtual 201, 3) := by decide +kernel
theorem dX8_put_23 : decode cX8_put 23 = .ok (.ifCond .eq 9, 3) := by decide +kernel
theorem dX8_put_26 : decode cX8_put 26 = .ok (.aload_n 0, 1) := by decide +kernel
theorem dX8_put_27 : decode cX8_put 27 = .ok (.iconst 2, 1) := by decide +kernel
theorem dX8_put_28 : decode cX8_put 28 = .ok (.invokevirtual 69, 3) := by decide +kernel
theorem dX8_put_31 : decode cX8_put 31 = .ok (.ireturn, 1) := by decide +kernel
theorem dX8_put_32 : decode cX8_put 32 = .ok (.iload_n 2, 1) := by decide +kernel
theorem dX8_put_33 : decode cX8_put 33 = .ok (.iconst 0, 1) := by decide +kernel
theorem dX8_put_34 : decode cX8_put 34 = .ok (.aload 4, 2) := by decide +kernel
theorem dX8_put_36 : decode cX8_put 36 = .ok (.getfield 262, 3) := by decide +kernel
theorem dX8_put_39 : decode cX8_put 39 = .ok (.iconst 1, 1) := by decide +kernel
theorem dX8_put_40 : decode cX8_put 40 = .ok (.isub, 1) := by decide +kernel
theorem dX8_put_41 : decode cX8_put 41 = .ok (.invokestatic 65, 3) := by decide +kernel
theorem dX8_put_44 : decode cX8_put 44 = .ok (.ifCond .ne 9, 3) := by decide +kernel
theorem dX8_put_47 : decode cX8_put 47 = .ok (.aload_n 0, 1) := by decide +kernel
theorem dX8_put_48 : decode cX8_put 48 = .ok (.iconst 1, 1) := by decide +kernel
theorem dX8_put_49 : decode cX8_put 49 = .ok (.invokevirtual 69, 3) := by decide +kernel
theorem dX8_put_52 : decode cX8_put 52 = .ok (.ireturn, 1) := by decide +kernel
theorem dX8_put_53 : decode cX8_put 53 = .ok (.aload 4, 2) := by decide +kernel
theorem dX8_put_55 : decode cX8_put 55 = .ok (.getfield 212, 3) := by decide +kernel
theorem dX8_put_58 : decode cX8_put 58 = .ok (.iload_n 2, 1) := by decide +kernel
theorem dX8_put_59 : decode cX8_put 59 = .ok (.aload 4, 2) := by decide +kernel
theorem dX8_put_61 : decode cX8_put 61 = .ok (.iload_n 3, 1) := by decide +kernel
theorem dX8_put_62 : decode cX8_put 62 = .ok (.invokevirtual 292, 3) := by decide +kernel
theorem dX8_put_65 : decode cX8_put 65 = .ok (.iastore, 1) := by decide +kernel
theorem dX8_put_66 : decode cX8_put 66 = .ok (.iconst 1, 1) := by decide +kernel
theorem dX8_put_67 : decode cX8_put 67 = .ok (.ireturn, 1) := by decide +kernel
theorem dX8_move_0 : decode cX8_move 0 = .ok (.aload_n 0, 1) := by decide +kernel
theorem dX8_move_1 : decode cX8_move 1 = .ok (.iload_n 1, 1) := by decide +kernel
theorem dX8_move_2 : decode cX8_move 2 = .ok (.invokevirtual 197, 3) := by decide +kernel
theorem dX8_move_5 : decode cX8_move 5 = .ok (.astore 6, 2) := by decide +kernel
theorem dX8_move_7 : decode cX8_move 7 = .ok (.aload_n 0, 1) := by decide +kernel
theorem dX8_move_8 : decode cX8_move 8 = .ok (.iload_n 3, 1) := by decide +kernel
theorem dX8_move_9 : decode cX8_move 9 = .ok (.invokevirtual 197, 3) := by decide +kernel
theorem dX8_move_12 : decode cX8_move 12 = .ok (.astore 7, 2) := by decide +kernel
theorem dX8_move_14 : decode cX8_move 14 = .ok (.aload 6, 2) := by decide +kernel
theorem dX8_move_16 : decode cX8_move 16 = .ok (.ifnull 8, 3) := by decide +kernel
theorem dX8_move_19 : decode cX8_move 19 = .ok (.aload 7, 2) := by decide +kernel
theorem dX8_move_21 : decode cX8_move 21 = .ok (.ifnonnull 9, 3) := by decide +kernel
theorem dX8_move_24 : decode cX8_move 24 = .ok (.aload_n 0, 1) := by decide +kernel
theorem dX8_move_25 : decode cX8_move 25 = .ok (.iconst 1, 1) := by decide +kernel
theorem dX8_move_26 : decode cX8_move 26 = .ok (.invokevirtual 69, 3) := by decide +kernel
theorem dX8_move_29 : decode cX8_move 29 = .ok (.ireturn, 1) := by decide +kernel
theorem dX8_move_30 : decode cX8_move 30 = .ok (.aload 6, 2) := by decide +kernel
theorem dX8_move_32 : decode cX8_move 32 = .ok (.invokevirtual 201, 3) := by decide +kernel
theorem dX8_move_35 : decode cX8_move 35 = .ok (.ifCond .ne 11, 3) := by decide +kernel
theorem dX8_move_38 : decode cX8_move 38 = .ok (.aload 7, 2) := by decide +kernel
theorem dX8_move_40 : decode cX8_move 40 = .ok (.invokevirtual 201, 3) := by decide +kernel
theorem dX8_move_43 : decode cX8_move 43 = .ok (.ifCond .eq 9, 3) := by decide +kernel
theorem dX8_move_46 : decode cX8_move 46 = .ok (.aload_n 0, 1) := by decide +kernel
theorem dX8_move_47 : decode cX8_move 47 = .ok (.iconst 2, 1) := by decide +kernel
theorem dX8_move_48 : decode cX8_move 48 = .ok (.invokevirtual 69, 3) := by decide +kernel
theorem dX8_move_51 : decode cX8_move 51 = .ok (.ireturn, 1) := by decide +kernel
theorem dX8_move_52 : decode cX8_move 52 = .ok (.aload 6, 2) := by decide +kernel
theorem dX8_move_54 : decode cX8_move 54 = .ok (.getfield 295, 3) := by decide +kernel
theorem dX8_move_57 : decode cX8_move 57 = .ok (.aload 7, 2) := by decide +kernel
theorem dX8_move_59 : decode cX8_move 59 = .ok (.getfield 295, 3) := by decide +kernel
theorem dX8_move_62 : decode cX8_move 62 = .ok (.if_icmp .eq 9, 3) := by decide +kernel
theorem dX8_move_65 : decode cX8_move 65 = .ok (.aload_n 0, 1) := by decide +kernel
theorem dX8_move_66 : decode cX8_move 66 = .ok (.iconst 5, 1) := by decide +kernel
theorem dX8_move_67 : decode cX8_move 67 = .ok (.invokevirtual 69, 3) := by decide +kernel
theorem dX8_move_70 : decode cX8_move 70 = .ok (.ireturn, 1) := by decide +kernel
theorem dX8_move_71 : decode cX8_move 71 = .ok (.aload 6, 2) := by decide +kernel
theorem dX8_move_73 : decode cX8_move 73 = .ok (.iload_n 2, 1) := by decide +kernel
theorem dX8_move_74 : decode cX8_move 74 = .ok (.iload 5, 2) := by decide +kernel
theorem dX8_move_76 : decode cX8_move 76 = .ok (.invokevirtual 298, 3) := by decide +kernel
theorem dX8_move_79 : decode cX8_move 79 = .ok (.ifCond .eq 15, 3) := by decide +kernel
theorem dX8_move_82 : decode cX8_move 82 = .ok (.aload 7, 2) := by decide +kernel
theorem dX8_move_84 : decode cX8_move 84 = .ok (.iload 4, 2) := by decide +kernel
theorem dX8_move_86 : decode cX8_move 86 = .ok (.iload 5, 2) := by decide +kernel
theorem dX8_move_88 : decode cX8_move 88 = .ok (.invokevirtual 298, 3) := by decide +kernel
theorem dX8_move_91 : decode cX8_move 91 = .ok (.ifCond .ne 9, 3) := by decide +kernel
theorem dX8_move_94 : decode cX8_move 94 = .ok (.aload_n 0, 1) := by decide +kernel
theorem dX8_move_95 : decode cX8_move 95 = .ok (.iconst 1, 1) := by decide +kernel
theorem dX8_move_96 : decode cX8_move 96 = .ok (.invokevirtual 69, 3) := by decide +kernel
theorem dX8_move_99 : decode cX8_move 99 = .ok (.ireturn, 1) := by decide +kernel
theorem dX8_move_100 : decode cX8_move 100 = .ok (.aload 6, 2) := by decide +kernel
theorem dX8_move_102 : decode cX8_move 102 = .ok (.getfield 212, 3) := by decide +kernel
theorem dX8_move_105 : decode cX8_move 105 = .ok (.iload_n 2, 1) := by decide +kernel
theorem dX8_move_106 : decode cX8_move 106 = .ok (.aload 7, 2) := by decide +kernel
theorem dX8_move_108 : decode cX8_move 108 = .ok (.getfield 212, 3) := by decide +kernel
theorem dX8_move_111 : decode cX8_move 111 = .ok (.iload 4, 2) := by decide +kernel
theorem dX8_move_113 : decode cX8_move 113 = .ok (.iload 5, 2) := by decide +kernel
theorem dX8_move_115 : decode cX8_move 115 = .ok (.invokestatic 301, 3) := by decide +kernel
theorem dX8_move_118 : decode cX8_move 118 = .ok (.iload 5, 2) := by decide +kernel
theorem dX8_move_120 : decode cX8_move 120 = .ok (.ireturn, 1) := by decide +kernel
theorem dX8_loads_0 : decode cX8_loads 0 = .ok (.aload_n 0, 1) := by decide +kernel
theorem dX8_loads_1 : decode cX8_loads 1 = .ok (.iload_n 1, 1) := by decide +kernel
theorem dX8_loads_2 : decode cX8_loads 2 = .ok (.invokevirtual 197, 3) := by decide +kernel
theorem dX8_loads_5 : decode cX8_loads 5 = .ok (.astore_n 2, 1) := by decide +kernel
theorem dX8_loads_6 : decode cX8_loads 6 = .ok (.aload_n 2, 1) := by decide +kernel
theorem dX8_loads_7 : decode cX8_loads 7 = .ok (.ifnonnull 9, 3) := by decide +kernel
theorem dX8_loads_10 : decode cX8_loads 10 = .ok (.aload_n 0, 1) := by decide +kernel
theorem dX8_loads_11 : decode cX8_loads 11 = .ok (.iconst 1, 1) := by decide +kernel
theorem dX8_loads_12 : decode cX8_loads 12 = .ok (.invokevirtual 69, 3) := by decide +kernel
theorem dX8_loads_15 : decode cX8_loads 15 = .ok (.ireturn, 1) := by decide +kernel
theorem dX8_loads_16 : decode cX8_loads 16 = .ok (.aload_n 2, 1) := by decide +kernel
theorem dX8_loads_17 : decode cX8_loads 17 = .ok (.invokevirtual 201, 3) := by decide +kernel
theorem dX8_loads_20 : decode cX8_loads 20 = .ok (.ifCond .eq 9, 3) := by decide +kernel
theorem dX8_loads_23 : decode cX8_loads 23 = .ok (.aload_n 0, 1) := by decide +kernel
theorem dX8_loads_24 : decode cX8_loads 24 = .ok (.iconst 2, 1) := by decide +kernel
theorem dX8_loads_25 : decode cX8_loads 25 = .ok (.invokevirtual 69, 3) := by decide +kernel
theorem dX8_loads_28 : decode cX8_loads 28 = .ok (.ireturn, 1) := by decide +kernel
theorem dX8_loads_29 : decode cX8_loads 29 = .ok (.aload_n 2, 1) := by decide +kernel
theorem dX8_loads_30 : decode cX8_loads 30 = .ok (.getfield 262, 3) := by decide +kernel
theorem dX8_loads_33 : decode cX8_loads 33 = .ok (.aload_n 0, 1) := by decide +kernel
theorem dX8_loads_34 : decode cX8_loads 34 = .ok (.getfield 10, 3) := by decide +kernel
theorem dX8_loads_37 : decode cX8_loads 37 = .ok (.getfield 73, 3) := by decide +kernel
theorem dX8_loads_40 : decode cX8_loads 40 = .ok (.getfield 76, 3) := by decide +kernel
theorem dX8_loads_43 : decode cX8_loads 43 = .ok (.invokestatic 226, 3) := by decide +kernel
theorem dX8_loads_46 : decode cX8_loads 46 = .ok (.istore_n 3, 1) := by decide +kernel
theorem dX8_loads_47 : decode cX8_loads 47 = .ok (.iconst 0, 1) := by decide +kernel
theorem dX8_loads_48 : decode cX8_loads 48 = .ok (.istore 4, 2) := by decide +kernel
theorem dX8_loads_50 : decode cX8_loads 50 = .ok (.iload 4, 2) := by decide +kernel
theorem dX8_loads_52 : decode cX8_loads 52 = .ok (.iload_n 3, 1) := by decide +kernel
theorem dX8_loads_53 : decode cX8_loads 53 = .ok (.if_icmp .ge 45, 3) := by decide +kernel
theorem dX8_loads_56 : decode cX8_loads 56 = .ok (.aload_n 2, 1) := by decide +kernel
theorem dX8_loads_57 : decode cX8_loads 57 = .ok (.getfield 212, 3) := by decide +kernel
theorem dX8_loads_60 : decode cX8_loads 60 = .ok (.iload 4, 2) := by decide +kernel
theorem dX8_loads_62 : decode cX8_loads 62 = .ok (.iaload, 1) := by decide +kernel
theorem dX8_loads_63 : decode cX8_loads 63 = .ok (.iconst 0, 1) := by decide +kernel
theorem dX8_loads_64 : decode cX8_loads 64 = .ok (.bipush 99, 2) := by decide +kernel
theorem dX8_loads_66 : decode cX8_loads 66 = .ok (.invokestatic 65, 3) := by decide +kernel
theorem dX8_loads_69 : decode cX8_loads 69 = .ok (.ifCond .eq 29, 3) := by decide +kernel
theorem dX8_loads_72 : decode cX8_loads 72 = .ok (.aload_n 0, 1) := by decide +kernel
theorem dX8_loads_73 : decode cX8_loads 73 = .ok (.getfield 10, 3) := by decide +kernel
theorem dX8_loads_76 : decode cX8_loads 76 = .ok (.getfield 73, 3) := by decide +kernel
theorem dX8_loads_79 : decode cX8_loads 79 = .ok (.getfield 93, 3) := by decide +kernel
theorem dX8_loads_82 : decode cX8_loads 82 = .ok (.iload 4, 2) := by decide +kernel
theorem dX8_loads_84 : decode cX8_loads 84 = .ok (.aload_n 2, 1) := by decide +kernel
theorem dX8_loads_85 : decode cX8_loads 85 = .ok (.getfield 212, 3) := by decide +kernel
theorem dX8_loads_88 : decode cX8_loads 88 = .ok (.iload 4, 2) := by decide +kernel
theorem dX8_loads_90 : decode cX8_loads 90 = .ok (.iaload, 1) := by decide +kernel
theorem dX8_loads_91 : decode cX8_loads 91 = .ok (.iastore, 1) := by decide +kernel
theorem dX8_loads_92 : decode cX8_loads 92 = .ok (.iinc 4 1, 3) := by decide +kernel
theorem dX8_loads_95 : decode cX8_loads 95 = .ok (.goto (-45), 3) := by decide +kernel
theorem dX8_loads_98 : decode cX8_loads 98 = .ok (.iload 4, 2) := by decide +kernel
theorem dX8_loads_100 : decode cX8_loads 100 = .ok (.ireturn, 1) := by decide +kernel
theorem dX8_judge_0 : decode cX8_judge 0 = .ok (.aload_n 0, 1) := by decide +kernel
theorem dX8_judge_1 : decode cX8_judge 1 = .ok (.iload_n 1, 1) := by decide +kernel
theorem dX8_judge_2 : decode cX8_judge 2 = .ok (.invokevirtual 197, 3) := by decide +kernel
theorem dX8_judge_5 : decode cX8_judge 5 = .ok (.astore_n 2, 1) := by decide +kernel
theorem dX8_judge_6 : decode cX8_judge 6 = .ok (.aload_n 2, 1) := by decide +kernel
theorem dX8_judge_7 : decode cX8_judge 7 = .ok (.ifnonnull 9, 3) := by decide +kernel
theorem dX8_judge_10 : decode cX8_judge 10 = .ok (.aload_n 0, 1) := by decide +kernel
theorem dX8_judge_11 : decode cX8_judge 11 = .ok (.iconst 1, 1) := by decide +kernel
theorem dX8_judge_12 : decode cX8_judge 12 = .ok (.invokevirtual 69, 3) := by decide +kernel
theorem dX8_judge_15 : decode cX8_judge 15 = .ok (.ireturn, 1) := by decide +kernel
theorem dX8_judge_16 : decode cX8_judge 16 = .ok (.aload_n 2, 1) := by decide +kernel
theorem dX8_judge_17 : decode cX8_judge 17 = .ok (.invokevirtual 201, 3) := by decide +kernel
theorem dX8_judge_20 : decode cX8_judge 20 = .ok (.ifCond .eq 9, 3) := by decide +kernel
theorem dX8_judge_23 : decode cX8_judge 23 = .ok (.aload_n 0, 1) := by decide +kernel
theorem dX8_judge_24 : decode cX8_judge 24 = .ok (.iconst 2, 1) := by decide +kernel
theorem dX8_judge_25 : decode cX8_judge 25 = .ok (.invokevirtual 69, 3) := by decide +kernel
theorem dX8_judge_28 : decode cX8_judge 28 = .ok (.ireturn, 1) := by decide +kernel
theorem dX8_judge_29 : decode cX8_judge 29 = .ok (.aload_n 0, 1) := by decide +kernel
theorem dX8_judge_30 : decode cX8_judge 30 = .ok (.aload_n 2, 1) := by decide +kernel
theorem dX8_judge_31 : decode cX8_judge 31 = .ok (.invokevirtual 205, 3) := by decide +kernel
theorem dX8_judge_34 : decode cX8_judge 34 = .ok (.ireturn, 1) := by decide +kernel
theorem dX8_image_0 : decode cX8_image 0 = .ok (.aload_n 0, 1) := by decide +kernel
theorem dX8_image_1 : decode cX8_image 1 = .ok (.getfield 16, 3) := by decide +kernel
theorem dX8_image_4 : decode cX8_image 4 = .ok (.aload_n 0, 1) := by decide +kernel
theorem dX8_image_5 : decode cX8_image 5 = .ok (.getfield 10, 3) := by decide +kernel
theorem dX8_image_8 : decode cX8_image 8 = .ok (.invokevirtual 307, 3) := by decide +kernel
theorem dX8_image_11 : decode cX8_image 11 = .ok (.aload_n 0, 1) := by decide +kernel
theorem dX8_image_12 : decode cX8_image 12 = .ok (.dup, 1) := by decide +kernel
theorem dX8_image_13 : decode cX8_image 13 = .ok (.getfield 311, 3) := by decide +kernel
theorem dX8_image_16 : decode cX8_image 16 = .ok (.iconst 1, 1) := by decide +kernel
theorem dX8_image_17 : decode cX8_image 17 = .ok (.iadd, 1) := by decide +kernel
theorem dX8_image_18 : decode cX8_image 18 = .ok (.putfield 311, 3) := by decide +kernel
theorem dX8_image_21 : decode cX8_image 21 = .ok (.aload_n 0, 1) := by decide +kernel
theorem dX8_image_22 : decode cX8_image 22 = .ok (.getfield 311, 3) := by decide +kernel
theorem dX8_image_25 : decode cX8_image 25 = .ok (.ireturn, 1) := by decide +kernel
theorem dX8_restore_0 : decode cX8_restore 0 = .ok (.aload_n 0, 1) := by decide +kernel
theorem dX8_restore_1 : decode cX8_restore 1 = .ok (.getfield 311, 3) := by decide +kernel
theorem dX8_restore_4 : decode cX8_restore 4 = .ok (.ifCond .ne 9, 3) := by decide +kernel
theorem dX8_restore_7 : decode cX8_restore 7 = .ok (.aload_n 0, 1) := by decide +kernel
theorem dX8_restore_8 : decode cX8_restore 8 = .ok (.iconst 2, 1) := by decide +kernel
theorem dX8_restore_9 : decode cX8_restore 9 = .ok (.invokevirtual 69, 3) := by decide +kernel
theorem dX8_restore_12 : decode cX8_restore 12 = .ok (.ireturn, 1) := by decide +kernel
theorem dX8_restore_13 : decode cX8_restore 13 = .ok (.aload_n 0, 1) := by decide +kernel
theorem dX8_restore_14 : decode cX8_restore 14 = .ok (.getfield 10, 3) := by decide +kernel
theorem dX8_restore_17 : decode cX8_restore 17 = .ok (.aload_n 0, 1) := by decide +kernel
theorem dX8_restore_18 : decode cX8_restore 18 = .ok (.getfield 16, 3) := by decide +kernel
theorem dX8_restore_21 : decode cX8_restore 21 = .ok (.invokevirtual 307, 3) := by decide +kernel
theorem dX8_restore_24 : decode cX8_restore 24 = .ok (.aload_n 0, 1) := by decide +kernel
theorem dX8_restore_25 : decode cX8_restore 25 = .ok (.getfield 10, 3) := by decide +kernel
theorem dX8_restore_28 : decode cX8_restore 28 = .ok (.getfield 73, 3) := by decide +kernel
theorem dX8_restore_31 : decode cX8_restore 31 = .ok (.getfield 209, 3) := by decide +kernel
theorem dX8_restore_34 : decode cX8_restore 34 = .ok (.ireturn, 1) := by decide +kernel
theorem dX8_tell_0 : decode cX8_tell 0 = .ok (.aload_n 0, 1) := by decide +kernel
theorem dX8_tell_1 : decode cX8_tell 1 = .ok (.getfield 10, 3) := by decide +kernel
theorem dX8_tell_4 : decode cX8_tell 4 = .ok (.getfield 314, 3) := by decide +kernel
theorem dX8_tell_7 : decode cX8_tell 7 = .ok (.getfield 161, 3) := by decide +kernel
theorem dX8_tell_10 : decode cX8_tell 10 = .ok (.bipush 20, 2) := by decide +kernel
theorem dX8_tell_12 : decode cX8_tell 12 = .ok (.if_icmp .lt 9, 3) := by decide +kernel
theorem dX8_tell_15 : decode cX8_tell 15 = .ok (.aload_n 0, 1) := by decide +kernel
theorem dX8_tell_16 : decode cX8_tell 16 = .ok (.iconst 4, 1) := by decide +kernel
theorem dX8_tell_17 : decode cX8_tell 17 = .ok (.invokevirtual 69, 3) := by decide +kernel
theorem dX8_tell_20 : decode cX8_tell 20 = .ok (.ireturn, 1) := by decide +kernel
theorem dX8_tell_21 : decode cX8_tell 21 = .ok (.aload_n 0, 1) := by decide +kernel
theorem dX8_tell_22 : decode cX8_tell 22 = .ok (.getfield 10, 3) := by decide +kernel
theorem dX8_tell_25 : decode cX8_tell 25 = .ok (.getfield 314, 3) := by decide +kernel
theorem dX8_tell_28 : decode cX8_tell 28 = .ok (.iload_n 1, 1) := by decide +kernel
theorem dX8_tell_29 : decode cX8_tell 29 = .ok (.invokevirtual 166, 3) := by decide +kernel
theorem dX8_tell_32 : decode cX8_tell 32 = .ok (.aload_n 0, 1) := by decide +kernel
theorem dX8_tell_33 : decode cX8_tell 33 = .ok (.getfield 10, 3) := by decide +kernel
theorem dX8_tell_36 : decode cX8_tell 36 = .ok (.getfield 314, 3) := by decide +kernel
theorem dX8_tell_39 : decode cX8_tell 39 = .ok (.getfield 161, 3) := by decide +kernel
theorem dX8_tell_42 : decode cX8_tell 42 = .ok (.ireturn, 1) := by decide +kernel
theorem dX8_check_0 : decode cX8_check 0 = .ok (.iconst 0, 1) := by decide +kernel
theorem dX8_check_1 : decode cX8_check 1 = .ok (.istore_n 1, 1) := by decide +kernel
theorem dX8_check_2 : decode cX8_check 2 = .ok (.aload_n 0, 1) := by decide +kernel
theorem dX8_check_3 : decode cX8_check 3 = .ok (.invokevirtual 252, 3) := by decide +kernel
theorem dX8_check_6 : decode cX8_check 6 = .ok (.astore_n 2, 1) := by decide +kernel
theorem dX8_check_7 : decode cX8_check 7 = .ok (.iconst 0, 1) := by decide +kernel
theorem dX8_check_8 : decode cX8_check 8 = .ok (.istore_n 3, 1) := by decide +kernel
theorem dX8_check_9 : decode cX8_check 9 = .ok (.iload_n 3, 1) := by decide +kernel
theorem dX8_check_10 : decode cX8_check 10 = .ok (.aload_n 0, 1) := by decide +kernel
theorem dX8_check_11 : decode cX8_check 11 = .ok (.getfield 10, 3) := by decide +kernel
theorem dX8_check_14 : decode cX8_check 14 = .ok (.getfield 314, 3) := by decide +kernel
theorem dX8_check_17 : decode cX8_check 17 = .ok (.getfield 161, 3) := by decide +kernel
theorem dX8_check_20 : decode cX8_check 20 = .ok (.if_icmp .ge 43, 3) := by decide +kernel
theorem dX8_check_23 : decode cX8_check 23 = .ok (.iload_n 1, 1) := by decide +kernel
theorem dX8_check_24 : decode cX8_check 24 = .ok (.ifCond .ne 39, 3) := by decide +kernel
theorem dX8_check_27 : decode cX8_check 27 = .ok (.aload_n 0, 1) := by decide +kernel
theorem dX8_check_28 : decode cX8_check 28 = .ok (.aload_n 2, 1) := by decide +kernel
theorem dX8_check_29 : decode cX8_check 29 = .ok (.iconst 1, 1) := by decide +kernel
theorem dX8_check_30 : decode cX8_check 30 = .ok (.invokevirtual 231, 3) := by decide +kernel
theorem dX8_check_33 : decode cX8_check 33 = .ok (.pop, 1) := by decide +kernel
theorem dX8_check_34 : decode cX8_check 34 = .ok (.aload_n 0, 1) := by decide +kernel
theorem dX8_check_35 : decode cX8_check 35 = .ok (.getfield 10, 3) := by decide +kernel
theorem dX8_check_38 : decode cX8_check 38 = .ok (.getfield 314, 3) := by decide +kernel
theorem dX8_check_41 : decode cX8_check 41 = .ok (.getfield 286, 3) := by decide +kernel
theorem dX8_check_44 : decode cX8_check 44 = .ok (.iload_n 3, 1) := by decide +kernel
theorem dX8_check_45 : decode cX8_check 45 = .ok (.iaload, 1) := by decide +kernel
theorem dX8_check_46 : decode cX8_check 46 = .ok (.aload_n 2, 1) := by decide +kernel
theorem dX8_check_47 : decode cX8_check 47 = .ok (.invokevirtual 238, 3) := by decide +kernel
theorem dX8_check_50 : decode cX8_check 50 = .ok (.if_icmp .eq 7, 3) := by decide +kernel
theorem dX8_check_53 : decode cX8_check 53 = .ok (.iconst 1, 1) := by decide +kernel
theorem dX8_check_54 : decode cX8_check 54 = .ok (.iload_n 3, 1) := by decide +kernel
theorem dX8_check_55 : decode cX8_check 55 = .ok (.iadd, 1) := by decide +kernel
theorem dX8_check_56 : decode cX8_check 56 = .ok (.istore_n 1, 1) := by decide +kernel
theorem dX8_check_57 : decode cX8_check 57 = .ok (.iinc 3 1, 3) := by decide +kernel
theorem dX8_check_60 : decode cX8_check 60 = .ok (.goto (-51), 3) := by decide +kernel
theorem dX8_check_63 : decode cX8_check 63 = .ok (.aload_n 0, 1) := by decide +kernel
theorem dX8_check_64 : decode cX8_check 64 = .ok (.getfield 10, 3) := by decide +kernel
theorem dX8_check_67 : decode cX8_check 67 = .ok (.getfield 314, 3) := by decide +kernel
theorem dX8_check_70 : decode cX8_check 70 = .ok (.invokevirtual 174, 3) := by decide +kernel
theorem dX8_check_73 : decode cX8_check 73 = .ok (.iload_n 1, 1) := by decide +kernel
theorem dX8_check_74 : decode cX8_check 74 = .ok (.ireturn, 1) := by decide +kernel
theorem dX8_count_0 : decode cX8_count 0 = .ok (.iload_n 1, 1) := by decide +kernel
theorem dX8_count_1 : decode cX8_count 1 = .ok (.tableswitch 177 0 10 #[59, 70, 81, 92, 103, 114, 125, 136, 147, 158, 169], 59) := by decide +kernel
theorem dX8_count_60 : decode cX8_count 60 = .ok (.aload_n 0, 1) := by decide +kernel
theorem dX8_count_61 : decode cX8_count 61 = .ok (.getfield 10, 3) := by decide +kernel
theorem dX8_count_64 : decode cX8_count 64 = .ok (.getfield 73, 3) := by decide +kernel
theorem dX8_count_67 : decode cX8_count 67 = .ok (.getfield 76, 3) := by decide +kernel
theorem dX8_count_70 : decode cX8_count 70 = .ok (.ireturn, 1) := by decide +kernel
theorem dX8_count_71 : decode cX8_count 71 = .ok (.aload_n 0, 1) := by decide +kernel
theorem dX8_count_72 : decode cX8_count 72 = .ok (.getfield 10, 3) := by decide +kernel
theorem dX8_count_75 : decode cX8_count 75 = .ok (.getfield 73, 3) := by decide +kernel
theorem dX8_count_78 : decode cX8_count 78 = .ok (.getfield 116, 3) := by decide +kernel
theorem dX8_count_81 : decode cX8_count 81 = .ok (.ireturn, 1) := by decide +kernel
theorem dX8_count_82 : decode cX8_count 82 = .ok (.aload_n 0, 1) := by decide +kernel
theorem dX8_count_83 : decode cX8_count 83 = .ok (.getfield 10, 3) := by decide +kernel
theorem dX8_count_86 : decode cX8_count 86 = .ok (.getfield 73, 3) := by decide +kernel
theorem dX8_count_89 : decode cX8_count 89 = .ok (.getfield 209, 3) := by decide +kernel
theorem dX8_count_92 : decode cX8_count 92 = .ok (.ireturn, 1) := by decide +kernel
theorem dX8_count_93 : decode cX8_count 93 = .ok (.aload_n 0, 1) := by decide +kernel
theorem dX8_count_94 : decode cX8_count 94 = .ok (.getfield 10, 3) := by decide +kernel
theorem dX8_count_97 : decode cX8_count 97 = .ok (.getfield 73, 3) := by decide +kernel
theorem dX8_count_100 : decode cX8_count 100 = .ok (.getfield 154, 3) := by decide +kernel
theorem dX8_count_103 : decode cX8_count 103 = .ok (.ireturn, 1) := by decide +kernel
theorem dX8_count_104 : decode cX8_count 104 = .ok (.aload_n 0, 1) := by decide +kernel
theorem dX8_count_105 : decode cX8_count 105 = .ok (.getfield 10, 3) := by decide +kernel
theorem dX8_count_108 : decode cX8_count 108 = .ok (.getfield 73, 3) := by decide +kernel
theorem dX8_count_111 : decode cX8_count 111 = .ok (.invokevirtual 317, 3) := by decide +kernel
theorem dX8_count_114 : decode cX8_count 114 = .ok (.ireturn, 1) := by decide +kernel
theorem dX8_count_115 : decode cX8_count 115 = .ok (.aload_n 0, 1) := by decide +kernel
theorem dX8_count_116 : decode cX8_count 116 = .ok (.getfield 10, 3) := by decide +kernel
theorem dX8_count_119 : decode cX8_count 119 = .ok (.getfield 73, 3) := by decide +kernel
theorem dX8_count_122 : decode cX8_count 122 = .ok (.invokevirtual 238, 3) := by decide +kernel
theorem dX8_count_125 : decode cX8_count 125 = .ok (.ireturn, 1) := by decide +kernel
theorem dX8_count_126 : decode cX8_count 126 = .ok (.aload_n 0, 1) := by decide +kernel
theorem dX8_count_127 : decode cX8_count 127 = .ok (.getfield 10, 3) := by decide +kernel
theorem dX8_count_130 : decode cX8_count 130 = .ok (.getfield 73, 3) := by decide +kernel
theorem dX8_count_133 : decode cX8_count 133 = .ok (.getfield 137, 3) := by decide +kernel
theorem dX8_count_136 : decode cX8_count 136 = .ok (.ireturn, 1) := by decide +kernel
theorem dX8_count_137 : decode cX8_count 137 = .ok (.aload_n 0, 1) := by decide +kernel
theorem dX8_count_138 : decode cX8_count 138 = .ok (.getfield 10, 3) := by decide +kernel
theorem dX8_count_141 : decode cX8_count 141 = .ok (.getfield 157, 3) := by decide +kernel
theorem dX8_count_144 : decode cX8_count 144 = .ok (.getfield 161, 3) := by decide +kernel
theorem dX8_count_147 : decode cX8_count 147 = .ok (.ireturn, 1) := by decide +kernel
theorem dX8_count_148 : decode cX8_count 148 = .ok (.aload_n 0, 1) := by decide +kernel
theorem dX8_count_149 : decode cX8_count 149 = .ok (.getfield 10, 3) := by decide +kernel
theorem dX8_count_152 : decode cX8_count 152 = .ok (.getfield 314, 3) := by decide +kernel
theorem dX8_count_155 : decode cX8_count 155 = .ok (.getfield 161, 3) := by decide +kernel
theorem dX8_count_158 : decode cX8_count 158 = .ok (.ireturn, 1) := by decide +kernel
theorem dX8_count_159 : decode cX8_count 159 = .ok (.aload_n 0, 1) := by decide +kernel
theorem dX8_count_160 : decode cX8_count 160 = .ok (.getfield 43, 3) := by decide +kernel
theorem dX8_count_163 : decode cX8_count 163 = .ok (.getfield 283, 3) := by decide +kernel
theorem dX8_count_166 : decode cX8_count 166 = .ok (.getfield 161, 3) := by decide +kernel
theorem dX8_count_169 : decode cX8_count 169 = .ok (.ireturn, 1) := by decide +kernel
theorem dX8_count_170 : decode cX8_count 170 = .ok (.aload_n 0, 1) := by decide +kernel
theorem dX8_count_171 : decode cX8_count 171 = .ok (.getfield 10, 3) := by decide +kernel
theorem dX8_count_174 : decode cX8_count 174 = .ok (.getfield 276, 3) := by decide +kernel
theorem dX8_count_177 : decode cX8_count 177 = .ok (.ireturn, 1) := by decide +kernel
theorem dX8_count_178 : decode cX8_count 178 = .ok (.aload_n 0, 1) := by decide +kernel
theorem dX8_count_179 : decode cX8_count 179 = .ok (.iconst 1, 1) := by decide +kernel
theorem dX8_count_180 : decode cX8_count 180 = .ok (.invokevirtual 69, 3) := by decide +kernel
theorem dX8_count_183 : decode cX8_count 183 = .ok (.ireturn, 1) := by decide +kernel
theorem dX8_told_0 : decode cX8_told 0 = .ok (.iload_n 1, 1) := by decide +kernel
theorem dX8_told_1 : decode cX8_told 1 = .ok (.iconst 1, 1) := by decide +kernel
theorem dX8_told_2 : decode cX8_told 2 = .ok (.iconst 5, 1) := by decide +kernel
theorem dX8_told_3 : decode cX8_told 3 = .ok (.invokestatic 65, 3) := by decide +kernel
theorem dX8_told_6 : decode cX8_told 6 = .ok (.ifCond .eq 12, 3) := by decide +kernel
theorem dX8_told_9 : decode cX8_told 9 = .ok (.aload_n 0, 1) := by decide +kernel
theorem dX8_told_10 : decode cX8_told 10 = .ok (.getfield 58, 3) := by decide +kernel
theorem dX8_told_13 : decode cX8_told 13 = .ok (.iload_n 1, 1) := by decide +kernel
theorem dX8_told_14 : decode cX8_told 14 = .ok (.iaload, 1) := by decide +kernel
theorem dX8_told_15 : decode cX8_told 15 = .ok (.goto 8, 3) := by decide +kernel
theorem dX8_told_18 : decode cX8_told 18 = .ok (.aload_n 0, 1) := by decide +kernel
theorem dX8_told_19 : decode cX8_told 19 = .ok (.iconst 1, 1) := by decide +kernel
theorem dX8_told_20 : decode cX8_told 20 = .ok (.invokevirtual 69, 3) := by decide +kernel
theorem dX8_told_23 : decode cX8_told 23 = .ok (.ireturn, 1) := by decide +kernel
theorem dX8_error_0 : decode cX8_error 0 = .ok (.aload_n 0, 1) := by decide +kernel
theorem dX8_error_1 : decode cX8_error 1 = .ok (.getfield 58, 3) := by decide +kernel
theorem dX8_error_4 : decode cX8_error 4 = .ok (.iload_n 1, 1) := by decide +kernel
theorem dX8_error_5 : decode cX8_error 5 = .ok (.dup2, 1) := by decide +kernel
theorem dX8_error_6 : decode cX8_error 6 = .ok (.iaload, 1) := by decide +kernel
theorem dX8_error_7 : decode cX8_error 7 = .ok (.iconst 1, 1) := by decide +kernel
theorem dX8_error_8 : decode cX8_error 8 = .ok (.iadd, 1) := by decide +kernel
theorem dX8_error_9 : decode cX8_error 9 = .ok (.iastore, 1) := by decide +kernel
theorem dX8_error_10 : decode cX8_error 10 = .ok (.ldc_w 320, 3) := by decide +kernel
theorem dX8_error_13 : decode cX8_error 13 = .ok (.iload_n 1, 1) := by decide +kernel
theorem dX8_error_14 : decode cX8_error 14 = .ok (.isub, 1) := by decide +kernel
theorem dX8_error_15 : decode cX8_error 15 = .ok (.ireturn, 1) := by decide +kernel
theorem dX8_isWithin_0 : decode cX8_isWithin 0 = .ok (.iload_n 0, 1) := by decide +kernel
theorem dX8_isWithin_1 : decode cX8_isWithin 1 = .ok (.iload_n 1, 1) := by decide +kernel
theorem dX8_isWithin_2 : decode cX8_isWithin 2 = .ok (.if_icmp .lt 12, 3) := by decide +kernel
theorem dX8_isWithin_5 : decode cX8_isWithin 5 = .ok (.iload_n 0, 1) := by decide +kernel
theorem dX8_isWithin_6 : decode cX8_isWithin 6 = .ok (.iload_n 2, 1) := by decide +kernel
theorem dX8_isWithin_7 : decode cX8_isWithin 7 = .ok (.if_icmp .gt 7, 3) := by decide +kernel
theorem dX8_isWithin_10 : decode cX8_isWithin 10 = .ok (.iconst 1, 1) := by decide +kernel
theorem dX8_isWithin_11 : decode cX8_isWithin 11 = .ok (.goto 4, 3) := by decide +kernel
theorem dX8_isWithin_14 : decode cX8_isWithin 14 = .ok (.iconst 0, 1) := by decide +kernel
theorem dX8_isWithin_15 : decode cX8_isWithin 15 = .ok (.ireturn, 1) := by decide +kernel
theorem dX8_isKindWithMark_0 : decode cX8_isKindWithMark 0 = .ok (.iload_n 0, 1) := by decide +kernel
theorem dX8_isKindWithMark_1 : decode cX8_isKindWithMark 1 = .ok (.iconst 0, 1) := by decide +kernel
theorem dX8_isKindWithMark_2 : decode cX8_isKindWithMark 2 = .ok (.bipush 69, 2) := by decide +kernel
theorem dX8_isKindWithMark_4 : decode cX8_isKindWithMark 4 = .ok (.invokestatic 65, 3) := by decide +kernel
theorem dX8_isKindWithMark_7 : decode cX8_isKindWithMark 7 = .ok (.ireturn, 1) := by decide +kernel
theorem dX8_isUnder_0 : decode cX8_isUnder 0 = .ok (.iload_n 0, 1) := by decide +kernel
theorem dX8_isUnder_1 : decode cX8_isUnder 1 = .ok (.istore_n 2, 1) := by decide +kernel
theorem dX8_isUnder_2 : decode cX8_isUnder 2 = .ok (.iconst 0, 1) := by decide +kernel
theorem dX8_isUnder_3 : decode cX8_isUnder 3 = .ok (.istore_n 3, 1) := by decide +kernel
theorem dX8_isUnder_4 : decode cX8_isUnder 4 = .ok (.iload_n 3, 1) := by decide +kernel
theorem dX8_isUnder_5 : decode cX8_isUnder 5 = .ok (.bipush 7, 2) := by decide +kernel
theorem dX8_isUnder_7 : decode cX8_isUnder 7 = .ok (.if_icmp .ge 24, 3) := by decide +kernel
theorem dX8_isUnder_10 : decode cX8_isUnder 10 = .ok (.iload_n 2, 1) := by decide +kernel
theorem dX8_isUnder_11 : decode cX8_isUnder 11 = .ok (.ifCond .lt 20, 3) := by decide +kernel
theorem dX8_isUnder_14 : decode cX8_isUnder 14 = .ok (.iload_n 2, 1) := by decide +kernel
theorem dX8_isUnder_15 : decode cX8_isUnder 15 = .ok (.iload_n 1, 1) := by decide +kernel
theorem dX8_isUnder_16 : decode cX8_isUnder 16 = .ok (.if_icmp .eq 15, 3) := by decide +kernel
theorem dX8_isUnder_19 : decode cX8_isUnder 19 = .ok (.getstatic 321, 3) := by decide +kernel
theorem dX8_isUnder_22 : decode cX8_isUnder 22 = .ok (.iload_n 2, 1) := by decide +kernel
theorem dX8_isUnder_23 : decode cX8_isUnder 23 = .ok (.iaload, 1) := by decide +kernel
theorem dX8_isUnder_24 : decode cX8_isUnder 24 = .ok (.istore_n 2, 1) := by decide +kernel
theorem dX8_isUnder_25 : decode cX8_isUnder 25 = .ok (.iinc 3 1, 3) := by decide +kernel
theorem dX8_isUnder_28 : decode cX8_isUnder 28 = .ok (.goto (-24), 3) := by decide +kernel
theorem dX8_isUnder_31 : decode cX8_isUnder 31 = .ok (.iload_n 2, 1) := by decide +kernel
theorem dX8_isUnder_32 : decode cX8_isUnder 32 = .ok (.iload_n 1, 1) := by decide +kernel
theorem dX8_isUnder_33 : decode cX8_isUnder 33 = .ok (.if_icmp .ne 7, 3) := by decide +kernel
theorem dX8_isUnder_36 : decode cX8_isUnder 36 = .ok (.iconst 1, 1) := by decide +kernel
theorem dX8_isUnder_37 : decode cX8_isUnder 37 = .ok (.goto 4, 3) := by decide +kernel
theorem dX8_isUnder_40 : decode cX8_isUnder 40 = .ok (.iconst 0, 1) := by decide +kernel
theorem dX8_isUnder_41 : decode cX8_isUnder 41 = .ok (.ireturn, 1) := by decide +kernel
theorem dX8_swap_0 : decode cX8_swap 0 = .ok (.aload_n 0, 1) := by decide +kernel
theorem dX8_swap_1 : decode cX8_swap 1 = .ok (.iload_n 1, 1) := by decide +kernel
theorem dX8_swap_2 : decode cX8_swap 2 = .ok (.iaload, 1) := by decide +kernel
theorem dX8_swap_3 : decode cX8_swap 3 = .ok (.istore_n 3, 1) := by decide +kernel
theorem dX8_swap_4 : decode cX8_swap 4 = .ok (.aload_n 0, 1) := by decide +kernel
theorem dX8_swap_5 : decode cX8_swap 5 = .ok (.iload_n 1, 1) := by decide +kernel
theorem dX8_swap_6 : decode cX8_swap 6 = .ok (.iload_n 2, 1) := by decide +kernel
theorem dX8_swap_7 : decode cX8_swap 7 = .ok (.iastore, 1) := by decide +kernel
theorem dX8_swap_8 : decode cX8_swap 8 = .ok (.iload_n 3, 1) := by decide +kernel
theorem dX8_swap_9 : decode cX8_swap 9 = .ok (.ireturn, 1) := by decide +kernel
theorem dX8_sheetAt_0 : decode cX8_sheetAt 0 = .ok (.iload_n 1, 1) := by decide +kernel
theorem dX8_sheetAt_1 : decode cX8_sheetAt 1 = .ok (.iconst 0, 1) := by decide +kernel
theorem dX8_sheetAt_2 : decode cX8_sheetAt 2 = .ok (.iconst 3, 1) := by decide +kernel
theorem dX8_sheetAt_3 : decode cX8_sheetAt 3 = .ok (.invokestatic 65, 3) := by decide +kernel
theorem dX8_sheetAt_6 : decode cX8_sheetAt 6 = .ok (.ifCond .eq 12, 3) := by decide +kernel
theorem dX8_sheetAt_9 : decode cX8_sheetAt 9 = .ok (.aload_n 0, 1) := by decide +kernel
theorem dX8_sheetAt_10 : decode cX8_sheetAt 10 = .ok (.getfield 49, 3) := by decide +kernel
theorem dX8_sheetAt_13 : decode cX8_sheetAt 13 = .ok (.iload_n 1, 1) := by decide +kernel
theorem dX8_sheetAt_14 : decode cX8_sheetAt 14 = .ok (.aaload, 1) := by decide +kernel
theorem dX8_sheetAt_15 : decode cX8_sheetAt 15 = .ok (.goto 4, 3) := by decide +kernel
theorem dX8_sheetAt_18 : decode cX8_sheetAt 18 = .ok (.aconst_null, 1) := by decide +kernel
theorem dX8_sheetAt_19 : decode cX8_sheetAt 19 = .ok (.areturn, 1) := by decide +kernel
theorem dX8_think_0 : decode cX8_think 0 = .ok (.aload_n 0, 1) := by decide +kernel
theorem dX8_think_1 : decode cX8_think 1 = .ok (.getfield 22, 3) := by decide +kernel
theorem dX8_think_4 : decode cX8_think 4 = .ok (.aload_n 0, 1) := by decide +kernel
theorem dX8_think_5 : decode cX8_think 5 = .ok (.getfield 10, 3) := by decide +kernel
theorem dX8_think_8 : decode cX8_think 8 = .ok (.getfield 73, 3) := by decide +kernel
theorem dX8_think_11 : decode cX8_think 11 = .ok (.invokevirtual 324, 3) := by decide +kernel
theorem dX8_think_14 : decode cX8_think 14 = .ok (.aload_n 0, 1) := by decide +kernel
theorem dX8_think_15 : decode cX8_think 15 = .ok (.getfield 22, 3) := by decide +kernel
theorem dX8_think_18 : decode cX8_think 18 = .ok (.areturn, 1) := by decide +kernel
theorem dX8_playFirsts_0 : decode cX8_playFirsts 0 = .ok (.iconst 0, 1) := by decide +kernel
theorem dX8_playFirsts_1 : decode cX8_playFirsts 1 = .ok (.istore_n 3, 1) := by decide +kernel
theorem dX8_playFirsts_2 : decode cX8_playFirsts 2 = .ok (.iload_n 3, 1) := by decide +kernel
theorem dX8_playFirsts_3 : decode cX8_playFirsts 3 = .ok (.iload_n 2, 1) := by decide +kernel
theorem dX8_playFirsts_4 : decode cX8_playFirsts 4 = .ok (.if_icmp .ge 55, 3) := by decide +kernel
theorem dX8_playFirsts_7 : decode cX8_playFirsts 7 = .ok (.aload_n 0, 1) := by decide +kernel
theorem dX8_playFirsts_8 : decode cX8_playFirsts 8 = .ok (.getfield 29, 3) := by decide +kernel
theorem dX8_playFirsts_11 : decode cX8_playFirsts 11 = .ok (.aload_n 1, 1) := by decide +kernel
theorem dX8_playFirsts_12 : decode cX8_playFirsts 12 = .ok (.iconst 0, 1) := by decide +kernel
theorem dX8_playFirsts_13 : decode cX8_playFirsts 13 = .ok (.invokevirtual 241, 3) := by decide +kernel
theorem dX8_playFirsts_16 : decode cX8_playFirsts 16 = .ok (.aload_n 0, 1) := by decide +kernel
theorem dX8_playFirsts_17 : decode cX8_playFirsts 17 = .ok (.getfield 29, 3) := by decide +kernel
theorem dX8_playFirsts_20 : decode cX8_playFirsts 20 = .ok (.invokevirtual 245, 3) := by decide +kernel
theorem dX8_playFirsts_23 : decode cX8_playFirsts 23 = .ok (.ifCond .ne 5, 3) := by decide +kernel
theorem dX8_playFirsts_26 : decode cX8_playFirsts 26 = .ok (.iload_n 3, 1) := by decide +kernel
theorem dX8_playFirsts_27 : decode cX8_playFirsts 27 = .ok (.ireturn, 1) := by decide +kernel
theorem dX8_playFirsts_28 : decode cX8_playFirsts 28 = .ok (.aload_n 1, 1) := by decide +kernel
theorem dX8_playFirsts_29 : decode cX8_playFirsts 29 = .ok (.aload_n 0, 1) := by decide +kernel
theorem dX8_playFirsts_30 : decode cX8_playFirsts 30 = .ok (.getfield 29, 3) := by decide +kernel
theorem dX8_playFirsts_33 : decode cX8_playFirsts 33 = .ok (.getfield 248, 3) := by decide +kernel
theorem dX8_playFirsts_36 : decode cX8_playFirsts 36 = .ok (.aload_n 0, 1) := by decide +kernel
theorem dX8_playFirsts_37 : decode cX8_playFirsts 37 = .ok (.getfield 10, 3) := by decide +kernel
theorem dX8_playFirsts_40 : decode cX8_playFirsts 40 = .ok (.getfield 215, 3) := by decide +kernel
theorem dX8_playFirsts_43 : decode cX8_playFirsts 43 = .ok (.aload_n 0, 1) := by decide +kernel
theorem dX8_playFirsts_44 : decode cX8_playFirsts 44 = .ok (.getfield 10, 3) := by decide +kernel
theorem dX8_playFirsts_47 : decode cX8_playFirsts 47 = .ok (.getfield 219, 3) := by decide +kernel
theorem dX8_playFirsts_50 : decode cX8_playFirsts 50 = .ok (.invokevirtual 222, 3) := by decide +kernel
theorem dX8_playFirsts_53 : decode cX8_playFirsts 53 = .ok (.iinc 3 1, 3) := by decide +kernel
theorem dX8_playFirsts_56 : decode cX8_playFirsts 56 = .ok (.goto (-54), 3) := by decide +kernel
theorem dX8_playFirsts_59 : decode cX8_playFirsts 59 = .ok (.iload_n 2, 1) := by decide +kernel
theorem dX8_playFirsts_60 : decode cX8_playFirsts 60 = .ok (.ireturn, 1) := by decide +kernel
theorem dX8_firstWrong_0 : decode cX8_firstWrong 0 = .ok (.aload_n 0, 1) := by decide +kernel
theorem dX8_firstWrong_1 : decode cX8_firstWrong 1 = .ok (.getfield 10, 3) := by decide +kernel
theorem dX8_firstWrong_4 : decode cX8_firstWrong 4 = .ok (.getfield 73, 3) := by decide +kernel
theorem dX8_firstWrong_7 : decode cX8_firstWrong 7 = .ok (.astore_n 2, 1) := by decide +kernel
theorem dX8_firstWrong_8 : decode cX8_firstWrong 8 = .ok (.iconst 0, 1) := by decide +kernel
theorem dX8_firstWrong_9 : decode cX8_firstWrong 9 = .ok (.istore_n 3, 1) := by decide +kernel
theorem dX8_firstWrong_10 : decode cX8_firstWrong 10 = .ok (.iconst 0, 1) := by decide +kernel
theorem dX8_firstWrong_11 : decode cX8_firstWrong 11 = .ok (.istore 4, 2) := by decide +kernel
theorem dX8_firstWrong_13 : decode cX8_firstWrong 13 = .ok (.iload 4, 2) := by decide +kernel
theorem dX8_firstWrong_15 : decode cX8_firstWrong 15 = .ok (.aload_n 2, 1) := by decide +kernel
theorem dX8_firstWrong_16 : decode cX8_firstWrong 16 = .ok (.getfield 76, 3) := by decide +kernel
theorem dX8_firstWrong_19 : decode cX8_firstWrong 19 = .ok (.if_icmp .ge 68, 3) := by decide +kernel
theorem dX8_firstWrong_22 : decode cX8_firstWrong 22 = .ok (.iload 4, 2) := by decide +kernel
theorem dX8_firstWrong_24 : decode cX8_firstWrong 24 = .ok (.aload_n 1, 1) := by decide +kernel
theorem dX8_firstWrong_25 : decode cX8_firstWrong 25 = .ok (.getfield 262, 3) := by decide +kernel
theorem dX8_firstWrong_28 : decode cX8_firstWrong 28 = .ok (.if_icmp .ge 20, 3) := by decide +kernel
theorem dX8_firstWrong_31 : decode cX8_firstWrong 31 = .ok (.aload_n 0, 1) := by decide +kernel
theorem dX8_firstWrong_32 : decode cX8_firstWrong 32 = .ok (.iload 4, 2) := by decide +kernel
theorem dX8_firstWrong_34 : decode cX8_firstWrong 34 = .ok (.aload_n 1, 1) := by decide +kernel
theorem dX8_firstWrong_35 : decode cX8_firstWrong 35 = .ok (.getfield 212, 3) := by decide +kernel
theorem dX8_firstWrong_38 : decode cX8_firstWrong 38 = .ok (.iload 4, 2) := by decide +kernel
theorem dX8_firstWrong_40 : decode cX8_firstWrong 40 = .ok (.iaload, 1) := by decide +kernel
theorem dX8_firstWrong_41 : decode cX8_firstWrong 41 = .ok (.iload_n 3, 1) := by decide +kernel
theorem dX8_firstWrong_42 : decode cX8_firstWrong 42 = .ok (.invokevirtual 327, 3) := by decide +kernel
theorem dX8_firstWrong_45 : decode cX8_firstWrong 45 = .ok (.ifCond .ne 6, 3) := by decide +kernel
theorem dX8_firstWrong_48 : decode cX8_firstWrong 48 = .ok (.iload 4, 2) := by decide +kernel
theorem dX8_firstWrong_50 : decode cX8_firstWrong 50 = .ok (.ireturn, 1) := by decide +kernel
theorem dX8_firstWrong_51 : decode cX8_firstWrong 51 = .ok (.aload_n 2, 1) := by decide +kernel
theorem dX8_firstWrong_52 : decode cX8_firstWrong 52 = .ok (.iload 4, 2) := by decide +kernel
theorem dX8_firstWrong_54 : decode cX8_firstWrong 54 = .ok (.invokevirtual 99, 3) := by decide +kernel
theorem dX8_firstWrong_57 : decode cX8_firstWrong 57 = .ok (.ifCond .ne 24, 3) := by decide +kernel
theorem dX8_firstWrong_60 : decode cX8_firstWrong 60 = .ok (.aload_n 2, 1) := by decide +kernel
theorem dX8_firstWrong_61 : decode cX8_firstWrong 61 = .ok (.iload 4, 2) := by decide +kernel
theorem dX8_firstWrong_63 : decode cX8_firstWrong 63 = .ok (.invokevirtual 330, 3) := by decide +kernel
theorem dX8_firstWrong_66 : decode cX8_firstWrong 66 = .ok (.ifCond .ne 15, 3) := by decide +kernel
theorem dX8_firstWrong_69 : decode cX8_firstWrong 69 = .ok (.iload_n 3, 1) := by decide +kernel
theorem dX8_firstWrong_70 : decode cX8_firstWrong 70 = .ok (.iconst 1, 1) := by decide +kernel
theorem dX8_firstWrong_71 : decode cX8_firstWrong 71 = .ok (.aload_n 1, 1) := by decide +kernel
theorem dX8_firstWrong_72 : decode cX8_firstWrong 72 = .ok (.getfield 212, 3) := by decide +kernel
theorem dX8_firstWrong_75 : decode cX8_firstWrong 75 = .ok (.iload 4, 2) := by decide +kernel
theorem dX8_firstWrong_77 : decode cX8_firstWrong 77 = .ok (.iaload, 1) := by decide +kernel
theorem dX8_firstWrong_78 : decode cX8_firstWrong 78 = .ok (.ishl, 1) := by decide +kernel
theorem dX8_firstWrong_79 : decode cX8_firstWrong 79 = .ok (.ior, 1) := by decide +kernel
theorem dX8_firstWrong_80 : decode cX8_firstWrong 80 = .ok (.istore_n 3, 1) := by decide +kernel
theorem dX8_firstWrong_81 : decode cX8_firstWrong 81 = .ok (.iinc 4 1, 3) := by decide +kernel
theorem dX8_firstWrong_84 : decode cX8_firstWrong 84 = .ok (.goto (-71), 3) := by decide +kernel
theorem dX8_firstWrong_87 : decode cX8_firstWrong 87 = .ok (.aload_n 1, 1) := by decide +kernel
theorem dX8_firstWrong_88 : decode cX8_firstWrong 88 = .ok (.getfield 262, 3) := by decide +kernel
theorem dX8_firstWrong_91 : decode cX8_firstWrong 91 = .ok (.aload_n 2, 1) := by decide +kernel
theorem dX8_firstWrong_92 : decode cX8_firstWrong 92 = .ok (.getfield 76, 3) := by decide +kernel
theorem dX8_firstWrong_95 : decode cX8_firstWrong 95 = .ok (.if_icmp .le 10, 3) := by decide +kernel
theorem dX8_firstWrong_98 : decode cX8_firstWrong 98 = .ok (.aload_n 2, 1) := by decide +kernel
theorem dX8_firstWrong_99 : decode cX8_firstWrong 99 = .ok (.getfield 76, 3) := by decide +kernel
theorem dX8_firstWrong_102 : decode cX8_firstWrong 102 = .ok (.goto 4, 3) := by decide +kernel
theorem dX8_firstWrong_105 : decode cX8_firstWrong 105 = .ok (.iconst (-1), 1) := by decide +kernel
theorem dX8_firstWrong_106 : decode cX8_firstWrong 106 = .ok (.ireturn, 1) := by decide +kernel
theorem dX8_isFree_0 : decode cX8_isFree 0 = .ok (.aload_n 0, 1) := by decide +kernel
theorem dX8_isFree_1 : decode cX8_isFree 1 = .ok (.getfield 10, 3) := by decide +kernel
theorem dX8_isFree_4 : decode cX8_isFree 4 = .ok (.getfield 73, 3) := by decide +kernel
theorem dX8_isFree_7 : decode cX8_isFree 7 = .ok (.astore 4, 2) := by decide +kernel
theorem dX8_isFree_9 : decode cX8_isFree 9 = .ok (.aload 4, 2) := by decide +kernel
theorem dX8_isFree_11 : decode cX8_isFree 11 = .ok (.iload_n 1, 1) := by decide +kernel
theorem dX8_isFree_12 : decode cX8_isFree 12 = .ok (.invokevirtual 99, 3) := by decide +kernel
theorem dX8_isFree_15 : decode cX8_isFree 15 = .ok (.ifCond .eq 14, 3) := by decide +kernel
theorem dX8_isFree_18 : decode cX8_isFree 18 = .ok (.iload_n 2, 1) := by decide +kernel
theorem dX8_isFree_19 : decode cX8_isFree 19 = .ok (.iconst (-1), 1) := by decide +kernel
theorem dX8_isFree_20 : decode cX8_isFree 20 = .ok (.if_icmp .ne 7, 3) := by decide +kernel
theorem dX8_isFree_23 : decode cX8_isFree 23 = .ok (.iconst 1, 1) := by decide +kernel
theorem dX8_isFree_24 : decode cX8_isFree 24 = .ok (.goto 4, 3) := by decide +kernel
theorem dX8_isFree_27 : decode cX8_isFree 27 = .ok (.iconst 0, 1) := by decide +kernel
theorem dX8_isFree_28 : decode cX8_isFree 28 = .ok (.ireturn, 1) := by decide +kernel
theorem dX8_isFree_29 : decode cX8_isFree 29 = .ok (.aload 4, 2) := by decide +kernel
theorem dX8_isFree_31 : decode cX8_isFree 31 = .ok (.iload_n 2, 1) := by decide +kernel
theorem dX8_isFree_32 : decode cX8_isFree 32 = .ok (.invokevirtual 122, 3) := by decide +kernel
theorem dX8_isFree_35 : decode cX8_isFree 35 = .ok (.ifCond .ne 5, 3) := by decide +kernel
theorem dX8_isFree_38 : decode cX8_isFree 38 = .ok (.iconst 0, 1) := by decide +kernel
theorem dX8_isFree_39 : decode cX8_isFree 39 = .ok (.ireturn, 1) := by decide +kernel
theorem dX8_isFree_40 : decode cX8_isFree 40 = .ok (.aload 4, 2) := by decide +kernel
theorem dX8_isFree_42 : decode cX8_isFree 42 = .ok (.iload_n 1, 1) := by decide +kernel
theorem dX8_isFree_43 : decode cX8_isFree 43 = .ok (.invokevirtual 330, 3) := by decide +kernel
theorem dX8_isFree_46 : decode cX8_isFree 46 = .ok (.ifCond .eq 12, 3) := by decide +kernel
theorem dX8_isFree_49 : decode cX8_isFree 49 = .ok (.aload 4, 2) := by decide +kernel
theorem dX8_isFree_51 : decode cX8_isFree 51 = .ok (.iload_n 1, 1) := by decide +kernel
theorem dX8_isFree_52 : decode cX8_isFree 52 = .ok (.invokevirtual 102, 3) := by decide +kernel
theorem dX8_isFree_55 : decode cX8_isFree 55 = .ok (.goto 13, 3) := by decide +kernel
theorem dX8_isFree_58 : decode cX8_isFree 58 = .ok (.aload 4, 2) := by decide +kernel
theorem dX8_isFree_60 : decode cX8_isFree 60 = .ok (.iload_n 1, 1) := by decide +kernel
theorem dX8_isFree_61 : decode cX8_isFree 61 = .ok (.invokevirtual 102, 3) := by decide +kernel
theorem dX8_isFree_64 : decode cX8_isFree 64 = .ok (.iload_n 3, 1) := by decide +kernel
theorem dX8_isFree_65 : decode cX8_isFree 65 = .ok (.iconst (-1), 1) := by decide +kernel
theorem dX8_isFree_66 : decode cX8_isFree 66 = .ok (.ixor, 1) := by decide +kernel
theorem dX8_isFree_67 : decode cX8_isFree 67 = .ok (.iand, 1) := by decide +kernel
theorem dX8_isFree_68 : decode cX8_isFree 68 = .ok (.istore 5, 2) := by decide +kernel
theorem dX8_isFree_70 : decode cX8_isFree 70 = .ok (.iload 5, 2) := by decide +kernel
theorem dX8_isFree_72 : decode cX8_isFree 72 = .ok (.iload_n 2, 1) := by decide +kernel
theorem dX8_isFree_73 : decode cX8_isFree 73 = .ok (.ishr, 1) := by decide +kernel
theorem dX8_isFree_74 : decode cX8_isFree 74 = .ok (.iconst 1, 1) := by decide +kernel
theorem dX8_isFree_75 : decode cX8_isFree 75 = .ok (.iand, 1) := by decide +kernel
theorem dX8_isFree_76 : decode cX8_isFree 76 = .ok (.iconst 1, 1) := by decide +kernel
theorem dX8_isFree_77 : decode cX8_isFree 77 = .ok (.if_icmp .ne 7, 3) := by decide +kernel
theorem dX8_isFree_80 : decode cX8_isFree 80 = .ok (.iconst 1, 1) := by decide +kernel
theorem dX8_isFree_81 : decode cX8_isFree 81 = .ok (.goto 4, 3) := by decide +kernel
theorem dX8_isFree_84 : decode cX8_isFree 84 = .ok (.iconst 0, 1) := by decide +kernel
theorem dX8_isFree_85 : decode cX8_isFree 85 = .ok (.ireturn, 1) := by decide +kernel
theorem dX8_fillWages_0 : decode cX8_fillWages 0 = .ok (.iconst 0, 1) := by decide +kernel
theorem dX8_fillWages_1 : decode cX8_fillWages 1 = .ok (.istore_n 1, 1) := by decide +kernel
theorem dX8_fillWages_2 : decode cX8_fillWages 2 = .ok (.iload_n 1, 1) := by decide +kernel
theorem dX8_fillWages_3 : decode cX8_fillWages 3 = .ok (.aload_n 0, 1) := by decide +kernel
theorem dX8_fillWages_4 : decode cX8_fillWages 4 = .ok (.getfield 10, 3) := by decide +kernel
theorem dX8_fillWages_7 : decode cX8_fillWages 7 = .ok (.getfield 73, 3) := by decide +kernel
theorem dX8_fillWages_10 : decode cX8_fillWages 10 = .ok (.getfield 76, 3) := by decide +kernel
theorem dX8_fillWages_13 : decode cX8_fillWages 13 = .ok (.if_icmp .ge 61, 3) := by decide +kernel
theorem dX8_fillWages_16 : decode cX8_fillWages 16 = .ok (.iconst 0, 1) := by decide +kernel
theorem dX8_fillWages_17 : decode cX8_fillWages 17 = .ok (.istore_n 2, 1) := by decide +kernel
theorem dX8_fillWages_18 : decode cX8_fillWages 18 = .ok (.iload_n 2, 1) := by decide +kernel
theorem dX8_fillWages_19 : decode cX8_fillWages 19 = .ok (.aload_n 0, 1) := by decide +kernel
theorem dX8_fillWages_20 : decode cX8_fillWages 20 = .ok (.getfield 10, 3) := by decide +kernel
theorem dX8_fillWages_23 : decode cX8_fillWages 23 = .ok (.getfield 73, 3) := by decide +kernel
theorem dX8_fillWages_26 : decode cX8_fillWages 26 = .ok (.getfield 116, 3) := by decide +kernel
theorem dX8_fillWages_29 : decode cX8_fillWages 29 = .ok (.if_icmp .ge 39, 3) := by decide +kernel
theorem dX8_fillWages_32 : decode cX8_fillWages 32 = .ok (.aload_n 0, 1) := by decide +kernel
theorem dX8_fillWages_33 : decode cX8_fillWages 33 = .ok (.getfield 54, 3) := by decide +kernel
theorem dX8_fillWages_36 : decode cX8_fillWages 36 = .ok (.iload_n 1, 1) := by decide +kernel
theorem dX8_fillWages_37 : decode cX8_fillWages 37 = .ok (.bipush 6, 2) := by decide +kernel
theorem dX8_fillWages_39 : decode cX8_fillWages 39 = .ok (.imul, 1) := by decide +kernel
theorem dX8_fillWages_40 : decode cX8_fillWages 40 = .ok (.iload_n 2, 1) := by decide +kernel
theorem dX8_fillWages_41 : decode cX8_fillWages 41 = .ok (.iadd, 1) := by decide +kernel
theorem dX8_fillWages_42 : decode cX8_fillWages 42 = .ok (.aload_n 0, 1) := by decide +kernel
theorem dX8_fillWages_43 : decode cX8_fillWages 43 = .ok (.getfield 10, 3) := by decide +kernel
theorem dX8_fillWages_46 : decode cX8_fillWages 46 = .ok (.getfield 73, 3) := by decide +kernel
theorem dX8_fillWages_49 : decode cX8_fillWages 49 = .ok (.iload_n 1, 1) := by decide +kernel
theorem dX8_fillWages_50 : decode cX8_fillWages 50 = .ok (.iload_n 2, 1) := by decide +kernel
theorem dX8_fillWages_51 : decode cX8_fillWages 51 = .ok (.aload_n 0, 1) := by decide +kernel
theorem dX8_fillWages_52 : decode cX8_fillWages 52 = .ok (.getfield 10, 3) := by decide +kernel
theorem dX8_fillWages_55 : decode cX8_fillWages 55 = .ok (.getfield 219, 3) := by decide +kernel
theorem dX8_fillWages_58 : decode cX8_fillWages 58 = .ok (.invokevirtual 333, 3) := by decide +kernel
theorem dX8_fillWages_61 : decode cX8_fillWages 61 = .ok (.iastore, 1) := by decide +kernel
theorem dX8_fillWages_62 : decode cX8_fillWages 62 = .ok (.iinc 2 1, 3) := by decide +kernel
theorem dX8_fillWages_65 : decode cX8_fillWages 65 = .ok (.goto (-47), 3) := by decide +kernel
theorem dX8_fillWages_68 : decode cX8_fillWages 68 = .ok (.iinc 1 1, 3) := by decide +kernel
theorem dX8_fillWages_71 : decode cX8_fillWages 71 = .ok (.goto (-69), 3) := by decide +kernel
theorem dX8_fillWages_74 : decode cX8_fillWages 74 = .ok (.return_, 1) := by decide +kernel
theorem dX8_paysAs_0 : decode cX8_paysAs 0 = .ok (.iconst 0, 1) := by decide +kernel
theorem dX8_paysAs_1 : decode cX8_paysAs 1 = .ok (.istore_n 2, 1) := by decide +kernel
theorem dX8_paysAs_2 : decode cX8_paysAs 2 = .ok (.iload_n 2, 1) := by decide +kernel
theorem dX8_paysAs_3 : decode cX8_paysAs 3 = .ok (.aload_n 0, 1) := by decide +kernel
theorem dX8_paysAs_4 : decode cX8_paysAs 4 = .ok (.getfield 10, 3) := by decide +kernel
theorem dX8_paysAs_7 : decode cX8_paysAs 7 = .ok (.getfield 73, 3) := by decide +kernel
theorem dX8_paysAs_10 : decode cX8_paysAs 10 = .ok (.getfield 116, 3) := by decide +kernel
theorem dX8_paysAs_13 : decode cX8_paysAs 13 = .ok (.if_icmp .ge 93, 3) := by decide +kernel
theorem dX8_paysAs_16 : decode cX8_paysAs 16 = .ok (.aload_n 0, 1) := by decide +kernel
theorem dX8_paysAs_17 : decode cX8_paysAs 17 = .ok (.getfield 10, 3) := by decide +kernel
theorem dX8_paysAs_20 : decode cX8_paysAs 20 = .ok (.getfield 73, 3) := by decide +kernel
theorem dX8_paysAs_23 : decode cX8_paysAs 23 = .ok (.getfield 134, 3) := by decide +kernel
theorem dX8_paysAs_26 : decode cX8_paysAs 26 = .ok (.iload_n 2, 1) := by decide +kernel
theorem dX8_paysAs_27 : decode cX8_paysAs 27 = .ok (.iaload, 1) := by decide +kernel
theorem dX8_paysAs_28 : decode cX8_paysAs 28 = .ok (.istore_n 3, 1) := by decide +kernel
theorem dX8_paysAs_29 : decode cX8_paysAs 29 = .ok (.iconst 0, 1) := by decide +kernel
theorem dX8_paysAs_30 : decode cX8_paysAs 30 = .ok (.istore 4, 2) := by decide +kernel
theorem dX8_paysAs_32 : decode cX8_paysAs 32 = .ok (.iload 4, 2) := by decide +kernel
theorem dX8_paysAs_34 : decode cX8_paysAs 34 = .ok (.aload_n 0, 1) := by decide +kernel
theorem dX8_paysAs_35 : decode cX8_paysAs 35 = .ok (.getfield 10, 3) := by decide +kernel
theorem dX8_paysAs_38 : decode cX8_paysAs 38 = .ok (.getfield 73, 3) := by decide +kernel
theorem dX8_paysAs_41 : decode cX8_paysAs 41 = .ok (.getfield 76, 3) := by decide +kernel
theorem dX8_paysAs_44 : decode cX8_paysAs 44 = .ok (.if_icmp .ge 38, 3) := by decide +kernel
theorem dX8_paysAs_47 : decode cX8_paysAs 47 = .ok (.aload_n 0, 1) := by decide +kernel
theorem dX8_paysAs_48 : decode cX8_paysAs 48 = .ok (.getfield 29, 3) := by decide +kernel
theorem dX8_paysAs_51 : decode cX8_paysAs 51 = .ok (.getfield 248, 3) := by decide +kernel
theorem dX8_paysAs_54 : decode cX8_paysAs 54 = .ok (.iload 4, 2) := by decide +kernel
theorem dX8_paysAs_56 : decode cX8_paysAs 56 = .ok (.iaload, 1) := by decide +kernel
theorem dX8_paysAs_57 : decode cX8_paysAs 57 = .ok (.iload_n 2, 1) := by decide +kernel
theorem dX8_paysAs_58 : decode cX8_paysAs 58 = .ok (.if_icmp .ne 18, 3) := by decide +kernel
theorem dX8_paysAs_61 : decode cX8_paysAs 61 = .ok (.iload_n 3, 1) := by decide +kernel
theorem dX8_paysAs_62 : decode cX8_paysAs 62 = .ok (.aload_n 0, 1) := by decide +kernel
theorem dX8_paysAs_63 : decode cX8_paysAs 63 = .ok (.getfield 54, 3) := by decide +kernel
theorem dX8_paysAs_66 : decode cX8_paysAs 66 = .ok (.iload 4, 2) := by decide +kernel
theorem dX8_paysAs_68 : decode cX8_paysAs 68 = .ok (.bipush 6, 2) := by decide +kernel
theorem dX8_paysAs_70 : decode cX8_paysAs 70 = .ok (.imul, 1) := by decide +kernel
theorem dX8_paysAs_71 : decode cX8_paysAs 71 = .ok (.iload_n 2, 1) := by decide +kernel
theorem dX8_paysAs_72 : decode cX8_paysAs 72 = .ok (.iadd, 1) := by decide +kernel
theorem dX8_paysAs_73 : decode cX8_paysAs 73 = .ok (.iaload, 1) := by decide +kernel
theorem dX8_paysAs_74 : decode cX8_paysAs 74 = .ok (.iadd, 1) := by decide +kernel
theorem dX8_paysAs_75 : decode cX8_paysAs 75 = .ok (.istore_n 3, 1) := by decide +kernel
theorem dX8_paysAs_76 : decode cX8_paysAs 76 = .ok (.iinc 4 1, 3) := by decide +kernel
theorem dX8_paysAs_79 : decode cX8_paysAs 79 = .ok (.goto (-47), 3) := by decide +kernel
theorem dX8_paysAs_82 : decode cX8_paysAs 82 = .ok (.iload_n 3, 1) := by decide +kernel
theorem dX8_paysAs_83 : decode cX8_paysAs 83 = .ok (.sipush 9999, 3) := by decide +kernel
theorem dX8_paysAs_86 : decode cX8_paysAs 86 = .ok (.invokestatic 226, 3) := by decide +kernel
theorem dX8_paysAs_89 : decode cX8_paysAs 89 = .ok (.aload_n 1, 1) := by decide +kernel
theorem dX8_paysAs_90 : decode cX8_paysAs 90 = .ok (.getfield 212, 3) := by decide +kernel
theorem dX8_paysAs_93 : decode cX8_paysAs 93 = .ok (.iload_n 2, 1) := by decide +kernel
theorem dX8_paysAs_94 : decode cX8_paysAs 94 = .ok (.iaload, 1) := by decide +kernel
theorem dX8_paysAs_95 : decode cX8_paysAs 95 = .ok (.if_icmp .eq 5, 3) := by decide +kernel
theorem dX8_paysAs_98 : decode cX8_paysAs 98 = .ok (.iconst 0, 1) := by decide +kernel
theorem dX8_paysAs_99 : decode cX8_paysAs 99 = .ok (.ireturn, 1) := by decide +kernel
theorem dX8_paysAs_100 : decode cX8_paysAs 100 = .ok (.iinc 2 1, 3) := by decide +kernel
theorem dX8_paysAs_103 : decode cX8_paysAs 103 = .ok (.goto (-101), 3) := by decide +kernel
theorem dX8_paysAs_106 : decode cX8_paysAs 106 = .ok (.iconst 1, 1) := by decide +kernel
theorem dX8_paysAs_107 : decode cX8_paysAs 107 = .ok (.ireturn, 1) := by decide +kernel
theorem dX9_init_0 : decode cX9_init 0 = .ok (.aload_n 0, 1) := by decide +kernel
theorem dX9_init_1 : decode cX9_init 1 = .ok (.invokespecial 1, 3) := by decide +kernel
theorem dX9_init_4 : decode cX9_init 4 = .ok (.aload_n 0, 1) := by decide +kernel
theorem dX9_init_5 : decode cX9_init 5 = .ok (.sipush 229, 3) := by decide +kernel
theorem dX9_init_8 : decode cX9_init 8 = .ok (.newarray .int, 2) := by decide +kernel
theorem dX9_init_10 : decode cX9_init 10 = .ok (.putfield 7, 3) := by decide +kernel
theorem dX9_init_13 : decode cX9_init 13 = .ok (.aload_n 0, 1) := by decide +kernel
theorem dX9_init_14 : decode cX9_init 14 = .ok (.sipush 229, 3) := by decide +kernel
theorem dX9_init_17 : decode cX9_init 17 = .ok (.newarray .int, 2) := by decide +kernel
theorem dX9_init_19 : decode cX9_init 19 = .ok (.putfield 13, 3) := by decide +kernel
theorem dX9_init_22 : decode cX9_init 22 = .ok (.aload_n 0, 1) := by decide +kernel
theorem dX9_init_23 : decode cX9_init 23 = .ok (.sipush 229, 3) := by decide +kernel
theorem dX9_init_26 : decode cX9_init 26 = .ok (.newarray .int, 2) := by decide +kernel
theorem dX9_init_28 : decode cX9_init 28 = .ok (.putfield 16, 3) := by decide +kernel
theorem dX9_init_31 : decode cX9_init 31 = .ok (.aload_n 0, 1) := by decide +kernel
theorem dX9_init_32 : decode cX9_init 32 = .ok (.sipush 229, 3) := by decide +kernel
theorem dX9_init_35 : decode cX9_init 35 = .ok (.newarray .int, 2) := by decide +kernel
theorem dX9_init_37 : decode cX9_init 37 = .ok (.putfield 19, 3) := by decide +kernel
theorem dX9_init_40 : decode cX9_init 40 = .ok (.aload_n 0, 1) := by decide +kernel
theorem dX9_init_41 : decode cX9_init 41 = .ok (.bipush 6, 2) := by decide +kernel
theorem dX9_init_43 : decode cX9_init 43 = .ok (.newarray .int, 2) := by decide +kernel
theorem dX9_init_45 : decode cX9_init 45 = .ok (.putfield 22, 3) := by decide +kernel
theorem dX9_init_48 : decode cX9_init 48 = .ok (.aload_n 0, 1) := by decide +kernel
theorem dX9_init_49 : decode cX9_init 49 = .ok (.iconst 5, 1) := by decide +kernel
theorem dX9_init_50 : decode cX9_init 50 = .ok (.newarray .int, 2) := by decide +kernel
theorem dX9_init_52 : decode cX9_init 52 = .ok (.putfield 25, 3) := by decide +kernel
theorem dX9_init_55 : decode cX9_init 55 = .ok (.aload_n 0, 1) := by decide +kernel
theorem dX9_init_56 : decode cX9_init 56 = .ok (.iconst 5, 1) := by decide +kernel
theorem dX9_init_57 : decode cX9_init 57 = .ok (.newarray .int, 2) := by decide +kernel
theorem dX9_init_59 : decode cX9_init 59 = .ok (.putfield 28, 3) := by decide +kernel
theorem dX9_init_62 : decode cX9_init 62 = .ok (.aload_n 0, 1) := by decide +kernel
theorem dX9_init_63 : decode cX9_init 63 = .ok (.bipush 6, 2) := by decide +kernel
theorem dX9_init_65 : decode cX9_init 65 = .ok (.newarray .int, 2) := by decide +kernel
theorem dX9_init_67 : decode cX9_init 67 = .ok (.putfield 31, 3) := by decide +kernel
theorem dX9_init_70 : decode cX9_init 70 = .ok (.aload_n 0, 1) := by decide +kernel
theorem dX9_init_71 : decode cX9_init 71 = .ok (.iconst 5, 1) := by decide +kernel
theorem dX9_init_72 : decode cX9_init 72 = .ok (.newarray .int, 2) := by decide +kernel
theorem dX9_init_74 : decode cX9_init 74 = .ok (.putfield 34, 3) := by decide +kernel
theorem dX9_init_77 : decode cX9_init 77 = .ok (.aload_n 0, 1) := by decide +kernel
theorem dX9_init_78 : decode cX9_init 78 = .ok (.iconst 4, 1) := by decide +kernel
theorem dX9_init_79 : decode cX9_init 79 = .ok (.newarray .int, 2) := by decide +kernel
theorem dX9_init_81 : decode cX9_init 81 = .ok (.putfield 37, 3) := by decide +kernel
theorem dX9_init_84 : decode cX9_init 84 = .ok (.aload_n 0, 1) := by decide +kernel
theorem dX9_init_85 : decode cX9_init 85 = .ok (.iconst 4, 1) := by decide +kernel
theorem dX9_init_86 : decode cX9_init 86 = .ok (.newarray .int, 2) := by decide +kernel
theorem dX9_init_88 : decode cX9_init 88 = .ok (.putfield 40, 3) := by decide +kernel
theorem dX9_init_91 : decode cX9_init 91 = .ok (.aload_n 0, 1) := by decide +kernel
theorem dX9_init_92 : decode cX9_init 92 = .ok (.sipush 160, 3) := by decide +kernel
theorem dX9_init_95 : decode cX9_init 95 = .ok (.newarray .int, 2) := by decide +kernel
theorem dX9_init_97 : decode cX9_init 97 = .ok (.putfield 43, 3) := by decide +kernel
theorem dX9_init_100 : decode cX9_init 100 = .ok (.aload_n 0, 1) := by decide +kernel
theorem dX9_init_101 : decode cX9_init 101 = .ok (.bipush 40, 2) := by decide +kernel
theorem dX9_init_103 : decode cX9_init 103 = .ok (.newarray .int, 2) := by decide +kernel
theorem dX9_init_105 : decode cX9_init 105 = .ok (.putfield 46, 3) := by decide +kernel
theorem dX9_init_108 : decode cX9_init 108 = .ok (.aload_n 0, 1) := by decide +kernel
theorem dX9_init_109 : decode cX9_init 109 = .ok (.bipush 40, 2) := by decide +kernel
theorem dX9_init_111 : decode cX9_init 111 = .ok (.newarray .int, 2) := by decide +kernel
theorem dX9_init_113 : decode cX9_init 113 = .ok (.putfield 49, 3) := by decide +kernel
theorem dX9_init_116 : decode cX9_init 116 = .ok (.aload_n 0, 1) := by decide +kernel
theorem dX9_init_117 : decode cX9_init 117 = .ok (.getfield 7, 3) := by decide +kernel
theorem dX9_init_120 : decode cX9_init 120 = .ok (.iconst 2, 1) := by decide +kernel
theorem dX9_init_121 : decode cX9_init 121 = .ok (.iconst 1, 1) := by decide +kernel
theorem dX9_init_122 : decode cX9_init 122 = .ok (.iastore, 1) := by decide +kernel
theorem dX9_init_123 : decode cX9_init 123 = .ok (.aload_n 0, 1) := by decide +kernel
theorem dX9_init_124 : decode cX9_init 124 = .ok (.getfield 7, 3) := by decide +kernel
theorem dX9_init_127 : decode cX9_init 127 = .ok (.bipush 6, 2) := by decide +kernel
theorem dX9_init_129 : decode cX9_init 129 = .ok (.iconst (-1), 1) := by decide +kernel
theorem dX9_init_130 : decode cX9_init 130 = .ok (.iastore, 1) := by decide +kernel
theorem dX9_init_131 : decode cX9_init 131 = .ok (.aload_n 0, 1) := by decide +kernel
theorem dX9_init_132 : decode cX9_init 132 = .ok (.getfield 7, 3) := by decide +kernel
theorem dX9_init_135 : decode cX9_init 135 = .ok (.bipush 7, 2) := by decide +kernel
theorem dX9_init_137 : decode cX9_init 137 = .ok (.iconst (-1), 1) := by decide +kernel
theorem dX9_init_138 : decode cX9_init 138 = .ok (.iastore, 1) := by decide +kernel
theorem dX9_init_139 : decode cX9_init 139 = .ok (.return_, 1) := by decide +kernel
theorem dX9_in_0 : decode cX9_in 0 = .ok (.iload_n 0, 1) := by decide +kernel
theorem dX9_in_1 : decode cX9_in 1 = .ok (.iload_n 1, 1) := by decide +kernel
theorem dX9_in_2 : decode cX9_in 2 = .ok (.if_icmp .lt 12, 3) := by decide +kernel
theorem dX9_in_5 : decode cX9_in 5 = .ok (.iload_n 0, 1) := by decide +kernel
theorem dX9_in_6 : decode cX9_in 6 = .ok (.iload_n 2, 1) := by decide +kernel
theorem dX9_in_7 : decode cX9_in 7 = .ok (.if_icmp .gt 7, 3) := by decide +kernel
theorem dX9_in_10 : decode cX9_in 10 = .ok (.iconst 1, 1) := by decide +kernel
theorem dX9_in_11 : decode cX9_in 11 = .ok (.goto 4, 3) := by decide +kernel
theorem dX9_in_14 : decode cX9_in 14 = .ok (.iconst 0, 1) := by decide +kernel
theorem dX9_in_15 : decode cX9_in 15 = .ok (.ireturn, 1) := by decide +kernel
theorem dX9_errs_0 : decode cX9_errs 0 = .ok (.aload_n 0, 1) := by decide +kernel
theorem dX9_errs_1 : decode cX9_errs 1 = .ok (.getfield 22, 3) := by decide +kernel
theorem dX9_errs_4 : decode cX9_errs 4 = .ok (.ldc 52, 2) := by decide +kernel
theorem dX9_errs_6 : decode cX9_errs 6 = .ok (.iload_n 1, 1) := by decide +kernel
theorem dX9_errs_7 : decode cX9_errs 7 = .ok (.isub, 1) := by decide +kernel
theorem dX9_errs_8 : decode cX9_errs 8 = .ok (.dup2, 1) := by decide +kernel
theorem dX9_errs_9 : decode cX9_errs 9 = .ok (.iaload, 1) := by decide +kernel
theorem dX9_errs_10 : decode cX9_errs 10 = .ok (.iconst 1, 1) := by decide +kernel
theorem dX9_errs_11 : decode cX9_errs 11 = .ok (.iadd, 1) := by decide +kernel
theorem dX9_errs_12 : decode cX9_errs 12 = .ok (.iastore, 1) := by decide +kernel
theorem dX9_errs_13 : decode cX9_errs 13 = .ok (.iload_n 1, 1) := by decide +kernel
theorem dX9_errs_14 : decode cX9_errs 14 = .ok (.ireturn, 1) := by decide +kernel
theorem dX9_held_0 : decode cX9_held 0 = .ok (.iload_n 0, 1) := by decide +kernel
theorem dX9_held_1 : decode cX9_held 1 = .ok (.iload_n 1, 1) := by decide +kernel
theorem dX9_held_2 : decode cX9_held 2 = .ok (.if_icmp .ge 7, 3) := by decide +kernel
theorem dX9_held_5 : decode cX9_held 5 = .ok (.iload_n 1, 1) := by decide +kernel
theorem dX9_held_6 : decode cX9_held 6 = .ok (.goto 13, 3) := by decide +kernel
theorem dX9_held_9 : decode cX9_held 9 = .ok (.iload_n 0, 1) := by decide +kernel
theorem dX9_held_10 : decode cX9_held 10 = .ok (.iload_n 2, 1) := by decide +kernel
theorem dX9_held_11 : decode cX9_held 11 = .ok (.if_icmp .le 7, 3) := by decide +kernel
theorem dX9_held_14 : decode cX9_held 14 = .ok (.iload_n 2, 1) := by decide +kernel
theorem dX9_held_15 : decode cX9_held 15 = .ok (.goto 4, 3) := by decide +kernel
theorem dX9_held_18 : decode cX9_held 18 = .ok (.iload_n 0, 1) := by decide +kernel
theorem dX9_held_19 : decode cX9_held 19 = .ok (.ireturn, 1) := by decide +kernel
theorem dX9_moveAll_0 : decode cX9_moveAll 0 = .ok (.iconst 0, 1) := by decide +kernel
theorem dX9_moveAll_1 : decode cX9_moveAll 1 = .ok (.istore_n 3, 1) := by decide +kernel
theorem dX9_moveAll_2 : decode cX9_moveAll 2 = .ok (.iload_n 3, 1) := by decide +kernel
theorem dX9_moveAll_3 : decode cX9_moveAll 3 = .ok (.sipush 229, 3) := by decide +kernel
theorem dX9_moveAll_6 : decode cX9_moveAll 6 = .ok (.if_icmp .ge 15, 3) := by decide +kernel
theorem dX9_moveAll_9 : decode cX9_moveAll 9 = .ok (.aload_n 2, 1) := by decide +kernel
theorem dX9_moveAll_10 : decode cX9_moveAll 10 = .ok (.iload_n 3, 1) := by decide +kernel
theorem dX9_moveAll_11 : decode cX9_moveAll 11 = .ok (.aload_n 1, 1) := by decide +kernel
theorem dX9_moveAll_12 : decode cX9_moveAll 12 = .ok (.iload_n 3, 1) := by decide +kernel
theorem dX9_moveAll_13 : decode cX9_moveAll 13 = .ok (.iaload, 1) := by decide +kernel
theorem dX9_moveAll_14 : decode cX9_moveAll 14 = .ok (.iastore, 1) := by decide +kernel
theorem dX9_moveAll_15 : decode cX9_moveAll 15 = .ok (.iinc 3 1, 3) := by decide +kernel
theorem dX9_moveAll_18 : decode cX9_moveAll 18 = .ok (.goto (-16), 3) := by decide +kernel
theorem dX9_moveAll_21 : decode cX9_moveAll 21 = .ok (.return_, 1) := by decide +kernel
theorem dX9_its_0 : decode cX9_its 0 = .ok (.aload_n 0, 1) := by decide +kernel
theorem dX9_its_1 : decode cX9_its 1 = .ok (.getfield 7, 3) := by decide +kernel
theorem dX9_its_4 : decode cX9_its 4 = .ok (.bipush 9, 2) := by decide +kernel
theorem dX9_its_6 : decode cX9_its 6 = .ok (.iconst 4, 1) := by decide +kernel
theorem dX9_its_7 : decode cX9_its 7 = .ok (.iload_n 1, 1) := by decide +kernel
theorem dX9_its_8 : decode cX9_its 8 = .ok (.imul, 1) := by decide +kernel
theorem dX9_its_9 : decode cX9_its 9 = .ok (.iadd, 1) := by decide +kernel
theorem dX9_its_10 : decode cX9_its 10 = .ok (.iload_n 2, 1) := by decide +kernel
theorem dX9_its_11 : decode cX9_its 11 = .ok (.iadd, 1) := by decide +kernel
theorem dX9_its_12 : decode cX9_its 12 = .ok (.iaload, 1) := by decide +kernel
theorem dX9_its_13 : decode cX9_its 13 = .ok (.ireturn, 1) := by decide +kernel
theorem dX9_of_0 : decode cX9_of 0 = .ok (.aload_n 0, 1) := by decide +kernel
theorem dX9_of_1 : decode cX9_of 1 = .ok (.getfield 7, 3) := by decide +kernel
theorem dX9_of_4 : decode cX9_of 4 = .ok (.bipush 29, 2) := by decide +kernel
theorem dX9_of_6 : decode cX9_of 6 = .ok (.iconst 5, 1) := by decide +kernel
theorem dX9_of_7 : decode cX9_of 7 = .ok (.iload_n 1, 1) := by decide +kernel
theorem dX9_of_8 : decode cX9_of 8 = .ok (.imul, 1) := by decide +kernel
theorem dX9_of_9 : decode cX9_of 9 = .ok (.iadd, 1) := by decide +kernel
theorem dX9_of_10 : decode cX9_of 10 = .ok (.iload_n 2, 1) := by decide +kernel
theorem dX9_of_11 : decode cX9_of 11 = .ok (.iadd, 1) := by decide +kernel
theorem dX9_of_12 : decode cX9_of 12 = .ok (.iaload, 1) := by decide +kernel
theorem dX9_of_13 : decode cX9_of 13 = .ok (.ireturn, 1) := by decide +kernel
theorem dX9_gets_0 : decode cX9_gets 0 = .ok (.aload_n 0, 1) := by decide +kernel
theorem dX9_gets_1 : decode cX9_gets 1 = .ok (.getfield 7, 3) := by decide +kernel
theorem dX9_gets_4 : decode cX9_gets 4 = .ok (.bipush 29, 2) := by decide +kernel
theorem dX9_gets_6 : decode cX9_gets 6 = .ok (.iconst 5, 1) := by decide +kernel
theorem dX9_gets_7 : decode cX9_gets 7 = .ok (.iload_n 1, 1) := by decide +kernel
theorem dX9_gets_8 : decode cX9_gets 8 = .ok (.imul, 1) := by decide +kernel
theorem dX9_gets_9 : decode cX9_gets 9 = .ok (.iadd, 1) := by decide +kernel
theorem dX9_gets_10 : decode cX9_gets 10 = .ok (.iload_n 2, 1) := by decide +kernel
theorem dX9_gets_11 : decode cX9_gets 11 = .ok (.iadd, 1) := by decide +kernel
theorem dX9_gets_12 : decode cX9_gets 12 = .ok (.iload_n 3, 1) := by decide +kernel
theorem dX9_gets_13 : decode cX9_gets 13 = .ok (.iastore, 1) := by decide +kernel
theorem dX9_gets_14 : decode cX9_gets 14 = .ok (.return_, 1) := by decide +kernel
theorem dX9_isPart_0 : decode cX9_isPart 0 = .ok (.iload_n 1, 1) := by decide +kernel
theorem dX9_isPart_1 : decode cX9_isPart 1 = .ok (.iconst 0, 1) := by decide +kernel
theorem dX9_isPart_2 : decode cX9_isPart 2 = .ok (.aload_n 0, 1) := by decide +kernel
theorem dX9_isPart_3 : decode cX9_isPart 3 = .ok (.getfield 7, 3) := by decide +kernel
theorem dX9_isPart_6 : decode cX9_isPart 6 = .ok (.iconst 3, 1) := by decide +kernel
theorem dX9_isPart_7 : decode cX9_isPart 7 = .ok (.iaload, 1) := by decide +kernel
theorem dX9_isPart_8 : decode cX9_isPart 8 = .ok (.iconst 1, 1) := by decide +kernel
theorem dX9_isPart_9 : decode cX9_isPart 9 = .ok (.isub, 1) := by decide +kernel
theorem dX9_isPart_10 : decode cX9_isPart 10 = .ok (.invokestatic 53, 3) := by decide +kernel
theorem dX9_isPart_13 : decode cX9_isPart 13 = .ok (.ireturn, 1) := by decide +kernel
theorem dX9_isPlayer_0 : decode cX9_isPlayer 0 = .ok (.iload_n 1, 1) := by decide +kernel
theorem dX9_isPlayer_1 : decode cX9_isPlayer 1 = .ok (.iconst 0, 1) := by decide +kernel
theorem dX9_isPlayer_2 : decode cX9_isPlayer 2 = .ok (.aload_n 0, 1) := by decide +kernel
theorem dX9_isPlayer_3 : decode cX9_isPlayer 3 = .ok (.getfield 7, 3) := by decide +kernel
theorem dX9_isPlayer_6 : decode cX9_isPlayer 6 = .ok (.bipush 8, 2) := by decide +kernel
theorem dX9_isPlayer_8 : decode cX9_isPlayer 8 = .ok (.iaload, 1) := by decide +kernel
theorem dX9_isPlayer_9 : decode cX9_isPlayer 9 = .ok (.iconst 1, 1) := by decide +kernel
theorem dX9_isPlayer_10 : decode cX9_isPlayer 10 = .ok (.isub, 1) := by decide +kernel
theorem dX9_isPlayer_11 : decode cX9_isPlayer 11 = .ok (.invokestatic 53, 3) := by decide +kernel
theorem dX9_isPlayer_14 : decode cX9_isPlayer 14 = .ok (.ireturn, 1) := by decide +kernel
theorem dX9_isOwn_0 : decode cX9_isOwn 0 = .ok (.iload_n 1, 1) := by decide +kernel
theorem dX9_isOwn_1 : decode cX9_isOwn 1 = .ok (.iconst (-1), 1) := by decide +kernel
theorem dX9_isOwn_2 : decode cX9_isOwn 2 = .ok (.if_icmp .eq 11, 3) := by decide +kernel
theorem dX9_isOwn_5 : decode cX9_isOwn 5 = .ok (.aload_n 0, 1) := by decide +kernel
theorem dX9_isOwn_6 : decode cX9_isOwn 6 = .ok (.iload_n 1, 1) := by decide +kernel
theorem dX9_isOwn_7 : decode cX9_isOwn 7 = .ok (.invokevirtual 57, 3) := by decide +kernel
theorem dX9_isOwn_10 : decode cX9_isOwn 10 = .ok (.ifCond .eq 7, 3) := by decide +kernel
theorem dX9_isOwn_13 : decode cX9_isOwn 13 = .ok (.iconst 1, 1) := by decide +kernel
theorem dX9_isOwn_14 : decode cX9_isOwn 14 = .ok (.goto 4, 3) := by decide +kernel
theorem dX9_isOwn_17 : decode cX9_isOwn 17 = .ok (.iconst 0, 1) := by decide +kernel
theorem dX9_isOwn_18 : decode cX9_isOwn 18 = .ok (.ireturn, 1) := by decide +kernel
theorem dX9_isSet_0 : decode cX9_isSet 0 = .ok (.iload_n 1, 1) := by decide +kernel
theorem dX9_isSet_1 : decode cX9_isSet 1 = .ok (.iconst 0, 1) := by decide +kernel
theorem dX9_isSet_2 : decode cX9_isSet 2 = .ok (.iconst 1, 1) := by decide +kernel
theorem dX9_isSet_3 : decode cX9_isSet 3 = .ok (.aload_n 0, 1) := by decide +kernel
theorem dX9_isSet_4 : decode cX9_isSet 4 = .ok (.getfield 7, 3) := by decide +kernel
theorem dX9_isSet_7 : decode cX9_isSet 7 = .ok (.iconst 3, 1) := by decide +kernel
theorem dX9_isSet_8 : decode cX9_isSet 8 = .ok (.iaload, 1) := by decide +kernel
theorem dX9_isSet_9 : decode cX9_isSet 9 = .ok (.ishl, 1) := by decide +kernel
theorem dX9_isSet_10 : decode cX9_isSet 10 = .ok (.iconst 1, 1) := by decide +kernel
theorem dX9_isSet_11 : decode cX9_isSet 11 = .ok (.isub, 1) := by decide +kernel
theorem dX9_isSet_12 : decode cX9_isSet 12 = .ok (.invokestatic 53, 3) := by decide +kernel
theorem dX9_isSet_15 : decode cX9_isSet 15 = .ok (.ireturn, 1) := by decide +kernel
theorem dX9_has_0 : decode cX9_has 0 = .ok (.iload_n 0, 1) := by decide +kernel
theorem dX9_has_1 : decode cX9_has 1 = .ok (.iload_n 1, 1) := by decide +kernel
theorem dX9_has_2 : decode cX9_has 2 = .ok (.ishr, 1) := by decide +kernel
theorem dX9_has_3 : decode cX9_has 3 = .ok (.iconst 1, 1) := by decide +kernel
theorem dX9_has_4 : decode cX9_has 4 = .ok (.iand, 1) := by decide +kernel
theorem dX9_has_5 : decode cX9_has 5 = .ok (.iconst 1, 1) := by decide +kernel
theorem dX9_has_6 : decode cX9_has 6 = .ok (.if_icmp .ne 7, 3) := by decide +kernel
theorem dX9_has_9 : decode cX9_has 9 = .ok (.iconst 1, 1) := by decide +kernel
theorem dX9_has_10 : decode cX9_has 10 = .ok (.goto 4, 3) := by decide +kernel
theorem dX9_has_13 : decode cX9_has 13 = .ok (.iconst 0, 1) := by decide +kernel
theorem dX9_has_14 : decode cX9_has 14 = .ok (.ireturn, 1) := by decide +kernel
theorem dX9_bits_0 : decode cX9_bits 0 = .ok (.iconst 0, 1) := by decide +kernel
theorem dX9_bits_1 : decode cX9_bits 1 = .ok (.istore_n 1, 1) := by decide +kernel
theorem dX9_bits_2 : decode cX9_bits 2 = .ok (.iconst 0, 1) := by decide +kernel
theorem dX9_bits_3 : decode cX9_bits 3 = .ok (.istore_n 2, 1) := by decide +kernel
theorem dX9_bits_4 : decode cX9_bits 4 = .ok (.iload_n 2, 1) := by decide +kernel
theorem dX9_bits_5 : decode cX9_bits 5 = .ok (.bipush 6, 2) := by decide +kernel
theorem dX9_bits_7 : decode cX9_bits 7 = .ok (.if_icmp .ge 17, 3) := by decide +kernel
theorem dX9_bits_10 : decode cX9_bits 10 = .ok (.iload_n 1, 1) := by decide +kernel
theorem dX9_bits_11 : decode cX9_bits 11 = .ok (.iload_n 0, 1) := by decide +kernel
theorem dX9_bits_12 : decode cX9_bits 12 = .ok (.iload_n 2, 1) := by decide +kernel
theorem dX9_bits_13 : decode cX9_bits 13 = .ok (.ishr, 1) := by decide +kernel
theorem dX9_bits_14 : decode cX9_bits 14 = .ok (.iconst 1, 1) := by decide +kernel
theorem dX9_bits_15 : decode cX9_bits 15 = .ok (.iand, 1) := by decide +kernel
theorem dX9_bits_16 : decode cX9_bits 16 = .ok (.iadd, 1) := by decide +kernel
theorem dX9_bits_17 : decode cX9_bits 17 = .ok (.istore_n 1, 1) := by decide +kernel
theorem dX9_bits_18 : decode cX9_bits 18 = .ok (.iinc 2 1, 3) := by decide +kernel
theorem dX9_bits_21 : decode cX9_bits 21 = .ok (.goto (-17), 3) := by decide +kernel
theorem dX9_bits_24 : decode cX9_bits 24 = .ok (.iload_n 1, 1) := by decide +kernel
theorem dX9_bits_25 : decode cX9_bits 25 = .ok (.ireturn, 1) := by decide +kernel
theorem dX9_becomes_0 : decode cX9_becomes 0 = .ok (.aload_n 0, 1) := by decide +kernel
theorem dX9_becomes_1 : decode cX9_becomes 1 = .ok (.getfield 7, 3) := by decide +kernel
theorem dX9_becomes_4 : decode cX9_becomes 4 = .ok (.iload_n 1, 1) := by decide +kernel
theorem dX9_becomes_5 : decode cX9_becomes 5 = .ok (.iaload, 1) := by decide +kernel
theorem dX9_becomes_6 : decode cX9_becomes 6 = .ok (.istore_n 3, 1) := by decide +kernel
theorem dX9_becomes_7 : decode cX9_becomes 7 = .ok (.aload_n 0, 1) := by decide +kernel
theorem dX9_becomes_8 : decode cX9_becomes 8 = .ok (.getfield 7, 3) := by decide +kernel
theorem dX9_becomes_11 : decode cX9_becomes 11 = .ok (.iload_n 1, 1) := by decide +kernel
theorem dX9_becomes_12 : decode cX9_becomes 12 = .ok (.iload_n 2, 1) := by decide +kernel
theorem dX9_becomes_13 : decode cX9_becomes 13 = .ok (.iastore, 1) := by decide +kernel
theorem dX9_becomes_14 : decode cX9_becomes 14 = .ok (.iload_n 3, 1) := by decide +kernel
theorem dX9_becomes_15 : decode cX9_becomes 15 = .ok (.ireturn, 1) := by decide +kernel
theorem dX9_part_0 : decode cX9_part 0 = .ok (.iload_n 1, 1) := by decide +kernel
theorem dX9_part_1 : decode cX9_part 1 = .ok (.iconst 0, 1) := by decide +kernel
theorem dX9_part_2 : decode cX9_part 2 = .ok (.bipush 69, 2) := by decide +kernel
theorem dX9_part_4 : decode cX9_part 4 = .ok (.invokestatic 53, 3) := by decide +kernel
theorem dX9_part_7 : decode cX9_part 7 = .ok (.ifCond .eq 13, 3) := by decide +kernel
theorem dX9_part_10 : decode cX9_part 10 = .ok (.iload_n 2, 1) := by decide +kernel
theorem dX9_part_11 : decode cX9_part 11 = .ok (.iconst 0, 1) := by decide +kernel
theorem dX9_part_12 : decode cX9_part 12 = .ok (.bipush 99, 2) := by decide +kernel
theorem dX9_part_14 : decode cX9_part 14 = .ok (.invokestatic 53, 3) := by decide +kernel
theorem dX9_part_17 : decode cX9_part 17 = .ok (.ifCond .ne 10, 3) := by decide +kernel
theorem dX9_part_20 : decode cX9_part 20 = .ok (.aload_n 0, 1) := by decide +kernel
theorem dX9_part_21 : decode cX9_part 21 = .ok (.ldc 61, 2) := by decide +kernel
theorem dX9_part_23 : decode cX9_part 23 = .ok (.invokevirtual 62, 3) := by decide +kernel
theorem dX9_part_26 : decode cX9_part 26 = .ok (.ireturn, 1) := by decide +kernel
theorem dX9_part_27 : decode cX9_part 27 = .ok (.aload_n 0, 1) := by decide +kernel
theorem dX9_part_28 : decode cX9_part 28 = .ok (.getfield 7, 3) := by decide +kernel
theorem dX9_part_31 : decode cX9_part 31 = .ok (.iconst 3, 1) := by decide +kernel
theorem dX9_part_32 : decode cX9_part 32 = .ok (.iaload, 1) := by decide +kernel
theorem dX9_part_33 : decode cX9_part 33 = .ok (.iconst 5, 1) := by decide +kernel
theorem dX9_part_34 : decode cX9_part 34 = .ok (.if_icmp .ne 10, 3) := by decide +kernel
theorem dX9_part_37 : decode cX9_part 37 = .ok (.aload_n 0, 1) := by decide +kernel
theorem dX9_part_38 : decode cX9_part 38 = .ok (.ldc 66, 2) := by decide +kernel
theorem dX9_part_40 : decode cX9_part 40 = .ok (.invokevirtual 62, 3) := by decide +kernel
theorem dX9_part_43 : decode cX9_part 43 = .ok (.ireturn, 1) := by decide +kernel
theorem dX9_part_44 : decode cX9_part 44 = .ok (.bipush 9, 2) := by decide +kernel
theorem dX9_part_46 : decode cX9_part 46 = .ok (.iconst 4, 1) := by decide +kernel
theorem dX9_part_47 : decode cX9_part 47 = .ok (.aload_n 0, 1) := by decide +kernel
theorem dX9_part_48 : decode cX9_part 48 = .ok (.getfield 7, 3) := by decide +kernel
theorem dX9_part_51 : decode cX9_part 51 = .ok (.iconst 3, 1) := by decide +kernel
theorem dX9_part_52 : decode cX9_part 52 = .ok (.iaload, 1) := by decide +kernel
theorem dX9_part_53 : decode cX9_part 53 = .ok (.imul, 1) := by decide +kernel
theorem dX9_part_54 : decode cX9_part 54 = .ok (.iadd, 1) := by decide +kernel
theorem dX9_part_55 : decode cX9_part 55 = .ok (.istore_n 3, 1) := by decide +kernel
theorem dX9_part_56 : decode cX9_part 56 = .ok (.aload_n 0, 1) := by decide +kernel
theorem dX9_part_57 : decode cX9_part 57 = .ok (.getfield 7, 3) := by decide +kernel
theorem dX9_part_60 : decode cX9_part 60 = .ok (.iload_n 3, 1) := by decide +kernel
theorem dX9_part_61 : decode cX9_part 61 = .ok (.iload_n 1, 1) := by decide +kernel
theorem dX9_part_62 : decode cX9_part 62 = .ok (.bipush 10, 2) := by decide +kernel
theorem dX9_part_64 : decode cX9_part 64 = .ok (.idiv, 1) := by decide +kernel
theorem dX9_part_65 : decode cX9_part 65 = .ok (.iastore, 1) := by decide +kernel
theorem dX9_part_66 : decode cX9_part 66 = .ok (.aload_n 0, 1) := by decide +kernel
theorem dX9_part_67 : decode cX9_part 67 = .ok (.getfield 7, 3) := by decide +kernel
theorem dX9_part_70 : decode cX9_part 70 = .ok (.iload_n 3, 1) := by decide +kernel
theorem dX9_part_71 : decode cX9_part 71 = .ok (.iconst 1, 1) := by decide +kernel
theorem dX9_part_72 : decode cX9_part 72 = .ok (.iadd, 1) := by decide +kernel
theorem dX9_part_73 : decode cX9_part 73 = .ok (.iload_n 1, 1) := by decide +kernel
theorem dX9_part_74 : decode cX9_part 74 = .ok (.bipush 10, 2) := by decide +kernel
theorem dX9_part_76 : decode cX9_part 76 = .ok (.irem, 1) := by decide +kernel
theorem dX9_part_77 : decode cX9_part 77 = .ok (.iastore, 1) := by decide +kernel
theorem dX9_part_78 : decode cX9_part 78 = .ok (.aload_n 0, 1) := by decide +kernel
theorem dX9_part_79 : decode cX9_part 79 = .ok (.getfield 7, 3) := by decide +kernel
theorem dX9_part_82 : decode cX9_part 82 = .ok (.iload_n 3, 1) := by decide +kernel
theorem dX9_part_83 : decode cX9_part 83 = .ok (.iconst 2, 1) := by decide +kernel
theorem dX9_part_84 : decode cX9_part 84 = .ok (.iadd, 1) := by decide +kernel
theorem dX9_part_85 : decode cX9_part 85 = .ok (.iload_n 2, 1) := by decide +kernel
theorem dX9_part_86 : decode cX9_part 86 = .ok (.iastore, 1) := by decide +kernel
theorem dX9_part_87 : decode cX9_part 87 = .ok (.aload_n 0, 1) := by decide +kernel
theorem dX9_part_88 : decode cX9_part 88 = .ok (.getfield 7, 3) := by decide +kernel
theorem dX9_part_91 : decode cX9_part 91 = .ok (.iload_n 3, 1) := by decide +kernel
theorem dX9_part_92 : decode cX9_part 92 = .ok (.iconst 3, 1) := by decide +kernel
theorem dX9_part_93 : decode cX9_part 93 = .ok (.iadd, 1) := by decide +kernel
theorem dX9_part_94 : decode cX9_part 94 = .ok (.iconst 0, 1) := by decide +kernel
theorem dX9_part_95 : decode cX9_part 95 = .ok (.iastore, 1) := by decide +kernel
theorem dX9_part_96 : decode cX9_part 96 = .ok (.aload_n 0, 1) := by decide +kernel
theorem dX9_part_97 : decode cX9_part 97 = .ok (.getfield 7, 3) := by decide +kernel
theorem dX9_part_100 : decode cX9_part 100 = .ok (.iconst 3, 1) := by decide +kernel
theorem dX9_part_101 : decode cX9_part 101 = .ok (.dup2, 1) := by decide +kernel
theorem dX9_part_102 : decode cX9_part 102 = .ok (.iaload, 1) := by decide +kernel
theorem dX9_part_103 : decode cX9_part 103 = .ok (.iconst 1, 1) := by decide +kernel
theorem dX9_part_104 : decode cX9_part 104 = .ok (.iadd, 1) := by decide +kernel
theorem dX9_part_105 : decode cX9_part 105 = .ok (.iastore, 1) := by decide +kernel
theorem dX9_part_106 : decode cX9_part 106 = .ok (.aload_n 0, 1) := by decide +kernel
theorem dX9_part_107 : decode cX9_part 107 = .ok (.getfield 7, 3) := by decide +kernel
theorem dX9_part_110 : decode cX9_part 110 = .ok (.iconst 3, 1) := by decide +kernel
theorem dX9_part_111 : decode cX9_part 111 = .ok (.iaload, 1) := by decide +kernel
theorem dX9_part_112 : decode cX9_part 112 = .ok (.iconst 1, 1) := by decide +kernel
theorem dX9_part_113 : decode cX9_part 113 = .ok (.isub, 1) := by decide +kernel
theorem dX9_part_114 : decode cX9_part 114 = .ok (.ireturn, 1) := by decide +kernel
theorem dX9_isEmpty_0 : decode cX9_isEmpty 0 = .ok (.aload_n 0, 1) := by decide +kernel
theorem dX9_isEmpty_1 : decode cX9_isEmpty 1 = .ok (.iload_n 1, 1) := by decide +kernel
theorem dX9_isEmpty_2 : decode cX9_isEmpty 2 = .ok (.iconst 0, 1) := by decide +kernel
theorem dX9_isEmpty_3 : decode cX9_isEmpty 3 = .ok (.invokevirtual 67, 3) := by decide +kernel
theorem dX9_isEmpty_6 : decode cX9_isEmpty 6 = .ok (.iconst 3, 1) := by decide +kernel
theorem dX9_isEmpty_7 : decode cX9_isEmpty 7 = .ok (.if_icmp .eq 25, 3) := by decide +kernel
theorem dX9_isEmpty_10 : decode cX9_isEmpty 10 = .ok (.aload_n 0, 1) := by decide +kernel
theorem dX9_isEmpty_11 : decode cX9_isEmpty 11 = .ok (.iload_n 1, 1) := by decide +kernel
theorem dX9_isEmpty_12 : decode cX9_isEmpty 12 = .ok (.iconst 0, 1) := by decide +kernel
theorem dX9_isEmpty_13 : decode cX9_isEmpty 13 = .ok (.invokevirtual 67, 3) := by decide +kernel
theorem dX9_isEmpty_16 : decode cX9_isEmpty 16 = .ok (.bipush 6, 2) := by decide +kernel
theorem dX9_isEmpty_18 : decode cX9_isEmpty 18 = .ok (.if_icmp .ne 18, 3) := by decide +kernel
theorem dX9_isEmpty_21 : decode cX9_isEmpty 21 = .ok (.aload_n 0, 1) := by decide +kernel
theorem dX9_isEmpty_22 : decode cX9_isEmpty 22 = .ok (.getfield 7, 3) := by decide +kernel
theorem dX9_isEmpty_25 : decode cX9_isEmpty 25 = .ok (.iconst 0, 1) := by decide +kernel
theorem dX9_isEmpty_26 : decode cX9_isEmpty 26 = .ok (.iaload, 1) := by decide +kernel
theorem dX9_isEmpty_27 : decode cX9_isEmpty 27 = .ok (.iconst 2, 1) := by decide +kernel
theorem dX9_isEmpty_28 : decode cX9_isEmpty 28 = .ok (.irem, 1) := by decide +kernel
theorem dX9_isEmpty_29 : decode cX9_isEmpty 29 = .ok (.ifCond .ne 7, 3) := by decide +kernel
theorem dX9_isEmpty_32 : decode cX9_isEmpty 32 = .ok (.iconst 1, 1) := by decide +kernel
theorem dX9_isEmpty_33 : decode cX9_isEmpty 33 = .ok (.goto 4, 3) := by decide +kernel
theorem dX9_isEmpty_36 : decode cX9_isEmpty 36 = .ok (.iconst 0, 1) := by decide +kernel
theorem dX9_isEmpty_37 : decode cX9_isEmpty 37 = .ok (.ireturn, 1) := by decide +kernel
theorem dX9_may_0 : decode cX9_may 0 = .ok (.aload_n 0, 1) := by decide +kernel
theorem dX9_may_1 : decode cX9_may 1 = .ok (.iload_n 1, 1) := by decide +kernel
theorem dX9_may_2 : decode cX9_may 2 = .ok (.iconst 0, 1) := by decide +kernel
theorem dX9_may_3 : decode cX9_may 3 = .ok (.invokevirtual 71, 3) := by decide +kernel
theorem dX9_may_6 : decode cX9_may 6 = .ok (.iload_n 2, 1) := by decide +kernel
theorem dX9_may_7 : decode cX9_may 7 = .ok (.invokestatic 74, 3) := by decide +kernel
theorem dX9_may_10 : decode cX9_may 10 = .ok (.istore_n 3, 1) := by decide +kernel
theorem dX9_may_11 : decode cX9_may 11 = .ok (.aload_n 0, 1) := by decide +kernel
theorem dX9_may_12 : decode cX9_may 12 = .ok (.iload_n 1, 1) := by decide +kernel
theorem dX9_may_13 : decode cX9_may 13 = .ok (.iconst 1, 1) := by decide +kernel
theorem dX9_may_14 : decode cX9_may 14 = .ok (.invokevirtual 71, 3) := by decide +kernel
theorem dX9_may_17 : decode cX9_may 17 = .ok (.iload_n 2, 1) := by decide +kernel
theorem dX9_may_18 : decode cX9_may 18 = .ok (.invokestatic 74, 3) := by decide +kernel
theorem dX9_may_21 : decode cX9_may 21 = .ok (.istore 4, 2) := by decide +kernel
theorem dX9_may_23 : decode cX9_may 23 = .ok (.aload_n 0, 1) := by decide +kernel
theorem dX9_may_24 : decode cX9_may 24 = .ok (.iload_n 1, 1) := by decide +kernel
theorem dX9_may_25 : decode cX9_may 25 = .ok (.iconst 2, 1) := by decide +kernel
theorem dX9_may_26 : decode cX9_may 26 = .ok (.invokevirtual 71, 3) := by decide +kernel
theorem dX9_may_29 : decode cX9_may 29 = .ok (.iload_n 2, 1) := by decide +kernel
theorem dX9_may_30 : decode cX9_may 30 = .ok (.if_icmp .ne 7, 3) := by decide +kernel
theorem dX9_may_33 : decode cX9_may 33 = .ok (.iconst 1, 1) := by decide +kernel
theorem dX9_may_34 : decode cX9_may 34 = .ok (.goto 4, 3) := by decide +kernel
theorem dX9_may_37 : decode cX9_may 37 = .ok (.iconst 0, 1) := by decide +kernel
theorem dX9_may_38 : decode cX9_may 38 = .ok (.istore 5, 2) := by decide +kernel
theorem dX9_may_40 : decode cX9_may 40 = .ok (.aload_n 0, 1) := by decide +kernel
theorem dX9_may_41 : decode cX9_may 41 = .ok (.getfield 7, 3) := by decide +kernel
theorem dX9_may_44 : decode cX9_may 44 = .ok (.iconst 1, 1) := by decide +kernel
theorem dX9_may_45 : decode cX9_may 45 = .ok (.iaload, 1) := by decide +kernel
theorem dX9_may_46 : decode cX9_may 46 = .ok (.iconst 1, 1) := by decide +kernel
theorem dX9_may_47 : decode cX9_may 47 = .ok (.if_icmp .ne 8, 3) := by decide +kernel
theorem dX9_may_50 : decode cX9_may 50 = .ok (.iload 5, 2) := by decide +kernel
theorem dX9_may_52 : decode cX9_may 52 = .ok (.goto 22, 3) := by decide +kernel
theorem dX9_may_55 : decode cX9_may 55 = .ok (.iload_n 3, 1) := by decide +kernel
theorem dX9_may_56 : decode cX9_may 56 = .ok (.ifCond .eq 17, 3) := by decide +kernel
theorem dX9_may_59 : decode cX9_may 59 = .ok (.iload 4, 2) := by decide +kernel
theorem dX9_may_61 : decode cX9_may 61 = .ok (.ifCond .ne 12, 3) := by decide +kernel
theorem dX9_may_64 : decode cX9_may 64 = .ok (.iload 5, 2) := by decide +kernel
theorem dX9_may_66 : decode cX9_may 66 = .ok (.ifCond .ne 7, 3) := by decide +kernel
theorem dX9_may_69 : decode cX9_may 69 = .ok (.iconst 1, 1) := by decide +kernel
theorem dX9_may_70 : decode cX9_may 70 = .ok (.goto 4, 3) := by decide +kernel
theorem dX9_may_73 : decode cX9_may 73 = .ok (.iconst 0, 1) := by decide +kernel
theorem dX9_may_74 : decode cX9_may 74 = .ok (.istore 6, 2) := by decide +kernel
theorem dX9_may_76 : decode cX9_may 76 = .ok (.aload_n 0, 1) := by decide +kernel
theorem dX9_may_77 : decode cX9_may 77 = .ok (.iload_n 1, 1) := by decide +kernel
theorem dX9_may_78 : decode cX9_may 78 = .ok (.iconst 4, 1) := by decide +kernel
theorem dX9_may_79 : decode cX9_may 79 = .ok (.invokevirtual 71, 3) := by decide +kernel
theorem dX9_may_82 : decode cX9_may 82 = .ok (.iconst 1, 1) := by decide +kernel
theorem dX9_may_83 : decode cX9_may 83 = .ok (.if_icmp .ne 5, 3) := by decide +kernel
theorem dX9_may_86 : decode cX9_may 86 = .ok (.iconst 0, 1) := by decide +kernel
theorem dX9_may_87 : decode cX9_may 87 = .ok (.ireturn, 1) := by decide +kernel
theorem dX9_may_88 : decode cX9_may 88 = .ok (.aload_n 0, 1) := by decide +kernel
theorem dX9_may_89 : decode cX9_may 89 = .ok (.iload_n 2, 1) := by decide +kernel
theorem dX9_may_90 : decode cX9_may 90 = .ok (.iconst 0, 1) := by decide +kernel
theorem dX9_may_91 : decode cX9_may 91 = .ok (.invokevirtual 67, 3) := by decide +kernel
theorem dX9_may_94 : decode cX9_may 94 = .ok (.tableswitch 86 2 6 #[34, 47, 49, 45, 67], 34) := by decide +kernel
theorem dX9_may_128 : decode cX9_may 128 = .ok (.iload 4, 2) := by decide +kernel
theorem dX9_may_130 : decode cX9_may 130 = .ok (.ifCond .ne 7, 3) := by decide +kernel
theorem dX9_may_133 : decode cX9_may 133 = .ok (.iconst 1, 1) := by decide +kernel
theorem dX9_may_134 : decode cX9_may 134 = .ok (.goto 4, 3) := by decide +kernel
theorem dX9_may_137 : decode cX9_may 137 = .ok (.iconst 0, 1) := by decide +kernel
theorem dX9_may_138 : decode cX9_may 138 = .ok (.ireturn, 1) := by decide +kernel
theorem dX9_may_139 : decode cX9_may 139 = .ok (.iconst 1, 1) := by decide +kernel
theorem dX9_may_140 : decode cX9_may 140 = .ok (.ireturn, 1) := by decide +kernel
theorem dX9_may_141 : decode cX9_may 141 = .ok (.iconst 0, 1) := by decide +kernel
theorem dX9_may_142 : decode cX9_may 142 = .ok (.ireturn, 1) := by decide +kernel
theorem dX9_may_143 : decode cX9_may 143 = .ok (.aload_n 0, 1) := by decide +kernel
theorem dX9_may_144 : decode cX9_may 144 = .ok (.iload_n 2, 1) := by decide +kernel
theorem dX9_may_145 : decode cX9_may 145 = .ok (.iconst 2, 1) := by decide +kernel
theorem dX9_may_146 : decode cX9_may 146 = .ok (.invokevirtual 67, 3) := by decide +kernel
theorem dX9_may_149 : decode cX9_may 149 = .ok (.bipush 50, 2) := by decide +kernel
theorem dX9_may_151 : decode cX9_may 151 = .ok (.if_icmp .le 7, 3) := by decide +kernel
theorem dX9_may_154 : decode cX9_may 154 = .ok (.iload_n 3, 1) := by decide +kernel
theorem dX9_may_155 : decode cX9_may 155 = .ok (.goto 5, 3) := by decide +kernel
theorem dX9_may_158 : decode cX9_may 158 = .ok (.iload 6, 2) := by decide +kernel
theorem dX9_may_160 : decode cX9_may 160 = .ok (.ireturn, 1) := by decide +kernel
theorem dX9_may_161 : decode cX9_may 161 = .ok (.iload 5, 2) := by decide +kernel
theorem dX9_may_163 : decode cX9_may 163 = .ok (.ifCond .eq 15, 3) := by decide +kernel
theorem dX9_may_166 : decode cX9_may 166 = .ok (.aload_n 0, 1) := by decide +kernel
theorem dX9_may_167 : decode cX9_may 167 = .ok (.iload_n 2, 1) := by decide +kernel
theorem dX9_may_168 : decode cX9_may 168 = .ok (.invokevirtual 78, 3) := by decide +kernel
theorem dX9_may_171 : decode cX9_may 171 = .ok (.ifCond .ne 7, 3) := by decide +kernel
theorem dX9_may_174 : decode cX9_may 174 = .ok (.iconst 1, 1) := by decide +kernel
theorem dX9_may_175 : decode cX9_may 175 = .ok (.goto 4, 3) := by decide +kernel
theorem dX9_may_178 : decode cX9_may 178 = .ok (.iconst 0, 1) := by decide +kernel
theorem dX9_may_179 : decode cX9_may 179 = .ok (.ireturn, 1) := by decide +kernel
theorem dX9_may_180 : decode cX9_may 180 = .ok (.iload 6, 2) := by decide +kernel
theorem dX9_may_182 : decode cX9_may 182 = .ok (.ireturn, 1) := by decide +kernel
theorem dX9_maySet_0 : decode cX9_maySet 0 = .ok (.iconst 0, 1) := by decide +kernel
theorem dX9_maySet_1 : decode cX9_maySet 1 = .ok (.istore_n 2, 1) := by decide +kernel
theorem dX9_maySet_2 : decode cX9_maySet 2 = .ok (.iconst 0, 1) := by decide +kernel
theorem dX9_maySet_3 : decode cX9_maySet 3 = .ok (.istore_n 3, 1) := by decide +kernel
theorem dX9_maySet_4 : decode cX9_maySet 4 = .ok (.iload_n 3, 1) := by decide +kernel
theorem dX9_maySet_5 : decode cX9_maySet 5 = .ok (.aload_n 0, 1) := by decide +kernel
theorem dX9_maySet_6 : decode cX9_maySet 6 = .ok (.getfield 7, 3) := by decide +kernel
theorem dX9_maySet_9 : decode cX9_maySet 9 = .ok (.bipush 8, 2) := by decide +kernel
theorem dX9_maySet_11 : decode cX9_maySet 11 = .ok (.iaload, 1) := by decide +kernel
theorem dX9_maySet_12 : decode cX9_maySet 12 = .ok (.if_icmp .ge 28, 3) := by decide +kernel
theorem dX9_maySet_15 : decode cX9_maySet 15 = .ok (.iload_n 2, 1) := by decide +kernel
theorem dX9_maySet_16 : decode cX9_maySet 16 = .ok (.aload_n 0, 1) := by decide +kernel
theorem dX9_maySet_17 : decode cX9_maySet 17 = .ok (.iload_n 3, 1) := by decide +kernel
theorem dX9_maySet_18 : decode cX9_maySet 18 = .ok (.iload_n 1, 1) := by decide +kernel
theorem dX9_maySet_19 : decode cX9_maySet 19 = .ok (.invokevirtual 81, 3) := by decide +kernel
theorem dX9_maySet_22 : decode cX9_maySet 22 = .ok (.ifCond .eq 9, 3) := by decide +kernel
theorem dX9_maySet_25 : decode cX9_maySet 25 = .ok (.iconst 1, 1) := by decide +kernel
theorem dX9_maySet_26 : decode cX9_maySet 26 = .ok (.iload_n 3, 1) := by decide +kernel
theorem dX9_maySet_27 : decode cX9_maySet 27 = .ok (.ishl, 1) := by decide +kernel
theorem dX9_maySet_28 : decode cX9_maySet 28 = .ok (.goto 4, 3) := by decide +kernel
theorem dX9_maySet_31 : decode cX9_maySet 31 = .ok (.iconst 0, 1) := by decide +kernel
theorem dX9_maySet_32 : decode cX9_maySet 32 = .ok (.ior, 1) := by decide +kernel
theorem dX9_maySet_33 : decode cX9_maySet 33 = .ok (.istore_n 2, 1) := by decide +kernel
theorem dX9_maySet_34 : decode cX9_maySet 34 = .ok (.iinc 3 1, 3) := by decide +kernel
theorem dX9_maySet_37 : decode cX9_maySet 37 = .ok (.goto (-33), 3) := by decide +kernel
theorem dX9_maySet_40 : decode cX9_maySet 40 = .ok (.iload_n 2, 1) := by decide +kernel
theorem dX9_maySet_41 : decode cX9_maySet 41 = .ok (.ireturn, 1) := by decide +kernel
theorem dX9_knowers_0 : decode cX9_knowers 0 = .ok (.iconst 0, 1) := by decide +kernel
theorem dX9_knowers_1 : decode cX9_knowers 1 = .ok (.istore_n 2, 1) := by decide +kernel
theorem dX9_knowers_2 : decode cX9_knowers 2 = .ok (.iconst 0, 1) := by decide +kernel
theorem dX9_knowers_3 : decode cX9_knowers 3 = .ok (.istore_n 3, 1) := by decide +kernel
theorem dX9_knowers_4 : decode cX9_knowers 4 = .ok (.iload_n 3, 1) := by decide +kernel
theorem dX9_knowers_5 : decode cX9_knowers 5 = .ok (.aload_n 0, 1) := by decide +kernel
theorem dX9_knowers_6 : decode cX9_knowers 6 = .ok (.getfield 7, 3) := by decide +kernel
theorem dX9_knowers_9 : decode cX9_knowers 9 = .ok (.bipush 8, 2) := by decide +kernel
theorem dX9_knowers_11 : decode cX9_knowers 11 = .ok (.iaload, 1) := by decide +kernel
theorem dX9_knowers_12 : decode cX9_knowers 12 = .ok (.if_icmp .ge 32, 3) := by decide +kernel
theorem dX9_knowers_15 : decode cX9_knowers 15 = .ok (.iload_n 2, 1) := by decide +kernel
theorem dX9_knowers_16 : decode cX9_knowers 16 = .ok (.aload_n 0, 1) := by decide +kernel
theorem dX9_knowers_17 : decode cX9_knowers 17 = .ok (.iload_n 3, 1) := by decide +kernel
theorem dX9_knowers_18 : decode cX9_knowers 18 = .ok (.iconst 0, 1) := by decide +kernel
theorem dX9_knowers_19 : decode cX9_knowers 19 = .ok (.invokevirtual 71, 3) := by decide +kernel
theorem dX9_knowers_22 : decode cX9_knowers 22 = .ok (.iload_n 1, 1) := by decide +kernel
theorem dX9_knowers_23 : decode cX9_knowers 23 = .ok (.invokestatic 74, 3) := by decide +kernel
theorem dX9_knowers_26 : decode cX9_knowers 26 = .ok (.ifCond .eq 9, 3) := by decide +kernel
theorem dX9_knowers_29 : decode cX9_knowers 29 = .ok (.iconst 1, 1) := by decide +kernel
theorem dX9_knowers_30 : decode cX9_knowers 30 = .ok (.iload_n 3, 1) := by decide +kernel
theorem dX9_knowers_31 : decode cX9_knowers 31 = .ok (.ishl, 1) := by decide +kernel
theorem dX9_knowers_32 : decode cX9_knowers 32 = .ok (.goto 4, 3) := by decide +kernel
theorem dX9_knowers_35 : decode cX9_knowers 35 = .ok (.iconst 0, 1) := by decide +kernel
theorem dX9_knowers_36 : decode cX9_knowers 36 = .ok (.ior, 1) := by decide +kernel
theorem dX9_knowers_37 : decode cX9_knowers 37 = .ok (.istore_n 2, 1) := by decide +kernel
theorem dX9_knowers_38 : decode cX9_knowers 38 = .ok (.iinc 3 1, 3) := by decide +kernel
theorem dX9_knowers_41 : decode cX9_knowers 41 = .ok (.goto (-37), 3) := by decide +kernel
theorem dX9_knowers_44 : decode cX9_knowers 44 = .ok (.iload_n 2, 1) := by decide +kernel
theorem dX9_knowers_45 : decode cX9_knowers 45 = .ok (.ireturn, 1) := by decide +kernel
theorem dX9_ofPart_0 : decode cX9_ofPart 0 = .ok (.aload_n 0, 1) := by decide +kernel
theorem dX9_ofPart_1 : decode cX9_ofPart 1 = .ok (.iload_n 1, 1) := by decide +kernel
theorem dX9_ofPart_2 : decode cX9_ofPart 2 = .ok (.invokevirtual 57, 3) := by decide +kernel
theorem dX9_ofPart_5 : decode cX9_ofPart 5 = .ok (.ifCond .eq 13, 3) := by decide +kernel
theorem dX9_ofPart_8 : decode cX9_ofPart 8 = .ok (.iload_n 2, 1) := by decide +kernel
theorem dX9_ofPart_9 : decode cX9_ofPart 9 = .ok (.iconst 0, 1) := by decide +kernel
theorem dX9_ofPart_10 : decode cX9_ofPart 10 = .ok (.bipush 6, 2) := by decide +kernel
theorem dX9_ofPart_12 : decode cX9_ofPart 12 = .ok (.invokestatic 53, 3) := by decide +kernel
theorem dX9_ofPart_15 : decode cX9_ofPart 15 = .ok (.ifCond .ne 10, 3) := by decide +kernel
theorem dX9_ofPart_18 : decode cX9_ofPart 18 = .ok (.aload_n 0, 1) := by decide +kernel
theorem dX9_ofPart_19 : decode cX9_ofPart 19 = .ok (.ldc 61, 2) := by decide +kernel
theorem dX9_ofPart_21 : decode cX9_ofPart 21 = .ok (.invokevirtual 62, 3) := by decide +kernel
theorem dX9_ofPart_24 : decode cX9_ofPart 24 = .ok (.ireturn, 1) := by decide +kernel
theorem dX9_ofPart_25 : decode cX9_ofPart 25 = .ok (.iload_n 2, 1) := by decide +kernel
theorem dX9_ofPart_26 : decode cX9_ofPart 26 = .ok (.tableswitch 52 4 6 #[26, 40, 46], 26) := by decide +kernel
theorem dX9_ofPart_52 : decode cX9_ofPart 52 = .ok (.aload_n 0, 1) := by decide +kernel
theorem dX9_ofPart_53 : decode cX9_ofPart 53 = .ok (.iload_n 1, 1) := by decide +kernel
theorem dX9_ofPart_54 : decode cX9_ofPart 54 = .ok (.invokevirtual 78, 3) := by decide +kernel
theorem dX9_ofPart_57 : decode cX9_ofPart 57 = .ok (.ifCond .eq 7, 3) := by decide +kernel
theorem dX9_ofPart_60 : decode cX9_ofPart 60 = .ok (.iconst 1, 1) := by decide +kernel
theorem dX9_ofPart_61 : decode cX9_ofPart 61 = .ok (.goto 4, 3) := by decide +kernel
theorem dX9_ofPart_64 : decode cX9_ofPart 64 = .ok (.iconst 0, 1) := by decide +kernel
theorem dX9_ofPart_65 : decode cX9_ofPart 65 = .ok (.ireturn, 1) := by decide +kernel
theorem dX9_ofPart_66 : decode cX9_ofPart 66 = .ok (.aload_n 0, 1) := by decide +kernel
theorem dX9_ofPart_67 : decode cX9_ofPart 67 = .ok (.iload_n 1, 1) := by decide +kernel
theorem dX9_ofPart_68 : decode cX9_ofPart 68 = .ok (.invokevirtual 84, 3) := by decide +kernel
theorem dX9_ofPart_71 : decode cX9_ofPart 71 = .ok (.ireturn, 1) := by decide +kernel
theorem dX9_ofPart_72 : decode cX9_ofPart 72 = .ok (.aload_n 0, 1) := by decide +kernel
theorem dX9_ofPart_73 : decode cX9_ofPart 73 = .ok (.iload_n 1, 1) := by decide +kernel
theorem dX9_ofPart_74 : decode cX9_ofPart 74 = .ok (.invokevirtual 87, 3) := by decide +kernel
theorem dX9_ofPart_77 : decode cX9_ofPart 77 = .ok (.ireturn, 1) := by decide +kernel
theorem dX9_ofPart_78 : decode cX9_ofPart 78 = .ok (.aload_n 0, 1) := by decide +kernel
theorem dX9_ofPart_79 : decode cX9_ofPart 79 = .ok (.iload_n 1, 1) := by decide +kernel
theorem dX9_ofPart_80 : decode cX9_ofPart 80 = .ok (.iload_n 2, 1) := by decide +kernel
theorem dX9_ofPart_81 : decode cX9_ofPart 81 = .ok (.invokevirtual 67, 3) := by decide +kernel
theorem dX9_ofPart_84 : decode cX9_ofPart 84 = .ok (.ireturn, 1) := by decide +kernel
theorem dX9_lines_0 : decode cX9_lines 0 = .ok (.aload_n 0, 1) := by decide +kernel
theorem dX9_lines_1 : decode cX9_lines 1 = .ok (.iload_n 1, 1) := by decide +kernel
theorem dX9_lines_2 : decode cX9_lines 2 = .ok (.invokevirtual 57, 3) := by decide +kernel
theorem dX9_lines_5 : decode cX9_lines 5 = .ok (.ifCond .eq 29, 3) := by decide +kernel
theorem dX9_lines_8 : decode cX9_lines 8 = .ok (.iload_n 2, 1) := by decide +kernel
theorem dX9_lines_9 : decode cX9_lines 9 = .ok (.iconst 0, 1) := by decide +kernel
theorem dX9_lines_10 : decode cX9_lines 10 = .ok (.bipush 99, 2) := by decide +kernel
theorem dX9_lines_12 : decode cX9_lines 12 = .ok (.invokestatic 53, 3) := by decide +kernel
theorem dX9_lines_15 : decode cX9_lines 15 = .ok (.ifCond .eq 19, 3) := by decide +kernel
theorem dX9_lines_18 : decode cX9_lines 18 = .ok (.aload_n 0, 1) := by decide +kernel
theorem dX9_lines_19 : decode cX9_lines 19 = .ok (.bipush 9, 2) := by decide +kernel
theorem dX9_lines_21 : decode cX9_lines 21 = .ok (.iconst 4, 1) := by decide +kernel
theorem dX9_lines_22 : decode cX9_lines 22 = .ok (.iload_n 1, 1) := by decide +kernel
theorem dX9_lines_23 : decode cX9_lines 23 = .ok (.imul, 1) := by decide +kernel
theorem dX9_lines_24 : decode cX9_lines 24 = .ok (.iadd, 1) := by decide +kernel
theorem dX9_lines_25 : decode cX9_lines 25 = .ok (.iconst 2, 1) := by decide +kernel
theorem dX9_lines_26 : decode cX9_lines 26 = .ok (.iadd, 1) := by decide +kernel
theorem dX9_lines_27 : decode cX9_lines 27 = .ok (.iload_n 2, 1) := by decide +kernel
theorem dX9_lines_28 : decode cX9_lines 28 = .ok (.invokevirtual 90, 3) := by decide +kernel
theorem dX9_lines_31 : decode cX9_lines 31 = .ok (.goto 9, 3) := by decide +kernel
theorem dX9_lines_34 : decode cX9_lines 34 = .ok (.aload_n 0, 1) := by decide +kernel
theorem dX9_lines_35 : decode cX9_lines 35 = .ok (.ldc 61, 2) := by decide +kernel
theorem dX9_lines_37 : decode cX9_lines 37 = .ok (.invokevirtual 62, 3) := by decide +kernel
theorem dX9_lines_40 : decode cX9_lines 40 = .ok (.ireturn, 1) := by decide +kernel
theorem dX9_become_0 : decode cX9_become 0 = .ok (.aload_n 0, 1) := by decide +kernel
theorem dX9_become_1 : decode cX9_become 1 = .ok (.iload_n 1, 1) := by decide +kernel
theorem dX9_become_2 : decode cX9_become 2 = .ok (.invokevirtual 57, 3) := by decide +kernel
theorem dX9_become_5 : decode cX9_become 5 = .ok (.ifCond .eq 13, 3) := by decide +kernel
theorem dX9_become_8 : decode cX9_become 8 = .ok (.iload_n 2, 1) := by decide +kernel
theorem dX9_become_9 : decode cX9_become 9 = .ok (.iconst 0, 1) := by decide +kernel
theorem dX9_become_10 : decode cX9_become 10 = .ok (.bipush 69, 2) := by decide +kernel
theorem dX9_become_12 : decode cX9_become 12 = .ok (.invokestatic 53, 3) := by decide +kernel
theorem dX9_become_15 : decode cX9_become 15 = .ok (.ifCond .ne 10, 3) := by decide +kernel
theorem dX9_become_18 : decode cX9_become 18 = .ok (.aload_n 0, 1) := by decide +kernel
theorem dX9_become_19 : decode cX9_become 19 = .ok (.ldc 61, 2) := by decide +kernel
theorem dX9_become_21 : decode cX9_become 21 = .ok (.invokevirtual 62, 3) := by decide +kernel
theorem dX9_become_24 : decode cX9_become 24 = .ok (.ireturn, 1) := by decide +kernel
theorem dX9_become_25 : decode cX9_become 25 = .ok (.aload_n 0, 1) := by decide +kernel
theorem dX9_become_26 : decode cX9_become 26 = .ok (.getfield 7, 3) := by decide +kernel
theorem dX9_become_29 : decode cX9_become 29 = .ok (.bipush 9, 2) := by decide +kernel
theorem dX9_become_31 : decode cX9_become 31 = .ok (.iconst 4, 1) := by decide +kernel
theorem dX9_become_32 : decode cX9_become 32 = .ok (.iload_n 1, 1) := by decide +kernel
theorem dX9_become_33 : decode cX9_become 33 = .ok (.imul, 1) := by decide +kernel
theorem dX9_become_34 : decode cX9_become 34 = .ok (.iadd, 1) := by decide +kernel
theorem dX9_become_35 : decode cX9_become 35 = .ok (.iconst 1, 1) := by decide +kernel
theorem dX9_become_36 : decode cX9_become 36 = .ok (.iadd, 1) := by decide +kernel
theorem dX9_become_37 : decode cX9_become 37 = .ok (.iload_n 2, 1) := by decide +kernel
theorem dX9_become_38 : decode cX9_become 38 = .ok (.bipush 10, 2) := by decide +kernel
theorem dX9_become_40 : decode cX9_become 40 = .ok (.irem, 1) := by decide +kernel
theorem dX9_become_41 : decode cX9_become 41 = .ok (.iastore, 1) := by decide +kernel
theorem dX9_become_42 : decode cX9_become 42 = .ok (.aload_n 0, 1) := by decide +kernel
theorem dX9_become_43 : decode cX9_become 43 = .ok (.bipush 9, 2) := by decide +kernel
theorem dX9_become_45 : decode cX9_become 45 = .ok (.iconst 4, 1) := by decide +kernel
theorem dX9_become_46 : decode cX9_become 46 = .ok (.iload_n 1, 1) := by decide +kernel
theorem dX9_become_47 : decode cX9_become 47 = .ok (.imul, 1) := by decide +kernel
theorem dX9_become_48 : decode cX9_become 48 = .ok (.iadd, 1) := by decide +kernel
theorem dX9_become_49 : decode cX9_become 49 = .ok (.iload_n 2, 1) := by decide +kernel
theorem dX9_become_50 : decode cX9_become 50 = .ok (.bipush 10, 2) := by decide +kernel
theorem dX9_become_52 : decode cX9_become 52 = .ok (.idiv, 1) := by decide +kernel
theorem dX9_become_53 : decode cX9_become 53 = .ok (.invokevirtual 90, 3) := by decide +kernel
theorem dX9_become_56 : decode cX9_become 56 = .ok (.ireturn, 1) := by decide +kernel
theorem dX9_above_0 : decode cX9_above 0 = .ok (.iload_n 0, 1) := by decide +kernel
theorem dX9_above_1 : decode cX9_above 1 = .ok (.ifCond .ne 7, 3) := by decide +kernel
theorem dX9_above_4 : decode cX9_above 4 = .ok (.iconst (-1), 1) := by decide +kernel
theorem dX9_above_5 : decode cX9_above 5 = .ok (.goto 32, 3) := by decide +kernel
theorem dX9_above_8 : decode cX9_above 8 = .ok (.iload_n 0, 1) := by decide +kernel
theorem dX9_above_9 : decode cX9_above 9 = .ok (.iconst 4, 1) := by decide +kernel
theorem dX9_above_10 : decode cX9_above 10 = .ok (.if_icmp .ne 7, 3) := by decide +kernel
theorem dX9_above_13 : decode cX9_above 13 = .ok (.iconst 1, 1) := by decide +kernel
theorem dX9_above_14 : decode cX9_above 14 = .ok (.goto 23, 3) := by decide +kernel
theorem dX9_above_17 : decode cX9_above 17 = .ok (.iload_n 0, 1) := by decide +kernel
theorem dX9_above_18 : decode cX9_above 18 = .ok (.iconst 5, 1) := by decide +kernel
theorem dX9_above_19 : decode cX9_above 19 = .ok (.if_icmp .ne 7, 3) := by decide +kernel
theorem dX9_above_22 : decode cX9_above 22 = .ok (.iconst 2, 1) := by decide +kernel
theorem dX9_above_23 : decode cX9_above 23 = .ok (.goto 14, 3) := by decide +kernel
theorem dX9_above_26 : decode cX9_above 26 = .ok (.iload_n 0, 1) := by decide +kernel
theorem dX9_above_27 : decode cX9_above 27 = .ok (.bipush 6, 2) := by decide +kernel
theorem dX9_above_29 : decode cX9_above 29 = .ok (.if_icmp .ne 7, 3) := by decide +kernel
theorem dX9_above_32 : decode cX9_above 32 = .ok (.iconst 3, 1) := by decide +kernel
theorem dX9_above_33 : decode cX9_above 33 = .ok (.goto 4, 3) := by decide +kernel
theorem dX9_above_36 : decode cX9_above 36 = .ok (.iconst 0, 1) := by decide +kernel
theorem dX9_above_37 : decode cX9_above 37 = .ok (.ireturn, 1) := by decide +kernel
theorem dX9_as_0 : decode cX9_as 0 = .ok (.aload_n 0, 1) := by decide +kernel
theorem dX9_as_1 : decode cX9_as 1 = .ok (.iload_n 1, 1) := by decide +kernel
theorem dX9_as_2 : decode cX9_as 2 = .ok (.invokevirtual 57, 3) := by decide +kernel
theorem dX9_as_5 : decode cX9_as 5 = .ok (.ifCond .eq 13, 3) := by decide +kernel
theorem dX9_as_8 : decode cX9_as 8 = .ok (.iload_n 2, 1) := by decide +kernel
theorem dX9_as_9 : decode cX9_as 9 = .ok (.iconst 0, 1) := by decide +kernel
theorem dX9_as_10 : decode cX9_as 10 = .ok (.bipush 6, 2) := by decide +kernel
theorem dX9_as_12 : decode cX9_as 12 = .ok (.invokestatic 53, 3) := by decide +kernel
theorem dX9_as_15 : decode cX9_as 15 = .ok (.ifCond .ne 10, 3) := by decide +kernel
theorem dX9_as_18 : decode cX9_as 18 = .ok (.aload_n 0, 1) := by decide +kernel
theorem dX9_as_19 : decode cX9_as 19 = .ok (.ldc 61, 2) := by decide +kernel
theorem dX9_as_21 : decode cX9_as 21 = .ok (.invokevirtual 62, 3) := by decide +kernel
theorem dX9_as_24 : decode cX9_as 24 = .ok (.ireturn, 1) := by decide +kernel
theorem dX9_as_25 : decode cX9_as 25 = .ok (.aload_n 0, 1) := by decide +kernel
theorem dX9_as_26 : decode cX9_as 26 = .ok (.iload_n 1, 1) := by decide +kernel
theorem dX9_as_27 : decode cX9_as 27 = .ok (.iconst 0, 1) := by decide +kernel
theorem dX9_as_28 : decode cX9_as 28 = .ok (.invokevirtual 67, 3) := by decide +kernel
theorem dX9_as_31 : decode cX9_as 31 = .ok (.istore_n 3, 1) := by decide +kernel
theorem dX9_as_32 : decode cX9_as 32 = .ok (.iload_n 3, 1) := by decide +kernel
theorem dX9_as_33 : decode cX9_as 33 = .ok (.ifCond .lt 16, 3) := by decide +kernel
theorem dX9_as_36 : decode cX9_as 36 = .ok (.iload_n 3, 1) := by decide +kernel
theorem dX9_as_37 : decode cX9_as 37 = .ok (.iload_n 2, 1) := by decide +kernel
theorem dX9_as_38 : decode cX9_as 38 = .ok (.if_icmp .eq 11, 3) := by decide +kernel
theorem dX9_as_41 : decode cX9_as 41 = .ok (.iload_n 3, 1) := by decide +kernel
theorem dX9_as_42 : decode cX9_as 42 = .ok (.invokestatic 93, 3) := by decide +kernel
theorem dX9_as_45 : decode cX9_as 45 = .ok (.istore_n 3, 1) := by decide +kernel
theorem dX9_as_46 : decode cX9_as 46 = .ok (.goto (-14), 3) := by decide +kernel
theorem dX9_as_49 : decode cX9_as 49 = .ok (.iload_n 3, 1) := by decide +kernel
theorem dX9_as_50 : decode cX9_as 50 = .ok (.ifCond .ge 12, 3) := by decide +kernel
theorem dX9_as_53 : decode cX9_as 53 = .ok (.aload_n 0, 1) := by decide +kernel
theorem dX9_as_54 : decode cX9_as 54 = .ok (.ldc 96, 2) := by decide +kernel
theorem dX9_as_56 : decode cX9_as 56 = .ok (.invokevirtual 62, 3) := by decide +kernel
theorem dX9_as_59 : decode cX9_as 59 = .ok (.goto 9, 3) := by decide +kernel
theorem dX9_as_62 : decode cX9_as 62 = .ok (.aload_n 0, 1) := by decide +kernel
theorem dX9_as_63 : decode cX9_as 63 = .ok (.iload_n 1, 1) := by decide +kernel
theorem dX9_as_64 : decode cX9_as 64 = .ok (.iconst 1, 1) := by decide +kernel
theorem dX9_as_65 : decode cX9_as 65 = .ok (.invokevirtual 67, 3) := by decide +kernel
theorem dX9_as_68 : decode cX9_as 68 = .ok (.ireturn, 1) := by decide +kernel
theorem dX9_addPlayer_0 : decode cX9_addPlayer 0 = .ok (.aload_n 0, 1) := by decide +kernel
theorem dX9_addPlayer_1 : decode cX9_addPlayer 1 = .ok (.getfield 7, 3) := by decide +kernel
theorem dX9_addPlayer_4 : decode cX9_addPlayer 4 = .ok (.bipush 8, 2) := by decide +kernel
theorem dX9_addPlayer_6 : decode cX9_addPlayer 6 = .ok (.iaload, 1) := by decide +kernel
theorem dX9_addPlayer_7 : decode cX9_addPlayer 7 = .ok (.istore_n 3, 1) := by decide +kernel
theorem dX9_addPlayer_8 : decode cX9_addPlayer 8 = .ok (.aload_n 0, 1) := by decide +kernel
theorem dX9_addPlayer_9 : decode cX9_addPlayer 9 = .ok (.getfield 7, 3) := by decide +kernel
theorem dX9_addPlayer_12 : decode cX9_addPlayer 12 = .ok (.bipush 8, 2) := by decide +kernel
theorem dX9_addPlayer_14 : decode cX9_addPlayer 14 = .ok (.dup2, 1) := by decide +kernel
theorem dX9_addPlayer_15 : decode cX9_addPlayer 15 = .ok (.iaload, 1) := by decide +kernel
theorem dX9_addPlayer_16 : decode cX9_addPlayer 16 = .ok (.iconst 1, 1) := by decide +kernel
theorem dX9_addPlayer_17 : decode cX9_addPlayer 17 = .ok (.iadd, 1) := by decide +kernel
theorem dX9_addPlayer_18 : decode cX9_addPlayer 18 = .ok (.iastore, 1) := by decide +kernel
theorem dX9_addPlayer_19 : decode cX9_addPlayer 19 = .ok (.aload_n 0, 1) := by decide +kernel
theorem dX9_addPlayer_20 : decode cX9_addPlayer 20 = .ok (.iload_n 3, 1) := by decide +kernel
theorem dX9_addPlayer_21 : decode cX9_addPlayer 21 = .ok (.iconst 0, 1) := by decide +kernel
theorem dX9_addPlayer_22 : decode cX9_addPlayer 22 = .ok (.iload_n 2, 1) := by decide +kernel
theorem dX9_addPlayer_23 : decode cX9_addPlayer 23 = .ok (.invokevirtual 97, 3) := by decide +kernel
theorem dX9_addPlayer_26 : decode cX9_addPlayer 26 = .ok (.aload_n 0, 1) := by decide +kernel
theorem dX9_addPlayer_27 : decode cX9_addPlayer 27 = .ok (.iload_n 3, 1) := by decide +kernel
theorem dX9_addPlayer_28 : decode cX9_addPlayer 28 = .ok (.iconst 1, 1) := by decide +kernel
theorem dX9_addPlayer_29 : decode cX9_addPlayer 29 = .ok (.iconst 0, 1) := by decide +kernel
theorem dX9_addPlayer_30 : decode cX9_addPlayer 30 = .ok (.invokevirtual 97, 3) := by decide +kernel
theorem dX9_addPlayer_33 : decode cX9_addPlayer 33 = .ok (.aload_n 0, 1) := by decide +kernel
theorem dX9_addPlayer_34 : decode cX9_addPlayer 34 = .ok (.iload_n 3, 1) := by decide +kernel
theorem dX9_addPlayer_35 : decode cX9_addPlayer 35 = .ok (.iconst 2, 1) := by decide +kernel
theorem dX9_addPlayer_36 : decode cX9_addPlayer 36 = .ok (.iload_n 1, 1) := by decide +kernel
theorem dX9_addPlayer_37 : decode cX9_addPlayer 37 = .ok (.invokevirtual 97, 3) := by decide +kernel
theorem dX9_addPlayer_40 : decode cX9_addPlayer 40 = .ok (.aload_n 0, 1) := by decide +kernel
theorem dX9_addPlayer_41 : decode cX9_addPlayer 41 = .ok (.iload_n 3, 1) := by decide +kernel
theorem dX9_addPlayer_42 : decode cX9_addPlayer 42 = .ok (.iconst 3, 1) := by decide +kernel
theorem dX9_addPlayer_43 : decode cX9_addPlayer 43 = .ok (.iconst 0, 1) := by decide +kernel
theorem dX9_addPlayer_44 : decode cX9_addPlayer 44 = .ok (.invokevirtual 97, 3) := by decide +kernel
theorem dX9_addPlayer_47 : decode cX9_addPlayer 47 = .ok (.aload_n 0, 1) := by decide +kernel
theorem dX9_addPlayer_48 : decode cX9_addPlayer 48 = .ok (.iload_n 3, 1) := by decide +kernel
theorem dX9_addPlayer_49 : decode cX9_addPlayer 49 = .ok (.iconst 4, 1) := by decide +kernel
theorem dX9_addPlayer_50 : decode cX9_addPlayer 50 = .ok (.iconst 0, 1) := by decide +kernel
theorem dX9_addPlayer_51 : decode cX9_addPlayer 51 = .ok (.invokevirtual 97, 3) := by decide +kernel
theorem dX9_addPlayer_54 : decode cX9_addPlayer 54 = .ok (.iload_n 3, 1) := by decide +kernel
theorem dX9_addPlayer_55 : decode cX9_addPlayer 55 = .ok (.ireturn, 1) := by decide +kernel
theorem dX9_player_0 : decode cX9_player 0 = .ok (.aload_n 0, 1) := by decide +kernel
theorem dX9_player_1 : decode cX9_player 1 = .ok (.iload_n 1, 1) := by decide +kernel
theorem dX9_player_2 : decode cX9_player 2 = .ok (.invokevirtual 101, 3) := by decide +kernel
theorem dX9_player_5 : decode cX9_player 5 = .ok (.ifCond .ne 10, 3) := by decide +kernel
theorem dX9_player_8 : decode cX9_player 8 = .ok (.aload_n 0, 1) := by decide +kernel
theorem dX9_player_9 : decode cX9_player 9 = .ok (.ldc 61, 2) := by decide +kernel
theorem dX9_player_11 : decode cX9_player 11 = .ok (.invokevirtual 62, 3) := by decide +kernel
theorem dX9_player_14 : decode cX9_player 14 = .ok (.ireturn, 1) := by decide +kernel
theorem dX9_player_15 : decode cX9_player 15 = .ok (.aload_n 0, 1) := by decide +kernel
theorem dX9_player_16 : decode cX9_player 16 = .ok (.getfield 7, 3) := by decide +kernel
theorem dX9_player_19 : decode cX9_player 19 = .ok (.bipush 8, 2) := by decide +kernel
theorem dX9_player_21 : decode cX9_player 21 = .ok (.iaload, 1) := by decide +kernel
theorem dX9_player_22 : decode cX9_player 22 = .ok (.bipush 6, 2) := by decide +kernel
theorem dX9_player_24 : decode cX9_player 24 = .ok (.if_icmp .ne 10, 3) := by decide +kernel
theorem dX9_player_27 : decode cX9_player 27 = .ok (.aload_n 0, 1) := by decide +kernel
theorem dX9_player_28 : decode cX9_player 28 = .ok (.ldc 66, 2) := by decide +kernel
theorem dX9_player_30 : decode cX9_player 30 = .ok (.invokevirtual 62, 3) := by decide +kernel
theorem dX9_player_33 : decode cX9_player 33 = .ok (.ireturn, 1) := by decide +kernel
theorem dX9_player_34 : decode cX9_player 34 = .ok (.aload_n 0, 1) := by decide +kernel
theorem dX9_player_35 : decode cX9_player 35 = .ok (.iload_n 1, 1) := by decide +kernel
theorem dX9_player_36 : decode cX9_player 36 = .ok (.iload_n 1, 1) := by decide +kernel
theorem dX9_player_37 : decode cX9_player 37 = .ok (.ifCond .ge 7, 3) := by decide +kernel
theorem dX9_player_40 : decode cX9_player 40 = .ok (.iconst 0, 1) := by decide +kernel
theorem dX9_player_41 : decode cX9_player 41 = .ok (.goto 6, 3) := by decide +kernel
theorem dX9_player_44 : decode cX9_player 44 = .ok (.iconst 1, 1) := by decide +kernel
theorem dX9_player_45 : decode cX9_player 45 = .ok (.iload_n 1, 1) := by decide +kernel
theorem dX9_player_46 : decode cX9_player 46 = .ok (.ishl, 1) := by decide +kernel
theorem dX9_player_47 : decode cX9_player 47 = .ok (.invokevirtual 104, 3) := by decide +kernel
theorem dX9_player_50 : decode cX9_player 50 = .ok (.ireturn, 1) := by decide +kernel
theorem dX9_ofPlayer_0 : decode cX9_ofPlayer 0 = .ok (.aload_n 0, 1) := by decide +kernel
theorem dX9_ofPlayer_1 : decode cX9_ofPlayer 1 = .ok (.iload_n 1, 1) := by decide +kernel
theorem dX9_ofPlayer_2 : decode cX9_ofPlayer 2 = .ok (.invokevirtual 107, 3) := by decide +kernel
theorem dX9_ofPlayer_5 : decode cX9_ofPlayer 5 = .ok (.ifCond .eq 12, 3) := by decide +kernel
theorem dX9_ofPlayer_8 : decode cX9_ofPlayer 8 = .ok (.iload_n 2, 1) := by decide +kernel
theorem dX9_ofPlayer_9 : decode cX9_ofPlayer 9 = .ok (.iconst 0, 1) := by decide +kernel
theorem dX9_ofPlayer_10 : decode cX9_ofPlayer 10 = .ok (.iconst 5, 1) := by decide +kernel
theorem dX9_ofPlayer_11 : decode cX9_ofPlayer 11 = .ok (.invokestatic 53, 3) := by decide +kernel
theorem dX9_ofPlayer_14 : decode cX9_ofPlayer 14 = .ok (.ifCond .ne 10, 3) := by decide +kernel
theorem dX9_ofPlayer_17 : decode cX9_ofPlayer 17 = .ok (.aload_n 0, 1) := by decide +kernel
theorem dX9_ofPlayer_18 : decode cX9_ofPlayer 18 = .ok (.ldc 61, 2) := by decide +kernel
theorem dX9_ofPlayer_20 : decode cX9_ofPlayer 20 = .ok (.invokevirtual 62, 3) := by decide +kernel
theorem dX9_ofPlayer_23 : decode cX9_ofPlayer 23 = .ok (.ireturn, 1) := by decide +kernel
theorem dX9_ofPlayer_24 : decode cX9_ofPlayer 24 = .ok (.iload_n 2, 1) := by decide +kernel
theorem dX9_ofPlayer_25 : decode cX9_ofPlayer 25 = .ok (.iconst 5, 1) := by decide +kernel
theorem dX9_ofPlayer_26 : decode cX9_ofPlayer 26 = .ok (.if_icmp .ge 10, 3) := by decide +kernel
theorem dX9_ofPlayer_29 : decode cX9_ofPlayer 29 = .ok (.aload_n 0, 1) := by decide +kernel
theorem dX9_ofPlayer_30 : decode cX9_ofPlayer 30 = .ok (.iload_n 1, 1) := by decide +kernel
theorem dX9_ofPlayer_31 : decode cX9_ofPlayer 31 = .ok (.iload_n 2, 1) := by decide +kernel
theorem dX9_ofPlayer_32 : decode cX9_ofPlayer 32 = .ok (.invokevirtual 71, 3) := by decide +kernel
theorem dX9_ofPlayer_35 : decode cX9_ofPlayer 35 = .ok (.ireturn, 1) := by decide +kernel
theorem dX9_ofPlayer_36 : decode cX9_ofPlayer 36 = .ok (.iconst 0, 1) := by decide +kernel
theorem dX9_ofPlayer_37 : decode cX9_ofPlayer 37 = .ok (.istore_n 3, 1) := by decide +kernel
theorem dX9_ofPlayer_38 : decode cX9_ofPlayer 38 = .ok (.iconst 0, 1) := by decide +kernel
theorem dX9_ofPlayer_39 : decode cX9_ofPlayer 39 = .ok (.istore 4, 2) := by decide +kernel
theorem dX9_ofPlayer_41 : decode cX9_ofPlayer 41 = .ok (.iload 4, 2) := by decide +kernel
theorem dX9_ofPlayer_43 : decode cX9_ofPlayer 43 = .ok (.aload_n 0, 1) := by decide +kernel
theorem dX9_ofPlayer_44 : decode cX9_ofPlayer 44 = .ok (.getfield 7, 3) := by decide +kernel
theorem dX9_ofPlayer_47 : decode cX9_ofPlayer 47 = .ok (.iconst 3, 1) := by decide +kernel
theorem dX9_ofPlayer_48 : decode cX9_ofPlayer 48 = .ok (.iaload, 1) := by decide +kernel
theorem dX9_ofPlayer_49 : decode cX9_ofPlayer 49 = .ok (.if_icmp .ge 30, 3) := by decide +kernel
theorem dX9_ofPlayer_52 : decode cX9_ofPlayer 52 = .ok (.iload_n 3, 1) := by decide +kernel
theorem dX9_ofPlayer_53 : decode cX9_ofPlayer 53 = .ok (.aload_n 0, 1) := by decide +kernel
theorem dX9_ofPlayer_54 : decode cX9_ofPlayer 54 = .ok (.iload_n 1, 1) := by decide +kernel
theorem dX9_ofPlayer_55 : decode cX9_ofPlayer 55 = .ok (.iload 4, 2) := by decide +kernel
theorem dX9_ofPlayer_57 : decode cX9_ofPlayer 57 = .ok (.invokevirtual 81, 3) := by decide +kernel
theorem dX9_ofPlayer_60 : decode cX9_ofPlayer 60 = .ok (.ifCond .eq 10, 3) := by decide +kernel
theorem dX9_ofPlayer_63 : decode cX9_ofPlayer 63 = .ok (.iconst 1, 1) := by decide +kernel
theorem dX9_ofPlayer_64 : decode cX9_ofPlayer 64 = .ok (.iload 4, 2) := by decide +kernel
theorem dX9_ofPlayer_66 : decode cX9_ofPlayer 66 = .ok (.ishl, 1) := by decide +kernel
theorem dX9_ofPlayer_67 : decode cX9_ofPlayer 67 = .ok (.goto 4, 3) := by decide +kernel
theorem dX9_ofPlayer_70 : decode cX9_ofPlayer 70 = .ok (.iconst 0, 1) := by decide +kernel
theorem dX9_ofPlayer_71 : decode cX9_ofPlayer 71 = .ok (.ior, 1) := by decide +kernel
theorem dX9_ofPlayer_72 : decode cX9_ofPlayer 72 = .ok (.istore_n 3, 1) := by decide +kernel
theorem dX9_ofPlayer_73 : decode cX9_ofPlayer 73 = .ok (.iinc 4 1, 3) := by decide +kernel
theorem dX9_ofPlayer_76 : decode cX9_ofPlayer 76 = .ok (.goto (-35), 3) := by decide +kernel
theorem dX9_ofPlayer_79 : decode cX9_ofPlayer 79 = .ok (.iload_n 3, 1) := by decide +kernel
theorem dX9_ofPlayer_80 : decode cX9_ofPlayer 80 = .ok (.ireturn, 1) := by decide +kernel
theorem dX9_change_0 : decode cX9_change 0 = .ok (.aload_n 0, 1) := by decide +kernel
theorem dX9_change_1 : decode cX9_change 1 = .ok (.iload_n 1, 1) := by decide +kernel
theorem dX9_change_2 : decode cX9_change 2 = .ok (.invokevirtual 107, 3) := by decide +kernel
theorem dX9_change_5 : decode cX9_change 5 = .ok (.ifCond .eq 57, 3) := by decide +kernel
theorem dX9_change_8 : decode cX9_change 8 = .ok (.iload_n 2, 1) := by decide +kernel
theorem dX9_change_9 : decode cX9_change 9 = .ok (.ifCond .eq 8, 3) := by decide +kernel
theorem dX9_change_12 : decode cX9_change 12 = .ok (.iload_n 2, 1) := by decide +kernel
theorem dX9_change_13 : decode cX9_change 13 = .ok (.iconst 1, 1) := by decide +kernel
theorem dX9_change_14 : decode cX9_change 14 = .ok (.if_icmp .ne 14, 3) := by decide +kernel
theorem dX9_change_17 : decode cX9_change 17 = .ok (.aload_n 0, 1) := by decide +kernel
theorem dX9_change_18 : decode cX9_change 18 = .ok (.iload_n 3, 1) := by decide +kernel
theorem dX9_change_19 : decode cX9_change 19 = .ok (.invokevirtual 110, 3) := by decide +kernel
theorem dX9_change_22 : decode cX9_change 22 = .ok (.ifCond .eq 40, 3) := by decide +kernel
theorem dX9_change_25 : decode cX9_change 25 = .ok (.goto 33, 3) := by decide +kernel
theorem dX9_change_28 : decode cX9_change 28 = .ok (.iload_n 2, 1) := by decide +kernel
theorem dX9_change_29 : decode cX9_change 29 = .ok (.iconst 2, 1) := by decide +kernel
theorem dX9_change_30 : decode cX9_change 30 = .ok (.if_icmp .ne 14, 3) := by decide +kernel
theorem dX9_change_33 : decode cX9_change 33 = .ok (.aload_n 0, 1) := by decide +kernel
theorem dX9_change_34 : decode cX9_change 34 = .ok (.iload_n 3, 1) := by decide +kernel
theorem dX9_change_35 : decode cX9_change 35 = .ok (.invokevirtual 101, 3) := by decide +kernel
theorem dX9_change_38 : decode cX9_change 38 = .ok (.ifCond .eq 24, 3) := by decide +kernel
theorem dX9_change_41 : decode cX9_change 41 = .ok (.goto 17, 3) := by decide +kernel
theorem dX9_change_44 : decode cX9_change 44 = .ok (.iload_n 2, 1) := by decide +kernel
theorem dX9_change_45 : decode cX9_change 45 = .ok (.iconst 3, 1) := by decide +kernel
theorem dX9_change_46 : decode cX9_change 46 = .ok (.if_icmp .ne 16, 3) := by decide +kernel
theorem dX9_change_49 : decode cX9_change 49 = .ok (.iload_n 3, 1) := by decide +kernel
theorem dX9_change_50 : decode cX9_change 50 = .ok (.iconst 0, 1) := by decide +kernel
theorem dX9_change_51 : decode cX9_change 51 = .ok (.iconst 1, 1) := by decide +kernel
theorem dX9_change_52 : decode cX9_change 52 = .ok (.invokestatic 53, 3) := by decide +kernel
theorem dX9_change_55 : decode cX9_change 55 = .ok (.ifCond .eq 7, 3) := by decide +kernel
theorem dX9_change_58 : decode cX9_change 58 = .ok (.iconst 1, 1) := by decide +kernel
theorem dX9_change_59 : decode cX9_change 59 = .ok (.goto 4, 3) := by decide +kernel
theorem dX9_change_62 : decode cX9_change 62 = .ok (.iconst 0, 1) := by decide +kernel
theorem dX9_change_63 : decode cX9_change 63 = .ok (.istore 4, 2) := by decide +kernel
theorem dX9_change_65 : decode cX9_change 65 = .ok (.iload 4, 2) := by decide +kernel
theorem dX9_change_67 : decode cX9_change 67 = .ok (.ifCond .eq 28, 3) := by decide +kernel
theorem dX9_change_70 : decode cX9_change 70 = .ok (.aload_n 0, 1) := by decide +kernel
theorem dX9_change_71 : decode cX9_change 71 = .ok (.bipush 29, 2) := by decide +kernel
theorem dX9_change_73 : decode cX9_change 73 = .ok (.iconst 5, 1) := by decide +kernel
theorem dX9_change_74 : decode cX9_change 74 = .ok (.iload_n 1, 1) := by decide +kernel
theorem dX9_change_75 : decode cX9_change 75 = .ok (.imul, 1) := by decide +kernel
theorem dX9_change_76 : decode cX9_change 76 = .ok (.iadd, 1) := by decide +kernel
theorem dX9_change_77 : decode cX9_change 77 = .ok (.iload_n 2, 1) := by decide +kernel
theorem dX9_change_78 : decode cX9_change 78 = .ok (.iconst 3, 1) := by decide +kernel
theorem dX9_change_79 : decode cX9_change 79 = .ok (.if_icmp .ne 7, 3) := by decide +kernel
theorem dX9_change_82 : decode cX9_change 82 = .ok (.iconst 4, 1) := by decide +kernel
theorem dX9_change_83 : decode cX9_change 83 = .ok (.goto 4, 3) := by decide +kernel
theorem dX9_change_86 : decode cX9_change 86 = .ok (.iload_n 2, 1) := by decide +kernel
theorem dX9_change_87 : decode cX9_change 87 = .ok (.iadd, 1) := by decide +kernel
theorem dX9_change_88 : decode cX9_change 88 = .ok (.iload_n 3, 1) := by decide +kernel
theorem dX9_change_89 : decode cX9_change 89 = .ok (.invokevirtual 90, 3) := by decide +kernel
theorem dX9_change_92 : decode cX9_change 92 = .ok (.goto 9, 3) := by decide +kernel
theorem dX9_change_95 : decode cX9_change 95 = .ok (.aload_n 0, 1) := by decide +kernel
theorem dX9_change_96 : decode cX9_change 96 = .ok (.ldc 61, 2) := by decide +kernel
theorem dX9_change_98 : decode cX9_change 98 = .ok (.invokevirtual 62, 3) := by decide +kernel
theorem dX9_change_101 : decode cX9_change 101 = .ok (.ireturn, 1) := by decide +kernel
theorem dX9_gala_0 : decode cX9_gala 0 = .ok (.iload_n 1, 1) := by decide +kernel
theorem dX9_gala_1 : decode cX9_gala 1 = .ok (.iconst 0, 1) := by decide +kernel
theorem dX9_gala_2 : decode cX9_gala 2 = .ok (.iconst 1, 1) := by decide +kernel
theorem dX9_gala_3 : decode cX9_gala 3 = .ok (.invokestatic 53, 3) := by decide +kernel
theorem dX9_gala_6 : decode cX9_gala 6 = .ok (.ifCond .eq 12, 3) := by decide +kernel
theorem dX9_gala_9 : decode cX9_gala 9 = .ok (.aload_n 0, 1) := by decide +kernel
theorem dX9_gala_10 : decode cX9_gala 10 = .ok (.iconst 1, 1) := by decide +kernel
theorem dX9_gala_11 : decode cX9_gala 11 = .ok (.iload_n 1, 1) := by decide +kernel
theorem dX9_gala_12 : decode cX9_gala 12 = .ok (.invokevirtual 90, 3) := by decide +kernel
theorem dX9_gala_15 : decode cX9_gala 15 = .ok (.goto 9, 3) := by decide +kernel
theorem dX9_gala_18 : decode cX9_gala 18 = .ok (.aload_n 0, 1) := by decide +kernel
theorem dX9_gala_19 : decode cX9_gala 19 = .ok (.ldc 61, 2) := by decide +kernel
theorem dX9_gala_21 : decode cX9_gala 21 = .ok (.invokevirtual 62, 3) := by decide +kernel
theorem dX9_gala_24 : decode cX9_gala 24 = .ok (.ireturn, 1) := by decide +kernel
theorem dX9_byteAt_0 : decode cX9_byteAt 0 = .ok (.iload_n 1, 1) := by decide +kernel
theorem dX9_byteAt_1 : decode cX9_byteAt 1 = .ok (.aload_n 0, 1) := by decide +kernel
theorem dX9_byteAt_2 : decode cX9_byteAt 2 = .ok (.getfield 113, 3) := by decide +kernel
theorem dX9_byteAt_5 : decode cX9_byteAt 5 = .ok (.if_icmp .ge 24, 3) := by decide +kernel
theorem dX9_byteAt_8 : decode cX9_byteAt 8 = .ok (.aload_n 0, 1) := by decide +kernel
theorem dX9_byteAt_9 : decode cX9_byteAt 9 = .ok (.getfield 7, 3) := by decide +kernel
theorem dX9_byteAt_12 : decode cX9_byteAt 12 = .ok (.sipush 129, 3) := by decide +kernel
theorem dX9_byteAt_15 : decode cX9_byteAt 15 = .ok (.bipush 50, 2) := by decide +kernel
theorem dX9_byteAt_17 : decode cX9_byteAt 17 = .ok (.aload_n 0, 1) := by decide +kernel
theorem dX9_byteAt_18 : decode cX9_byteAt 18 = .ok (.getfield 117, 3) := by decide +kernel
theorem dX9_byteAt_21 : decode cX9_byteAt 21 = .ok (.imul, 1) := by decide +kernel
theorem dX9_byteAt_22 : decode cX9_byteAt 22 = .ok (.iadd, 1) := by decide +kernel
theorem dX9_byteAt_23 : decode cX9_byteAt 23 = .ok (.iload_n 1, 1) := by decide +kernel
theorem dX9_byteAt_24 : decode cX9_byteAt 24 = .ok (.iadd, 1) := by decide +kernel
theorem dX9_byteAt_25 : decode cX9_byteAt 25 = .ok (.iaload, 1) := by decide +kernel
theorem dX9_byteAt_26 : decode cX9_byteAt 26 = .ok (.goto 4, 3) := by decide +kernel
theorem dX9_byteAt_29 : decode cX9_byteAt 29 = .ok (.iconst (-1), 1) := by decide +kernel
theorem dX9_byteAt_30 : decode cX9_byteAt 30 = .ok (.ireturn, 1) := by decide +kernel
theorem dX9_isDigit_0 : decode cX9_isDigit 0 = .ok (.iload_n 0, 1) := by decide +kernel
theorem dX9_isDigit_1 : decode cX9_isDigit 1 = .ok (.bipush 48, 2) := by decide +kernel
theorem dX9_isDigit_3 : decode cX9_isDigit 3 = .ok (.bipush 57, 2) := by decide +kernel
theorem dX9_isDigit_5 : decode cX9_isDigit 5 = .ok (.invokestatic 53, 3) := by decide +kernel
theorem dX9_isDigit_8 : decode cX9_isDigit 8 = .ok (.ireturn, 1) := by decide +kernel
theorem dX9_fails_0 : decode cX9_fails 0 = .ok (.aload_n 0, 1) := by decide +kernel
theorem dX9_fails_1 : decode cX9_fails 1 = .ok (.iconst 0, 1) := by decide +kernel
theorem dX9_fails_2 : decode cX9_fails 2 = .ok (.putfield 120, 3) := by decide +kernel
theorem dX9_fails_5 : decode cX9_fails 5 = .ok (.iconst 0, 1) := by decide +kernel
theorem dX9_fails_6 : decode cX9_fails 6 = .ok (.ireturn, 1) := by decide +kernel
theorem dX9_number_0 : decode cX9_number 0 = .ok (.iconst 0, 1) := by decide +kernel
theorem dX9_number_1 : decode cX9_number 1 = .ok (.istore_n 1, 1) := by decide +kernel
theorem dX9_number_2 : decode cX9_number 2 = .ok (.iconst 0, 1) := by decide +kernel
theorem dX9_number_3 : decode cX9_number 3 = .ok (.istore_n 2, 1) := by decide +kernel
theorem dX9_number_4 : decode cX9_number 4 = .ok (.iload_n 2, 1) := by decide +kernel
theorem dX9_number_5 : decode cX9_number 5 = .ok (.iconst 4, 1) := by decide +kernel
theorem dX9_number_6 : decode cX9_number 6 = .ok (.if_icmp .ge 50, 3) := by decide +kernel
theorem dX9_number_9 : decode cX9_number 9 = .ok (.aload_n 0, 1) := by decide +kernel
theorem dX9_number_10 : decode cX9_number 10 = .ok (.aload_n 0, 1) := by decide +kernel
theorem dX9_number_11 : decode cX9_number 11 = .ok (.getfield 124, 3) := by decide +kernel
theorem dX9_number_14 : decode cX9_number 14 = .ok (.invokevirtual 127, 3) := by decide +kernel
theorem dX9_number_17 : decode cX9_number 17 = .ok (.invokestatic 130, 3) := by decide +kernel
theorem dX9_number_20 : decode cX9_number 20 = .ok (.ifCond .eq 36, 3) := by decide +kernel
theorem dX9_number_23 : decode cX9_number 23 = .ok (.bipush 10, 2) := by decide +kernel
theorem dX9_number_25 : decode cX9_number 25 = .ok (.iload_n 1, 1) := by decide +kernel
theorem dX9_number_26 : decode cX9_number 26 = .ok (.imul, 1) := by decide +kernel
theorem dX9_number_27 : decode cX9_number 27 = .ok (.aload_n 0, 1) := by decide +kernel
theorem dX9_number_28 : decode cX9_number 28 = .ok (.aload_n 0, 1) := by decide +kernel
theorem dX9_number_29 : decode cX9_number 29 = .ok (.getfield 124, 3) := by decide +kernel
theorem dX9_number_32 : decode cX9_number 32 = .ok (.invokevirtual 127, 3) := by decide +kernel
theorem dX9_number_35 : decode cX9_number 35 = .ok (.iadd, 1) := by decide +kernel
theorem dX9_number_36 : decode cX9_number 36 = .ok (.bipush 48, 2) := by decide +kernel
theorem dX9_number_38 : decode cX9_number 38 = .ok (.isub, 1) := by decide +kernel
theorem dX9_number_39 : decode cX9_number 39 = .ok (.istore_n 1, 1) := by decide +kernel
theorem dX9_number_40 : decode cX9_number 40 = .ok (.aload_n 0, 1) := by decide +kernel
theorem dX9_number_41 : decode cX9_number 41 = .ok (.dup, 1) := by decide +kernel
theorem dX9_number_42 : decode cX9_number 42 = .ok (.getfield 124, 3) := by decide +kernel
theorem dX9_number_45 : decode cX9_number 45 = .ok (.iconst 1, 1) := by decide +kernel
theorem dX9_number_46 : decode cX9_number 46 = .ok (.iadd, 1) := by decide +kernel
theorem dX9_number_47 : decode cX9_number 47 = .ok (.putfield 124, 3) := by decide +kernel
theorem dX9_number_50 : decode cX9_number 50 = .ok (.iinc 2 1, 3) := by decide +kernel
theorem dX9_number_53 : decode cX9_number 53 = .ok (.goto (-49), 3) := by decide +kernel
theorem dX9_number_56 : decode cX9_number 56 = .ok (.iload_n 1, 1) := by decide +kernel
theorem dX9_number_57 : decode cX9_number 57 = .ok (.ireturn, 1) := by decide +kernel
theorem dX9_named_0 : decode cX9_named 0 = .ok (.iload_n 1, 1) := by decide +kernel
theorem dX9_named_1 : decode cX9_named 1 = .ok (.bipush 108, 2) := by decide +kernel
theorem dX9_named_3 : decode cX9_named 3 = .ok (.if_icmp .ne 7, 3) := by decide +kernel
theorem dX9_named_6 : decode cX9_named 6 = .ok (.iconst 1, 1) := by decide +kernel
theorem dX9_named_7 : decode cX9_named 7 = .ok (.goto 4, 3) := by decide +kernel
theorem dX9_named_10 : decode cX9_named 10 = .ok (.iconst 0, 1) := by decide +kernel
theorem dX9_named_11 : decode cX9_named 11 = .ok (.istore_n 2, 1) := by decide +kernel
theorem dX9_named_12 : decode cX9_named 12 = .ok (.iload_n 1, 1) := by decide +kernel
theorem dX9_named_13 : decode cX9_named 13 = .ok (.aload_n 0, 1) := by decide +kernel
theorem dX9_named_14 : decode cX9_named 14 = .ok (.getfield 117, 3) := by decide +kernel
theorem dX9_named_17 : decode cX9_named 17 = .ok (.ifCond .ne 8, 3) := by decide +kernel
theorem dX9_named_20 : decode cX9_named 20 = .ok (.bipush 109, 2) := by decide +kernel
theorem dX9_named_22 : decode cX9_named 22 = .ok (.goto 5, 3) := by decide +kernel
theorem dX9_named_25 : decode cX9_named 25 = .ok (.bipush 112, 2) := by decide +kernel
theorem dX9_named_27 : decode cX9_named 27 = .ok (.if_icmp .ne 7, 3) := by decide +kernel
theorem dX9_named_30 : decode cX9_named 30 = .ok (.iconst 1, 1) := by decide +kernel
theorem dX9_named_31 : decode cX9_named 31 = .ok (.goto 4, 3) := by decide +kernel
theorem dX9_named_34 : decode cX9_named 34 = .ok (.iconst 0, 1) := by decide +kernel
theorem dX9_named_35 : decode cX9_named 35 = .ok (.istore_n 3, 1) := by decide +kernel
theorem dX9_named_36 : decode cX9_named 36 = .ok (.iload_n 1, 1) := by decide +kernel
theorem dX9_named_37 : decode cX9_named 37 = .ok (.aload_n 0, 1) := by decide +kernel
theorem dX9_named_38 : decode cX9_named 38 = .ok (.getfield 117, 3) := by decide +kernel
theorem dX9_named_41 : decode cX9_named 41 = .ok (.ifCond .ne 8, 3) := by decide +kernel
theorem dX9_named_44 : decode cX9_named 44 = .ok (.bipush 107, 2) := by decide +kernel
theorem dX9_named_46 : decode cX9_named 46 = .ok (.goto 5, 3) := by decide +kernel
theorem dX9_named_49 : decode cX9_named 49 = .ok (.bipush 110, 2) := by decide +kernel
theorem dX9_named_51 : decode cX9_named 51 = .ok (.if_icmp .ne 7, 3) := by decide +kernel
theorem dX9_named_54 : decode cX9_named 54 = .ok (.iconst 1, 1) := by decide +kernel
theorem dX9_named_55 : decode cX9_named 55 = .ok (.goto 4, 3) := by decide +kernel
theorem dX9_named_58 : decode cX9_named 58 = .ok (.iconst 0, 1) := by decide +kernel
theorem dX9_named_59 : decode cX9_named 59 = .ok (.istore 4, 2) := by decide +kernel
theorem dX9_named_61 : decode cX9_named 61 = .ok (.iload_n 2, 1) := by decide +kernel
theorem dX9_named_62 : decode cX9_named 62 = .ok (.ifCond .ne 17, 3) := by decide +kernel
theorem dX9_named_65 : decode cX9_named 65 = .ok (.iload_n 3, 1) := by decide +kernel
theorem dX9_named_66 : decode cX9_named 66 = .ok (.ifCond .ne 13, 3) := by decide +kernel
theorem dX9_named_69 : decode cX9_named 69 = .ok (.iload 4, 2) := by decide +kernel
theorem dX9_named_71 : decode cX9_named 71 = .ok (.ifCond .ne 8, 3) := by decide +kernel
theorem dX9_named_74 : decode cX9_named 74 = .ok (.aload_n 0, 1) := by decide +kernel
theorem dX9_named_75 : decode cX9_named 75 = .ok (.invokevirtual 133, 3) := by decide +kernel
theorem dX9_named_78 : decode cX9_named 78 = .ok (.ireturn, 1) := by decide +kernel
theorem dX9_named_79 : decode cX9_named 79 = .ok (.aload_n 0, 1) := by decide +kernel
theorem dX9_named_80 : decode cX9_named 80 = .ok (.dup, 1) := by decide +kernel
theorem dX9_named_81 : decode cX9_named 81 = .ok (.getfield 124, 3) := by decide +kernel
theorem dX9_named_84 : decode cX9_named 84 = .ok (.iconst 1, 1) := by decide +kernel
theorem dX9_named_85 : decode cX9_named 85 = .ok (.iadd, 1) := by decide +kernel
theorem dX9_named_86 : decode cX9_named 86 = .ok (.putfield 124, 3) := by decide +kernel
theorem dX9_named_89 : decode cX9_named 89 = .ok (.iload_n 2, 1) := by decide +kernel
theorem dX9_named_90 : decode cX9_named 90 = .ok (.ifCond .eq 10, 3) := by decide +kernel
theorem dX9_named_93 : decode cX9_named 93 = .ok (.aload_n 0, 1) := by decide +kernel
theorem dX9_named_94 : decode cX9_named 94 = .ok (.getfield 137, 3) := by decide +kernel
theorem dX9_named_97 : decode cX9_named 97 = .ok (.goto 18, 3) := by decide +kernel
theorem dX9_named_100 : decode cX9_named 100 = .ok (.iload_n 3, 1) := by decide +kernel
theorem dX9_named_101 : decode cX9_named 101 = .ok (.ifCond .eq 10, 3) := by decide +kernel
theorem dX9_named_104 : decode cX9_named 104 = .ok (.aload_n 0, 1) := by decide +kernel
theorem dX9_named_105 : decode cX9_named 105 = .ok (.getfield 140, 3) := by decide +kernel
theorem dX9_named_108 : decode cX9_named 108 = .ok (.goto 7, 3) := by decide +kernel
theorem dX9_named_111 : decode cX9_named 111 = .ok (.aload_n 0, 1) := by decide +kernel
theorem dX9_named_112 : decode cX9_named 112 = .ok (.getfield 143, 3) := by decide +kernel
theorem dX9_named_115 : decode cX9_named 115 = .ok (.ireturn, 1) := by decide +kernel
theorem dX9_factor_0 : decode cX9_factor 0 = .ok (.aload_n 0, 1) := by decide +kernel
theorem dX9_factor_1 : decode cX9_factor 1 = .ok (.aload_n 0, 1) := by decide +kernel
theorem dX9_factor_2 : decode cX9_factor 2 = .ok (.getfield 124, 3) := by decide +kernel
theorem dX9_factor_5 : decode cX9_factor 5 = .ok (.invokevirtual 127, 3) := by decide +kernel
theorem dX9_factor_8 : decode cX9_factor 8 = .ok (.istore_n 1, 1) := by decide +kernel
theorem dX9_factor_9 : decode cX9_factor 9 = .ok (.iload_n 1, 1) := by decide +kernel
theorem dX9_factor_10 : decode cX9_factor 10 = .ok (.invokestatic 130, 3) := by decide +kernel
theorem dX9_factor_13 : decode cX9_factor 13 = .ok (.ifCond .eq 8, 3) := by decide +kernel
theorem dX9_factor_16 : decode cX9_factor 16 = .ok (.aload_n 0, 1) := by decide +kernel
theorem dX9_factor_17 : decode cX9_factor 17 = .ok (.invokevirtual 146, 3) := by decide +kernel
theorem dX9_factor_20 : decode cX9_factor 20 = .ok (.ireturn, 1) := by decide +kernel
theorem dX9_factor_21 : decode cX9_factor 21 = .ok (.iload_n 1, 1) := by decide +kernel
theorem dX9_factor_22 : decode cX9_factor 22 = .ok (.bipush 33, 2) := by decide +kernel
theorem dX9_factor_24 : decode cX9_factor 24 = .ok (.if_icmp .eq 15, 3) := by decide +kernel
theorem dX9_factor_27 : decode cX9_factor 27 = .ok (.iload_n 1, 1) := by decide +kernel
theorem dX9_factor_28 : decode cX9_factor 28 = .ok (.bipush 40, 2) := by decide +kernel
theorem dX9_factor_30 : decode cX9_factor 30 = .ok (.if_icmp .eq 9, 3) := by decide +kernel
theorem dX9_factor_33 : decode cX9_factor 33 = .ok (.aload_n 0, 1) := by decide +kernel
theorem dX9_factor_34 : decode cX9_factor 34 = .ok (.iload_n 1, 1) := by decide +kernel
theorem dX9_factor_35 : decode cX9_factor 35 = .ok (.invokevirtual 149, 3) := by decide +kernel
theorem dX9_factor_38 : decode cX9_factor 38 = .ok (.ireturn, 1) := by decide +kernel
theorem dX9_factor_39 : decode cX9_factor 39 = .ok (.aload_n 0, 1) := by decide +kernel
theorem dX9_factor_40 : decode cX9_factor 40 = .ok (.getfield 152, 3) := by decide +kernel
theorem dX9_factor_43 : decode cX9_factor 43 = .ok (.iconst 5, 1) := by decide +kernel
theorem dX9_factor_44 : decode cX9_factor 44 = .ok (.if_icmp .ne 8, 3) := by decide +kernel
theorem dX9_factor_47 : decode cX9_factor 47 = .ok (.aload_n 0, 1) := by decide +kernel
theorem dX9_factor_48 : decode cX9_factor 48 = .ok (.invokevirtual 133, 3) := by decide +kernel
theorem dX9_factor_51 : decode cX9_factor 51 = .ok (.ireturn, 1) := by decide +kernel
theorem dX9_factor_52 : decode cX9_factor 52 = .ok (.aload_n 0, 1) := by decide +kernel
theorem dX9_factor_53 : decode cX9_factor 53 = .ok (.dup, 1) := by decide +kernel
theorem dX9_factor_54 : decode cX9_factor 54 = .ok (.getfield 152, 3) := by decide +kernel
theorem dX9_factor_57 : decode cX9_factor 57 = .ok (.iconst 1, 1) := by decide +kernel
theorem dX9_factor_58 : decode cX9_factor 58 = .ok (.iadd, 1) := by decide +kernel
theorem dX9_factor_59 : decode cX9_factor 59 = .ok (.putfield 152, 3) := by decide +kernel
theorem dX9_factor_62 : decode cX9_factor 62 = .ok (.aload_n 0, 1) := by decide +kernel
theorem dX9_factor_63 : decode cX9_factor 63 = .ok (.dup, 1) := by decide +kernel
theorem dX9_factor_64 : decode cX9_factor 64 = .ok (.getfield 124, 3) := by decide +kernel
theorem dX9_factor_67 : decode cX9_factor 67 = .ok (.iconst 1, 1) := by decide +kernel
theorem dX9_factor_68 : decode cX9_factor 68 = .ok (.iadd, 1) := by decide +kernel
theorem dX9_factor_69 : decode cX9_factor 69 = .ok (.putfield 124, 3) := by decide +kernel
theorem dX9_factor_72 : decode cX9_factor 72 = .ok (.iload_n 1, 1) := by decide +kernel
theorem dX9_factor_73 : decode cX9_factor 73 = .ok (.bipush 33, 2) := by decide +kernel
theorem dX9_factor_75 : decode cX9_factor 75 = .ok (.if_icmp .ne 10, 3) := by decide +kernel
theorem dX9_factor_78 : decode cX9_factor 78 = .ok (.aload_n 0, 1) := by decide +kernel
theorem dX9_factor_79 : decode cX9_factor 79 = .ok (.invokevirtual 155, 3) := by decide +kernel
theorem dX9_factor_82 : decode cX9_factor 82 = .ok (.goto 7, 3) := by decide +kernel
theorem dX9_factor_85 : decode cX9_factor 85 = .ok (.aload_n 0, 1) := by decide +kernel
theorem dX9_factor_86 : decode cX9_factor 86 = .ok (.invokevirtual 158, 3) := by decide +kernel
theorem dX9_factor_89 : decode cX9_factor 89 = .ok (.istore_n 2, 1) := by decide +kernel
theorem dX9_factor_90 : decode cX9_factor 90 = .ok (.aload_n 0, 1) := by decide +kernel
theorem dX9_factor_91 : decode cX9_factor 91 = .ok (.dup, 1) := by decide +kernel
theorem dX9_factor_92 : decode cX9_factor 92 = .ok (.getfield 152, 3) := by decide +kernel
theorem dX9_factor_95 : decode cX9_factor 95 = .ok (.iconst 1, 1) := by decide +kernel
theorem dX9_factor_96 : decode cX9_factor 96 = .ok (.isub, 1) := by decide +kernel
theorem dX9_factor_97 : decode cX9_factor 97 = .ok (.putfield 152, 3) := by decide +kernel
theorem dX9_factor_100 : decode cX9_factor 100 = .ok (.iload_n 1, 1) := by decide +kernel
theorem dX9_factor_101 : decode cX9_factor 101 = .ok (.bipush 33, 2) := by decide +kernel
theorem dX9_factor_103 : decode cX9_factor 103 = .ok (.if_icmp .ne 13, 3) := by decide +kernel
theorem dX9_factor_106 : decode cX9_factor 106 = .ok (.iload_n 2, 1) := by decide +kernel
theorem dX9_factor_107 : decode cX9_factor 107 = .ok (.ifCond .ne 7, 3) := by decide +kernel
theorem dX9_factor_110 : decode cX9_factor 110 = .ok (.iconst 1, 1) := by decide +kernel
theorem dX9_factor_111 : decode cX9_factor 111 = .ok (.goto 4, 3) := by decide +kernel
theorem dX9_factor_114 : decode cX9_factor 114 = .ok (.iconst 0, 1) := by decide +kernel
theorem dX9_factor_115 : decode cX9_factor 115 = .ok (.ireturn, 1) := by decide +kernel
theorem dX9_factor_116 : decode cX9_factor 116 = .ok (.aload_n 0, 1) := by decide +kernel
theorem dX9_factor_117 : decode cX9_factor 117 = .ok (.getfield 120, 3) := by decide +kernel
theorem dX9_factor_120 : decode cX9_factor 120 = .ok (.ifCond .eq 28, 3) := by decide +kernel
theorem dX9_factor_123 : decode cX9_factor 123 = .ok (.aload_n 0, 1) := by decide +kernel
theorem dX9_factor_124 : decode cX9_factor 124 = .ok (.aload_n 0, 1) := by decide +kernel
theorem dX9_factor_125 : decode cX9_factor 125 = .ok (.getfield 124, 3) := by decide +kernel
theorem dX9_factor_128 : decode cX9_factor 128 = .ok (.invokevirtual 127, 3) := by decide +kernel
theorem dX9_factor_131 : decode cX9_factor 131 = .ok (.bipush 41, 2) := by decide +kernel
theorem dX9_factor_133 : decode cX9_factor 133 = .ok (.if_icmp .ne 15, 3) := by decide +kernel
theorem dX9_factor_136 : decode cX9_factor 136 = .ok (.aload_n 0, 1) := by decide +kernel
theorem dX9_factor_137 : decode cX9_factor 137 = .ok (.dup, 1) := by decide +kernel
theorem dX9_factor_138 : decode cX9_factor 138 = .ok (.getfield 124, 3) := by decide +kernel
theorem dX9_factor_141 : decode cX9_factor 141 = .ok (.iconst 1, 1) := by decide +kernel
theorem dX9_factor_142 : decode cX9_factor 142 = .ok (.iadd, 1) := by decide +kernel
theorem dX9_factor_143 : decode cX9_factor 143 = .ok (.putfield 124, 3) := by decide +kernel
theorem dX9_factor_146 : decode cX9_factor 146 = .ok (.iload_n 2, 1) := by decide +kernel
theorem dX9_factor_147 : decode cX9_factor 147 = .ok (.ireturn, 1) := by decide +kernel
theorem dX9_factor_148 : decode cX9_factor 148 = .ok (.aload_n 0, 1) := by decide +kernel
theorem dX9_factor_149 : decode cX9_factor 149 = .ok (.invokevirtual 133, 3) := by decide +kernel
theorem dX9_factor_152 : decode cX9_factor 152 = .ok (.ireturn, 1) := by decide +kernel
theorem dX9_product_0 : decode cX9_product 0 = .ok (.aload_n 0, 1) := by decide +kernel
theorem dX9_product_1 : decode cX9_product 1 = .ok (.invokevirtual 155, 3) := by decide +kernel
theorem dX9_product_4 : decode cX9_product 4 = .ok (.istore_n 1, 1) := by decide +kernel
theorem dX9_product_5 : decode cX9_product 5 = .ok (.aload_n 0, 1) := by decide +kernel
theorem dX9_product_6 : decode cX9_product 6 = .ok (.getfield 120, 3) := by decide +kernel
theorem dX9_product_9 : decode cX9_product 9 = .ok (.ifCond .eq 105, 3) := by decide +kernel
theorem dX9_product_12 : decode cX9_product 12 = .ok (.aload_n 0, 1) := by decide +kernel
theorem dX9_product_13 : decode cX9_product 13 = .ok (.aload_n 0, 1) := by decide +kernel
theorem dX9_product_14 : decode cX9_product 14 = .ok (.getfield 124, 3) := by decide +kernel
theorem dX9_product_17 : decode cX9_product 17 = .ok (.invokevirtual 127, 3) := by decide +kernel
theorem dX9_product_20 : decode cX9_product 20 = .ok (.bipush 42, 2) := by decide +kernel
theorem dX9_product_22 : decode cX9_product 22 = .ok (.if_icmp .eq 29, 3) := by decide +kernel
theorem dX9_product_25 : decode cX9_product 25 = .ok (.aload_n 0, 1) := by decide +kernel
theorem dX9_product_26 : decode cX9_product 26 = .ok (.aload_n 0, 1) := by decide +kernel
theorem dX9_product_27 : decode cX9_product 27 = .ok (.getfield 124, 3) := by decide +kernel
theorem dX9_product_30 : decode cX9_product 30 = .ok (.invokevirtual 127, 3) := by decide +kernel
theorem dX9_product_33 : decode cX9_product 33 = .ok (.bipush 47, 2) := by decide +kernel
theorem dX9_product_35 : decode cX9_product 35 = .ok (.if_icmp .eq 16, 3) := by decide +kernel
theorem dX9_product_38 : decode cX9_product 38 = .ok (.aload_n 0, 1) := by decide +kernel
theorem dX9_product_39 : decode cX9_product 39 = .ok (.aload_n 0, 1) := by decide +kernel
theorem dX9_product_40 : decode cX9_product 40 = .ok (.getfield 124, 3) := by decide +kernel
theorem dX9_product_43 : decode cX9_product 43 = .ok (.invokevirtual 127, 3) := by decide +kernel
theorem dX9_product_46 : decode cX9_product 46 = .ok (.bipush 37, 2) := by decide +kernel
theorem dX9_product_48 : decode cX9_product 48 = .ok (.if_icmp .ne 66, 3) := by decide +kernel
theorem dX9_product_51 : decode cX9_product 51 = .ok (.aload_n 0, 1) := by decide +kernel
theorem dX9_product_52 : decode cX9_product 52 = .ok (.aload_n 0, 1) := by decide +kernel
theorem dX9_product_53 : decode cX9_product 53 = .ok (.getfield 124, 3) := by decide +kernel
theorem dX9_product_56 : decode cX9_product 56 = .ok (.invokevirtual 127, 3) := by decide +kernel
theorem dX9_product_59 : decode cX9_product 59 = .ok (.istore_n 2, 1) := by decide +kernel
theorem dX9_product_60 : decode cX9_product 60 = .ok (.aload_n 0, 1) := by decide +kernel
theorem dX9_product_61 : decode cX9_product 61 = .ok (.dup, 1) := by decide +kernel
theorem dX9_product_62 : decode cX9_product 62 = .ok (.getfield 124, 3) := by decide +kernel
theorem dX9_product_65 : decode cX9_product 65 = .ok (.iconst 1, 1) := by decide +kernel
theorem dX9_product_66 : decode cX9_product 66 = .ok (.iadd, 1) := by decide +kernel
theorem dX9_product_67 : decode cX9_product 67 = .ok (.putfield 124, 3) := by decide +kernel
theorem dX9_product_70 : decode cX9_product 70 = .ok (.aload_n 0, 1) := by decide +kernel
theorem dX9_product_71 : decode cX9_product 71 = .ok (.invokevirtual 155, 3) := by decide +kernel
theorem dX9_product_74 : decode cX9_product 74 = .ok (.istore_n 3, 1) := by decide +kernel
theorem dX9_product_75 : decode cX9_product 75 = .ok (.iload_n 2, 1) := by decide +kernel
theorem dX9_product_76 : decode cX9_product 76 = .ok (.bipush 42, 2) := by decide +kernel
theorem dX9_product_78 : decode cX9_product 78 = .ok (.if_icmp .ne 9, 3) := by decide +kernel
theorem dX9_product_81 : decode cX9_product 81 = .ok (.iload_n 1, 1) := by decide +kernel
theorem dX9_product_82 : decode cX9_product 82 = .ok (.iload_n 3, 1) := by decide +kernel
theorem dX9_product_83 : decode cX9_product 83 = .ok (.imul, 1) := by decide +kernel
theorem dX9_product_84 : decode cX9_product 84 = .ok (.goto 26, 3) := by decide +kernel
theorem dX9_product_87 : decode cX9_product 87 = .ok (.iload_n 3, 1) := by decide +kernel
theorem dX9_product_88 : decode cX9_product 88 = .ok (.ifCond .ne 7, 3) := by decide +kernel
theorem dX9_product_91 : decode cX9_product 91 = .ok (.iconst 0, 1) := by decide +kernel
theorem dX9_product_92 : decode cX9_product 92 = .ok (.goto 18, 3) := by decide +kernel
theorem dX9_product_95 : decode cX9_product 95 = .ok (.iload_n 2, 1) := by decide +kernel
theorem dX9_product_96 : decode cX9_product 96 = .ok (.bipush 47, 2) := by decide +kernel
theorem dX9_product_98 : decode cX9_product 98 = .ok (.if_icmp .ne 9, 3) := by decide +kernel
theorem dX9_product_101 : decode cX9_product 101 = .ok (.iload_n 1, 1) := by decide +kernel
theorem dX9_product_102 : decode cX9_product 102 = .ok (.iload_n 3, 1) := by decide +kernel
theorem dX9_product_103 : decode cX9_product 103 = .ok (.idiv, 1) := by decide +kernel
theorem dX9_product_104 : decode cX9_product 104 = .ok (.goto 6, 3) := by decide +kernel
theorem dX9_product_107 : decode cX9_product 107 = .ok (.iload_n 1, 1) := by decide +kernel
theorem dX9_product_108 : decode cX9_product 108 = .ok (.iload_n 3, 1) := by decide +kernel
theorem dX9_product_109 : decode cX9_product 109 = .ok (.irem, 1) := by decide +kernel
theorem dX9_product_110 : decode cX9_product 110 = .ok (.istore_n 1, 1) := by decide +kernel
theorem dX9_product_111 : decode cX9_product 111 = .ok (.goto (-106), 3) := by decide +kernel
theorem dX9_product_114 : decode cX9_product 114 = .ok (.iload_n 1, 1) := by decide +kernel
theorem dX9_product_115 : decode cX9_product 115 = .ok (.ireturn, 1) := by decide +kernel
theorem dX9_sum_0 : decode cX9_sum 0 = .ok (.aload_n 0, 1) := by decide +kernel
theorem dX9_sum_1 : decode cX9_sum 1 = .ok (.invokevirtual 161, 3) := by decide +kernel
theorem dX9_sum_4 : decode cX9_sum 4 = .ok (.istore_n 1, 1) := by decide +kernel
theorem dX9_sum_5 : decode cX9_sum 5 = .ok (.aload_n 0, 1) := by decide +kernel
theorem dX9_sum_6 : decode cX9_sum 6 = .ok (.getfield 120, 3) := by decide +kernel
theorem dX9_sum_9 : decode cX9_sum 9 = .ok (.ifCond .eq 72, 3) := by decide +kernel
theorem dX9_sum_12 : decode cX9_sum 12 = .ok (.aload_n 0, 1) := by decide +kernel
theorem dX9_sum_13 : decode cX9_sum 13 = .ok (.aload_n 0, 1) := by decide +kernel
theorem dX9_sum_14 : decode cX9_sum 14 = .ok (.getfield 124, 3) := by decide +kernel
theorem dX9_sum_17 : decode cX9_sum 17 = .ok (.invokevirtual 127, 3) := by decide +kernel
theorem dX9_sum_20 : decode cX9_sum 20 = .ok (.bipush 43, 2) := by decide +kernel
theorem dX9_sum_22 : decode cX9_sum 22 = .ok (.if_icmp .eq 16, 3) := by decide +kernel
theorem dX9_sum_25 : decode cX9_sum 25 = .ok (.aload_n 0, 1) := by decide +kernel
theorem dX9_sum_26 : decode cX9_sum 26 = .ok (.aload_n 0, 1) := by decide +kernel
theorem dX9_sum_27 : decode cX9_sum 27 = .ok (.getfield 124, 3) := by decide +kernel
theorem dX9_sum_30 : decode cX9_sum 30 = .ok (.invokevirtual 127, 3) := by decide +kernel
theorem dX9_sum_33 : decode cX9_sum 33 = .ok (.bipush 45, 2) := by decide +kernel
theorem dX9_sum_35 : decode cX9_sum 35 = .ok (.if_icmp .ne 46, 3) := by decide +kernel
theorem dX9_sum_38 : decode cX9_sum 38 = .ok (.aload_n 0, 1) := by decide +kernel
theorem dX9_sum_39 : decode cX9_sum 39 = .ok (.aload_n 0, 1) := by decide +kernel
theorem dX9_sum_40 : decode cX9_sum 40 = .ok (.getfield 124, 3) := by decide +kernel
theorem dX9_sum_43 : decode cX9_sum 43 = .ok (.invokevirtual 127, 3) := by decide +kernel
theorem dX9_sum_46 : decode cX9_sum 46 = .ok (.istore_n 2, 1) := by decide +kernel
theorem dX9_sum_47 : decode cX9_sum 47 = .ok (.aload_n 0, 1) := by decide +kernel
theorem dX9_sum_48 : decode cX9_sum 48 = .ok (.dup, 1) := by decide +kernel
theorem dX9_sum_49 : decode cX9_sum 49 = .ok (.getfield 124, 3) := by decide +kernel
theorem dX9_sum_52 : decode cX9_sum 52 = .ok (.iconst 1, 1) := by decide +kernel
theorem dX9_sum_53 : decode cX9_sum 53 = .ok (.iadd, 1) := by decide +kernel
theorem dX9_sum_54 : decode cX9_sum 54 = .ok (.putfield 124, 3) := by decide +kernel
theorem dX9_sum_57 : decode cX9_sum 57 = .ok (.aload_n 0, 1) := by decide +kernel
theorem dX9_sum_58 : decode cX9_sum 58 = .ok (.invokevirtual 161, 3) := by decide +kernel
theorem dX9_sum_61 : decode cX9_sum 61 = .ok (.istore_n 3, 1) := by decide +kernel
theorem dX9_sum_62 : decode cX9_sum 62 = .ok (.iload_n 2, 1) := by decide +kernel
theorem dX9_sum_63 : decode cX9_sum 63 = .ok (.bipush 43, 2) := by decide +kernel
theorem dX9_sum_65 : decode cX9_sum 65 = .ok (.if_icmp .ne 9, 3) := by decide +kernel
theorem dX9_sum_68 : decode cX9_sum 68 = .ok (.iload_n 1, 1) := by decide +kernel
theorem dX9_sum_69 : decode cX9_sum 69 = .ok (.iload_n 3, 1) := by decide +kernel
theorem dX9_sum_70 : decode cX9_sum 70 = .ok (.iadd, 1) := by decide +kernel
theorem dX9_sum_71 : decode cX9_sum 71 = .ok (.goto 6, 3) := by decide +kernel
theorem dX9_sum_74 : decode cX9_sum 74 = .ok (.iload_n 1, 1) := by decide +kernel
theorem dX9_sum_75 : decode cX9_sum 75 = .ok (.iload_n 3, 1) := by decide +kernel
theorem dX9_sum_76 : decode cX9_sum 76 = .ok (.isub, 1) := by decide +kernel
theorem dX9_sum_77 : decode cX9_sum 77 = .ok (.istore_n 1, 1) := by decide +kernel
theorem dX9_sum_78 : decode cX9_sum 78 = .ok (.goto (-73), 3) := by decide +kernel
theorem dX9_sum_81 : decode cX9_sum 81 = .ok (.iload_n 1, 1) := by decide +kernel
theorem dX9_sum_82 : decode cX9_sum 82 = .ok (.ireturn, 1) := by decide +kernel
theorem dX9_compared_0 : decode cX9_compared 0 = .ok (.aload_n 0, 1) := by decide +kernel
theorem dX9_compared_1 : decode cX9_compared 1 = .ok (.invokevirtual 164, 3) := by decide +kernel
theorem dX9_compared_4 : decode cX9_compared 4 = .ok (.istore_n 1, 1) := by decide +kernel
theorem dX9_compared_5 : decode cX9_compared 5 = .ok (.aload_n 0, 1) := by decide +kernel
theorem dX9_compared_6 : decode cX9_compared 6 = .ok (.getfield 120, 3) := by decide +kernel
theorem dX9_compared_9 : decode cX9_compared 9 = .ok (.ifCond .eq 14, 3) := by decide +kernel
theorem dX9_compared_12 : decode cX9_compared 12 = .ok (.aload_n 0, 1) := by decide +kernel
theorem dX9_compared_13 : decode cX9_compared 13 = .ok (.aload_n 0, 1) := by decide +kernel
theorem dX9_compared_14 : decode cX9_compared 14 = .ok (.getfield 124, 3) := by decide +kernel
theorem dX9_compared_17 : decode cX9_compared 17 = .ok (.invokevirtual 127, 3) := by decide +kernel
theorem dX9_compared_20 : decode cX9_compared 20 = .ok (.goto 4, 3) := by decide +kernel
theorem dX9_compared_23 : decode cX9_compared 23 = .ok (.iconst (-1), 1) := by decide +kernel
theorem dX9_compared_24 : decode cX9_compared 24 = .ok (.istore_n 2, 1) := by decide +kernel
theorem dX9_compared_25 : decode cX9_compared 25 = .ok (.iload_n 2, 1) := by decide +kernel
theorem dX9_compared_26 : decode cX9_compared 26 = .ok (.bipush 60, 2) := by decide +kernel
theorem dX9_compared_28 : decode cX9_compared 28 = .ok (.if_icmp .eq 17, 3) := by decide +kernel
theorem dX9_compared_31 : decode cX9_compared 31 = .ok (.iload_n 2, 1) := by decide +kernel
theorem dX9_compared_32 : decode cX9_compared 32 = .ok (.bipush 61, 2) := by decide +kernel
theorem dX9_compared_34 : decode cX9_compared 34 = .ok (.if_icmp .eq 11, 3) := by decide +kernel
theorem dX9_compared_37 : decode cX9_compared 37 = .ok (.iload_n 2, 1) := by decide +kernel
theorem dX9_compared_38 : decode cX9_compared 38 = .ok (.bipush 62, 2) := by decide +kernel
theorem dX9_compared_40 : decode cX9_compared 40 = .ok (.if_icmp .eq 5, 3) := by decide +kernel
theorem dX9_compared_43 : decode cX9_compared 43 = .ok (.iload_n 1, 1) := by decide +kernel
theorem dX9_compared_44 : decode cX9_compared 44 = .ok (.ireturn, 1) := by decide +kernel
theorem dX9_compared_45 : decode cX9_compared 45 = .ok (.aload_n 0, 1) := by decide +kernel
theorem dX9_compared_46 : decode cX9_compared 46 = .ok (.dup, 1) := by decide +kernel
theorem dX9_compared_47 : decode cX9_compared 47 = .ok (.getfield 124, 3) := by decide +kernel
theorem dX9_compared_50 : decode cX9_compared 50 = .ok (.iconst 1, 1) := by decide +kernel
theorem dX9_compared_51 : decode cX9_compared 51 = .ok (.iadd, 1) := by decide +kernel
theorem dX9_compared_52 : decode cX9_compared 52 = .ok (.putfield 124, 3) := by decide +kernel
theorem dX9_compared_55 : decode cX9_compared 55 = .ok (.aload_n 0, 1) := by decide +kernel
theorem dX9_compared_56 : decode cX9_compared 56 = .ok (.invokevirtual 164, 3) := by decide +kernel
theorem dX9_compared_59 : decode cX9_compared 59 = .ok (.istore_n 3, 1) := by decide +kernel
theorem dX9_compared_60 : decode cX9_compared 60 = .ok (.iload_n 2, 1) := by decide +kernel
theorem dX9_compared_61 : decode cX9_compared 61 = .ok (.bipush 60, 2) := by decide +kernel
theorem dX9_compared_63 : decode cX9_compared 63 = .ok (.if_icmp .ne 16, 3) := by decide +kernel
theorem dX9_compared_66 : decode cX9_compared 66 = .ok (.iload_n 1, 1) := by decide +kernel
theorem dX9_compared_67 : decode cX9_compared 67 = .ok (.iload_n 3, 1) := by decide +kernel
theorem dX9_compared_68 : decode cX9_compared 68 = .ok (.if_icmp .ge 7, 3) := by decide +kernel
theorem dX9_compared_71 : decode cX9_compared 71 = .ok (.iconst 1, 1) := by decide +kernel
theorem dX9_compared_72 : decode cX9_compared 72 = .ok (.goto 36, 3) := by decide +kernel
theorem dX9_compared_75 : decode cX9_compared 75 = .ok (.iconst 0, 1) := by decide +kernel
theorem dX9_compared_76 : decode cX9_compared 76 = .ok (.goto 32, 3) := by decide +kernel
theorem dX9_compared_79 : decode cX9_compared 79 = .ok (.iload_n 2, 1) := by decide +kernel
theorem dX9_compared_80 : decode cX9_compared 80 = .ok (.bipush 61, 2) := by decide +kernel
theorem dX9_compared_82 : decode cX9_compared 82 = .ok (.if_icmp .ne 16, 3) := by decide +kernel
theorem dX9_compared_85 : decode cX9_compared 85 = .ok (.iload_n 1, 1) := by decide +kernel
theorem dX9_compared_86 : decode cX9_compared 86 = .ok (.iload_n 3, 1) := by decide +kernel
theorem dX9_compared_87 : decode cX9_compared 87 = .ok (.if_icmp .ne 7, 3) := by decide +kernel
theorem dX9_compared_90 : decode cX9_compared 90 = .ok (.iconst 1, 1) := by decide +kernel
theorem dX9_compared_91 : decode cX9_compared 91 = .ok (.goto 17, 3) := by decide +kernel
theorem dX9_compared_94 : decode cX9_compared 94 = .ok (.iconst 0, 1) := by decide +kernel
theorem dX9_compared_95 : decode cX9_compared 95 = .ok (.goto 13, 3) := by decide +kernel
theorem dX9_compared_98 : decode cX9_compared 98 = .ok (.iload_n 1, 1) := by decide +kernel
theorem dX9_compared_99 : decode cX9_compared 99 = .ok (.iload_n 3, 1) := by decide +kernel
theorem dX9_compared_100 : decode cX9_compared 100 = .ok (.if_icmp .le 7, 3) := by decide +kernel
theorem dX9_compared_103 : decode cX9_compared 103 = .ok (.iconst 1, 1) := by decide +kernel
theorem dX9_compared_104 : decode cX9_compared 104 = .ok (.goto 4, 3) := by decide +kernel
theorem dX9_compared_107 : decode cX9_compared 107 = .ok (.iconst 0, 1) := by decide +kernel
theorem dX9_compared_108 : decode cX9_compared 108 = .ok (.istore 4, 2) := by decide +kernel
theorem dX9_compared_110 : decode cX9_compared 110 = .ok (.iload 4, 2) := by decide +kernel
theorem dX9_compared_112 : decode cX9_compared 112 = .ok (.ifCond .eq 7, 3) := by decide +kernel
theorem dX9_compared_115 : decode cX9_compared 115 = .ok (.iconst 1, 1) := by decide +kernel
theorem dX9_compared_116 : decode cX9_compared 116 = .ok (.goto 4, 3) := by decide +kernel
theorem dX9_compared_119 : decode cX9_compared 119 = .ok (.iconst 0, 1) := by decide +kernel
theorem dX9_compared_120 : decode cX9_compared 120 = .ok (.ireturn, 1) := by decide +kernel
theorem dX9_both_0 : decode cX9_both 0 = .ok (.aload_n 0, 1) := by decide +kernel
theorem dX9_both_1 : decode cX9_both 1 = .ok (.invokevirtual 167, 3) := by decide +kernel
theorem dX9_both_4 : decode cX9_both 4 = .ok (.istore_n 1, 1) := by decide +kernel
theorem dX9_both_5 : decode cX9_both 5 = .ok (.aload_n 0, 1) := by decide +kernel
theorem dX9_both_6 : decode cX9_both 6 = .ok (.getfield 120, 3) := by decide +kernel
theorem dX9_both_9 : decode cX9_both 9 = .ok (.ifCond .eq 48, 3) := by decide +kernel
theorem dX9_both_12 : decode cX9_both 12 = .ok (.aload_n 0, 1) := by decide +kernel
theorem dX9_both_13 : decode cX9_both 13 = .ok (.aload_n 0, 1) := by decide +kernel
theorem dX9_both_14 : decode cX9_both 14 = .ok (.getfield 124, 3) := by decide +kernel
theorem dX9_both_17 : decode cX9_both 17 = .ok (.invokevirtual 127, 3) := by decide +kernel
theorem dX9_both_20 : decode cX9_both 20 = .ok (.bipush 38, 2) := by decide +kernel
theorem dX9_both_22 : decode cX9_both 22 = .ok (.if_icmp .ne 35, 3) := by decide +kernel
theorem dX9_both_25 : decode cX9_both 25 = .ok (.aload_n 0, 1) := by decide +kernel
theorem dX9_both_26 : decode cX9_both 26 = .ok (.dup, 1) := by decide +kernel
theorem dX9_both_27 : decode cX9_both 27 = .ok (.getfield 124, 3) := by decide +kernel
theorem dX9_both_30 : decode cX9_both 30 = .ok (.iconst 1, 1) := by decide +kernel
theorem dX9_both_31 : decode cX9_both 31 = .ok (.iadd, 1) := by decide +kernel
theorem dX9_both_32 : decode cX9_both 32 = .ok (.putfield 124, 3) := by decide +kernel
theorem dX9_both_35 : decode cX9_both 35 = .ok (.aload_n 0, 1) := by decide +kernel
theorem dX9_both_36 : decode cX9_both 36 = .ok (.invokevirtual 167, 3) := by decide +kernel
theorem dX9_both_39 : decode cX9_both 39 = .ok (.istore_n 2, 1) := by decide +kernel
theorem dX9_both_40 : decode cX9_both 40 = .ok (.iload_n 1, 1) := by decide +kernel
theorem dX9_both_41 : decode cX9_both 41 = .ok (.ifCond .eq 11, 3) := by decide +kernel
theorem dX9_both_44 : decode cX9_both 44 = .ok (.iload_n 2, 1) := by decide +kernel
theorem dX9_both_45 : decode cX9_both 45 = .ok (.ifCond .eq 7, 3) := by decide +kernel
theorem dX9_both_48 : decode cX9_both 48 = .ok (.iconst 1, 1) := by decide +kernel
theorem dX9_both_49 : decode cX9_both 49 = .ok (.goto 4, 3) := by decide +kernel
theorem dX9_both_52 : decode cX9_both 52 = .ok (.iconst 0, 1) := by decide +kernel
theorem dX9_both_53 : decode cX9_both 53 = .ok (.istore_n 1, 1) := by decide +kernel
theorem dX9_both_54 : decode cX9_both 54 = .ok (.goto (-49), 3) := by decide +kernel
theorem dX9_both_57 : decode cX9_both 57 = .ok (.iload_n 1, 1) := by decide +kernel
theorem dX9_both_58 : decode cX9_both 58 = .ok (.ireturn, 1) := by decide +kernel
theorem dX9_whole_0 : decode cX9_whole 0 = .ok (.aload_n 0, 1) := by decide +kernel
theorem dX9_whole_1 : decode cX9_whole 1 = .ok (.invokevirtual 170, 3) := by decide +kernel
theorem dX9_whole_4 : decode cX9_whole 4 = .ok (.istore_n 1, 1) := by decide +kernel
theorem dX9_whole_5 : decode cX9_whole 5 = .ok (.aload_n 0, 1) := by decide +kernel
theorem dX9_whole_6 : decode cX9_whole 6 = .ok (.getfield 120, 3) := by decide +kernel
theorem dX9_whole_9 : decode cX9_whole 9 = .ok (.ifCond .eq 48, 3) := by decide +kernel
theorem dX9_whole_12 : decode cX9_whole 12 = .ok (.aload_n 0, 1) := by decide +kernel
theorem dX9_whole_13 : decode cX9_whole 13 = .ok (.aload_n 0, 1) := by decide +kernel
theorem dX9_whole_14 : decode cX9_whole 14 = .ok (.getfield 124, 3) := by decide +kernel
theorem dX9_whole_17 : decode cX9_whole 17 = .ok (.invokevirtual 127, 3) := by decide +kernel
theorem dX9_whole_20 : decode cX9_whole 20 = .ok (.bipush 124, 2) := by decide +kernel
theorem dX9_whole_22 : decode cX9_whole 22 = .ok (.if_icmp .ne 35, 3) := by decide +kernel
theorem dX9_whole_25 : decode cX9_whole 25 = .ok (.aload_n 0, 1) := by decide +kernel
theorem dX9_whole_26 : decode cX9_whole 26 = .ok (.dup, 1) := by decide +kernel
theorem dX9_whole_27 : decode cX9_whole 27 = .ok (.getfield 124, 3) := by decide +kernel
theorem dX9_whole_30 : decode cX9_whole 30 = .ok (.iconst 1, 1) := by decide +kernel
theorem dX9_whole_31 : decode cX9_whole 31 = .ok (.iadd, 1) := by decide +kernel
theorem dX9_whole_32 : decode cX9_whole 32 = .ok (.putfield 124, 3) := by decide +kernel
theorem dX9_whole_35 : decode cX9_whole 35 = .ok (.aload_n 0, 1) := by decide +kernel
theorem dX9_whole_36 : decode cX9_whole 36 = .ok (.invokevirtual 170, 3) := by decide +kernel
theorem dX9_whole_39 : decode cX9_whole 39 = .ok (.istore_n 2, 1) := by decide +kernel
theorem dX9_whole_40 : decode cX9_whole 40 = .ok (.iload_n 1, 1) := by decide +kernel
theorem dX9_whole_41 : decode cX9_whole 41 = .ok (.ifCond .ne 7, 3) := by decide +kernel
theorem dX9_whole_44 : decode cX9_whole 44 = .ok (.iload_n 2, 1) := by decide +kernel
theorem dX9_whole_45 : decode cX9_whole 45 = .ok (.ifCond .eq 7, 3) := by decide +kernel
theorem dX9_whole_48 : decode cX9_whole 48 = .ok (.iconst 1, 1) := by decide +kernel
theorem dX9_whole_49 : decode cX9_whole 49 = .ok (.goto 4, 3) := by decide +kernel
theorem dX9_whole_52 : decode cX9_whole 52 = .ok (.iconst 0, 1) := by decide +kernel
theorem dX9_whole_53 : decode cX9_whole 53 = .ok (.istore_n 1, 1) := by decide +kernel
theorem dX9_whole_54 : decode cX9_whole 54 = .ok (.goto (-49), 3) := by decide +kernel
theorem dX9_whole_57 : decode cX9_whole 57 = .ok (.iload_n 1, 1) := by decide +kernel
theorem dX9_whole_58 : decode cX9_whole 58 = .ok (.ireturn, 1) := by decide +kernel
theorem dX9_walks_0 : decode cX9_walks 0 = .ok (.aload_n 0, 1) := by decide +kernel
theorem dX9_walks_1 : decode cX9_walks 1 = .ok (.iload_n 1, 1) := by decide +kernel
theorem dX9_walks_2 : decode cX9_walks 2 = .ok (.putfield 117, 3) := by decide +kernel
theorem dX9_walks_5 : decode cX9_walks 5 = .ok (.aload_n 0, 1) := by decide +kernel
theorem dX9_walks_6 : decode cX9_walks 6 = .ok (.iconst 0, 1) := by decide +kernel
theorem dX9_walks_7 : decode cX9_walks 7 = .ok (.putfield 124, 3) := by decide +kernel
theorem dX9_walks_10 : decode cX9_walks 10 = .ok (.aload_n 0, 1) := by decide +kernel
theorem dX9_walks_11 : decode cX9_walks 11 = .ok (.aload_n 0, 1) := by decide +kernel
theorem dX9_walks_12 : decode cX9_walks 12 = .ok (.getfield 7, 3) := by decide +kernel
theorem dX9_walks_15 : decode cX9_walks 15 = .ok (.bipush 6, 2) := by decide +kernel
theorem dX9_walks_17 : decode cX9_walks 17 = .ok (.iload_n 1, 1) := by decide +kernel
theorem dX9_walks_18 : decode cX9_walks 18 = .ok (.iadd, 1) := by decide +kernel
theorem dX9_walks_19 : decode cX9_walks 19 = .ok (.iaload, 1) := by decide +kernel
theorem dX9_walks_20 : decode cX9_walks 20 = .ok (.putfield 113, 3) := by decide +kernel
theorem dX9_walks_23 : decode cX9_walks 23 = .ok (.aload_n 0, 1) := by decide +kernel
theorem dX9_walks_24 : decode cX9_walks 24 = .ok (.iconst 0, 1) := by decide +kernel
theorem dX9_walks_25 : decode cX9_walks 25 = .ok (.putfield 152, 3) := by decide +kernel
theorem dX9_walks_28 : decode cX9_walks 28 = .ok (.aload_n 0, 1) := by decide +kernel
theorem dX9_walks_29 : decode cX9_walks 29 = .ok (.iconst 1, 1) := by decide +kernel
theorem dX9_walks_30 : decode cX9_walks 30 = .ok (.putfield 120, 3) := by decide +kernel
theorem dX9_walks_33 : decode cX9_walks 33 = .ok (.aload_n 0, 1) := by decide +kernel
theorem dX9_walks_34 : decode cX9_walks 34 = .ok (.iload_n 2, 1) := by decide +kernel
theorem dX9_walks_35 : decode cX9_walks 35 = .ok (.putfield 137, 3) := by decide +kernel
theorem dX9_walks_38 : decode cX9_walks 38 = .ok (.aload_n 0, 1) := by decide +kernel
theorem dX9_walks_39 : decode cX9_walks 39 = .ok (.iload_n 3, 1) := by decide +kernel
theorem dX9_walks_40 : decode cX9_walks 40 = .ok (.putfield 140, 3) := by decide +kernel
theorem dX9_walks_43 : decode cX9_walks 43 = .ok (.aload_n 0, 1) := by decide +kernel
theorem dX9_walks_44 : decode cX9_walks 44 = .ok (.iload 4, 2) := by decide +kernel
theorem dX9_walks_46 : decode cX9_walks 46 = .ok (.putfield 143, 3) := by decide +kernel
theorem dX9_walks_49 : decode cX9_walks 49 = .ok (.aload_n 0, 1) := by decide +kernel
theorem dX9_walks_50 : decode cX9_walks 50 = .ok (.invokevirtual 158, 3) := by decide +kernel
theorem dX9_walks_53 : decode cX9_walks 53 = .ok (.istore 5, 2) := by decide +kernel
theorem dX9_walks_55 : decode cX9_walks 55 = .ok (.aload_n 0, 1) := by decide +kernel
theorem dX9_walks_56 : decode cX9_walks 56 = .ok (.aload_n 0, 1) := by decide +kernel
theorem dX9_walks_57 : decode cX9_walks 57 = .ok (.getfield 120, 3) := by decide +kernel
theorem dX9_walks_60 : decode cX9_walks 60 = .ok (.ifCond .eq 18, 3) := by decide +kernel
theorem dX9_walks_63 : decode cX9_walks 63 = .ok (.aload_n 0, 1) := by decide +kernel
theorem dX9_walks_64 : decode cX9_walks 64 = .ok (.getfield 124, 3) := by decide +kernel
theorem dX9_walks_67 : decode cX9_walks 67 = .ok (.aload_n 0, 1) := by decide +kernel
theorem dX9_walks_68 : decode cX9_walks 68 = .ok (.getfield 113, 3) := by decide +kernel
theorem dX9_walks_71 : decode cX9_walks 71 = .ok (.if_icmp .ne 7, 3) := by decide +kernel
theorem dX9_walks_74 : decode cX9_walks 74 = .ok (.iconst 1, 1) := by decide +kernel
theorem dX9_walks_75 : decode cX9_walks 75 = .ok (.goto 4, 3) := by decide +kernel
theorem dX9_walks_78 : decode cX9_walks 78 = .ok (.iconst 0, 1) := by decide +kernel
theorem dX9_walks_79 : decode cX9_walks 79 = .ok (.putfield 120, 3) := by decide +kernel
theorem dX9_walks_82 : decode cX9_walks 82 = .ok (.iload 5, 2) := by decide +kernel
theorem dX9_walks_84 : decode cX9_walks 84 = .ok (.ireturn, 1) := by decide +kernel
theorem dX9_lawOf_0 : decode cX9_lawOf 0 = .ok (.iload_n 1, 1) := by decide +kernel
theorem dX9_lawOf_1 : decode cX9_lawOf 1 = .ok (.ifCond .ne 9, 3) := by decide +kernel
theorem dX9_lawOf_4 : decode cX9_lawOf 4 = .ok (.sipush 999, 3) := by decide +kernel
theorem dX9_lawOf_7 : decode cX9_lawOf 7 = .ok (.goto 5, 3) := by decide +kernel
theorem dX9_lawOf_10 : decode cX9_lawOf 10 = .ok (.bipush 99, 2) := by decide +kernel
theorem dX9_lawOf_12 : decode cX9_lawOf 12 = .ok (.istore 5, 2) := by decide +kernel
theorem dX9_lawOf_14 : decode cX9_lawOf 14 = .ok (.aload_n 0, 1) := by decide +kernel
theorem dX9_lawOf_15 : decode cX9_lawOf 15 = .ok (.getfield 7, 3) := by decide +kernel
theorem dX9_lawOf_18 : decode cX9_lawOf 18 = .ok (.bipush 6, 2) := by decide +kernel
theorem dX9_lawOf_20 : decode cX9_lawOf 20 = .ok (.iload_n 1, 1) := by decide +kernel
theorem dX9_lawOf_21 : decode cX9_lawOf 21 = .ok (.iadd, 1) := by decide +kernel
theorem dX9_lawOf_22 : decode cX9_lawOf 22 = .ok (.iaload, 1) := by decide +kernel
theorem dX9_lawOf_23 : decode cX9_lawOf 23 = .ok (.ifCond .lt 19, 3) := by decide +kernel
theorem dX9_lawOf_26 : decode cX9_lawOf 26 = .ok (.aload_n 0, 1) := by decide +kernel
theorem dX9_lawOf_27 : decode cX9_lawOf 27 = .ok (.iload_n 1, 1) := by decide +kernel
theorem dX9_lawOf_28 : decode cX9_lawOf 28 = .ok (.iload_n 2, 1) := by decide +kernel
theorem dX9_lawOf_29 : decode cX9_lawOf 29 = .ok (.iload_n 3, 1) := by decide +kernel
theorem dX9_lawOf_30 : decode cX9_lawOf 30 = .ok (.iload 4, 2) := by decide +kernel
theorem dX9_lawOf_32 : decode cX9_lawOf 32 = .ok (.invokevirtual 173, 3) := by decide +kernel
theorem dX9_lawOf_35 : decode cX9_lawOf 35 = .ok (.iconst 0, 1) := by decide +kernel
theorem dX9_lawOf_36 : decode cX9_lawOf 36 = .ok (.iload 5, 2) := by decide +kernel
theorem dX9_lawOf_38 : decode cX9_lawOf 38 = .ok (.invokestatic 177, 3) := by decide +kernel
theorem dX9_lawOf_41 : decode cX9_lawOf 41 = .ok (.ireturn, 1) := by decide +kernel
theorem dX9_lawOf_42 : decode cX9_lawOf 42 = .ok (.iload_n 1, 1) := by decide +kernel
theorem dX9_lawOf_43 : decode cX9_lawOf 43 = .ok (.ifCond .ne 10, 3) := by decide +kernel
theorem dX9_lawOf_46 : decode cX9_lawOf 46 = .ok (.iload_n 2, 1) := by decide +kernel
theorem dX9_lawOf_47 : decode cX9_lawOf 47 = .ok (.iload 4, 2) := by decide +kernel
theorem dX9_lawOf_49 : decode cX9_lawOf 49 = .ok (.iadd, 1) := by decide +kernel
theorem dX9_lawOf_50 : decode cX9_lawOf 50 = .ok (.goto 9, 3) := by decide +kernel
theorem dX9_lawOf_53 : decode cX9_lawOf 53 = .ok (.iconst 1, 1) := by decide +kernel
theorem dX9_lawOf_54 : decode cX9_lawOf 54 = .ok (.iload_n 2, 1) := by decide +kernel
theorem dX9_lawOf_55 : decode cX9_lawOf 55 = .ok (.bipush 10, 2) := by decide +kernel
theorem dX9_lawOf_57 : decode cX9_lawOf 57 = .ok (.idiv, 1) := by decide +kernel
theorem dX9_lawOf_58 : decode cX9_lawOf 58 = .ok (.iadd, 1) := by decide +kernel
theorem dX9_lawOf_59 : decode cX9_lawOf 59 = .ok (.iconst 0, 1) := by decide +kernel
theorem dX9_lawOf_60 : decode cX9_lawOf 60 = .ok (.iload 5, 2) := by decide +kernel
theorem dX9_lawOf_62 : decode cX9_lawOf 62 = .ok (.invokestatic 177, 3) := by decide +kernel
theorem dX9_lawOf_65 : decode cX9_lawOf 65 = .ok (.ireturn, 1) := by decide +kernel
theorem dX9_law_0 : decode cX9_law 0 = .ok (.iload_n 1, 1) := by decide +kernel
theorem dX9_law_1 : decode cX9_law 1 = .ok (.iconst 0, 1) := by decide +kernel
theorem dX9_law_2 : decode cX9_law 2 = .ok (.iconst 1, 1) := by decide +kernel
theorem dX9_law_3 : decode cX9_law 3 = .ok (.invokestatic 53, 3) := by decide +kernel
theorem dX9_law_6 : decode cX9_law 6 = .ok (.ifCond .eq 15, 3) := by decide +kernel
theorem dX9_law_9 : decode cX9_law 9 = .ok (.aload_n 0, 1) := by decide +kernel
theorem dX9_law_10 : decode cX9_law 10 = .ok (.iload_n 1, 1) := by decide +kernel
theorem dX9_law_11 : decode cX9_law 11 = .ok (.iload_n 2, 1) := by decide +kernel
theorem dX9_law_12 : decode cX9_law 12 = .ok (.iload_n 3, 1) := by decide +kernel
theorem dX9_law_13 : decode cX9_law 13 = .ok (.iload 4, 2) := by decide +kernel
theorem dX9_law_15 : decode cX9_law 15 = .ok (.invokevirtual 181, 3) := by decide +kernel
theorem dX9_law_18 : decode cX9_law 18 = .ok (.goto 9, 3) := by decide +kernel
theorem dX9_law_21 : decode cX9_law 21 = .ok (.aload_n 0, 1) := by decide +kernel
theorem dX9_law_22 : decode cX9_law 22 = .ok (.ldc 61, 2) := by decide +kernel
theorem dX9_law_24 : decode cX9_law 24 = .ok (.invokevirtual 62, 3) := by decide +kernel
theorem dX9_law_27 : decode cX9_law 27 = .ok (.ireturn, 1) := by decide +kernel
theorem dX9_feed_0 : decode cX9_feed 0 = .ok (.iload_n 3, 1) := by decide +kernel
theorem dX9_feed_1 : decode cX9_feed 1 = .ok (.iconst 1, 1) := by decide +kernel
theorem dX9_feed_2 : decode cX9_feed 2 = .ok (.bipush 8, 2) := by decide +kernel
theorem dX9_feed_4 : decode cX9_feed 4 = .ok (.invokestatic 53, 3) := by decide +kernel
theorem dX9_feed_7 : decode cX9_feed 7 = .ok (.ifCond .ne 10, 3) := by decide +kernel
theorem dX9_feed_10 : decode cX9_feed 10 = .ok (.aload_n 0, 1) := by decide +kernel
theorem dX9_feed_11 : decode cX9_feed 11 = .ok (.ldc 61, 2) := by decide +kernel
theorem dX9_feed_13 : decode cX9_feed 13 = .ok (.invokevirtual 62, 3) := by decide +kernel
theorem dX9_feed_16 : decode cX9_feed 16 = .ok (.ireturn, 1) := by decide +kernel
theorem dX9_feed_17 : decode cX9_feed 17 = .ok (.aload_n 0, 1) := by decide +kernel
theorem dX9_feed_18 : decode cX9_feed 18 = .ok (.getfield 7, 3) := by decide +kernel
theorem dX9_feed_21 : decode cX9_feed 21 = .ok (.iconst 4, 1) := by decide +kernel
theorem dX9_feed_22 : decode cX9_feed 22 = .ok (.iaload, 1) := by decide +kernel
theorem dX9_feed_23 : decode cX9_feed 23 = .ok (.iload_n 3, 1) := by decide +kernel
theorem dX9_feed_24 : decode cX9_feed 24 = .ok (.iadd, 1) := by decide +kernel
theorem dX9_feed_25 : decode cX9_feed 25 = .ok (.bipush 50, 2) := by decide +kernel
theorem dX9_feed_27 : decode cX9_feed 27 = .ok (.if_icmp .le 10, 3) := by decide +kernel
theorem dX9_feed_30 : decode cX9_feed 30 = .ok (.aload_n 0, 1) := by decide +kernel
theorem dX9_feed_31 : decode cX9_feed 31 = .ok (.ldc 66, 2) := by decide +kernel
theorem dX9_feed_33 : decode cX9_feed 33 = .ok (.invokevirtual 62, 3) := by decide +kernel
theorem dX9_feed_36 : decode cX9_feed 36 = .ok (.ireturn, 1) := by decide +kernel
theorem dX9_feed_37 : decode cX9_feed 37 = .ok (.iconst 0, 1) := by decide +kernel
theorem dX9_feed_38 : decode cX9_feed 38 = .ok (.istore 4, 2) := by decide +kernel
theorem dX9_feed_40 : decode cX9_feed 40 = .ok (.iload 4, 2) := by decide +kernel
theorem dX9_feed_42 : decode cX9_feed 42 = .ok (.iload_n 3, 1) := by decide +kernel
theorem dX9_feed_43 : decode cX9_feed 43 = .ok (.if_icmp .ge 45, 3) := by decide +kernel
theorem dX9_feed_46 : decode cX9_feed 46 = .ok (.aload_n 0, 1) := by decide +kernel
theorem dX9_feed_47 : decode cX9_feed 47 = .ok (.getfield 7, 3) := by decide +kernel
theorem dX9_feed_50 : decode cX9_feed 50 = .ok (.bipush 59, 2) := by decide +kernel
theorem dX9_feed_52 : decode cX9_feed 52 = .ok (.aload_n 0, 1) := by decide +kernel
theorem dX9_feed_53 : decode cX9_feed 53 = .ok (.getfield 7, 3) := by decide +kernel
theorem dX9_feed_56 : decode cX9_feed 56 = .ok (.iconst 4, 1) := by decide +kernel
theorem dX9_feed_57 : decode cX9_feed 57 = .ok (.iaload, 1) := by decide +kernel
theorem dX9_feed_58 : decode cX9_feed 58 = .ok (.iadd, 1) := by decide +kernel
theorem dX9_feed_59 : decode cX9_feed 59 = .ok (.lload_n 1, 1) := by decide +kernel
theorem dX9_feed_60 : decode cX9_feed 60 = .ok (.bipush 8, 2) := by decide +kernel
theorem dX9_feed_62 : decode cX9_feed 62 = .ok (.iload 4, 2) := by decide +kernel
theorem dX9_feed_64 : decode cX9_feed 64 = .ok (.imul, 1) := by decide +kernel
theorem dX9_feed_65 : decode cX9_feed 65 = .ok (.lshr, 1) := by decide +kernel
theorem dX9_feed_66 : decode cX9_feed 66 = .ok (.ldc2_w 184, 3) := by decide +kernel
theorem dX9_feed_69 : decode cX9_feed 69 = .ok (.land, 1) := by decide +kernel
theorem dX9_feed_70 : decode cX9_feed 70 = .ok (.l2i, 1) := by decide +kernel
theorem dX9_feed_71 : decode cX9_feed 71 = .ok (.iastore, 1) := by decide +kernel
theorem dX9_feed_72 : decode cX9_feed 72 = .ok (.aload_n 0, 1) := by decide +kernel
theorem dX9_feed_73 : decode cX9_feed 73 = .ok (.getfield 7, 3) := by decide +kernel
theorem dX9_feed_76 : decode cX9_feed 76 = .ok (.iconst 4, 1) := by decide +kernel
theorem dX9_feed_77 : decode cX9_feed 77 = .ok (.dup2, 1) := by decide +kernel
theorem dX9_feed_78 : decode cX9_feed 78 = .ok (.iaload, 1) := by decide +kernel
theorem dX9_feed_79 : decode cX9_feed 79 = .ok (.iconst 1, 1) := by decide +kernel
theorem dX9_feed_80 : decode cX9_feed 80 = .ok (.iadd, 1) := by decide +kernel
theorem dX9_feed_81 : decode cX9_feed 81 = .ok (.iastore, 1) := by decide +kernel
theorem dX9_feed_82 : decode cX9_feed 82 = .ok (.iinc 4 1, 3) := by decide +kernel
theorem dX9_feed_85 : decode cX9_feed 85 = .ok (.goto (-45), 3) := by decide +kernel
theorem dX9_feed_88 : decode cX9_feed 88 = .ok (.aload_n 0, 1) := by decide +kernel
theorem dX9_feed_89 : decode cX9_feed 89 = .ok (.getfield 7, 3) := by decide +kernel
theorem dX9_feed_92 : decode cX9_feed 92 = .ok (.iconst 4, 1) := by decide +kernel
theorem dX9_feed_93 : decode cX9_feed 93 = .ok (.iaload, 1) := by decide +kernel
theorem dX9_feed_94 : decode cX9_feed 94 = .ok (.ireturn, 1) := by decide +kernel
theorem dX9_text_0 : decode cX9_text 0 = .ok (.iload_n 1, 1) := by decide +kernel
theorem dX9_text_1 : decode cX9_text 1 = .ok (.iconst 0, 1) := by decide +kernel
theorem dX9_text_2 : decode cX9_text 2 = .ok (.iconst 1, 1) := by decide +kernel
theorem dX9_text_3 : decode cX9_text 3 = .ok (.invokestatic 53, 3) := by decide +kernel
theorem dX9_text_6 : decode cX9_text 6 = .ok (.ifCond .ne 10, 3) := by decide +kernel
theorem dX9_text_9 : decode cX9_text 9 = .ok (.aload_n 0, 1) := by decide +kernel
theorem dX9_text_10 : decode cX9_text 10 = .ok (.ldc 61, 2) := by decide +kernel
theorem dX9_text_12 : decode cX9_text 12 = .ok (.invokevirtual 62, 3) := by decide +kernel
theorem dX9_text_15 : decode cX9_text 15 = .ok (.ireturn, 1) := by decide +kernel
theorem dX9_text_16 : decode cX9_text 16 = .ok (.aload_n 0, 1) := by decide +kernel
theorem dX9_text_17 : decode cX9_text 17 = .ok (.aload_n 0, 1) := by decide +kernel
theorem dX9_text_18 : decode cX9_text 18 = .ok (.getfield 7, 3) := by decide +kernel
theorem dX9_text_21 : decode cX9_text 21 = .ok (.aload_n 0, 1) := by decide +kernel
theorem dX9_text_22 : decode cX9_text 22 = .ok (.getfield 19, 3) := by decide +kernel
theorem dX9_text_25 : decode cX9_text 25 = .ok (.invokevirtual 186, 3) := by decide +kernel
theorem dX9_text_28 : decode cX9_text 28 = .ok (.iconst 0, 1) := by decide +kernel
theorem dX9_text_29 : decode cX9_text 29 = .ok (.istore_n 2, 1) := by decide +kernel
theorem dX9_text_30 : decode cX9_text 30 = .ok (.iload_n 2, 1) := by decide +kernel
theorem dX9_text_31 : decode cX9_text 31 = .ok (.bipush 50, 2) := by decide +kernel
theorem dX9_text_33 : decode cX9_text 33 = .ok (.if_icmp .ge 33, 3) := by decide +kernel
theorem dX9_text_36 : decode cX9_text 36 = .ok (.aload_n 0, 1) := by decide +kernel
theorem dX9_text_37 : decode cX9_text 37 = .ok (.getfield 7, 3) := by decide +kernel
theorem dX9_text_40 : decode cX9_text 40 = .ok (.sipush 129, 3) := by decide +kernel
theorem dX9_text_43 : decode cX9_text 43 = .ok (.bipush 50, 2) := by decide +kernel
theorem dX9_text_45 : decode cX9_text 45 = .ok (.iload_n 1, 1) := by decide +kernel
theorem dX9_text_46 : decode cX9_text 46 = .ok (.imul, 1) := by decide +kernel
theorem dX9_text_47 : decode cX9_text 47 = .ok (.iadd, 1) := by decide +kernel
theorem dX9_text_48 : decode cX9_text 48 = .ok (.iload_n 2, 1) := by decide +kernel
theorem dX9_text_49 : decode cX9_text 49 = .ok (.iadd, 1) := by decide +kernel
theorem dX9_text_50 : decode cX9_text 50 = .ok (.aload_n 0, 1) := by decide +kernel
theorem dX9_text_51 : decode cX9_text 51 = .ok (.getfield 7, 3) := by decide +kernel
theorem dX9_text_54 : decode cX9_text 54 = .ok (.bipush 59, 2) := by decide +kernel
theorem dX9_text_56 : decode cX9_text 56 = .ok (.iload_n 2, 1) := by decide +kernel
theorem dX9_text_57 : decode cX9_text 57 = .ok (.iadd, 1) := by decide +kernel
theorem dX9_text_58 : decode cX9_text 58 = .ok (.iaload, 1) := by decide +kernel
theorem dX9_text_59 : decode cX9_text 59 = .ok (.iastore, 1) := by decide +kernel
theorem dX9_text_60 : decode cX9_text 60 = .ok (.iinc 2 1, 3) := by decide +kernel
theorem dX9_text_63 : decode cX9_text 63 = .ok (.goto (-33), 3) := by decide +kernel
theorem dX9_text_66 : decode cX9_text 66 = .ok (.aload_n 0, 1) := by decide +kernel
theorem dX9_text_67 : decode cX9_text 67 = .ok (.getfield 7, 3) := by decide +kernel
theorem dX9_text_70 : decode cX9_text 70 = .ok (.bipush 6, 2) := by decide +kernel
theorem dX9_text_72 : decode cX9_text 72 = .ok (.iload_n 1, 1) := by decide +kernel
theorem dX9_text_73 : decode cX9_text 73 = .ok (.iadd, 1) := by decide +kernel
theorem dX9_text_74 : decode cX9_text 74 = .ok (.aload_n 0, 1) := by decide +kernel
theorem dX9_text_75 : decode cX9_text 75 = .ok (.getfield 7, 3) := by decide +kernel
theorem dX9_text_78 : decode cX9_text 78 = .ok (.iconst 4, 1) := by decide +kernel
theorem dX9_text_79 : decode cX9_text 79 = .ok (.iaload, 1) := by decide +kernel
theorem dX9_text_80 : decode cX9_text 80 = .ok (.iastore, 1) := by decide +kernel
theorem dX9_text_81 : decode cX9_text 81 = .ok (.aload_n 0, 1) := by decide +kernel
theorem dX9_text_82 : decode cX9_text 82 = .ok (.iload_n 1, 1) := by decide +kernel
theorem dX9_text_83 : decode cX9_text 83 = .ok (.iconst 1, 1) := by decide +kernel
theorem dX9_text_84 : decode cX9_text 84 = .ok (.iconst 1, 1) := by decide +kernel
theorem dX9_text_85 : decode cX9_text 85 = .ok (.iconst 1, 1) := by decide +kernel
theorem dX9_text_86 : decode cX9_text 86 = .ok (.invokevirtual 173, 3) := by decide +kernel
theorem dX9_text_89 : decode cX9_text 89 = .ok (.istore_n 2, 1) := by decide +kernel
theorem dX9_text_90 : decode cX9_text 90 = .ok (.aload_n 0, 1) := by decide +kernel
theorem dX9_text_91 : decode cX9_text 91 = .ok (.getfield 120, 3) := by decide +kernel
theorem dX9_text_94 : decode cX9_text 94 = .ok (.ifCond .eq 12, 3) := by decide +kernel
theorem dX9_text_97 : decode cX9_text 97 = .ok (.iload_n 2, 1) := by decide +kernel
theorem dX9_text_98 : decode cX9_text 98 = .ok (.iload_n 2, 1) := by decide +kernel
theorem dX9_text_99 : decode cX9_text 99 = .ok (.if_icmp .ne 7, 3) := by decide +kernel
theorem dX9_text_102 : decode cX9_text 102 = .ok (.iconst 1, 1) := by decide +kernel
theorem dX9_text_103 : decode cX9_text 103 = .ok (.goto 4, 3) := by decide +kernel
theorem dX9_text_106 : decode cX9_text 106 = .ok (.iconst 0, 1) := by decide +kernel
theorem dX9_text_107 : decode cX9_text 107 = .ok (.istore_n 3, 1) := by decide +kernel
theorem dX9_text_108 : decode cX9_text 108 = .ok (.aload_n 0, 1) := by decide +kernel
theorem dX9_text_109 : decode cX9_text 109 = .ok (.getfield 124, 3) := by decide +kernel
theorem dX9_text_112 : decode cX9_text 112 = .ok (.istore 4, 2) := by decide +kernel
theorem dX9_text_114 : decode cX9_text 114 = .ok (.iload_n 3, 1) := by decide +kernel
theorem dX9_text_115 : decode cX9_text 115 = .ok (.ifCond .ne 15, 3) := by decide +kernel
theorem dX9_text_118 : decode cX9_text 118 = .ok (.aload_n 0, 1) := by decide +kernel
theorem dX9_text_119 : decode cX9_text 119 = .ok (.aload_n 0, 1) := by decide +kernel
theorem dX9_text_120 : decode cX9_text 120 = .ok (.getfield 19, 3) := by decide +kernel
theorem dX9_text_123 : decode cX9_text 123 = .ok (.aload_n 0, 1) := by decide +kernel
theorem dX9_text_124 : decode cX9_text 124 = .ok (.getfield 7, 3) := by decide +kernel
theorem dX9_text_127 : decode cX9_text 127 = .ok (.invokevirtual 186, 3) := by decide +kernel
theorem dX9_text_130 : decode cX9_text 130 = .ok (.aload_n 0, 1) := by decide +kernel
theorem dX9_text_131 : decode cX9_text 131 = .ok (.getfield 7, 3) := by decide +kernel
theorem dX9_text_134 : decode cX9_text 134 = .ok (.iconst 4, 1) := by decide +kernel
theorem dX9_text_135 : decode cX9_text 135 = .ok (.iconst 0, 1) := by decide +kernel
theorem dX9_text_136 : decode cX9_text 136 = .ok (.iastore, 1) := by decide +kernel
theorem dX9_text_137 : decode cX9_text 137 = .ok (.iload_n 3, 1) := by decide +kernel
theorem dX9_text_138 : decode cX9_text 138 = .ok (.ifCond .eq 7, 3) := by decide +kernel
theorem dX9_text_141 : decode cX9_text 141 = .ok (.iconst 1, 1) := by decide +kernel
theorem dX9_text_142 : decode cX9_text 142 = .ok (.goto 8, 3) := by decide +kernel
theorem dX9_text_145 : decode cX9_text 145 = .ok (.bipush (-10), 2) := by decide +kernel
theorem dX9_text_147 : decode cX9_text 147 = .ok (.iload 4, 2) := by decide +kernel
theorem dX9_text_149 : decode cX9_text 149 = .ok (.isub, 1) := by decide +kernel
theorem dX9_text_150 : decode cX9_text 150 = .ok (.ireturn, 1) := by decide +kernel
theorem dX9_isDoubled_0 : decode cX9_isDoubled 0 = .ok (.aload_n 0, 1) := by decide +kernel
theorem dX9_isDoubled_1 : decode cX9_isDoubled 1 = .ok (.iload_n 1, 1) := by decide +kernel
theorem dX9_isDoubled_2 : decode cX9_isDoubled 2 = .ok (.iconst 0, 1) := by decide +kernel
theorem dX9_isDoubled_3 : decode cX9_isDoubled 3 = .ok (.invokevirtual 67, 3) := by decide +kernel
theorem dX9_isDoubled_6 : decode cX9_isDoubled 6 = .ok (.iconst 1, 1) := by decide +kernel
theorem dX9_isDoubled_7 : decode cX9_isDoubled 7 = .ok (.if_icmp .eq 13, 3) := by decide +kernel
theorem dX9_isDoubled_10 : decode cX9_isDoubled 10 = .ok (.aload_n 0, 1) := by decide +kernel
theorem dX9_isDoubled_11 : decode cX9_isDoubled 11 = .ok (.iload_n 1, 1) := by decide +kernel
theorem dX9_isDoubled_12 : decode cX9_isDoubled 12 = .ok (.iconst 0, 1) := by decide +kernel
theorem dX9_isDoubled_13 : decode cX9_isDoubled 13 = .ok (.invokevirtual 67, 3) := by decide +kernel
theorem dX9_isDoubled_16 : decode cX9_isDoubled 16 = .ok (.iconst 4, 1) := by decide +kernel
theorem dX9_isDoubled_17 : decode cX9_isDoubled 17 = .ok (.if_icmp .ne 7, 3) := by decide +kernel
theorem dX9_isDoubled_20 : decode cX9_isDoubled 20 = .ok (.iconst 1, 1) := by decide +kernel
theorem dX9_isDoubled_21 : decode cX9_isDoubled 21 = .ok (.goto 4, 3) := by decide +kernel
theorem dX9_isDoubled_24 : decode cX9_isDoubled 24 = .ok (.iconst 0, 1) := by decide +kernel
theorem dX9_isDoubled_25 : decode cX9_isDoubled 25 = .ok (.ireturn, 1) := by decide +kernel
theorem dX9_canBe_0 : decode cX9_canBe 0 = .ok (.aload_n 0, 1) := by decide +kernel
theorem dX9_canBe_1 : decode cX9_canBe 1 = .ok (.iload_n 1, 1) := by decide +kernel
theorem dX9_canBe_2 : decode cX9_canBe 2 = .ok (.invokevirtual 78, 3) := by decide +kernel
theorem dX9_canBe_5 : decode cX9_canBe 5 = .ok (.ifCond .eq 16, 3) := by decide +kernel
theorem dX9_canBe_8 : decode cX9_canBe 8 = .ok (.iload_n 2, 1) := by decide +kernel
theorem dX9_canBe_9 : decode cX9_canBe 9 = .ok (.iconst (-1), 1) := by decide +kernel
theorem dX9_canBe_10 : decode cX9_canBe 10 = .ok (.if_icmp .ne 7, 3) := by decide +kernel
theorem dX9_canBe_13 : decode cX9_canBe 13 = .ok (.iconst 1, 1) := by decide +kernel
theorem dX9_canBe_14 : decode cX9_canBe 14 = .ok (.goto 12, 3) := by decide +kernel
theorem dX9_canBe_17 : decode cX9_canBe 17 = .ok (.iconst 0, 1) := by decide +kernel
theorem dX9_canBe_18 : decode cX9_canBe 18 = .ok (.goto 8, 3) := by decide +kernel
theorem dX9_canBe_21 : decode cX9_canBe 21 = .ok (.aload_n 0, 1) := by decide +kernel
theorem dX9_canBe_22 : decode cX9_canBe 22 = .ok (.iload_n 2, 1) := by decide +kernel
theorem dX9_canBe_23 : decode cX9_canBe 23 = .ok (.invokevirtual 107, 3) := by decide +kernel
theorem dX9_canBe_26 : decode cX9_canBe 26 = .ok (.istore_n 3, 1) := by decide +kernel
theorem dX9_canBe_27 : decode cX9_canBe 27 = .ok (.iload_n 3, 1) := by decide +kernel
theorem dX9_canBe_28 : decode cX9_canBe 28 = .ok (.ifCond .eq 14, 3) := by decide +kernel
theorem dX9_canBe_31 : decode cX9_canBe 31 = .ok (.iload_n 2, 1) := by decide +kernel
theorem dX9_canBe_32 : decode cX9_canBe 32 = .ok (.ifCond .lt 10, 3) := by decide +kernel
theorem dX9_canBe_35 : decode cX9_canBe 35 = .ok (.aload_n 0, 1) := by decide +kernel
theorem dX9_canBe_36 : decode cX9_canBe 36 = .ok (.iload_n 2, 1) := by decide +kernel
theorem dX9_canBe_37 : decode cX9_canBe 37 = .ok (.iload_n 1, 1) := by decide +kernel
theorem dX9_canBe_38 : decode cX9_canBe 38 = .ok (.invokevirtual 81, 3) := by decide +kernel
theorem dX9_canBe_41 : decode cX9_canBe 41 = .ok (.istore_n 3, 1) := by decide +kernel
theorem dX9_canBe_42 : decode cX9_canBe 42 = .ok (.iconst 0, 1) := by decide +kernel
theorem dX9_canBe_43 : decode cX9_canBe 43 = .ok (.istore 4, 2) := by decide +kernel
theorem dX9_canBe_45 : decode cX9_canBe 45 = .ok (.iload 4, 2) := by decide +kernel
theorem dX9_canBe_47 : decode cX9_canBe 47 = .ok (.iload_n 1, 1) := by decide +kernel
theorem dX9_canBe_48 : decode cX9_canBe 48 = .ok (.if_icmp .ge 51, 3) := by decide +kernel
theorem dX9_canBe_51 : decode cX9_canBe 51 = .ok (.iload_n 3, 1) := by decide +kernel
theorem dX9_canBe_52 : decode cX9_canBe 52 = .ok (.ifCond .eq 47, 3) := by decide +kernel
theorem dX9_canBe_55 : decode cX9_canBe 55 = .ok (.iload_n 2, 1) := by decide +kernel
theorem dX9_canBe_56 : decode cX9_canBe 56 = .ok (.ifCond .lt 43, 3) := by decide +kernel
theorem dX9_canBe_59 : decode cX9_canBe 59 = .ok (.aload_n 0, 1) := by decide +kernel
theorem dX9_canBe_60 : decode cX9_canBe 60 = .ok (.getfield 25, 3) := by decide +kernel
theorem dX9_canBe_63 : decode cX9_canBe 63 = .ok (.iload 4, 2) := by decide +kernel
theorem dX9_canBe_65 : decode cX9_canBe 65 = .ok (.iaload, 1) := by decide +kernel
theorem dX9_canBe_66 : decode cX9_canBe 66 = .ok (.iload_n 2, 1) := by decide +kernel
theorem dX9_canBe_67 : decode cX9_canBe 67 = .ok (.if_icmp .ne 20, 3) := by decide +kernel
theorem dX9_canBe_70 : decode cX9_canBe 70 = .ok (.aload_n 0, 1) := by decide +kernel
theorem dX9_canBe_71 : decode cX9_canBe 71 = .ok (.iload 4, 2) := by decide +kernel
theorem dX9_canBe_73 : decode cX9_canBe 73 = .ok (.invokevirtual 190, 3) := by decide +kernel
theorem dX9_canBe_76 : decode cX9_canBe 76 = .ok (.ifCond .ne 11, 3) := by decide +kernel
theorem dX9_canBe_79 : decode cX9_canBe 79 = .ok (.aload_n 0, 1) := by decide +kernel
theorem dX9_canBe_80 : decode cX9_canBe 80 = .ok (.iload_n 1, 1) := by decide +kernel
theorem dX9_canBe_81 : decode cX9_canBe 81 = .ok (.invokevirtual 190, 3) := by decide +kernel
theorem dX9_canBe_84 : decode cX9_canBe 84 = .ok (.ifCond .eq 7, 3) := by decide +kernel
theorem dX9_canBe_87 : decode cX9_canBe 87 = .ok (.iconst 1, 1) := by decide +kernel
theorem dX9_canBe_88 : decode cX9_canBe 88 = .ok (.goto 4, 3) := by decide +kernel
theorem dX9_canBe_91 : decode cX9_canBe 91 = .ok (.iconst 0, 1) := by decide +kernel
theorem dX9_canBe_92 : decode cX9_canBe 92 = .ok (.istore_n 3, 1) := by decide +kernel
theorem dX9_canBe_93 : decode cX9_canBe 93 = .ok (.iinc 4 1, 3) := by decide +kernel
theorem dX9_canBe_96 : decode cX9_canBe 96 = .ok (.goto (-51), 3) := by decide +kernel
theorem dX9_canBe_99 : decode cX9_canBe 99 = .ok (.iload_n 3, 1) := by decide +kernel
theorem dX9_canBe_100 : decode cX9_canBe 100 = .ok (.ireturn, 1) := by decide +kernel
theorem dX9_goesOnFrom_0 : decode cX9_goesOnFrom 0 = .ok (.iload_n 1, 1) := by decide +kernel
theorem dX9_goesOnFrom_1 : decode cX9_goesOnFrom 1 = .ok (.istore_n 2, 1) := by decide +kernel
theorem dX9_goesOnFrom_2 : decode cX9_goesOnFrom 2 = .ok (.iload_n 2, 1) := by decide +kernel
theorem dX9_goesOnFrom_3 : decode cX9_goesOnFrom 3 = .ok (.ifCond .lt 154, 3) := by decide +kernel
theorem dX9_goesOnFrom_6 : decode cX9_goesOnFrom 6 = .ok (.iload_n 2, 1) := by decide +kernel
theorem dX9_goesOnFrom_7 : decode cX9_goesOnFrom 7 = .ok (.aload_n 0, 1) := by decide +kernel
theorem dX9_goesOnFrom_8 : decode cX9_goesOnFrom 8 = .ok (.getfield 7, 3) := by decide +kernel
theorem dX9_goesOnFrom_11 : decode cX9_goesOnFrom 11 = .ok (.iconst 3, 1) := by decide +kernel
theorem dX9_goesOnFrom_12 : decode cX9_goesOnFrom 12 = .ok (.iaload, 1) := by decide +kernel
theorem dX9_goesOnFrom_13 : decode cX9_goesOnFrom 13 = .ok (.if_icmp .ge 144, 3) := by decide +kernel
theorem dX9_goesOnFrom_16 : decode cX9_goesOnFrom 16 = .ok (.aload_n 0, 1) := by decide +kernel
theorem dX9_goesOnFrom_17 : decode cX9_goesOnFrom 17 = .ok (.getfield 25, 3) := by decide +kernel
theorem dX9_goesOnFrom_20 : decode cX9_goesOnFrom 20 = .ok (.iload_n 2, 1) := by decide +kernel
theorem dX9_goesOnFrom_21 : decode cX9_goesOnFrom 21 = .ok (.iaload, 1) := by decide +kernel
theorem dX9_goesOnFrom_22 : decode cX9_goesOnFrom 22 = .ok (.iconst 1, 1) := by decide +kernel
theorem dX9_goesOnFrom_23 : decode cX9_goesOnFrom 23 = .ok (.iadd, 1) := by decide +kernel
theorem dX9_goesOnFrom_24 : decode cX9_goesOnFrom 24 = .ok (.istore_n 3, 1) := by decide +kernel
theorem dX9_goesOnFrom_25 : decode cX9_goesOnFrom 25 = .ok (.iload_n 3, 1) := by decide +kernel
theorem dX9_goesOnFrom_26 : decode cX9_goesOnFrom 26 = .ok (.aload_n 0, 1) := by decide +kernel
theorem dX9_goesOnFrom_27 : decode cX9_goesOnFrom 27 = .ok (.getfield 7, 3) := by decide +kernel
theorem dX9_goesOnFrom_30 : decode cX9_goesOnFrom 30 = .ok (.bipush 8, 2) := by decide +kernel
theorem dX9_goesOnFrom_32 : decode cX9_goesOnFrom 32 = .ok (.iaload, 1) := by decide +kernel
theorem dX9_goesOnFrom_33 : decode cX9_goesOnFrom 33 = .ok (.if_icmp .ge 18, 3) := by decide +kernel
theorem dX9_goesOnFrom_36 : decode cX9_goesOnFrom 36 = .ok (.aload_n 0, 1) := by decide +kernel
theorem dX9_goesOnFrom_37 : decode cX9_goesOnFrom 37 = .ok (.iload_n 2, 1) := by decide +kernel
theorem dX9_goesOnFrom_38 : decode cX9_goesOnFrom 38 = .ok (.iload_n 3, 1) := by decide +kernel
theorem dX9_goesOnFrom_39 : decode cX9_goesOnFrom 39 = .ok (.invokevirtual 193, 3) := by decide +kernel
theorem dX9_goesOnFrom_42 : decode cX9_goesOnFrom 42 = .ok (.ifCond .ne 9, 3) := by decide +kernel
theorem dX9_goesOnFrom_45 : decode cX9_goesOnFrom 45 = .ok (.iinc 3 1, 3) := by decide +kernel
theorem dX9_goesOnFrom_48 : decode cX9_goesOnFrom 48 = .ok (.goto (-23), 3) := by decide +kernel
theorem dX9_goesOnFrom_51 : decode cX9_goesOnFrom 51 = .ok (.aload_n 0, 1) := by decide +kernel
theorem dX9_goesOnFrom_52 : decode cX9_goesOnFrom 52 = .ok (.iload_n 2, 1) := by decide +kernel
theorem dX9_goesOnFrom_53 : decode cX9_goesOnFrom 53 = .ok (.invokevirtual 78, 3) := by decide +kernel
theorem dX9_goesOnFrom_56 : decode cX9_goesOnFrom 56 = .ok (.ifCond .eq 15, 3) := by decide +kernel
theorem dX9_goesOnFrom_59 : decode cX9_goesOnFrom 59 = .ok (.aload_n 0, 1) := by decide +kernel
theorem dX9_goesOnFrom_60 : decode cX9_goesOnFrom 60 = .ok (.getfield 25, 3) := by decide +kernel
theorem dX9_goesOnFrom_63 : decode cX9_goesOnFrom 63 = .ok (.iload_n 2, 1) := by decide +kernel
theorem dX9_goesOnFrom_64 : decode cX9_goesOnFrom 64 = .ok (.iaload, 1) := by decide +kernel
theorem dX9_goesOnFrom_65 : decode cX9_goesOnFrom 65 = .ok (.iconst (-1), 1) := by decide +kernel
theorem dX9_goesOnFrom_66 : decode cX9_goesOnFrom 66 = .ok (.if_icmp .ge 5, 3) := by decide +kernel
theorem dX9_goesOnFrom_69 : decode cX9_goesOnFrom 69 = .ok (.iconst (-1), 1) := by decide +kernel
theorem dX9_goesOnFrom_70 : decode cX9_goesOnFrom 70 = .ok (.istore_n 3, 1) := by decide +kernel
theorem dX9_goesOnFrom_71 : decode cX9_goesOnFrom 71 = .ok (.aload_n 0, 1) := by decide +kernel
theorem dX9_goesOnFrom_72 : decode cX9_goesOnFrom 72 = .ok (.iload_n 2, 1) := by decide +kernel
theorem dX9_goesOnFrom_73 : decode cX9_goesOnFrom 73 = .ok (.invokevirtual 78, 3) := by decide +kernel
theorem dX9_goesOnFrom_76 : decode cX9_goesOnFrom 76 = .ok (.ifCond .eq 21, 3) := by decide +kernel
theorem dX9_goesOnFrom_79 : decode cX9_goesOnFrom 79 = .ok (.aload_n 0, 1) := by decide +kernel
theorem dX9_goesOnFrom_80 : decode cX9_goesOnFrom 80 = .ok (.getfield 25, 3) := by decide +kernel
theorem dX9_goesOnFrom_83 : decode cX9_goesOnFrom 83 = .ok (.iload_n 2, 1) := by decide +kernel
theorem dX9_goesOnFrom_84 : decode cX9_goesOnFrom 84 = .ok (.iaload, 1) := by decide +kernel
theorem dX9_goesOnFrom_85 : decode cX9_goesOnFrom 85 = .ok (.iconst (-1), 1) := by decide +kernel
theorem dX9_goesOnFrom_86 : decode cX9_goesOnFrom 86 = .ok (.if_icmp .ne 11, 3) := by decide +kernel
theorem dX9_goesOnFrom_89 : decode cX9_goesOnFrom 89 = .ok (.aload_n 0, 1) := by decide +kernel
theorem dX9_goesOnFrom_90 : decode cX9_goesOnFrom 90 = .ok (.getfield 7, 3) := by decide +kernel
theorem dX9_goesOnFrom_93 : decode cX9_goesOnFrom 93 = .ok (.bipush 8, 2) := by decide +kernel
theorem dX9_goesOnFrom_95 : decode cX9_goesOnFrom 95 = .ok (.iaload, 1) := by decide +kernel
theorem dX9_goesOnFrom_96 : decode cX9_goesOnFrom 96 = .ok (.istore_n 3, 1) := by decide +kernel
theorem dX9_goesOnFrom_97 : decode cX9_goesOnFrom 97 = .ok (.iload_n 3, 1) := by decide +kernel
theorem dX9_goesOnFrom_98 : decode cX9_goesOnFrom 98 = .ok (.aload_n 0, 1) := by decide +kernel
theorem dX9_goesOnFrom_99 : decode cX9_goesOnFrom 99 = .ok (.getfield 7, 3) := by decide +kernel
theorem dX9_goesOnFrom_102 : decode cX9_goesOnFrom 102 = .ok (.bipush 8, 2) := by decide +kernel
theorem dX9_goesOnFrom_104 : decode cX9_goesOnFrom 104 = .ok (.iaload, 1) := by decide +kernel
theorem dX9_goesOnFrom_105 : decode cX9_goesOnFrom 105 = .ok (.if_icmp .ge 46, 3) := by decide +kernel
theorem dX9_goesOnFrom_108 : decode cX9_goesOnFrom 108 = .ok (.aload_n 0, 1) := by decide +kernel
theorem dX9_goesOnFrom_109 : decode cX9_goesOnFrom 109 = .ok (.getfield 25, 3) := by decide +kernel
theorem dX9_goesOnFrom_112 : decode cX9_goesOnFrom 112 = .ok (.iload_n 2, 1) := by decide +kernel
theorem dX9_goesOnFrom_113 : decode cX9_goesOnFrom 113 = .ok (.iload_n 3, 1) := by decide +kernel
theorem dX9_goesOnFrom_114 : decode cX9_goesOnFrom 114 = .ok (.iastore, 1) := by decide +kernel
theorem dX9_goesOnFrom_115 : decode cX9_goesOnFrom 115 = .ok (.iinc 2 1, 3) := by decide +kernel
theorem dX9_goesOnFrom_118 : decode cX9_goesOnFrom 118 = .ok (.iload_n 2, 1) := by decide +kernel
theorem dX9_goesOnFrom_119 : decode cX9_goesOnFrom 119 = .ok (.aload_n 0, 1) := by decide +kernel
theorem dX9_goesOnFrom_120 : decode cX9_goesOnFrom 120 = .ok (.getfield 7, 3) := by decide +kernel
theorem dX9_goesOnFrom_123 : decode cX9_goesOnFrom 123 = .ok (.iconst 3, 1) := by decide +kernel
theorem dX9_goesOnFrom_124 : decode cX9_goesOnFrom 124 = .ok (.iaload, 1) := by decide +kernel
theorem dX9_goesOnFrom_125 : decode cX9_goesOnFrom 125 = .ok (.if_icmp .ge 29, 3) := by decide +kernel
theorem dX9_goesOnFrom_128 : decode cX9_goesOnFrom 128 = .ok (.aload_n 0, 1) := by decide +kernel
theorem dX9_goesOnFrom_129 : decode cX9_goesOnFrom 129 = .ok (.getfield 25, 3) := by decide +kernel
theorem dX9_goesOnFrom_132 : decode cX9_goesOnFrom 132 = .ok (.iload_n 2, 1) := by decide +kernel
theorem dX9_goesOnFrom_133 : decode cX9_goesOnFrom 133 = .ok (.aload_n 0, 1) := by decide +kernel
theorem dX9_goesOnFrom_134 : decode cX9_goesOnFrom 134 = .ok (.iload_n 2, 1) := by decide +kernel
theorem dX9_goesOnFrom_135 : decode cX9_goesOnFrom 135 = .ok (.invokevirtual 78, 3) := by decide +kernel
theorem dX9_goesOnFrom_138 : decode cX9_goesOnFrom 138 = .ok (.ifCond .eq 8, 3) := by decide +kernel
theorem dX9_goesOnFrom_141 : decode cX9_goesOnFrom 141 = .ok (.bipush (-2), 2) := by decide +kernel
theorem dX9_goesOnFrom_143 : decode cX9_goesOnFrom 143 = .ok (.goto 4, 3) := by decide +kernel
theorem dX9_goesOnFrom_146 : decode cX9_goesOnFrom 146 = .ok (.iconst (-1), 1) := by decide +kernel
theorem dX9_goesOnFrom_147 : decode cX9_goesOnFrom 147 = .ok (.iastore, 1) := by decide +kernel
theorem dX9_goesOnFrom_148 : decode cX9_goesOnFrom 148 = .ok (.goto 6, 3) := by decide +kernel
theorem dX9_goesOnFrom_151 : decode cX9_goesOnFrom 151 = .ok (.iinc 2 (-1), 3) := by decide +kernel
theorem dX9_goesOnFrom_154 : decode cX9_goesOnFrom 154 = .ok (.goto (-152), 3) := by decide +kernel
theorem dX9_goesOnFrom_157 : decode cX9_goesOnFrom 157 = .ok (.iload_n 2, 1) := by decide +kernel
theorem dX9_goesOnFrom_158 : decode cX9_goesOnFrom 158 = .ok (.ifCond .lt 7, 3) := by decide +kernel
theorem dX9_goesOnFrom_161 : decode cX9_goesOnFrom 161 = .ok (.iconst 1, 1) := by decide +kernel
theorem dX9_goesOnFrom_162 : decode cX9_goesOnFrom 162 = .ok (.goto 4, 3) := by decide +kernel
theorem dX9_goesOnFrom_165 : decode cX9_goesOnFrom 165 = .ok (.iconst 0, 1) := by decide +kernel
theorem dX9_goesOnFrom_166 : decode cX9_goesOnFrom 166 = .ok (.ireturn, 1) := by decide +kernel
theorem dX9_isFirst_0 : decode cX9_isFirst 0 = .ok (.aload_n 0, 1) := by decide +kernel
theorem dX9_isFirst_1 : decode cX9_isFirst 1 = .ok (.getfield 7, 3) := by decide +kernel
theorem dX9_isFirst_4 : decode cX9_isFirst 4 = .ok (.iconst 3, 1) := by decide +kernel
theorem dX9_isFirst_5 : decode cX9_isFirst 5 = .ok (.iaload, 1) := by decide +kernel
theorem dX9_isFirst_6 : decode cX9_isFirst 6 = .ok (.ifCond .le 23, 3) := by decide +kernel
theorem dX9_isFirst_9 : decode cX9_isFirst 9 = .ok (.aload_n 0, 1) := by decide +kernel
theorem dX9_isFirst_10 : decode cX9_isFirst 10 = .ok (.getfield 25, 3) := by decide +kernel
theorem dX9_isFirst_13 : decode cX9_isFirst 13 = .ok (.iconst 0, 1) := by decide +kernel
theorem dX9_isFirst_14 : decode cX9_isFirst 14 = .ok (.aload_n 0, 1) := by decide +kernel
theorem dX9_isFirst_15 : decode cX9_isFirst 15 = .ok (.iconst 0, 1) := by decide +kernel
theorem dX9_isFirst_16 : decode cX9_isFirst 16 = .ok (.invokevirtual 78, 3) := by decide +kernel
theorem dX9_isFirst_19 : decode cX9_isFirst 19 = .ok (.ifCond .eq 8, 3) := by decide +kernel
theorem dX9_isFirst_22 : decode cX9_isFirst 22 = .ok (.bipush (-2), 2) := by decide +kernel
theorem dX9_isFirst_24 : decode cX9_isFirst 24 = .ok (.goto 4, 3) := by decide +kernel
theorem dX9_isFirst_27 : decode cX9_isFirst 27 = .ok (.iconst (-1), 1) := by decide +kernel
theorem dX9_isFirst_28 : decode cX9_isFirst 28 = .ok (.iastore, 1) := by decide +kernel
theorem dX9_isFirst_29 : decode cX9_isFirst 29 = .ok (.aload_n 0, 1) := by decide +kernel
theorem dX9_isFirst_30 : decode cX9_isFirst 30 = .ok (.iconst 0, 1) := by decide +kernel
theorem dX9_isFirst_31 : decode cX9_isFirst 31 = .ok (.invokevirtual 196, 3) := by decide +kernel
theorem dX9_isFirst_34 : decode cX9_isFirst 34 = .ok (.ireturn, 1) := by decide +kernel
theorem dX9_isNext_0 : decode cX9_isNext 0 = .ok (.aload_n 0, 1) := by decide +kernel
theorem dX9_isNext_1 : decode cX9_isNext 1 = .ok (.getfield 7, 3) := by decide +kernel
theorem dX9_isNext_4 : decode cX9_isNext 4 = .ok (.iconst 3, 1) := by decide +kernel
theorem dX9_isNext_5 : decode cX9_isNext 5 = .ok (.iaload, 1) := by decide +kernel
theorem dX9_isNext_6 : decode cX9_isNext 6 = .ok (.ifCond .le 22, 3) := by decide +kernel
theorem dX9_isNext_9 : decode cX9_isNext 9 = .ok (.aload_n 0, 1) := by decide +kernel
theorem dX9_isNext_10 : decode cX9_isNext 10 = .ok (.aload_n 0, 1) := by decide +kernel
theorem dX9_isNext_11 : decode cX9_isNext 11 = .ok (.getfield 7, 3) := by decide +kernel
theorem dX9_isNext_14 : decode cX9_isNext 14 = .ok (.iconst 3, 1) := by decide +kernel
theorem dX9_isNext_15 : decode cX9_isNext 15 = .ok (.iaload, 1) := by decide +kernel
theorem dX9_isNext_16 : decode cX9_isNext 16 = .ok (.iconst 1, 1) := by decide +kernel
theorem dX9_isNext_17 : decode cX9_isNext 17 = .ok (.isub, 1) := by decide +kernel
theorem dX9_isNext_18 : decode cX9_isNext 18 = .ok (.invokevirtual 196, 3) := by decide +kernel
theorem dX9_isNext_21 : decode cX9_isNext 21 = .ok (.ifCond .eq 7, 3) := by decide +kernel
theorem dX9_isNext_24 : decode cX9_isNext 24 = .ok (.iconst 1, 1) := by decide +kernel
theorem dX9_isNext_25 : decode cX9_isNext 25 = .ok (.goto 4, 3) := by decide +kernel
theorem dX9_isNext_28 : decode cX9_isNext 28 = .ok (.iconst 0, 1) := by decide +kernel
theorem dX9_isNext_29 : decode cX9_isNext 29 = .ok (.ireturn, 1) := by decide +kernel
theorem dX9_nightGoes_0 : decode cX9_nightGoes 0 = .ok (.iconst 0, 1) := by decide +kernel
theorem dX9_nightGoes_1 : decode cX9_nightGoes 1 = .ok (.istore_n 1, 1) := by decide +kernel
theorem dX9_nightGoes_2 : decode cX9_nightGoes 2 = .ok (.iload_n 1, 1) := by decide +kernel
theorem dX9_nightGoes_3 : decode cX9_nightGoes 3 = .ok (.aload_n 0, 1) := by decide +kernel
theorem dX9_nightGoes_4 : decode cX9_nightGoes 4 = .ok (.getfield 7, 3) := by decide +kernel
theorem dX9_nightGoes_7 : decode cX9_nightGoes 7 = .ok (.bipush 8, 2) := by decide +kernel
theorem dX9_nightGoes_9 : decode cX9_nightGoes 9 = .ok (.iaload, 1) := by decide +kernel
theorem dX9_nightGoes_10 : decode cX9_nightGoes 10 = .ok (.if_icmp .ge 24, 3) := by decide +kernel
theorem dX9_nightGoes_13 : decode cX9_nightGoes 13 = .ok (.aload_n 0, 1) := by decide +kernel
theorem dX9_nightGoes_14 : decode cX9_nightGoes 14 = .ok (.getfield 31, 3) := by decide +kernel
theorem dX9_nightGoes_17 : decode cX9_nightGoes 17 = .ok (.iload_n 1, 1) := by decide +kernel
theorem dX9_nightGoes_18 : decode cX9_nightGoes 18 = .ok (.aload_n 0, 1) := by decide +kernel
theorem dX9_nightGoes_19 : decode cX9_nightGoes 19 = .ok (.iload_n 1, 1) := by decide +kernel
theorem dX9_nightGoes_20 : decode cX9_nightGoes 20 = .ok (.iconst 1, 1) := by decide +kernel
theorem dX9_nightGoes_21 : decode cX9_nightGoes 21 = .ok (.invokevirtual 71, 3) := by decide +kernel
theorem dX9_nightGoes_24 : decode cX9_nightGoes 24 = .ok (.invokestatic 199, 3) := by decide +kernel
theorem dX9_nightGoes_27 : decode cX9_nightGoes 27 = .ok (.iastore, 1) := by decide +kernel
theorem dX9_nightGoes_28 : decode cX9_nightGoes 28 = .ok (.iinc 1 1, 3) := by decide +kernel
theorem dX9_nightGoes_31 : decode cX9_nightGoes 31 = .ok (.goto (-29), 3) := by decide +kernel
theorem dX9_nightGoes_34 : decode cX9_nightGoes 34 = .ok (.iconst 0, 1) := by decide +kernel
theorem dX9_nightGoes_35 : decode cX9_nightGoes 35 = .ok (.istore_n 1, 1) := by decide +kernel
theorem dX9_nightGoes_36 : decode cX9_nightGoes 36 = .ok (.iload_n 1, 1) := by decide +kernel
theorem dX9_nightGoes_37 : decode cX9_nightGoes 37 = .ok (.aload_n 0, 1) := by decide +kernel
theorem dX9_nightGoes_38 : decode cX9_nightGoes 38 = .ok (.getfield 7, 3) := by decide +kernel
theorem dX9_nightGoes_41 : decode cX9_nightGoes 41 = .ok (.iconst 3, 1) := by decide +kernel
theorem dX9_nightGoes_42 : decode cX9_nightGoes 42 = .ok (.iaload, 1) := by decide +kernel
theorem dX9_nightGoes_43 : decode cX9_nightGoes 43 = .ok (.if_icmp .ge 23, 3) := by decide +kernel
theorem dX9_nightGoes_46 : decode cX9_nightGoes 46 = .ok (.aload_n 0, 1) := by decide +kernel
theorem dX9_nightGoes_47 : decode cX9_nightGoes 47 = .ok (.getfield 34, 3) := by decide +kernel
theorem dX9_nightGoes_50 : decode cX9_nightGoes 50 = .ok (.iload_n 1, 1) := by decide +kernel
theorem dX9_nightGoes_51 : decode cX9_nightGoes 51 = .ok (.aload_n 0, 1) := by decide +kernel
theorem dX9_nightGoes_52 : decode cX9_nightGoes 52 = .ok (.iload_n 1, 1) := by decide +kernel
theorem dX9_nightGoes_53 : decode cX9_nightGoes 53 = .ok (.invokevirtual 87, 3) := by decide +kernel
theorem dX9_nightGoes_56 : decode cX9_nightGoes 56 = .ok (.invokestatic 199, 3) := by decide +kernel
theorem dX9_nightGoes_59 : decode cX9_nightGoes 59 = .ok (.iastore, 1) := by decide +kernel
theorem dX9_nightGoes_60 : decode cX9_nightGoes 60 = .ok (.iinc 1 1, 3) := by decide +kernel
theorem dX9_nightGoes_63 : decode cX9_nightGoes 63 = .ok (.goto (-27), 3) := by decide +kernel
theorem dX9_nightGoes_66 : decode cX9_nightGoes 66 = .ok (.iconst 0, 1) := by decide +kernel
theorem dX9_nightGoes_67 : decode cX9_nightGoes 67 = .ok (.istore_n 1, 1) := by decide +kernel
theorem dX9_nightGoes_68 : decode cX9_nightGoes 68 = .ok (.iload_n 1, 1) := by decide +kernel
theorem dX9_nightGoes_69 : decode cX9_nightGoes 69 = .ok (.aload_n 0, 1) := by decide +kernel
theorem dX9_nightGoes_70 : decode cX9_nightGoes 70 = .ok (.getfield 7, 3) := by decide +kernel
theorem dX9_nightGoes_73 : decode cX9_nightGoes 73 = .ok (.iconst 3, 1) := by decide +kernel
theorem dX9_nightGoes_74 : decode cX9_nightGoes 74 = .ok (.iaload, 1) := by decide +kernel
theorem dX9_nightGoes_75 : decode cX9_nightGoes 75 = .ok (.if_icmp .ge 186, 3) := by decide +kernel
theorem dX9_nightGoes_78 : decode cX9_nightGoes 78 = .ok (.aload_n 0, 1) := by decide +kernel
theorem dX9_nightGoes_79 : decode cX9_nightGoes 79 = .ok (.getfield 25, 3) := by decide +kernel
theorem dX9_nightGoes_82 : decode cX9_nightGoes 82 = .ok (.iload_n 1, 1) := by decide +kernel
theorem dX9_nightGoes_83 : decode cX9_nightGoes 83 = .ok (.iaload, 1) := by decide +kernel
theorem dX9_nightGoes_84 : decode cX9_nightGoes 84 = .ok (.istore_n 2, 1) := by decide +kernel
theorem dX9_nightGoes_85 : decode cX9_nightGoes 85 = .ok (.iload_n 2, 1) := by decide +kernel
theorem dX9_nightGoes_86 : decode cX9_nightGoes 86 = .ok (.ifCond .lt 169, 3) := by decide +kernel
theorem dX9_nightGoes_89 : decode cX9_nightGoes 89 = .ok (.bipush 9, 2) := by decide +kernel
theorem dX9_nightGoes_91 : decode cX9_nightGoes 91 = .ok (.iconst 4, 1) := by decide +kernel
theorem dX9_nightGoes_92 : decode cX9_nightGoes 92 = .ok (.iload_n 1, 1) := by decide +kernel
theorem dX9_nightGoes_93 : decode cX9_nightGoes 93 = .ok (.imul, 1) := by decide +kernel
theorem dX9_nightGoes_94 : decode cX9_nightGoes 94 = .ok (.iadd, 1) := by decide +kernel
theorem dX9_nightGoes_95 : decode cX9_nightGoes 95 = .ok (.istore_n 3, 1) := by decide +kernel
theorem dX9_nightGoes_96 : decode cX9_nightGoes 96 = .ok (.aload_n 0, 1) := by decide +kernel
theorem dX9_nightGoes_97 : decode cX9_nightGoes 97 = .ok (.getfield 7, 3) := by decide +kernel
theorem dX9_nightGoes_100 : decode cX9_nightGoes 100 = .ok (.iload_n 3, 1) := by decide +kernel
theorem dX9_nightGoes_101 : decode cX9_nightGoes 101 = .ok (.iconst 3, 1) := by decide +kernel
theorem dX9_nightGoes_102 : decode cX9_nightGoes 102 = .ok (.iadd, 1) := by decide +kernel
theorem dX9_nightGoes_103 : decode cX9_nightGoes 103 = .ok (.aload_n 0, 1) := by decide +kernel
theorem dX9_nightGoes_104 : decode cX9_nightGoes 104 = .ok (.getfield 7, 3) := by decide +kernel
theorem dX9_nightGoes_107 : decode cX9_nightGoes 107 = .ok (.iload_n 3, 1) := by decide +kernel
theorem dX9_nightGoes_108 : decode cX9_nightGoes 108 = .ok (.iconst 3, 1) := by decide +kernel
theorem dX9_nightGoes_109 : decode cX9_nightGoes 109 = .ok (.iadd, 1) := by decide +kernel
theorem dX9_nightGoes_110 : decode cX9_nightGoes 110 = .ok (.iaload, 1) := by decide +kernel
theorem dX9_nightGoes_111 : decode cX9_nightGoes 111 = .ok (.aload_n 0, 1) := by decide +kernel
theorem dX9_nightGoes_112 : decode cX9_nightGoes 112 = .ok (.iconst 0, 1) := by decide +kernel
theorem dX9_nightGoes_113 : decode cX9_nightGoes 113 = .ok (.aload_n 0, 1) := by decide +kernel
theorem dX9_nightGoes_114 : decode cX9_nightGoes 114 = .ok (.getfield 7, 3) := by decide +kernel
theorem dX9_nightGoes_117 : decode cX9_nightGoes 117 = .ok (.iload_n 3, 1) := by decide +kernel
theorem dX9_nightGoes_118 : decode cX9_nightGoes 118 = .ok (.iconst 2, 1) := by decide +kernel
theorem dX9_nightGoes_119 : decode cX9_nightGoes 119 = .ok (.iadd, 1) := by decide +kernel
theorem dX9_nightGoes_120 : decode cX9_nightGoes 120 = .ok (.iaload, 1) := by decide +kernel
theorem dX9_nightGoes_121 : decode cX9_nightGoes 121 = .ok (.aload_n 0, 1) := by decide +kernel
theorem dX9_nightGoes_122 : decode cX9_nightGoes 122 = .ok (.getfield 7, 3) := by decide +kernel
theorem dX9_nightGoes_125 : decode cX9_nightGoes 125 = .ok (.iload_n 3, 1) := by decide +kernel
theorem dX9_nightGoes_126 : decode cX9_nightGoes 126 = .ok (.iconst 1, 1) := by decide +kernel
theorem dX9_nightGoes_127 : decode cX9_nightGoes 127 = .ok (.iadd, 1) := by decide +kernel
theorem dX9_nightGoes_128 : decode cX9_nightGoes 128 = .ok (.iaload, 1) := by decide +kernel
theorem dX9_nightGoes_129 : decode cX9_nightGoes 129 = .ok (.aload_n 0, 1) := by decide +kernel
theorem dX9_nightGoes_130 : decode cX9_nightGoes 130 = .ok (.getfield 34, 3) := by decide +kernel
theorem dX9_nightGoes_133 : decode cX9_nightGoes 133 = .ok (.iload_n 1, 1) := by decide +kernel
theorem dX9_nightGoes_134 : decode cX9_nightGoes 134 = .ok (.iaload, 1) := by decide +kernel
theorem dX9_nightGoes_135 : decode cX9_nightGoes 135 = .ok (.invokevirtual 181, 3) := by decide +kernel
theorem dX9_nightGoes_138 : decode cX9_nightGoes 138 = .ok (.iadd, 1) := by decide +kernel
theorem dX9_nightGoes_139 : decode cX9_nightGoes 139 = .ok (.iconst 0, 1) := by decide +kernel
theorem dX9_nightGoes_140 : decode cX9_nightGoes 140 = .ok (.ldc 202, 2) := by decide +kernel
theorem dX9_nightGoes_142 : decode cX9_nightGoes 142 = .ok (.invokestatic 177, 3) := by decide +kernel
theorem dX9_nightGoes_145 : decode cX9_nightGoes 145 = .ok (.iastore, 1) := by decide +kernel
theorem dX9_nightGoes_146 : decode cX9_nightGoes 146 = .ok (.aload_n 0, 1) := by decide +kernel
theorem dX9_nightGoes_147 : decode cX9_nightGoes 147 = .ok (.iload_n 2, 1) := by decide +kernel
theorem dX9_nightGoes_148 : decode cX9_nightGoes 148 = .ok (.iconst 3, 1) := by decide +kernel
theorem dX9_nightGoes_149 : decode cX9_nightGoes 149 = .ok (.aload_n 0, 1) := by decide +kernel
theorem dX9_nightGoes_150 : decode cX9_nightGoes 150 = .ok (.iload_n 2, 1) := by decide +kernel
theorem dX9_nightGoes_151 : decode cX9_nightGoes 151 = .ok (.iconst 3, 1) := by decide +kernel
theorem dX9_nightGoes_152 : decode cX9_nightGoes 152 = .ok (.invokevirtual 71, 3) := by decide +kernel
theorem dX9_nightGoes_155 : decode cX9_nightGoes 155 = .ok (.aload_n 0, 1) := by decide +kernel
theorem dX9_nightGoes_156 : decode cX9_nightGoes 156 = .ok (.iconst 1, 1) := by decide +kernel
theorem dX9_nightGoes_157 : decode cX9_nightGoes 157 = .ok (.aload_n 0, 1) := by decide +kernel
theorem dX9_nightGoes_158 : decode cX9_nightGoes 158 = .ok (.getfield 7, 3) := by decide +kernel
theorem dX9_nightGoes_161 : decode cX9_nightGoes 161 = .ok (.iload_n 3, 1) := by decide +kernel
theorem dX9_nightGoes_162 : decode cX9_nightGoes 162 = .ok (.iconst 2, 1) := by decide +kernel
theorem dX9_nightGoes_163 : decode cX9_nightGoes 163 = .ok (.iadd, 1) := by decide +kernel
theorem dX9_nightGoes_164 : decode cX9_nightGoes 164 = .ok (.iaload, 1) := by decide +kernel
theorem dX9_nightGoes_165 : decode cX9_nightGoes 165 = .ok (.aload_n 0, 1) := by decide +kernel
theorem dX9_nightGoes_166 : decode cX9_nightGoes 166 = .ok (.getfield 31, 3) := by decide +kernel
theorem dX9_nightGoes_169 : decode cX9_nightGoes 169 = .ok (.iload_n 2, 1) := by decide +kernel
theorem dX9_nightGoes_170 : decode cX9_nightGoes 170 = .ok (.iaload, 1) := by decide +kernel
theorem dX9_nightGoes_171 : decode cX9_nightGoes 171 = .ok (.aload_n 0, 1) := by decide +kernel
theorem dX9_nightGoes_172 : decode cX9_nightGoes 172 = .ok (.getfield 7, 3) := by decide +kernel
theorem dX9_nightGoes_175 : decode cX9_nightGoes 175 = .ok (.iconst 0, 1) := by decide +kernel
theorem dX9_nightGoes_176 : decode cX9_nightGoes 176 = .ok (.iaload, 1) := by decide +kernel
theorem dX9_nightGoes_177 : decode cX9_nightGoes 177 = .ok (.invokevirtual 181, 3) := by decide +kernel
theorem dX9_nightGoes_180 : decode cX9_nightGoes 180 = .ok (.iadd, 1) := by decide +kernel
theorem dX9_nightGoes_181 : decode cX9_nightGoes 181 = .ok (.iconst 0, 1) := by decide +kernel
theorem dX9_nightGoes_182 : decode cX9_nightGoes 182 = .ok (.sipush 9999, 3) := by decide +kernel
theorem dX9_nightGoes_185 : decode cX9_nightGoes 185 = .ok (.invokestatic 177, 3) := by decide +kernel
theorem dX9_nightGoes_188 : decode cX9_nightGoes 188 = .ok (.invokevirtual 97, 3) := by decide +kernel
theorem dX9_nightGoes_191 : decode cX9_nightGoes 191 = .ok (.aload_n 0, 1) := by decide +kernel
theorem dX9_nightGoes_192 : decode cX9_nightGoes 192 = .ok (.iload_n 2, 1) := by decide +kernel
theorem dX9_nightGoes_193 : decode cX9_nightGoes 193 = .ok (.iconst 1, 1) := by decide +kernel
theorem dX9_nightGoes_194 : decode cX9_nightGoes 194 = .ok (.aload_n 0, 1) := by decide +kernel
theorem dX9_nightGoes_195 : decode cX9_nightGoes 195 = .ok (.iload_n 2, 1) := by decide +kernel
theorem dX9_nightGoes_196 : decode cX9_nightGoes 196 = .ok (.iconst 1, 1) := by decide +kernel
theorem dX9_nightGoes_197 : decode cX9_nightGoes 197 = .ok (.invokevirtual 71, 3) := by decide +kernel
theorem dX9_nightGoes_200 : decode cX9_nightGoes 200 = .ok (.iconst 1, 1) := by decide +kernel
theorem dX9_nightGoes_201 : decode cX9_nightGoes 201 = .ok (.iload_n 1, 1) := by decide +kernel
theorem dX9_nightGoes_202 : decode cX9_nightGoes 202 = .ok (.ishl, 1) := by decide +kernel
theorem dX9_nightGoes_203 : decode cX9_nightGoes 203 = .ok (.ior, 1) := by decide +kernel
theorem dX9_nightGoes_204 : decode cX9_nightGoes 204 = .ok (.invokevirtual 97, 3) := by decide +kernel
theorem dX9_nightGoes_207 : decode cX9_nightGoes 207 = .ok (.aload_n 0, 1) := by decide +kernel
theorem dX9_nightGoes_208 : decode cX9_nightGoes 208 = .ok (.iload_n 2, 1) := by decide +kernel
theorem dX9_nightGoes_209 : decode cX9_nightGoes 209 = .ok (.iconst 0, 1) := by decide +kernel
theorem dX9_nightGoes_210 : decode cX9_nightGoes 210 = .ok (.aload_n 0, 1) := by decide +kernel
theorem dX9_nightGoes_211 : decode cX9_nightGoes 211 = .ok (.iload_n 2, 1) := by decide +kernel
theorem dX9_nightGoes_212 : decode cX9_nightGoes 212 = .ok (.iconst 0, 1) := by decide +kernel
theorem dX9_nightGoes_213 : decode cX9_nightGoes 213 = .ok (.invokevirtual 71, 3) := by decide +kernel
theorem dX9_nightGoes_216 : decode cX9_nightGoes 216 = .ok (.iload_n 1, 1) := by decide +kernel
theorem dX9_nightGoes_217 : decode cX9_nightGoes 217 = .ok (.ifCond .le 11, 3) := by decide +kernel
theorem dX9_nightGoes_220 : decode cX9_nightGoes 220 = .ok (.iconst 1, 1) := by decide +kernel
theorem dX9_nightGoes_221 : decode cX9_nightGoes 221 = .ok (.iload_n 1, 1) := by decide +kernel
theorem dX9_nightGoes_222 : decode cX9_nightGoes 222 = .ok (.iconst 1, 1) := by decide +kernel
theorem dX9_nightGoes_223 : decode cX9_nightGoes 223 = .ok (.isub, 1) := by decide +kernel
theorem dX9_nightGoes_224 : decode cX9_nightGoes 224 = .ok (.ishl, 1) := by decide +kernel
theorem dX9_nightGoes_225 : decode cX9_nightGoes 225 = .ok (.goto 4, 3) := by decide +kernel
theorem dX9_nightGoes_228 : decode cX9_nightGoes 228 = .ok (.iconst 0, 1) := by decide +kernel
theorem dX9_nightGoes_229 : decode cX9_nightGoes 229 = .ok (.ior, 1) := by decide +kernel
theorem dX9_nightGoes_230 : decode cX9_nightGoes 230 = .ok (.iload_n 1, 1) := by decide +kernel
theorem dX9_nightGoes_231 : decode cX9_nightGoes 231 = .ok (.iconst 1, 1) := by decide +kernel
theorem dX9_nightGoes_232 : decode cX9_nightGoes 232 = .ok (.iadd, 1) := by decide +kernel
theorem dX9_nightGoes_233 : decode cX9_nightGoes 233 = .ok (.aload_n 0, 1) := by decide +kernel
theorem dX9_nightGoes_234 : decode cX9_nightGoes 234 = .ok (.getfield 7, 3) := by decide +kernel
theorem dX9_nightGoes_237 : decode cX9_nightGoes 237 = .ok (.iconst 3, 1) := by decide +kernel
theorem dX9_nightGoes_238 : decode cX9_nightGoes 238 = .ok (.iaload, 1) := by decide +kernel
theorem dX9_nightGoes_239 : decode cX9_nightGoes 239 = .ok (.if_icmp .ge 11, 3) := by decide +kernel
theorem dX9_nightGoes_242 : decode cX9_nightGoes 242 = .ok (.iconst 1, 1) := by decide +kernel
theorem dX9_nightGoes_243 : decode cX9_nightGoes 243 = .ok (.iload_n 1, 1) := by decide +kernel
theorem dX9_nightGoes_244 : decode cX9_nightGoes 244 = .ok (.iconst 1, 1) := by decide +kernel
theorem dX9_nightGoes_245 : decode cX9_nightGoes 245 = .ok (.iadd, 1) := by decide +kernel
theorem dX9_nightGoes_246 : decode cX9_nightGoes 246 = .ok (.ishl, 1) := by decide +kernel
theorem dX9_nightGoes_247 : decode cX9_nightGoes 247 = .ok (.goto 4, 3) := by decide +kernel
theorem dX9_nightGoes_250 : decode cX9_nightGoes 250 = .ok (.iconst 0, 1) := by decide +kernel
theorem dX9_nightGoes_251 : decode cX9_nightGoes 251 = .ok (.ior, 1) := by decide +kernel
theorem dX9_nightGoes_252 : decode cX9_nightGoes 252 = .ok (.invokevirtual 97, 3) := by decide +kernel
theorem dX9_nightGoes_255 : decode cX9_nightGoes 255 = .ok (.iinc 1 1, 3) := by decide +kernel
theorem dX9_nightGoes_258 : decode cX9_nightGoes 258 = .ok (.goto (-190), 3) := by decide +kernel
theorem dX9_nightGoes_261 : decode cX9_nightGoes 261 = .ok (.aload_n 0, 1) := by decide +kernel
theorem dX9_nightGoes_262 : decode cX9_nightGoes 262 = .ok (.getfield 7, 3) := by decide +kernel
theorem dX9_nightGoes_265 : decode cX9_nightGoes 265 = .ok (.iconst 1, 1) := by decide +kernel
theorem dX9_nightGoes_266 : decode cX9_nightGoes 266 = .ok (.iconst 0, 1) := by decide +kernel
theorem dX9_nightGoes_267 : decode cX9_nightGoes 267 = .ok (.iastore, 1) := by decide +kernel
theorem dX9_nightGoes_268 : decode cX9_nightGoes 268 = .ok (.aload_n 0, 1) := by decide +kernel
theorem dX9_nightGoes_269 : decode cX9_nightGoes 269 = .ok (.getfield 7, 3) := by decide +kernel
theorem dX9_nightGoes_272 : decode cX9_nightGoes 272 = .ok (.iconst 0, 1) := by decide +kernel
theorem dX9_nightGoes_273 : decode cX9_nightGoes 273 = .ok (.dup2, 1) := by decide +kernel
theorem dX9_nightGoes_274 : decode cX9_nightGoes 274 = .ok (.iaload, 1) := by decide +kernel
theorem dX9_nightGoes_275 : decode cX9_nightGoes 275 = .ok (.iconst 1, 1) := by decide +kernel
theorem dX9_nightGoes_276 : decode cX9_nightGoes 276 = .ok (.iadd, 1) := by decide +kernel
theorem dX9_nightGoes_277 : decode cX9_nightGoes 277 = .ok (.iastore, 1) := by decide +kernel
theorem dX9_nightGoes_278 : decode cX9_nightGoes 278 = .ok (.return_, 1) := by decide +kernel
theorem dX9_purses_0 : decode cX9_purses 0 = .ok (.iconst 0, 1) := by decide +kernel
theorem dX9_purses_1 : decode cX9_purses 1 = .ok (.istore_n 1, 1) := by decide +kernel
theorem dX9_purses_2 : decode cX9_purses 2 = .ok (.iconst 0, 1) := by decide +kernel
theorem dX9_purses_3 : decode cX9_purses 3 = .ok (.istore_n 2, 1) := by decide +kernel
theorem dX9_purses_4 : decode cX9_purses 4 = .ok (.iload_n 2, 1) := by decide +kernel
theorem dX9_purses_5 : decode cX9_purses 5 = .ok (.aload_n 0, 1) := by decide +kernel
theorem dX9_purses_6 : decode cX9_purses 6 = .ok (.getfield 7, 3) := by decide +kernel
theorem dX9_purses_9 : decode cX9_purses 9 = .ok (.bipush 8, 2) := by decide +kernel
theorem dX9_purses_11 : decode cX9_purses 11 = .ok (.iaload, 1) := by decide +kernel
theorem dX9_purses_12 : decode cX9_purses 12 = .ok (.if_icmp .ge 18, 3) := by decide +kernel
theorem dX9_purses_15 : decode cX9_purses 15 = .ok (.iload_n 1, 1) := by decide +kernel
theorem dX9_purses_16 : decode cX9_purses 16 = .ok (.aload_n 0, 1) := by decide +kernel
theorem dX9_purses_17 : decode cX9_purses 17 = .ok (.iload_n 2, 1) := by decide +kernel
theorem dX9_purses_18 : decode cX9_purses 18 = .ok (.iconst 3, 1) := by decide +kernel
theorem dX9_purses_19 : decode cX9_purses 19 = .ok (.invokevirtual 71, 3) := by decide +kernel
theorem dX9_purses_22 : decode cX9_purses 22 = .ok (.iadd, 1) := by decide +kernel
theorem dX9_purses_23 : decode cX9_purses 23 = .ok (.istore_n 1, 1) := by decide +kernel
theorem dX9_purses_24 : decode cX9_purses 24 = .ok (.iinc 2 1, 3) := by decide +kernel
theorem dX9_purses_27 : decode cX9_purses 27 = .ok (.goto (-23), 3) := by decide +kernel
theorem dX9_purses_30 : decode cX9_purses 30 = .ok (.iload_n 1, 1) := by decide +kernel
theorem dX9_purses_31 : decode cX9_purses 31 = .ok (.ireturn, 1) := by decide +kernel
theorem dX9_nights_0 : decode cX9_nights 0 = .ok (.iload_n 1, 1) := by decide +kernel
theorem dX9_nights_1 : decode cX9_nights 1 = .ok (.iconst 1, 1) := by decide +kernel
theorem dX9_nights_2 : decode cX9_nights 2 = .ok (.bipush 60, 2) := by decide +kernel
theorem dX9_nights_4 : decode cX9_nights 4 = .ok (.invokestatic 53, 3) := by decide +kernel
theorem dX9_nights_7 : decode cX9_nights 7 = .ok (.ifCond .ne 10, 3) := by decide +kernel
theorem dX9_nights_10 : decode cX9_nights 10 = .ok (.aload_n 0, 1) := by decide +kernel
theorem dX9_nights_11 : decode cX9_nights 11 = .ok (.ldc 61, 2) := by decide +kernel
theorem dX9_nights_13 : decode cX9_nights 13 = .ok (.invokevirtual 62, 3) := by decide +kernel
theorem dX9_nights_16 : decode cX9_nights 16 = .ok (.ireturn, 1) := by decide +kernel
theorem dX9_nights_17 : decode cX9_nights 17 = .ok (.iconst 0, 1) := by decide +kernel
theorem dX9_nights_18 : decode cX9_nights 18 = .ok (.istore_n 2, 1) := by decide +kernel
theorem dX9_nights_19 : decode cX9_nights 19 = .ok (.iload_n 2, 1) := by decide +kernel
theorem dX9_nights_20 : decode cX9_nights 20 = .ok (.iload_n 1, 1) := by decide +kernel
theorem dX9_nights_21 : decode cX9_nights 21 = .ok (.if_icmp .ge 32, 3) := by decide +kernel
theorem dX9_nights_24 : decode cX9_nights 24 = .ok (.aload_n 0, 1) := by decide +kernel
theorem dX9_nights_25 : decode cX9_nights 25 = .ok (.getfield 7, 3) := by decide +kernel
theorem dX9_nights_28 : decode cX9_nights 28 = .ok (.iconst 0, 1) := by decide +kernel
theorem dX9_nights_29 : decode cX9_nights 29 = .ok (.iaload, 1) := by decide +kernel
theorem dX9_nights_30 : decode cX9_nights 30 = .ok (.sipush 9999, 3) := by decide +kernel
theorem dX9_nights_33 : decode cX9_nights 33 = .ok (.if_icmp .ge 20, 3) := by decide +kernel
theorem dX9_nights_36 : decode cX9_nights 36 = .ok (.aload_n 0, 1) := by decide +kernel
theorem dX9_nights_37 : decode cX9_nights 37 = .ok (.invokevirtual 203, 3) := by decide +kernel
theorem dX9_nights_40 : decode cX9_nights 40 = .ok (.ifCond .eq 13, 3) := by decide +kernel
theorem dX9_nights_43 : decode cX9_nights 43 = .ok (.aload_n 0, 1) := by decide +kernel
theorem dX9_nights_44 : decode cX9_nights 44 = .ok (.invokevirtual 207, 3) := by decide +kernel
theorem dX9_nights_47 : decode cX9_nights 47 = .ok (.iinc 2 1, 3) := by decide +kernel
theorem dX9_nights_50 : decode cX9_nights 50 = .ok (.goto (-31), 3) := by decide +kernel
theorem dX9_nights_53 : decode cX9_nights 53 = .ok (.iload_n 2, 1) := by decide +kernel
theorem dX9_nights_54 : decode cX9_nights 54 = .ok (.ireturn, 1) := by decide +kernel
theorem dX9_drawn_0 : decode cX9_drawn 0 = .ok (.aload_n 0, 1) := by decide +kernel
theorem dX9_drawn_1 : decode cX9_drawn 1 = .ok (.getfield 7, 3) := by decide +kernel
theorem dX9_drawn_4 : decode cX9_drawn 4 = .ok (.iconst 2, 1) := by decide +kernel
theorem dX9_drawn_5 : decode cX9_drawn 5 = .ok (.aload_n 0, 1) := by decide +kernel
theorem dX9_drawn_6 : decode cX9_drawn 6 = .ok (.getfield 7, 3) := by decide +kernel
theorem dX9_drawn_9 : decode cX9_drawn 9 = .ok (.iconst 2, 1) := by decide +kernel
theorem dX9_drawn_10 : decode cX9_drawn 10 = .ok (.iaload, 1) := by decide +kernel
theorem dX9_drawn_11 : decode cX9_drawn 11 = .ok (.ldc 210, 2) := by decide +kernel
theorem dX9_drawn_13 : decode cX9_drawn 13 = .ok (.imul, 1) := by decide +kernel
theorem dX9_drawn_14 : decode cX9_drawn 14 = .ok (.sipush 12345, 3) := by decide +kernel
theorem dX9_drawn_17 : decode cX9_drawn 17 = .ok (.iadd, 1) := by decide +kernel
theorem dX9_drawn_18 : decode cX9_drawn 18 = .ok (.iastore, 1) := by decide +kernel
theorem dX9_drawn_19 : decode cX9_drawn 19 = .ok (.aload_n 0, 1) := by decide +kernel
theorem dX9_drawn_20 : decode cX9_drawn 20 = .ok (.getfield 7, 3) := by decide +kernel
theorem dX9_drawn_23 : decode cX9_drawn 23 = .ok (.iconst 2, 1) := by decide +kernel
theorem dX9_drawn_24 : decode cX9_drawn 24 = .ok (.iaload, 1) := by decide +kernel
theorem dX9_drawn_25 : decode cX9_drawn 25 = .ok (.bipush 8, 2) := by decide +kernel
theorem dX9_drawn_27 : decode cX9_drawn 27 = .ok (.iushr, 1) := by decide +kernel
theorem dX9_drawn_28 : decode cX9_drawn 28 = .ok (.iload_n 1, 1) := by decide +kernel
theorem dX9_drawn_29 : decode cX9_drawn 29 = .ok (.irem, 1) := by decide +kernel
theorem dX9_drawn_30 : decode cX9_drawn 30 = .ok (.ireturn, 1) := by decide +kernel
theorem dX9_loose_0 : decode cX9_loose 0 = .ok (.iload_n 1, 1) := by decide +kernel
theorem dX9_loose_1 : decode cX9_loose 1 = .ok (.iconst 1, 1) := by decide +kernel
theorem dX9_loose_2 : decode cX9_loose 2 = .ok (.bipush 40, 2) := by decide +kernel
theorem dX9_loose_4 : decode cX9_loose 4 = .ok (.invokestatic 53, 3) := by decide +kernel
theorem dX9_loose_7 : decode cX9_loose 7 = .ok (.ifCond .ne 10, 3) := by decide +kernel
theorem dX9_loose_10 : decode cX9_loose 10 = .ok (.aload_n 0, 1) := by decide +kernel
theorem dX9_loose_11 : decode cX9_loose 11 = .ok (.ldc 61, 2) := by decide +kernel
theorem dX9_loose_13 : decode cX9_loose 13 = .ok (.invokevirtual 62, 3) := by decide +kernel
theorem dX9_loose_16 : decode cX9_loose 16 = .ok (.ireturn, 1) := by decide +kernel
theorem dX9_loose_17 : decode cX9_loose 17 = .ok (.aload_n 0, 1) := by decide +kernel
theorem dX9_loose_18 : decode cX9_loose 18 = .ok (.getfield 7, 3) := by decide +kernel
theorem dX9_loose_21 : decode cX9_loose 21 = .ok (.iconst 0, 1) := by decide +kernel
theorem dX9_loose_22 : decode cX9_loose 22 = .ok (.iaload, 1) := by decide +kernel
theorem dX9_loose_23 : decode cX9_loose 23 = .ok (.iload_n 1, 1) := by decide +kernel
theorem dX9_loose_24 : decode cX9_loose 24 = .ok (.iadd, 1) := by decide +kernel
theorem dX9_loose_25 : decode cX9_loose 25 = .ok (.sipush 9999, 3) := by decide +kernel
theorem dX9_loose_28 : decode cX9_loose 28 = .ok (.if_icmp .le 10, 3) := by decide +kernel
theorem dX9_loose_31 : decode cX9_loose 31 = .ok (.aload_n 0, 1) := by decide +kernel
theorem dX9_loose_32 : decode cX9_loose 32 = .ok (.ldc 211, 2) := by decide +kernel
theorem dX9_loose_34 : decode cX9_loose 34 = .ok (.invokevirtual 62, 3) := by decide +kernel
theorem dX9_loose_37 : decode cX9_loose 37 = .ok (.ireturn, 1) := by decide +kernel
theorem dX9_loose_38 : decode cX9_loose 38 = .ok (.iconst 0, 1) := by decide +kernel
theorem dX9_loose_39 : decode cX9_loose 39 = .ok (.istore_n 2, 1) := by decide +kernel
theorem dX9_loose_40 : decode cX9_loose 40 = .ok (.iload_n 2, 1) := by decide +kernel
theorem dX9_loose_41 : decode cX9_loose 41 = .ok (.iload_n 1, 1) := by decide +kernel
theorem dX9_loose_42 : decode cX9_loose 42 = .ok (.if_icmp .ge 69, 3) := by decide +kernel
theorem dX9_loose_45 : decode cX9_loose 45 = .ok (.aload_n 0, 1) := by decide +kernel
theorem dX9_loose_46 : decode cX9_loose 46 = .ok (.getfield 7, 3) := by decide +kernel
theorem dX9_loose_49 : decode cX9_loose 49 = .ok (.bipush 8, 2) := by decide +kernel
theorem dX9_loose_51 : decode cX9_loose 51 = .ok (.iaload, 1) := by decide +kernel
theorem dX9_loose_52 : decode cX9_loose 52 = .ok (.ifCond .le 29, 3) := by decide +kernel
theorem dX9_loose_55 : decode cX9_loose 55 = .ok (.aload_n 0, 1) := by decide +kernel
theorem dX9_loose_56 : decode cX9_loose 56 = .ok (.aload_n 0, 1) := by decide +kernel
theorem dX9_loose_57 : decode cX9_loose 57 = .ok (.getfield 7, 3) := by decide +kernel
theorem dX9_loose_60 : decode cX9_loose 60 = .ok (.bipush 8, 2) := by decide +kernel
theorem dX9_loose_62 : decode cX9_loose 62 = .ok (.iaload, 1) := by decide +kernel
theorem dX9_loose_63 : decode cX9_loose 63 = .ok (.invokevirtual 212, 3) := by decide +kernel
theorem dX9_loose_66 : decode cX9_loose 66 = .ok (.istore_n 3, 1) := by decide +kernel
theorem dX9_loose_67 : decode cX9_loose 67 = .ok (.aload_n 0, 1) := by decide +kernel
theorem dX9_loose_68 : decode cX9_loose 68 = .ok (.iload_n 3, 1) := by decide +kernel
theorem dX9_loose_69 : decode cX9_loose 69 = .ok (.iconst 4, 1) := by decide +kernel
theorem dX9_loose_70 : decode cX9_loose 70 = .ok (.iconst 1, 1) := by decide +kernel
theorem dX9_loose_71 : decode cX9_loose 71 = .ok (.aload_n 0, 1) := by decide +kernel
theorem dX9_loose_72 : decode cX9_loose 72 = .ok (.iload_n 3, 1) := by decide +kernel
theorem dX9_loose_73 : decode cX9_loose 73 = .ok (.iconst 4, 1) := by decide +kernel
theorem dX9_loose_74 : decode cX9_loose 74 = .ok (.invokevirtual 71, 3) := by decide +kernel
theorem dX9_loose_77 : decode cX9_loose 77 = .ok (.isub, 1) := by decide +kernel
theorem dX9_loose_78 : decode cX9_loose 78 = .ok (.invokevirtual 97, 3) := by decide +kernel
theorem dX9_loose_81 : decode cX9_loose 81 = .ok (.aload_n 0, 1) := by decide +kernel
theorem dX9_loose_82 : decode cX9_loose 82 = .ok (.invokevirtual 203, 3) := by decide +kernel
theorem dX9_loose_85 : decode cX9_loose 85 = .ok (.ifCond .eq 10, 3) := by decide +kernel
theorem dX9_loose_88 : decode cX9_loose 88 = .ok (.aload_n 0, 1) := by decide +kernel
theorem dX9_loose_89 : decode cX9_loose 89 = .ok (.invokevirtual 207, 3) := by decide +kernel
theorem dX9_loose_92 : decode cX9_loose 92 = .ok (.goto 13, 3) := by decide +kernel
theorem dX9_loose_95 : decode cX9_loose 95 = .ok (.aload_n 0, 1) := by decide +kernel
theorem dX9_loose_96 : decode cX9_loose 96 = .ok (.getfield 7, 3) := by decide +kernel
theorem dX9_loose_99 : decode cX9_loose 99 = .ok (.iconst 0, 1) := by decide +kernel
theorem dX9_loose_100 : decode cX9_loose 100 = .ok (.dup2, 1) := by decide +kernel
theorem dX9_loose_101 : decode cX9_loose 101 = .ok (.iaload, 1) := by decide +kernel
theorem dX9_loose_102 : decode cX9_loose 102 = .ok (.iconst 1, 1) := by decide +kernel
theorem dX9_loose_103 : decode cX9_loose 103 = .ok (.iadd, 1) := by decide +kernel
theorem dX9_loose_104 : decode cX9_loose 104 = .ok (.iastore, 1) := by decide +kernel
theorem dX9_loose_105 : decode cX9_loose 105 = .ok (.iinc 2 1, 3) := by decide +kernel
theorem dX9_loose_108 : decode cX9_loose 108 = .ok (.goto (-68), 3) := by decide +kernel
theorem dX9_loose_111 : decode cX9_loose 111 = .ok (.aload_n 0, 1) := by decide +kernel
theorem dX9_loose_112 : decode cX9_loose 112 = .ok (.invokevirtual 215, 3) := by decide +kernel
theorem dX9_loose_115 : decode cX9_loose 115 = .ok (.ireturn, 1) := by decide +kernel
theorem dX9_first_0 : decode cX9_first 0 = .ok (.aload_n 0, 1) := by decide +kernel
theorem dX9_first_1 : decode cX9_first 1 = .ok (.iload_n 1, 1) := by decide +kernel
theorem dX9_first_2 : decode cX9_first 2 = .ok (.invokevirtual 57, 3) := by decide +kernel
theorem dX9_first_5 : decode cX9_first 5 = .ok (.ifCond .ne 10, 3) := by decide +kernel
theorem dX9_first_8 : decode cX9_first 8 = .ok (.aload_n 0, 1) := by decide +kernel
theorem dX9_first_9 : decode cX9_first 9 = .ok (.ldc 61, 2) := by decide +kernel
theorem dX9_first_11 : decode cX9_first 11 = .ok (.invokevirtual 62, 3) := by decide +kernel
theorem dX9_first_14 : decode cX9_first 14 = .ok (.ireturn, 1) := by decide +kernel
theorem dX9_first_15 : decode cX9_first 15 = .ok (.aload_n 0, 1) := by decide +kernel
theorem dX9_first_16 : decode cX9_first 16 = .ok (.invokevirtual 203, 3) := by decide +kernel
theorem dX9_first_19 : decode cX9_first 19 = .ok (.ifCond .eq 12, 3) := by decide +kernel
theorem dX9_first_22 : decode cX9_first 22 = .ok (.aload_n 0, 1) := by decide +kernel
theorem dX9_first_23 : decode cX9_first 23 = .ok (.getfield 25, 3) := by decide +kernel
theorem dX9_first_26 : decode cX9_first 26 = .ok (.iload_n 1, 1) := by decide +kernel
theorem dX9_first_27 : decode cX9_first 27 = .ok (.iaload, 1) := by decide +kernel
theorem dX9_first_28 : decode cX9_first 28 = .ok (.goto 9, 3) := by decide +kernel
theorem dX9_first_31 : decode cX9_first 31 = .ok (.aload_n 0, 1) := by decide +kernel
theorem dX9_first_32 : decode cX9_first 32 = .ok (.ldc 218, 2) := by decide +kernel
theorem dX9_first_34 : decode cX9_first 34 = .ok (.invokevirtual 62, 3) := by decide +kernel
theorem dX9_first_37 : decode cX9_first 37 = .ok (.ireturn, 1) := by decide +kernel
theorem dX9_castings_0 : decode cX9_castings 0 = .ok (.iconst 0, 1) := by decide +kernel
theorem dX9_castings_1 : decode cX9_castings 1 = .ok (.istore_n 1, 1) := by decide +kernel
theorem dX9_castings_2 : decode cX9_castings 2 = .ok (.aload_n 0, 1) := by decide +kernel
theorem dX9_castings_3 : decode cX9_castings 3 = .ok (.invokevirtual 203, 3) := by decide +kernel
theorem dX9_castings_6 : decode cX9_castings 6 = .ok (.istore_n 2, 1) := by decide +kernel
theorem dX9_castings_7 : decode cX9_castings 7 = .ok (.iload_n 2, 1) := by decide +kernel
theorem dX9_castings_8 : decode cX9_castings 8 = .ok (.ifCond .eq 14, 3) := by decide +kernel
theorem dX9_castings_11 : decode cX9_castings 11 = .ok (.iinc 1 1, 3) := by decide +kernel
theorem dX9_castings_14 : decode cX9_castings 14 = .ok (.aload_n 0, 1) := by decide +kernel
theorem dX9_castings_15 : decode cX9_castings 15 = .ok (.invokevirtual 219, 3) := by decide +kernel
theorem dX9_castings_18 : decode cX9_castings 18 = .ok (.istore_n 2, 1) := by decide +kernel
theorem dX9_castings_19 : decode cX9_castings 19 = .ok (.goto (-12), 3) := by decide +kernel
theorem dX9_castings_22 : decode cX9_castings 22 = .ok (.iload_n 1, 1) := by decide +kernel
theorem dX9_castings_23 : decode cX9_castings 23 = .ok (.ireturn, 1) := by decide +kernel
theorem dX9_seasonGoes_0 : decode cX9_seasonGoes 0 = .ok (.iconst 0, 1) := by decide +kernel
theorem dX9_seasonGoes_1 : decode cX9_seasonGoes 1 = .ok (.istore_n 2, 1) := by decide +kernel
theorem dX9_seasonGoes_2 : decode cX9_seasonGoes 2 = .ok (.iload_n 2, 1) := by decide +kernel
theorem dX9_seasonGoes_3 : decode cX9_seasonGoes 3 = .ok (.iload_n 1, 1) := by decide +kernel
theorem dX9_seasonGoes_4 : decode cX9_seasonGoes 4 = .ok (.if_icmp .ge 20, 3) := by decide +kernel
theorem dX9_seasonGoes_7 : decode cX9_seasonGoes 7 = .ok (.aload_n 0, 1) := by decide +kernel
theorem dX9_seasonGoes_8 : decode cX9_seasonGoes 8 = .ok (.invokevirtual 203, 3) := by decide +kernel
theorem dX9_seasonGoes_11 : decode cX9_seasonGoes 11 = .ok (.ifCond .eq 13, 3) := by decide +kernel
theorem dX9_seasonGoes_14 : decode cX9_seasonGoes 14 = .ok (.aload_n 0, 1) := by decide +kernel
theorem dX9_seasonGoes_15 : decode cX9_seasonGoes 15 = .ok (.invokevirtual 207, 3) := by decide +kernel
theorem dX9_seasonGoes_18 : decode cX9_seasonGoes 18 = .ok (.iinc 2 1, 3) := by decide +kernel
theorem dX9_seasonGoes_21 : decode cX9_seasonGoes 21 = .ok (.goto (-19), 3) := by decide +kernel
theorem dX9_seasonGoes_24 : decode cX9_seasonGoes 24 = .ok (.iload_n 2, 1) := by decide +kernel
theorem dX9_seasonGoes_25 : decode cX9_seasonGoes 25 = .ok (.ireturn, 1) := by decide +kernel
theorem dX9_seasonOf_0 : decode cX9_seasonOf 0 = .ok (.aload_n 0, 1) := by decide +kernel
theorem dX9_seasonOf_1 : decode cX9_seasonOf 1 = .ok (.aload_n 0, 1) := by decide +kernel
theorem dX9_seasonOf_2 : decode cX9_seasonOf 2 = .ok (.getfield 7, 3) := by decide +kernel
theorem dX9_seasonOf_5 : decode cX9_seasonOf 5 = .ok (.aload_n 0, 1) := by decide +kernel
theorem dX9_seasonOf_6 : decode cX9_seasonOf 6 = .ok (.getfield 16, 3) := by decide +kernel
theorem dX9_seasonOf_9 : decode cX9_seasonOf 9 = .ok (.invokevirtual 186, 3) := by decide +kernel
theorem dX9_seasonOf_12 : decode cX9_seasonOf 12 = .ok (.aload_n 0, 1) := by decide +kernel
theorem dX9_seasonOf_13 : decode cX9_seasonOf 13 = .ok (.bipush 60, 2) := by decide +kernel
theorem dX9_seasonOf_15 : decode cX9_seasonOf 15 = .ok (.invokevirtual 222, 3) := by decide +kernel
theorem dX9_seasonOf_18 : decode cX9_seasonOf 18 = .ok (.istore_n 1, 1) := by decide +kernel
theorem dX9_seasonOf_19 : decode cX9_seasonOf 19 = .ok (.aload_n 0, 1) := by decide +kernel
theorem dX9_seasonOf_20 : decode cX9_seasonOf 20 = .ok (.aload_n 0, 1) := by decide +kernel
theorem dX9_seasonOf_21 : decode cX9_seasonOf 21 = .ok (.getfield 16, 3) := by decide +kernel
theorem dX9_seasonOf_24 : decode cX9_seasonOf 24 = .ok (.aload_n 0, 1) := by decide +kernel
theorem dX9_seasonOf_25 : decode cX9_seasonOf 25 = .ok (.getfield 7, 3) := by decide +kernel
theorem dX9_seasonOf_28 : decode cX9_seasonOf 28 = .ok (.invokevirtual 186, 3) := by decide +kernel
theorem dX9_seasonOf_31 : decode cX9_seasonOf 31 = .ok (.iload_n 1, 1) := by decide +kernel
theorem dX9_seasonOf_32 : decode cX9_seasonOf 32 = .ok (.ireturn, 1) := by decide +kernel
theorem dX9_season_0 : decode cX9_season 0 = .ok (.aload_n 0, 1) := by decide +kernel
theorem dX9_season_1 : decode cX9_season 1 = .ok (.invokevirtual 225, 3) := by decide +kernel
theorem dX9_season_4 : decode cX9_season 4 = .ok (.ireturn, 1) := by decide +kernel
theorem dX9_then_0 : decode cX9_then 0 = .ok (.iload_n 1, 1) := by decide +kernel
theorem dX9_then_1 : decode cX9_then 1 = .ok (.iconst 0, 1) := by decide +kernel
theorem dX9_then_2 : decode cX9_then 2 = .ok (.bipush 60, 2) := by decide +kernel
theorem dX9_then_4 : decode cX9_then 4 = .ok (.invokestatic 53, 3) := by decide +kernel
theorem dX9_then_7 : decode cX9_then 7 = .ok (.ifCond .eq 20, 3) := by decide +kernel
theorem dX9_then_10 : decode cX9_then 10 = .ok (.aload_n 0, 1) := by decide +kernel
theorem dX9_then_11 : decode cX9_then 11 = .ok (.iload_n 2, 1) := by decide +kernel
theorem dX9_then_12 : decode cX9_then 12 = .ok (.invokevirtual 107, 3) := by decide +kernel
theorem dX9_then_15 : decode cX9_then 15 = .ok (.ifCond .eq 12, 3) := by decide +kernel
theorem dX9_then_18 : decode cX9_then 18 = .ok (.iload_n 3, 1) := by decide +kernel
theorem dX9_then_19 : decode cX9_then 19 = .ok (.iconst 0, 1) := by decide +kernel
theorem dX9_then_20 : decode cX9_then 20 = .ok (.iconst 2, 1) := by decide +kernel
theorem dX9_then_21 : decode cX9_then 21 = .ok (.invokestatic 53, 3) := by decide +kernel
theorem dX9_then_24 : decode cX9_then 24 = .ok (.ifCond .ne 10, 3) := by decide +kernel
theorem dX9_then_27 : decode cX9_then 27 = .ok (.aload_n 0, 1) := by decide +kernel
theorem dX9_then_28 : decode cX9_then 28 = .ok (.ldc 61, 2) := by decide +kernel
theorem dX9_then_30 : decode cX9_then 30 = .ok (.invokevirtual 62, 3) := by decide +kernel
theorem dX9_then_33 : decode cX9_then 33 = .ok (.ireturn, 1) := by decide +kernel
theorem dX9_then_34 : decode cX9_then 34 = .ok (.aload_n 0, 1) := by decide +kernel
theorem dX9_then_35 : decode cX9_then 35 = .ok (.aload_n 0, 1) := by decide +kernel
theorem dX9_then_36 : decode cX9_then 36 = .ok (.getfield 7, 3) := by decide +kernel
theorem dX9_then_39 : decode cX9_then 39 = .ok (.aload_n 0, 1) := by decide +kernel
theorem dX9_then_40 : decode cX9_then 40 = .ok (.getfield 16, 3) := by decide +kernel
theorem dX9_then_43 : decode cX9_then 43 = .ok (.invokevirtual 186, 3) := by decide +kernel
theorem dX9_then_46 : decode cX9_then 46 = .ok (.aload_n 0, 1) := by decide +kernel
theorem dX9_then_47 : decode cX9_then 47 = .ok (.iload_n 1, 1) := by decide +kernel
theorem dX9_then_48 : decode cX9_then 48 = .ok (.invokevirtual 222, 3) := by decide +kernel
theorem dX9_then_51 : decode cX9_then 51 = .ok (.istore 4, 2) := by decide +kernel
theorem dX9_then_53 : decode cX9_then 53 = .ok (.aload_n 0, 1) := by decide +kernel
theorem dX9_then_54 : decode cX9_then 54 = .ok (.iload_n 2, 1) := by decide +kernel
theorem dX9_then_55 : decode cX9_then 55 = .ok (.iload_n 3, 1) := by decide +kernel
theorem dX9_then_56 : decode cX9_then 56 = .ok (.iconst 2, 1) := by decide +kernel
theorem dX9_then_57 : decode cX9_then 57 = .ok (.if_icmp .ge 7, 3) := by decide +kernel
theorem dX9_then_60 : decode cX9_then 60 = .ok (.iload_n 3, 1) := by decide +kernel
theorem dX9_then_61 : decode cX9_then 61 = .ok (.goto 13, 3) := by decide +kernel
theorem dX9_then_64 : decode cX9_then 64 = .ok (.iload 4, 2) := by decide +kernel
theorem dX9_then_66 : decode cX9_then 66 = .ok (.ifCond .ge 7, 3) := by decide +kernel
theorem dX9_then_69 : decode cX9_then 69 = .ok (.iconst 0, 1) := by decide +kernel
theorem dX9_then_70 : decode cX9_then 70 = .ok (.goto 4, 3) := by decide +kernel
theorem dX9_then_73 : decode cX9_then 73 = .ok (.iconst 3, 1) := by decide +kernel
theorem dX9_then_74 : decode cX9_then 74 = .ok (.invokevirtual 71, 3) := by decide +kernel
theorem dX9_then_77 : decode cX9_then 77 = .ok (.istore 5, 2) := by decide +kernel
theorem dX9_then_79 : decode cX9_then 79 = .ok (.aload_n 0, 1) := by decide +kernel
theorem dX9_then_80 : decode cX9_then 80 = .ok (.aload_n 0, 1) := by decide +kernel
theorem dX9_then_81 : decode cX9_then 81 = .ok (.getfield 16, 3) := by decide +kernel
theorem dX9_then_84 : decode cX9_then 84 = .ok (.aload_n 0, 1) := by decide +kernel
theorem dX9_then_85 : decode cX9_then 85 = .ok (.getfield 7, 3) := by decide +kernel
theorem dX9_then_88 : decode cX9_then 88 = .ok (.invokevirtual 186, 3) := by decide +kernel
theorem dX9_then_91 : decode cX9_then 91 = .ok (.iload 5, 2) := by decide +kernel
theorem dX9_then_93 : decode cX9_then 93 = .ok (.ireturn, 1) := by decide +kernel
theorem dX9_learns_0 : decode cX9_learns 0 = .ok (.aload_n 0, 1) := by decide +kernel
theorem dX9_learns_1 : decode cX9_learns 1 = .ok (.iload_n 1, 1) := by decide +kernel
theorem dX9_learns_2 : decode cX9_learns 2 = .ok (.invokevirtual 107, 3) := by decide +kernel
theorem dX9_learns_5 : decode cX9_learns 5 = .ok (.ifCond .eq 11, 3) := by decide +kernel
theorem dX9_learns_8 : decode cX9_learns 8 = .ok (.aload_n 0, 1) := by decide +kernel
theorem dX9_learns_9 : decode cX9_learns 9 = .ok (.iload_n 2, 1) := by decide +kernel
theorem dX9_learns_10 : decode cX9_learns 10 = .ok (.invokevirtual 57, 3) := by decide +kernel
theorem dX9_learns_13 : decode cX9_learns 13 = .ok (.ifCond .ne 10, 3) := by decide +kernel
theorem dX9_learns_16 : decode cX9_learns 16 = .ok (.aload_n 0, 1) := by decide +kernel
theorem dX9_learns_17 : decode cX9_learns 17 = .ok (.ldc 61, 2) := by decide +kernel
theorem dX9_learns_19 : decode cX9_learns 19 = .ok (.invokevirtual 62, 3) := by decide +kernel
theorem dX9_learns_22 : decode cX9_learns 22 = .ok (.ireturn, 1) := by decide +kernel
theorem dX9_learns_23 : decode cX9_learns 23 = .ok (.aload_n 0, 1) := by decide +kernel
theorem dX9_learns_24 : decode cX9_learns 24 = .ok (.aload_n 0, 1) := by decide +kernel
theorem dX9_learns_25 : decode cX9_learns 25 = .ok (.getfield 7, 3) := by decide +kernel
theorem dX9_learns_28 : decode cX9_learns 28 = .ok (.aload_n 0, 1) := by decide +kernel
theorem dX9_learns_29 : decode cX9_learns 29 = .ok (.getfield 16, 3) := by decide +kernel
theorem dX9_learns_32 : decode cX9_learns 32 = .ok (.invokevirtual 186, 3) := by decide +kernel
theorem dX9_learns_35 : decode cX9_learns 35 = .ok (.iconst 0, 1) := by decide +kernel
theorem dX9_learns_36 : decode cX9_learns 36 = .ok (.istore_n 3, 1) := by decide +kernel
theorem dX9_learns_37 : decode cX9_learns 37 = .ok (.iload_n 3, 1) := by decide +kernel
theorem dX9_learns_38 : decode cX9_learns 38 = .ok (.bipush 60, 2) := by decide +kernel
theorem dX9_learns_40 : decode cX9_learns 40 = .ok (.if_icmp .ge 31, 3) := by decide +kernel
theorem dX9_learns_43 : decode cX9_learns 43 = .ok (.aload_n 0, 1) := by decide +kernel
theorem dX9_learns_44 : decode cX9_learns 44 = .ok (.iload_n 1, 1) := by decide +kernel
theorem dX9_learns_45 : decode cX9_learns 45 = .ok (.iconst 0, 1) := by decide +kernel
theorem dX9_learns_46 : decode cX9_learns 46 = .ok (.invokevirtual 71, 3) := by decide +kernel
theorem dX9_learns_49 : decode cX9_learns 49 = .ok (.iload_n 2, 1) := by decide +kernel
theorem dX9_learns_50 : decode cX9_learns 50 = .ok (.invokestatic 74, 3) := by decide +kernel
theorem dX9_learns_53 : decode cX9_learns 53 = .ok (.ifCond .ne 18, 3) := by decide +kernel
theorem dX9_learns_56 : decode cX9_learns 56 = .ok (.aload_n 0, 1) := by decide +kernel
theorem dX9_learns_57 : decode cX9_learns 57 = .ok (.iconst 1, 1) := by decide +kernel
theorem dX9_learns_58 : decode cX9_learns 58 = .ok (.invokevirtual 222, 3) := by decide +kernel
theorem dX9_learns_61 : decode cX9_learns 61 = .ok (.iconst 1, 1) := by decide +kernel
theorem dX9_learns_62 : decode cX9_learns 62 = .ok (.if_icmp .ne 9, 3) := by decide +kernel
theorem dX9_learns_65 : decode cX9_learns 65 = .ok (.iinc 3 1, 3) := by decide +kernel
theorem dX9_learns_68 : decode cX9_learns 68 = .ok (.goto (-31), 3) := by decide +kernel
theorem dX9_learns_71 : decode cX9_learns 71 = .ok (.aload_n 0, 1) := by decide +kernel
theorem dX9_learns_72 : decode cX9_learns 72 = .ok (.iload_n 1, 1) := by decide +kernel
theorem dX9_learns_73 : decode cX9_learns 73 = .ok (.iconst 0, 1) := by decide +kernel
theorem dX9_learns_74 : decode cX9_learns 74 = .ok (.invokevirtual 71, 3) := by decide +kernel
theorem dX9_learns_77 : decode cX9_learns 77 = .ok (.iload_n 2, 1) := by decide +kernel
theorem dX9_learns_78 : decode cX9_learns 78 = .ok (.invokestatic 74, 3) := by decide +kernel
theorem dX9_learns_81 : decode cX9_learns 81 = .ok (.istore 4, 2) := by decide +kernel
theorem dX9_learns_83 : decode cX9_learns 83 = .ok (.aload_n 0, 1) := by decide +kernel
theorem dX9_learns_84 : decode cX9_learns 84 = .ok (.aload_n 0, 1) := by decide +kernel
theorem dX9_learns_85 : decode cX9_learns 85 = .ok (.getfield 16, 3) := by decide +kernel
theorem dX9_learns_88 : decode cX9_learns 88 = .ok (.aload_n 0, 1) := by decide +kernel
theorem dX9_learns_89 : decode cX9_learns 89 = .ok (.getfield 7, 3) := by decide +kernel
theorem dX9_learns_92 : decode cX9_learns 92 = .ok (.invokevirtual 186, 3) := by decide +kernel
theorem dX9_learns_95 : decode cX9_learns 95 = .ok (.iload 4, 2) := by decide +kernel
theorem dX9_learns_97 : decode cX9_learns 97 = .ok (.ifCond .eq 7, 3) := by decide +kernel
theorem dX9_learns_100 : decode cX9_learns 100 = .ok (.iload_n 3, 1) := by decide +kernel
theorem dX9_learns_101 : decode cX9_learns 101 = .ok (.goto 9, 3) := by decide +kernel
theorem dX9_learns_104 : decode cX9_learns 104 = .ok (.aload_n 0, 1) := by decide +kernel
theorem dX9_learns_105 : decode cX9_learns 105 = .ok (.ldc 218, 2) := by decide +kernel
theorem dX9_learns_107 : decode cX9_learns 107 = .ok (.invokevirtual 62, 3) := by decide +kernel
theorem dX9_learns_110 : decode cX9_learns 110 = .ok (.ireturn, 1) := by decide +kernel
theorem dX9_blocked_0 : decode cX9_blocked 0 = .ok (.iconst 0, 1) := by decide +kernel
theorem dX9_blocked_1 : decode cX9_blocked 1 = .ok (.istore_n 1, 1) := by decide +kernel
theorem dX9_blocked_2 : decode cX9_blocked 2 = .ok (.iconst 0, 1) := by decide +kernel
theorem dX9_blocked_3 : decode cX9_blocked 3 = .ok (.istore_n 2, 1) := by decide +kernel
theorem dX9_blocked_4 : decode cX9_blocked 4 = .ok (.iload_n 2, 1) := by decide +kernel
theorem dX9_blocked_5 : decode cX9_blocked 5 = .ok (.aload_n 0, 1) := by decide +kernel
theorem dX9_blocked_6 : decode cX9_blocked 6 = .ok (.getfield 7, 3) := by decide +kernel
theorem dX9_blocked_9 : decode cX9_blocked 9 = .ok (.iconst 3, 1) := by decide +kernel
theorem dX9_blocked_10 : decode cX9_blocked 10 = .ok (.iaload, 1) := by decide +kernel
theorem dX9_blocked_11 : decode cX9_blocked 11 = .ok (.if_icmp .ge 35, 3) := by decide +kernel
theorem dX9_blocked_14 : decode cX9_blocked 14 = .ok (.iload_n 1, 1) := by decide +kernel
theorem dX9_blocked_15 : decode cX9_blocked 15 = .ok (.aload_n 0, 1) := by decide +kernel
theorem dX9_blocked_16 : decode cX9_blocked 16 = .ok (.iload_n 2, 1) := by decide +kernel
theorem dX9_blocked_17 : decode cX9_blocked 17 = .ok (.invokevirtual 78, 3) := by decide +kernel
theorem dX9_blocked_20 : decode cX9_blocked 20 = .ok (.ifCond .ne 17, 3) := by decide +kernel
theorem dX9_blocked_23 : decode cX9_blocked 23 = .ok (.aload_n 0, 1) := by decide +kernel
theorem dX9_blocked_24 : decode cX9_blocked 24 = .ok (.iload_n 2, 1) := by decide +kernel
theorem dX9_blocked_25 : decode cX9_blocked 25 = .ok (.invokevirtual 84, 3) := by decide +kernel
theorem dX9_blocked_28 : decode cX9_blocked 28 = .ok (.ifCond .ne 9, 3) := by decide +kernel
theorem dX9_blocked_31 : decode cX9_blocked 31 = .ok (.iconst 1, 1) := by decide +kernel
theorem dX9_blocked_32 : decode cX9_blocked 32 = .ok (.iload_n 2, 1) := by decide +kernel
theorem dX9_blocked_33 : decode cX9_blocked 33 = .ok (.ishl, 1) := by decide +kernel
theorem dX9_blocked_34 : decode cX9_blocked 34 = .ok (.goto 4, 3) := by decide +kernel
theorem dX9_blocked_37 : decode cX9_blocked 37 = .ok (.iconst 0, 1) := by decide +kernel
theorem dX9_blocked_38 : decode cX9_blocked 38 = .ok (.ior, 1) := by decide +kernel
theorem dX9_blocked_39 : decode cX9_blocked 39 = .ok (.istore_n 1, 1) := by decide +kernel
theorem dX9_blocked_40 : decode cX9_blocked 40 = .ok (.iinc 2 1, 3) := by decide +kernel
theorem dX9_blocked_43 : decode cX9_blocked 43 = .ok (.goto (-39), 3) := by decide +kernel
theorem dX9_blocked_46 : decode cX9_blocked 46 = .ok (.iload_n 1, 1) := by decide +kernel
theorem dX9_blocked_47 : decode cX9_blocked 47 = .ok (.ireturn, 1) := by decide +kernel
theorem dX9_idle_0 : decode cX9_idle 0 = .ok (.iconst 1, 1) := by decide +kernel
theorem dX9_idle_1 : decode cX9_idle 1 = .ok (.aload_n 0, 1) := by decide +kernel
theorem dX9_idle_2 : decode cX9_idle 2 = .ok (.getfield 7, 3) := by decide +kernel
theorem dX9_idle_5 : decode cX9_idle 5 = .ok (.bipush 8, 2) := by decide +kernel
theorem dX9_idle_7 : decode cX9_idle 7 = .ok (.iaload, 1) := by decide +kernel
theorem dX9_idle_8 : decode cX9_idle 8 = .ok (.ishl, 1) := by decide +kernel
theorem dX9_idle_9 : decode cX9_idle 9 = .ok (.iconst 1, 1) := by decide +kernel
theorem dX9_idle_10 : decode cX9_idle 10 = .ok (.isub, 1) := by decide +kernel
theorem dX9_idle_11 : decode cX9_idle 11 = .ok (.istore_n 1, 1) := by decide +kernel
theorem dX9_idle_12 : decode cX9_idle 12 = .ok (.aload_n 0, 1) := by decide +kernel
theorem dX9_idle_13 : decode cX9_idle 13 = .ok (.invokevirtual 203, 3) := by decide +kernel
theorem dX9_idle_16 : decode cX9_idle 16 = .ok (.istore_n 2, 1) := by decide +kernel
theorem dX9_idle_17 : decode cX9_idle 17 = .ok (.iload_n 2, 1) := by decide +kernel
theorem dX9_idle_18 : decode cX9_idle 18 = .ok (.ifCond .eq 55, 3) := by decide +kernel
theorem dX9_idle_21 : decode cX9_idle 21 = .ok (.iconst 0, 1) := by decide +kernel
theorem dX9_idle_22 : decode cX9_idle 22 = .ok (.istore_n 3, 1) := by decide +kernel
theorem dX9_idle_23 : decode cX9_idle 23 = .ok (.iload_n 3, 1) := by decide +kernel
theorem dX9_idle_24 : decode cX9_idle 24 = .ok (.aload_n 0, 1) := by decide +kernel
theorem dX9_idle_25 : decode cX9_idle 25 = .ok (.getfield 7, 3) := by decide +kernel
theorem dX9_idle_28 : decode cX9_idle 28 = .ok (.iconst 3, 1) := by decide +kernel
theorem dX9_idle_29 : decode cX9_idle 29 = .ok (.iaload, 1) := by decide +kernel
theorem dX9_idle_30 : decode cX9_idle 30 = .ok (.if_icmp .ge 35, 3) := by decide +kernel
theorem dX9_idle_33 : decode cX9_idle 33 = .ok (.iload_n 1, 1) := by decide +kernel
theorem dX9_idle_34 : decode cX9_idle 34 = .ok (.aload_n 0, 1) := by decide +kernel
theorem dX9_idle_35 : decode cX9_idle 35 = .ok (.getfield 25, 3) := by decide +kernel
theorem dX9_idle_38 : decode cX9_idle 38 = .ok (.iload_n 3, 1) := by decide +kernel
theorem dX9_idle_39 : decode cX9_idle 39 = .ok (.iaload, 1) := by decide +kernel
theorem dX9_idle_40 : decode cX9_idle 40 = .ok (.ifCond .lt 16, 3) := by decide +kernel
theorem dX9_idle_43 : decode cX9_idle 43 = .ok (.iconst 1, 1) := by decide +kernel
theorem dX9_idle_44 : decode cX9_idle 44 = .ok (.aload_n 0, 1) := by decide +kernel
theorem dX9_idle_45 : decode cX9_idle 45 = .ok (.getfield 25, 3) := by decide +kernel
theorem dX9_idle_48 : decode cX9_idle 48 = .ok (.iload_n 3, 1) := by decide +kernel
theorem dX9_idle_49 : decode cX9_idle 49 = .ok (.iaload, 1) := by decide +kernel
theorem dX9_idle_50 : decode cX9_idle 50 = .ok (.ishl, 1) := by decide +kernel
theorem dX9_idle_51 : decode cX9_idle 51 = .ok (.iconst (-1), 1) := by decide +kernel
theorem dX9_idle_52 : decode cX9_idle 52 = .ok (.ixor, 1) := by decide +kernel
theorem dX9_idle_53 : decode cX9_idle 53 = .ok (.goto 4, 3) := by decide +kernel
theorem dX9_idle_56 : decode cX9_idle 56 = .ok (.iconst (-1), 1) := by decide +kernel
theorem dX9_idle_57 : decode cX9_idle 57 = .ok (.iand, 1) := by decide +kernel
theorem dX9_idle_58 : decode cX9_idle 58 = .ok (.istore_n 1, 1) := by decide +kernel
theorem dX9_idle_59 : decode cX9_idle 59 = .ok (.iinc 3 1, 3) := by decide +kernel
theorem dX9_idle_62 : decode cX9_idle 62 = .ok (.goto (-39), 3) := by decide +kernel
theorem dX9_idle_65 : decode cX9_idle 65 = .ok (.aload_n 0, 1) := by decide +kernel
theorem dX9_idle_66 : decode cX9_idle 66 = .ok (.invokevirtual 219, 3) := by decide +kernel
theorem dX9_idle_69 : decode cX9_idle 69 = .ok (.istore_n 2, 1) := by decide +kernel
theorem dX9_idle_70 : decode cX9_idle 70 = .ok (.goto (-53), 3) := by decide +kernel
theorem dX9_idle_73 : decode cX9_idle 73 = .ok (.iload_n 1, 1) := by decide +kernel
theorem dX9_idle_74 : decode cX9_idle 74 = .ok (.ireturn, 1) := by decide +kernel
theorem dX9_tells_0 : decode cX9_tells 0 = .ok (.iload_n 1, 1) := by decide +kernel
theorem dX9_tells_1 : decode cX9_tells 1 = .ok (.iconst 0, 1) := by decide +kernel
theorem dX9_tells_2 : decode cX9_tells 2 = .ok (.iconst 1, 1) := by decide +kernel
theorem dX9_tells_3 : decode cX9_tells 3 = .ok (.aload_n 0, 1) := by decide +kernel
theorem dX9_tells_4 : decode cX9_tells 4 = .ok (.getfield 7, 3) := by decide +kernel
theorem dX9_tells_7 : decode cX9_tells 7 = .ok (.bipush 8, 2) := by decide +kernel
theorem dX9_tells_9 : decode cX9_tells 9 = .ok (.iaload, 1) := by decide +kernel
theorem dX9_tells_10 : decode cX9_tells 10 = .ok (.ishl, 1) := by decide +kernel
theorem dX9_tells_11 : decode cX9_tells 11 = .ok (.iconst 1, 1) := by decide +kernel
theorem dX9_tells_12 : decode cX9_tells 12 = .ok (.isub, 1) := by decide +kernel
theorem dX9_tells_13 : decode cX9_tells 13 = .ok (.invokestatic 53, 3) := by decide +kernel
theorem dX9_tells_16 : decode cX9_tells 16 = .ok (.ifCond .ne 10, 3) := by decide +kernel
theorem dX9_tells_19 : decode cX9_tells 19 = .ok (.aload_n 0, 1) := by decide +kernel
theorem dX9_tells_20 : decode cX9_tells 20 = .ok (.ldc 61, 2) := by decide +kernel
theorem dX9_tells_22 : decode cX9_tells 22 = .ok (.invokevirtual 62, 3) := by decide +kernel
theorem dX9_tells_25 : decode cX9_tells 25 = .ok (.ireturn, 1) := by decide +kernel
theorem dX9_tells_26 : decode cX9_tells 26 = .ok (.iconst 0, 1) := by decide +kernel
theorem dX9_tells_27 : decode cX9_tells 27 = .ok (.istore_n 2, 1) := by decide +kernel
theorem dX9_tells_28 : decode cX9_tells 28 = .ok (.iconst 0, 1) := by decide +kernel
theorem dX9_tells_29 : decode cX9_tells 29 = .ok (.istore_n 3, 1) := by decide +kernel
theorem dX9_tells_30 : decode cX9_tells 30 = .ok (.iload_n 3, 1) := by decide +kernel
theorem dX9_tells_31 : decode cX9_tells 31 = .ok (.aload_n 0, 1) := by decide +kernel
theorem dX9_tells_32 : decode cX9_tells 32 = .ok (.getfield 7, 3) := by decide +kernel
theorem dX9_tells_35 : decode cX9_tells 35 = .ok (.bipush 8, 2) := by decide +kernel
theorem dX9_tells_37 : decode cX9_tells 37 = .ok (.iaload, 1) := by decide +kernel
theorem dX9_tells_38 : decode cX9_tells 38 = .ok (.if_icmp .ge 30, 3) := by decide +kernel
theorem dX9_tells_41 : decode cX9_tells 41 = .ok (.iload_n 2, 1) := by decide +kernel
theorem dX9_tells_42 : decode cX9_tells 42 = .ok (.iload_n 1, 1) := by decide +kernel
theorem dX9_tells_43 : decode cX9_tells 43 = .ok (.iload_n 3, 1) := by decide +kernel
theorem dX9_tells_44 : decode cX9_tells 44 = .ok (.invokestatic 74, 3) := by decide +kernel
theorem dX9_tells_47 : decode cX9_tells 47 = .ok (.ifCond .eq 12, 3) := by decide +kernel
theorem dX9_tells_50 : decode cX9_tells 50 = .ok (.aload_n 0, 1) := by decide +kernel
theorem dX9_tells_51 : decode cX9_tells 51 = .ok (.iload_n 3, 1) := by decide +kernel
theorem dX9_tells_52 : decode cX9_tells 52 = .ok (.iconst 0, 1) := by decide +kernel
theorem dX9_tells_53 : decode cX9_tells 53 = .ok (.invokevirtual 71, 3) := by decide +kernel
theorem dX9_tells_56 : decode cX9_tells 56 = .ok (.goto 4, 3) := by decide +kernel
theorem dX9_tells_59 : decode cX9_tells 59 = .ok (.iconst 0, 1) := by decide +kernel
theorem dX9_tells_60 : decode cX9_tells 60 = .ok (.ior, 1) := by decide +kernel
theorem dX9_tells_61 : decode cX9_tells 61 = .ok (.istore_n 2, 1) := by decide +kernel
theorem dX9_tells_62 : decode cX9_tells 62 = .ok (.iinc 3 1, 3) := by decide +kernel
theorem dX9_tells_65 : decode cX9_tells 65 = .ok (.goto (-35), 3) := by decide +kernel
theorem dX9_tells_68 : decode cX9_tells 68 = .ok (.iload_n 2, 1) := by decide +kernel
theorem dX9_tells_69 : decode cX9_tells 69 = .ok (.ireturn, 1) := by decide +kernel
theorem dX9_spare_0 : decode cX9_spare 0 = .ok (.aload_n 0, 1) := by decide +kernel
theorem dX9_spare_1 : decode cX9_spare 1 = .ok (.iload_n 1, 1) := by decide +kernel
theorem dX9_spare_2 : decode cX9_spare 2 = .ok (.invokevirtual 110, 3) := by decide +kernel
theorem dX9_spare_5 : decode cX9_spare 5 = .ok (.ifCond .ne 10, 3) := by decide +kernel
theorem dX9_spare_8 : decode cX9_spare 8 = .ok (.aload_n 0, 1) := by decide +kernel
theorem dX9_spare_9 : decode cX9_spare 9 = .ok (.ldc 61, 2) := by decide +kernel
theorem dX9_spare_11 : decode cX9_spare 11 = .ok (.invokevirtual 62, 3) := by decide +kernel
theorem dX9_spare_14 : decode cX9_spare 14 = .ok (.ireturn, 1) := by decide +kernel
theorem dX9_spare_15 : decode cX9_spare 15 = .ok (.aload_n 0, 1) := by decide +kernel
theorem dX9_spare_16 : decode cX9_spare 16 = .ok (.getfield 7, 3) := by decide +kernel
theorem dX9_spare_19 : decode cX9_spare 19 = .ok (.bipush 8, 2) := by decide +kernel
theorem dX9_spare_21 : decode cX9_spare 21 = .ok (.iaload, 1) := by decide +kernel
theorem dX9_spare_22 : decode cX9_spare 22 = .ok (.bipush 6, 2) := by decide +kernel
theorem dX9_spare_24 : decode cX9_spare 24 = .ok (.if_icmp .ne 10, 3) := by decide +kernel
theorem dX9_spare_27 : decode cX9_spare 27 = .ok (.aload_n 0, 1) := by decide +kernel
theorem dX9_spare_28 : decode cX9_spare 28 = .ok (.ldc 66, 2) := by decide +kernel
theorem dX9_spare_30 : decode cX9_spare 30 = .ok (.invokevirtual 62, 3) := by decide +kernel
theorem dX9_spare_33 : decode cX9_spare 33 = .ok (.ireturn, 1) := by decide +kernel
theorem dX9_spare_34 : decode cX9_spare 34 = .ok (.aload_n 0, 1) := by decide +kernel
theorem dX9_spare_35 : decode cX9_spare 35 = .ok (.invokevirtual 225, 3) := by decide +kernel
theorem dX9_spare_38 : decode cX9_spare 38 = .ok (.istore_n 2, 1) := by decide +kernel
theorem dX9_spare_39 : decode cX9_spare 39 = .ok (.aload_n 0, 1) := by decide +kernel
theorem dX9_spare_40 : decode cX9_spare 40 = .ok (.aload_n 0, 1) := by decide +kernel
theorem dX9_spare_41 : decode cX9_spare 41 = .ok (.getfield 7, 3) := by decide +kernel
theorem dX9_spare_44 : decode cX9_spare 44 = .ok (.aload_n 0, 1) := by decide +kernel
theorem dX9_spare_45 : decode cX9_spare 45 = .ok (.getfield 19, 3) := by decide +kernel
theorem dX9_spare_48 : decode cX9_spare 48 = .ok (.invokevirtual 186, 3) := by decide +kernel
theorem dX9_spare_51 : decode cX9_spare 51 = .ok (.aload_n 0, 1) := by decide +kernel
theorem dX9_spare_52 : decode cX9_spare 52 = .ok (.iconst (-1), 1) := by decide +kernel
theorem dX9_spare_53 : decode cX9_spare 53 = .ok (.iload_n 1, 1) := by decide +kernel
theorem dX9_spare_54 : decode cX9_spare 54 = .ok (.invokevirtual 104, 3) := by decide +kernel
theorem dX9_spare_57 : decode cX9_spare 57 = .ok (.istore_n 3, 1) := by decide +kernel
theorem dX9_spare_58 : decode cX9_spare 58 = .ok (.iload_n 3, 1) := by decide +kernel
theorem dX9_spare_59 : decode cX9_spare 59 = .ok (.ifCond .ge 7, 3) := by decide +kernel
theorem dX9_spare_62 : decode cX9_spare 62 = .ok (.iconst 0, 1) := by decide +kernel
theorem dX9_spare_63 : decode cX9_spare 63 = .ok (.goto 7, 3) := by decide +kernel
theorem dX9_spare_66 : decode cX9_spare 66 = .ok (.aload_n 0, 1) := by decide +kernel
theorem dX9_spare_67 : decode cX9_spare 67 = .ok (.invokevirtual 225, 3) := by decide +kernel
theorem dX9_spare_70 : decode cX9_spare 70 = .ok (.istore 4, 2) := by decide +kernel
theorem dX9_spare_72 : decode cX9_spare 72 = .ok (.aload_n 0, 1) := by decide +kernel
theorem dX9_spare_73 : decode cX9_spare 73 = .ok (.aload_n 0, 1) := by decide +kernel
theorem dX9_spare_74 : decode cX9_spare 74 = .ok (.getfield 19, 3) := by decide +kernel
theorem dX9_spare_77 : decode cX9_spare 77 = .ok (.aload_n 0, 1) := by decide +kernel
theorem dX9_spare_78 : decode cX9_spare 78 = .ok (.getfield 7, 3) := by decide +kernel
theorem dX9_spare_81 : decode cX9_spare 81 = .ok (.invokevirtual 186, 3) := by decide +kernel
theorem dX9_spare_84 : decode cX9_spare 84 = .ok (.iload 4, 2) := by decide +kernel
theorem dX9_spare_86 : decode cX9_spare 86 = .ok (.iload_n 2, 1) := by decide +kernel
theorem dX9_spare_87 : decode cX9_spare 87 = .ok (.isub, 1) := by decide +kernel
theorem dX9_spare_88 : decode cX9_spare 88 = .ok (.ireturn, 1) := by decide +kernel
theorem dX9_isSheet_0 : decode cX9_isSheet 0 = .ok (.iload_n 0, 1) := by decide +kernel
theorem dX9_isSheet_1 : decode cX9_isSheet 1 = .ok (.iconst 0, 1) := by decide +kernel
theorem dX9_isSheet_2 : decode cX9_isSheet 2 = .ok (.iconst 3, 1) := by decide +kernel
theorem dX9_isSheet_3 : decode cX9_isSheet 3 = .ok (.invokestatic 53, 3) := by decide +kernel
theorem dX9_isSheet_6 : decode cX9_isSheet 6 = .ok (.ireturn, 1) := by decide +kernel
theorem dX9_changes_0 : decode cX9_changes 0 = .ok (.iload_n 1, 1) := by decide +kernel
theorem dX9_changes_1 : decode cX9_changes 1 = .ok (.invokestatic 228, 3) := by decide +kernel
theorem dX9_changes_4 : decode cX9_changes 4 = .ok (.ifCond .eq 11, 3) := by decide +kernel
theorem dX9_changes_7 : decode cX9_changes 7 = .ok (.aload_n 0, 1) := by decide +kernel
theorem dX9_changes_8 : decode cX9_changes 8 = .ok (.iload_n 2, 1) := by decide +kernel
theorem dX9_changes_9 : decode cX9_changes 9 = .ok (.invokevirtual 107, 3) := by decide +kernel
theorem dX9_changes_12 : decode cX9_changes 12 = .ok (.ifCond .ne 10, 3) := by decide +kernel
theorem dX9_changes_15 : decode cX9_changes 15 = .ok (.aload_n 0, 1) := by decide +kernel
theorem dX9_changes_16 : decode cX9_changes 16 = .ok (.ldc 61, 2) := by decide +kernel
theorem dX9_changes_18 : decode cX9_changes 18 = .ok (.invokevirtual 62, 3) := by decide +kernel
theorem dX9_changes_21 : decode cX9_changes 21 = .ok (.ireturn, 1) := by decide +kernel
theorem dX9_changes_22 : decode cX9_changes 22 = .ok (.aload_n 0, 1) := by decide +kernel
theorem dX9_changes_23 : decode cX9_changes 23 = .ok (.getfield 37, 3) := by decide +kernel
theorem dX9_changes_26 : decode cX9_changes 26 = .ok (.iload_n 1, 1) := by decide +kernel
theorem dX9_changes_27 : decode cX9_changes 27 = .ok (.iaload, 1) := by decide +kernel
theorem dX9_changes_28 : decode cX9_changes 28 = .ok (.ifCond .eq 18, 3) := by decide +kernel
theorem dX9_changes_31 : decode cX9_changes 31 = .ok (.aload_n 0, 1) := by decide +kernel
theorem dX9_changes_32 : decode cX9_changes 32 = .ok (.getfield 40, 3) := by decide +kernel
theorem dX9_changes_35 : decode cX9_changes 35 = .ok (.iload_n 1, 1) := by decide +kernel
theorem dX9_changes_36 : decode cX9_changes 36 = .ok (.iaload, 1) := by decide +kernel
theorem dX9_changes_37 : decode cX9_changes 37 = .ok (.aload_n 0, 1) := by decide +kernel
theorem dX9_changes_38 : decode cX9_changes 38 = .ok (.getfield 7, 3) := by decide +kernel
theorem dX9_changes_41 : decode cX9_changes 41 = .ok (.iconst 3, 1) := by decide +kernel
theorem dX9_changes_42 : decode cX9_changes 42 = .ok (.iaload, 1) := by decide +kernel
theorem dX9_changes_43 : decode cX9_changes 43 = .ok (.if_icmp .eq 10, 3) := by decide +kernel
theorem dX9_changes_46 : decode cX9_changes 46 = .ok (.aload_n 0, 1) := by decide +kernel
theorem dX9_changes_47 : decode cX9_changes 47 = .ok (.ldc 218, 2) := by decide +kernel
theorem dX9_changes_49 : decode cX9_changes 49 = .ok (.invokevirtual 62, 3) := by decide +kernel
theorem dX9_changes_52 : decode cX9_changes 52 = .ok (.ireturn, 1) := by decide +kernel
theorem dX9_changes_53 : decode cX9_changes 53 = .ok (.iconst (-1), 1) := by decide +kernel
theorem dX9_changes_54 : decode cX9_changes 54 = .ok (.istore_n 3, 1) := by decide +kernel
theorem dX9_changes_55 : decode cX9_changes 55 = .ok (.aload_n 0, 1) := by decide +kernel
theorem dX9_changes_56 : decode cX9_changes 56 = .ok (.invokevirtual 203, 3) := by decide +kernel
theorem dX9_changes_59 : decode cX9_changes 59 = .ok (.istore 4, 2) := by decide +kernel
theorem dX9_changes_61 : decode cX9_changes 61 = .ok (.iload 4, 2) := by decide +kernel
theorem dX9_changes_63 : decode cX9_changes 63 = .ok (.ifCond .eq 115, 3) := by decide +kernel
theorem dX9_changes_66 : decode cX9_changes 66 = .ok (.iconst 0, 1) := by decide +kernel
theorem dX9_changes_67 : decode cX9_changes 67 = .ok (.istore 5, 2) := by decide +kernel
theorem dX9_changes_69 : decode cX9_changes 69 = .ok (.iconst 1, 1) := by decide +kernel
theorem dX9_changes_70 : decode cX9_changes 70 = .ok (.istore 6, 2) := by decide +kernel
theorem dX9_changes_72 : decode cX9_changes 72 = .ok (.iconst 0, 1) := by decide +kernel
theorem dX9_changes_73 : decode cX9_changes 73 = .ok (.istore 7, 2) := by decide +kernel
theorem dX9_changes_75 : decode cX9_changes 75 = .ok (.iload 7, 2) := by decide +kernel
theorem dX9_changes_77 : decode cX9_changes 77 = .ok (.aload_n 0, 1) := by decide +kernel
theorem dX9_changes_78 : decode cX9_changes 78 = .ok (.getfield 7, 3) := by decide +kernel
theorem dX9_changes_81 : decode cX9_changes 81 = .ok (.iconst 3, 1) := by decide +kernel
theorem dX9_changes_82 : decode cX9_changes 82 = .ok (.iaload, 1) := by decide +kernel
theorem dX9_changes_83 : decode cX9_changes 83 = .ok (.if_icmp .ge 64, 3) := by decide +kernel
theorem dX9_changes_86 : decode cX9_changes 86 = .ok (.iload 5, 2) := by decide +kernel
theorem dX9_changes_88 : decode cX9_changes 88 = .ok (.aload_n 0, 1) := by decide +kernel
theorem dX9_changes_89 : decode cX9_changes 89 = .ok (.getfield 25, 3) := by decide +kernel
theorem dX9_changes_92 : decode cX9_changes 92 = .ok (.iload 7, 2) := by decide +kernel
theorem dX9_changes_94 : decode cX9_changes 94 = .ok (.iaload, 1) := by decide +kernel
theorem dX9_changes_95 : decode cX9_changes 95 = .ok (.aload_n 0, 1) := by decide +kernel
theorem dX9_changes_96 : decode cX9_changes 96 = .ok (.getfield 43, 3) := by decide +kernel
theorem dX9_changes_99 : decode cX9_changes 99 = .ok (.bipush 40, 2) := by decide +kernel
theorem dX9_changes_101 : decode cX9_changes 101 = .ok (.iload_n 1, 1) := by decide +kernel
theorem dX9_changes_102 : decode cX9_changes 102 = .ok (.imul, 1) := by decide +kernel
theorem dX9_changes_103 : decode cX9_changes 103 = .ok (.iload 7, 2) := by decide +kernel
theorem dX9_changes_105 : decode cX9_changes 105 = .ok (.iadd, 1) := by decide +kernel
theorem dX9_changes_106 : decode cX9_changes 106 = .ok (.iaload, 1) := by decide +kernel
theorem dX9_changes_107 : decode cX9_changes 107 = .ok (.if_icmp .ne 7, 3) := by decide +kernel
theorem dX9_changes_110 : decode cX9_changes 110 = .ok (.iconst 0, 1) := by decide +kernel
theorem dX9_changes_111 : decode cX9_changes 111 = .ok (.goto 4, 3) := by decide +kernel
theorem dX9_changes_114 : decode cX9_changes 114 = .ok (.iconst 1, 1) := by decide +kernel
theorem dX9_changes_115 : decode cX9_changes 115 = .ok (.iadd, 1) := by decide +kernel
theorem dX9_changes_116 : decode cX9_changes 116 = .ok (.istore 5, 2) := by decide +kernel
theorem dX9_changes_118 : decode cX9_changes 118 = .ok (.iload 6, 2) := by decide +kernel
theorem dX9_changes_120 : decode cX9_changes 120 = .ok (.ifCond .eq 18, 3) := by decide +kernel
theorem dX9_changes_123 : decode cX9_changes 123 = .ok (.aload_n 0, 1) := by decide +kernel
theorem dX9_changes_124 : decode cX9_changes 124 = .ok (.getfield 25, 3) := by decide +kernel
theorem dX9_changes_127 : decode cX9_changes 127 = .ok (.iload 7, 2) := by decide +kernel
theorem dX9_changes_129 : decode cX9_changes 129 = .ok (.iaload, 1) := by decide +kernel
theorem dX9_changes_130 : decode cX9_changes 130 = .ok (.iload_n 2, 1) := by decide +kernel
theorem dX9_changes_131 : decode cX9_changes 131 = .ok (.if_icmp .eq 7, 3) := by decide +kernel
theorem dX9_changes_134 : decode cX9_changes 134 = .ok (.iconst 1, 1) := by decide +kernel
theorem dX9_changes_135 : decode cX9_changes 135 = .ok (.goto 4, 3) := by decide +kernel
theorem dX9_changes_138 : decode cX9_changes 138 = .ok (.iconst 0, 1) := by decide +kernel
theorem dX9_changes_139 : decode cX9_changes 139 = .ok (.istore 6, 2) := by decide +kernel
theorem dX9_changes_141 : decode cX9_changes 141 = .ok (.iinc 7 1, 3) := by decide +kernel
theorem dX9_changes_144 : decode cX9_changes 144 = .ok (.goto (-69), 3) := by decide +kernel
theorem dX9_changes_147 : decode cX9_changes 147 = .ok (.iload 6, 2) := by decide +kernel
theorem dX9_changes_149 : decode cX9_changes 149 = .ok (.ifCond .eq 18, 3) := by decide +kernel
theorem dX9_changes_152 : decode cX9_changes 152 = .ok (.iload_n 3, 1) := by decide +kernel
theorem dX9_changes_153 : decode cX9_changes 153 = .ok (.ifCond .lt 9, 3) := by decide +kernel
theorem dX9_changes_156 : decode cX9_changes 156 = .ok (.iload 5, 2) := by decide +kernel
theorem dX9_changes_158 : decode cX9_changes 158 = .ok (.iload_n 3, 1) := by decide +kernel
theorem dX9_changes_159 : decode cX9_changes 159 = .ok (.if_icmp .ge 8, 3) := by decide +kernel
theorem dX9_changes_162 : decode cX9_changes 162 = .ok (.iload 5, 2) := by decide +kernel
theorem dX9_changes_164 : decode cX9_changes 164 = .ok (.goto 4, 3) := by decide +kernel
theorem dX9_changes_167 : decode cX9_changes 167 = .ok (.iload_n 3, 1) := by decide +kernel
theorem dX9_changes_168 : decode cX9_changes 168 = .ok (.istore_n 3, 1) := by decide +kernel
theorem dX9_changes_169 : decode cX9_changes 169 = .ok (.aload_n 0, 1) := by decide +kernel
theorem dX9_changes_170 : decode cX9_changes 170 = .ok (.invokevirtual 219, 3) := by decide +kernel
theorem dX9_changes_173 : decode cX9_changes 173 = .ok (.istore 4, 2) := by decide +kernel
theorem dX9_changes_175 : decode cX9_changes 175 = .ok (.goto (-114), 3) := by decide +kernel
theorem dX9_changes_178 : decode cX9_changes 178 = .ok (.iload_n 3, 1) := by decide +kernel
theorem dX9_changes_179 : decode cX9_changes 179 = .ok (.ifCond .ge 12, 3) := by decide +kernel
theorem dX9_changes_182 : decode cX9_changes 182 = .ok (.aload_n 0, 1) := by decide +kernel
theorem dX9_changes_183 : decode cX9_changes 183 = .ok (.ldc 218, 2) := by decide +kernel
theorem dX9_changes_185 : decode cX9_changes 185 = .ok (.invokevirtual 62, 3) := by decide +kernel
theorem dX9_changes_188 : decode cX9_changes 188 = .ok (.goto 4, 3) := by decide +kernel
theorem dX9_changes_191 : decode cX9_changes 191 = .ok (.iload_n 3, 1) := by decide +kernel
theorem dX9_changes_192 : decode cX9_changes 192 = .ok (.ireturn, 1) := by decide +kernel
theorem dX9_fits_0 : decode cX9_fits 0 = .ok (.iload_n 1, 1) := by decide +kernel
theorem dX9_fits_1 : decode cX9_fits 1 = .ok (.invokestatic 228, 3) := by decide +kernel
theorem dX9_fits_4 : decode cX9_fits 4 = .ok (.ifCond .eq 19, 3) := by decide +kernel
theorem dX9_fits_7 : decode cX9_fits 7 = .ok (.iload_n 2, 1) := by decide +kernel
theorem dX9_fits_8 : decode cX9_fits 8 = .ok (.iconst (-1), 1) := by decide +kernel
theorem dX9_fits_9 : decode cX9_fits 9 = .ok (.aload_n 0, 1) := by decide +kernel
theorem dX9_fits_10 : decode cX9_fits 10 = .ok (.getfield 7, 3) := by decide +kernel
theorem dX9_fits_13 : decode cX9_fits 13 = .ok (.iconst 3, 1) := by decide +kernel
theorem dX9_fits_14 : decode cX9_fits 14 = .ok (.iaload, 1) := by decide +kernel
theorem dX9_fits_15 : decode cX9_fits 15 = .ok (.iconst 1, 1) := by decide +kernel
theorem dX9_fits_16 : decode cX9_fits 16 = .ok (.isub, 1) := by decide +kernel
theorem dX9_fits_17 : decode cX9_fits 17 = .ok (.invokestatic 53, 3) := by decide +kernel
theorem dX9_fits_20 : decode cX9_fits 20 = .ok (.ifCond .ne 10, 3) := by decide +kernel
theorem dX9_fits_23 : decode cX9_fits 23 = .ok (.aload_n 0, 1) := by decide +kernel
theorem dX9_fits_24 : decode cX9_fits 24 = .ok (.ldc 61, 2) := by decide +kernel
theorem dX9_fits_26 : decode cX9_fits 26 = .ok (.invokevirtual 62, 3) := by decide +kernel
theorem dX9_fits_29 : decode cX9_fits 29 = .ok (.ireturn, 1) := by decide +kernel
theorem dX9_fits_30 : decode cX9_fits 30 = .ok (.aload_n 0, 1) := by decide +kernel
theorem dX9_fits_31 : decode cX9_fits 31 = .ok (.getfield 37, 3) := by decide +kernel
theorem dX9_fits_34 : decode cX9_fits 34 = .ok (.iload_n 1, 1) := by decide +kernel
theorem dX9_fits_35 : decode cX9_fits 35 = .ok (.iaload, 1) := by decide +kernel
theorem dX9_fits_36 : decode cX9_fits 36 = .ok (.ifCond .eq 19, 3) := by decide +kernel
theorem dX9_fits_39 : decode cX9_fits 39 = .ok (.aload_n 0, 1) := by decide +kernel
theorem dX9_fits_40 : decode cX9_fits 40 = .ok (.getfield 40, 3) := by decide +kernel
theorem dX9_fits_43 : decode cX9_fits 43 = .ok (.iload_n 1, 1) := by decide +kernel
theorem dX9_fits_44 : decode cX9_fits 44 = .ok (.iaload, 1) := by decide +kernel
theorem dX9_fits_45 : decode cX9_fits 45 = .ok (.aload_n 0, 1) := by decide +kernel
theorem dX9_fits_46 : decode cX9_fits 46 = .ok (.getfield 7, 3) := by decide +kernel
theorem dX9_fits_49 : decode cX9_fits 49 = .ok (.bipush 8, 2) := by decide +kernel
theorem dX9_fits_51 : decode cX9_fits 51 = .ok (.iaload, 1) := by decide +kernel
theorem dX9_fits_52 : decode cX9_fits 52 = .ok (.if_icmp .eq 10, 3) := by decide +kernel
theorem dX9_fits_55 : decode cX9_fits 55 = .ok (.aload_n 0, 1) := by decide +kernel
theorem dX9_fits_56 : decode cX9_fits 56 = .ok (.ldc 218, 2) := by decide +kernel
theorem dX9_fits_58 : decode cX9_fits 58 = .ok (.invokevirtual 62, 3) := by decide +kernel
theorem dX9_fits_61 : decode cX9_fits 61 = .ok (.ireturn, 1) := by decide +kernel
theorem dX9_fits_62 : decode cX9_fits 62 = .ok (.iconst 0, 1) := by decide +kernel
theorem dX9_fits_63 : decode cX9_fits 63 = .ok (.istore_n 3, 1) := by decide +kernel
theorem dX9_fits_64 : decode cX9_fits 64 = .ok (.aload_n 0, 1) := by decide +kernel
theorem dX9_fits_65 : decode cX9_fits 65 = .ok (.aload_n 0, 1) := by decide +kernel
theorem dX9_fits_66 : decode cX9_fits 66 = .ok (.getfield 7, 3) := by decide +kernel
theorem dX9_fits_69 : decode cX9_fits 69 = .ok (.aload_n 0, 1) := by decide +kernel
theorem dX9_fits_70 : decode cX9_fits 70 = .ok (.getfield 16, 3) := by decide +kernel
theorem dX9_fits_73 : decode cX9_fits 73 = .ok (.invokevirtual 186, 3) := by decide +kernel
theorem dX9_fits_76 : decode cX9_fits 76 = .ok (.aload_n 0, 1) := by decide +kernel
theorem dX9_fits_77 : decode cX9_fits 77 = .ok (.invokevirtual 203, 3) := by decide +kernel
theorem dX9_fits_80 : decode cX9_fits 80 = .ok (.istore 4, 2) := by decide +kernel
theorem dX9_fits_82 : decode cX9_fits 82 = .ok (.iload 4, 2) := by decide +kernel
theorem dX9_fits_84 : decode cX9_fits 84 = .ok (.ifCond .eq 142, 3) := by decide +kernel
theorem dX9_fits_87 : decode cX9_fits 87 = .ok (.aload_n 0, 1) := by decide +kernel
theorem dX9_fits_88 : decode cX9_fits 88 = .ok (.invokevirtual 207, 3) := by decide +kernel
theorem dX9_fits_91 : decode cX9_fits 91 = .ok (.iconst 1, 1) := by decide +kernel
theorem dX9_fits_92 : decode cX9_fits 92 = .ok (.istore 5, 2) := by decide +kernel
theorem dX9_fits_94 : decode cX9_fits 94 = .ok (.iconst 0, 1) := by decide +kernel
theorem dX9_fits_95 : decode cX9_fits 95 = .ok (.istore 6, 2) := by decide +kernel
theorem dX9_fits_97 : decode cX9_fits 97 = .ok (.iload 6, 2) := by decide +kernel
theorem dX9_fits_99 : decode cX9_fits 99 = .ok (.aload_n 0, 1) := by decide +kernel
theorem dX9_fits_100 : decode cX9_fits 100 = .ok (.getfield 7, 3) := by decide +kernel
theorem dX9_fits_103 : decode cX9_fits 103 = .ok (.bipush 8, 2) := by decide +kernel
theorem dX9_fits_105 : decode cX9_fits 105 = .ok (.iaload, 1) := by decide +kernel
theorem dX9_fits_106 : decode cX9_fits 106 = .ok (.if_icmp .ge 43, 3) := by decide +kernel
theorem dX9_fits_109 : decode cX9_fits 109 = .ok (.iload 5, 2) := by decide +kernel
theorem dX9_fits_111 : decode cX9_fits 111 = .ok (.ifCond .eq 29, 3) := by decide +kernel
theorem dX9_fits_114 : decode cX9_fits 114 = .ok (.aload_n 0, 1) := by decide +kernel
theorem dX9_fits_115 : decode cX9_fits 115 = .ok (.iload 6, 2) := by decide +kernel
theorem dX9_fits_117 : decode cX9_fits 117 = .ok (.iconst 3, 1) := by decide +kernel
theorem dX9_fits_118 : decode cX9_fits 118 = .ok (.invokevirtual 71, 3) := by decide +kernel
theorem dX9_fits_121 : decode cX9_fits 121 = .ok (.aload_n 0, 1) := by decide +kernel
theorem dX9_fits_122 : decode cX9_fits 122 = .ok (.getfield 43, 3) := by decide +kernel
theorem dX9_fits_125 : decode cX9_fits 125 = .ok (.bipush 40, 2) := by decide +kernel
theorem dX9_fits_127 : decode cX9_fits 127 = .ok (.iload_n 1, 1) := by decide +kernel
theorem dX9_fits_128 : decode cX9_fits 128 = .ok (.imul, 1) := by decide +kernel
theorem dX9_fits_129 : decode cX9_fits 129 = .ok (.iload 6, 2) := by decide +kernel
theorem dX9_fits_131 : decode cX9_fits 131 = .ok (.iadd, 1) := by decide +kernel
theorem dX9_fits_132 : decode cX9_fits 132 = .ok (.iaload, 1) := by decide +kernel
theorem dX9_fits_133 : decode cX9_fits 133 = .ok (.if_icmp .ne 7, 3) := by decide +kernel
theorem dX9_fits_136 : decode cX9_fits 136 = .ok (.iconst 1, 1) := by decide +kernel
theorem dX9_fits_137 : decode cX9_fits 137 = .ok (.goto 4, 3) := by decide +kernel
theorem dX9_fits_140 : decode cX9_fits 140 = .ok (.iconst 0, 1) := by decide +kernel
theorem dX9_fits_141 : decode cX9_fits 141 = .ok (.istore 5, 2) := by decide +kernel
theorem dX9_fits_143 : decode cX9_fits 143 = .ok (.iinc 6 1, 3) := by decide +kernel
theorem dX9_fits_146 : decode cX9_fits 146 = .ok (.goto (-49), 3) := by decide +kernel
theorem dX9_fits_149 : decode cX9_fits 149 = .ok (.aload_n 0, 1) := by decide +kernel
theorem dX9_fits_150 : decode cX9_fits 150 = .ok (.aload_n 0, 1) := by decide +kernel
theorem dX9_fits_151 : decode cX9_fits 151 = .ok (.getfield 16, 3) := by decide +kernel
theorem dX9_fits_154 : decode cX9_fits 154 = .ok (.aload_n 0, 1) := by decide +kernel
theorem dX9_fits_155 : decode cX9_fits 155 = .ok (.getfield 7, 3) := by decide +kernel
theorem dX9_fits_158 : decode cX9_fits 158 = .ok (.invokevirtual 186, 3) := by decide +kernel
theorem dX9_fits_161 : decode cX9_fits 161 = .ok (.iconst 0, 1) := by decide +kernel
theorem dX9_fits_162 : decode cX9_fits 162 = .ok (.istore 6, 2) := by decide +kernel
theorem dX9_fits_164 : decode cX9_fits 164 = .ok (.iload 6, 2) := by decide +kernel
theorem dX9_fits_166 : decode cX9_fits 166 = .ok (.aload_n 0, 1) := by decide +kernel
theorem dX9_fits_167 : decode cX9_fits 167 = .ok (.getfield 7, 3) := by decide +kernel
theorem dX9_fits_170 : decode cX9_fits 170 = .ok (.iconst 3, 1) := by decide +kernel
theorem dX9_fits_171 : decode cX9_fits 171 = .ok (.iaload, 1) := by decide +kernel
theorem dX9_fits_172 : decode cX9_fits 172 = .ok (.if_icmp .ge 32, 3) := by decide +kernel
theorem dX9_fits_175 : decode cX9_fits 175 = .ok (.iload 5, 2) := by decide +kernel
theorem dX9_fits_177 : decode cX9_fits 177 = .ok (.ifCond .eq 27, 3) := by decide +kernel
theorem dX9_fits_180 : decode cX9_fits 180 = .ok (.iload_n 3, 1) := by decide +kernel
theorem dX9_fits_181 : decode cX9_fits 181 = .ok (.ifCond .ne 23, 3) := by decide +kernel
theorem dX9_fits_184 : decode cX9_fits 184 = .ok (.aload_n 0, 1) := by decide +kernel
theorem dX9_fits_185 : decode cX9_fits 185 = .ok (.getfield 28, 3) := by decide +kernel
theorem dX9_fits_188 : decode cX9_fits 188 = .ok (.iload 6, 2) := by decide +kernel
theorem dX9_fits_190 : decode cX9_fits 190 = .ok (.aload_n 0, 1) := by decide +kernel
theorem dX9_fits_191 : decode cX9_fits 191 = .ok (.getfield 25, 3) := by decide +kernel
theorem dX9_fits_194 : decode cX9_fits 194 = .ok (.iload 6, 2) := by decide +kernel
theorem dX9_fits_196 : decode cX9_fits 196 = .ok (.iaload, 1) := by decide +kernel
theorem dX9_fits_197 : decode cX9_fits 197 = .ok (.iastore, 1) := by decide +kernel
theorem dX9_fits_198 : decode cX9_fits 198 = .ok (.iinc 6 1, 3) := by decide +kernel
theorem dX9_fits_201 : decode cX9_fits 201 = .ok (.goto (-37), 3) := by decide +kernel
theorem dX9_fits_204 : decode cX9_fits 204 = .ok (.iload_n 3, 1) := by decide +kernel
theorem dX9_fits_205 : decode cX9_fits 205 = .ok (.iload 5, 2) := by decide +kernel
theorem dX9_fits_207 : decode cX9_fits 207 = .ok (.ifCond .eq 7, 3) := by decide +kernel
theorem dX9_fits_210 : decode cX9_fits 210 = .ok (.iconst 1, 1) := by decide +kernel
theorem dX9_fits_211 : decode cX9_fits 211 = .ok (.goto 4, 3) := by decide +kernel
theorem dX9_fits_214 : decode cX9_fits 214 = .ok (.iconst 0, 1) := by decide +kernel
theorem dX9_fits_215 : decode cX9_fits 215 = .ok (.iadd, 1) := by decide +kernel
theorem dX9_fits_216 : decode cX9_fits 216 = .ok (.istore_n 3, 1) := by decide +kernel
theorem dX9_fits_217 : decode cX9_fits 217 = .ok (.aload_n 0, 1) := by decide +kernel
theorem dX9_fits_218 : decode cX9_fits 218 = .ok (.invokevirtual 219, 3) := by decide +kernel
theorem dX9_fits_221 : decode cX9_fits 221 = .ok (.istore 4, 2) := by decide +kernel
theorem dX9_fits_223 : decode cX9_fits 223 = .ok (.goto (-141), 3) := by decide +kernel
theorem dX9_fits_226 : decode cX9_fits 226 = .ok (.iload_n 2, 1) := by decide +kernel
theorem dX9_fits_227 : decode cX9_fits 227 = .ok (.ifCond .lt 14, 3) := by decide +kernel
theorem dX9_fits_230 : decode cX9_fits 230 = .ok (.iload_n 3, 1) := by decide +kernel
theorem dX9_fits_231 : decode cX9_fits 231 = .ok (.ifCond .ne 10, 3) := by decide +kernel
theorem dX9_fits_234 : decode cX9_fits 234 = .ok (.aload_n 0, 1) := by decide +kernel
theorem dX9_fits_235 : decode cX9_fits 235 = .ok (.ldc 218, 2) := by decide +kernel
theorem dX9_fits_237 : decode cX9_fits 237 = .ok (.invokevirtual 62, 3) := by decide +kernel
theorem dX9_fits_240 : decode cX9_fits 240 = .ok (.ireturn, 1) := by decide +kernel
theorem dX9_fits_241 : decode cX9_fits 241 = .ok (.iload_n 2, 1) := by decide +kernel
theorem dX9_fits_242 : decode cX9_fits 242 = .ok (.ifCond .ge 7, 3) := by decide +kernel
theorem dX9_fits_245 : decode cX9_fits 245 = .ok (.iload_n 3, 1) := by decide +kernel
theorem dX9_fits_246 : decode cX9_fits 246 = .ok (.goto 9, 3) := by decide +kernel
theorem dX9_fits_249 : decode cX9_fits 249 = .ok (.aload_n 0, 1) := by decide +kernel
theorem dX9_fits_250 : decode cX9_fits 250 = .ok (.getfield 28, 3) := by decide +kernel
theorem dX9_fits_253 : decode cX9_fits 253 = .ok (.iload_n 2, 1) := by decide +kernel
theorem dX9_fits_254 : decode cX9_fits 254 = .ok (.iaload, 1) := by decide +kernel
theorem dX9_fits_255 : decode cX9_fits 255 = .ok (.ireturn, 1) := by decide +kernel
theorem dX9_wrong_0 : decode cX9_wrong 0 = .ok (.iconst 0, 1) := by decide +kernel
theorem dX9_wrong_1 : decode cX9_wrong 1 = .ok (.istore_n 2, 1) := by decide +kernel
theorem dX9_wrong_2 : decode cX9_wrong 2 = .ok (.iload_n 2, 1) := by decide +kernel
theorem dX9_wrong_3 : decode cX9_wrong 3 = .ok (.aload_n 0, 1) := by decide +kernel
theorem dX9_wrong_4 : decode cX9_wrong 4 = .ok (.getfield 7, 3) := by decide +kernel
theorem dX9_wrong_7 : decode cX9_wrong 7 = .ok (.iconst 3, 1) := by decide +kernel
theorem dX9_wrong_8 : decode cX9_wrong 8 = .ok (.iaload, 1) := by decide +kernel
theorem dX9_wrong_9 : decode cX9_wrong 9 = .ok (.if_icmp .ge 55, 3) := by decide +kernel
theorem dX9_wrong_12 : decode cX9_wrong 12 = .ok (.iload_n 2, 1) := by decide +kernel
theorem dX9_wrong_13 : decode cX9_wrong 13 = .ok (.aload_n 0, 1) := by decide +kernel
theorem dX9_wrong_14 : decode cX9_wrong 14 = .ok (.getfield 40, 3) := by decide +kernel
theorem dX9_wrong_17 : decode cX9_wrong 17 = .ok (.iload_n 1, 1) := by decide +kernel
theorem dX9_wrong_18 : decode cX9_wrong 18 = .ok (.iaload, 1) := by decide +kernel
theorem dX9_wrong_19 : decode cX9_wrong 19 = .ok (.if_icmp .ge 45, 3) := by decide +kernel
theorem dX9_wrong_22 : decode cX9_wrong 22 = .ok (.aload_n 0, 1) := by decide +kernel
theorem dX9_wrong_23 : decode cX9_wrong 23 = .ok (.iload_n 2, 1) := by decide +kernel
theorem dX9_wrong_24 : decode cX9_wrong 24 = .ok (.aload_n 0, 1) := by decide +kernel
theorem dX9_wrong_25 : decode cX9_wrong 25 = .ok (.getfield 43, 3) := by decide +kernel
theorem dX9_wrong_28 : decode cX9_wrong 28 = .ok (.bipush 40, 2) := by decide +kernel
theorem dX9_wrong_30 : decode cX9_wrong 30 = .ok (.iload_n 1, 1) := by decide +kernel
theorem dX9_wrong_31 : decode cX9_wrong 31 = .ok (.imul, 1) := by decide +kernel
theorem dX9_wrong_32 : decode cX9_wrong 32 = .ok (.iload_n 2, 1) := by decide +kernel
theorem dX9_wrong_33 : decode cX9_wrong 33 = .ok (.iadd, 1) := by decide +kernel
theorem dX9_wrong_34 : decode cX9_wrong 34 = .ok (.iaload, 1) := by decide +kernel
theorem dX9_wrong_35 : decode cX9_wrong 35 = .ok (.invokevirtual 193, 3) := by decide +kernel
theorem dX9_wrong_38 : decode cX9_wrong 38 = .ok (.ifCond .eq 26, 3) := by decide +kernel
theorem dX9_wrong_41 : decode cX9_wrong 41 = .ok (.aload_n 0, 1) := by decide +kernel
theorem dX9_wrong_42 : decode cX9_wrong 42 = .ok (.getfield 25, 3) := by decide +kernel
theorem dX9_wrong_45 : decode cX9_wrong 45 = .ok (.iload_n 2, 1) := by decide +kernel
theorem dX9_wrong_46 : decode cX9_wrong 46 = .ok (.aload_n 0, 1) := by decide +kernel
theorem dX9_wrong_47 : decode cX9_wrong 47 = .ok (.getfield 43, 3) := by decide +kernel
theorem dX9_wrong_50 : decode cX9_wrong 50 = .ok (.bipush 40, 2) := by decide +kernel
theorem dX9_wrong_52 : decode cX9_wrong 52 = .ok (.iload_n 1, 1) := by decide +kernel
theorem dX9_wrong_53 : decode cX9_wrong 53 = .ok (.imul, 1) := by decide +kernel
theorem dX9_wrong_54 : decode cX9_wrong 54 = .ok (.iload_n 2, 1) := by decide +kernel
theorem dX9_wrong_55 : decode cX9_wrong 55 = .ok (.iadd, 1) := by decide +kernel
theorem dX9_wrong_56 : decode cX9_wrong 56 = .ok (.iaload, 1) := by decide +kernel
theorem dX9_wrong_57 : decode cX9_wrong 57 = .ok (.iastore, 1) := by decide +kernel
theorem dX9_wrong_58 : decode cX9_wrong 58 = .ok (.iinc 2 1, 3) := by decide +kernel
theorem dX9_wrong_61 : decode cX9_wrong 61 = .ok (.goto (-59), 3) := by decide +kernel
theorem dX9_wrong_64 : decode cX9_wrong 64 = .ok (.iload_n 2, 1) := by decide +kernel
theorem dX9_wrong_65 : decode cX9_wrong 65 = .ok (.aload_n 0, 1) := by decide +kernel
theorem dX9_wrong_66 : decode cX9_wrong 66 = .ok (.getfield 7, 3) := by decide +kernel
theorem dX9_wrong_69 : decode cX9_wrong 69 = .ok (.iconst 3, 1) := by decide +kernel
theorem dX9_wrong_70 : decode cX9_wrong 70 = .ok (.iaload, 1) := by decide +kernel
theorem dX9_wrong_71 : decode cX9_wrong 71 = .ok (.if_icmp .ne 17, 3) := by decide +kernel
theorem dX9_wrong_74 : decode cX9_wrong 74 = .ok (.iload_n 2, 1) := by decide +kernel
theorem dX9_wrong_75 : decode cX9_wrong 75 = .ok (.aload_n 0, 1) := by decide +kernel
theorem dX9_wrong_76 : decode cX9_wrong 76 = .ok (.getfield 40, 3) := by decide +kernel
theorem dX9_wrong_79 : decode cX9_wrong 79 = .ok (.iload_n 1, 1) := by decide +kernel
theorem dX9_wrong_80 : decode cX9_wrong 80 = .ok (.iaload, 1) := by decide +kernel
theorem dX9_wrong_81 : decode cX9_wrong 81 = .ok (.if_icmp .ne 7, 3) := by decide +kernel
theorem dX9_wrong_84 : decode cX9_wrong 84 = .ok (.iconst (-1), 1) := by decide +kernel
theorem dX9_wrong_85 : decode cX9_wrong 85 = .ok (.goto 4, 3) := by decide +kernel
theorem dX9_wrong_88 : decode cX9_wrong 88 = .ok (.iload_n 2, 1) := by decide +kernel
theorem dX9_wrong_89 : decode cX9_wrong 89 = .ok (.ireturn, 1) := by decide +kernel
theorem dX9_cast_0 : decode cX9_cast 0 = .ok (.iload_n 1, 1) := by decide +kernel
theorem dX9_cast_1 : decode cX9_cast 1 = .ok (.invokestatic 228, 3) := by decide +kernel
theorem dX9_cast_4 : decode cX9_cast 4 = .ok (.ifCond .ne 10, 3) := by decide +kernel
theorem dX9_cast_7 : decode cX9_cast 7 = .ok (.aload_n 0, 1) := by decide +kernel
theorem dX9_cast_8 : decode cX9_cast 8 = .ok (.ldc 61, 2) := by decide +kernel
theorem dX9_cast_10 : decode cX9_cast 10 = .ok (.invokevirtual 62, 3) := by decide +kernel
theorem dX9_cast_13 : decode cX9_cast 13 = .ok (.ireturn, 1) := by decide +kernel
theorem dX9_cast_14 : decode cX9_cast 14 = .ok (.aload_n 0, 1) := by decide +kernel
theorem dX9_cast_15 : decode cX9_cast 15 = .ok (.getfield 37, 3) := by decide +kernel
theorem dX9_cast_18 : decode cX9_cast 18 = .ok (.iload_n 1, 1) := by decide +kernel
theorem dX9_cast_19 : decode cX9_cast 19 = .ok (.iaload, 1) := by decide +kernel
theorem dX9_cast_20 : decode cX9_cast 20 = .ok (.ifCond .ne 10, 3) := by decide +kernel
theorem dX9_cast_23 : decode cX9_cast 23 = .ok (.aload_n 0, 1) := by decide +kernel
theorem dX9_cast_24 : decode cX9_cast 24 = .ok (.ldc 218, 2) := by decide +kernel
theorem dX9_cast_26 : decode cX9_cast 26 = .ok (.invokevirtual 62, 3) := by decide +kernel
theorem dX9_cast_29 : decode cX9_cast 29 = .ok (.ireturn, 1) := by decide +kernel
theorem dX9_cast_30 : decode cX9_cast 30 = .ok (.aload_n 0, 1) := by decide +kernel
theorem dX9_cast_31 : decode cX9_cast 31 = .ok (.iload_n 1, 1) := by decide +kernel
theorem dX9_cast_32 : decode cX9_cast 32 = .ok (.invokevirtual 231, 3) := by decide +kernel
theorem dX9_cast_35 : decode cX9_cast 35 = .ok (.ifCond .ge 15, 3) := by decide +kernel
theorem dX9_cast_38 : decode cX9_cast 38 = .ok (.aload_n 0, 1) := by decide +kernel
theorem dX9_cast_39 : decode cX9_cast 39 = .ok (.getfield 7, 3) := by decide +kernel
theorem dX9_cast_42 : decode cX9_cast 42 = .ok (.iconst 0, 1) := by decide +kernel
theorem dX9_cast_43 : decode cX9_cast 43 = .ok (.iaload, 1) := by decide +kernel
theorem dX9_cast_44 : decode cX9_cast 44 = .ok (.sipush 9999, 3) := by decide +kernel
theorem dX9_cast_47 : decode cX9_cast 47 = .ok (.if_icmp .ne 10, 3) := by decide +kernel
theorem dX9_cast_50 : decode cX9_cast 50 = .ok (.aload_n 0, 1) := by decide +kernel
theorem dX9_cast_51 : decode cX9_cast 51 = .ok (.ldc 211, 2) := by decide +kernel
theorem dX9_cast_53 : decode cX9_cast 53 = .ok (.invokevirtual 62, 3) := by decide +kernel
theorem dX9_cast_56 : decode cX9_cast 56 = .ok (.ireturn, 1) := by decide +kernel
theorem dX9_cast_57 : decode cX9_cast 57 = .ok (.aload_n 0, 1) := by decide +kernel
theorem dX9_cast_58 : decode cX9_cast 58 = .ok (.invokevirtual 207, 3) := by decide +kernel
theorem dX9_cast_61 : decode cX9_cast 61 = .ok (.aload_n 0, 1) := by decide +kernel
theorem dX9_cast_62 : decode cX9_cast 62 = .ok (.getfield 7, 3) := by decide +kernel
theorem dX9_cast_65 : decode cX9_cast 65 = .ok (.iconst 0, 1) := by decide +kernel
theorem dX9_cast_66 : decode cX9_cast 66 = .ok (.iaload, 1) := by decide +kernel
theorem dX9_cast_67 : decode cX9_cast 67 = .ok (.ireturn, 1) := by decide +kernel
theorem dX9_seed_0 : decode cX9_seed 0 = .ok (.aload_n 0, 1) := by decide +kernel
theorem dX9_seed_1 : decode cX9_seed 1 = .ok (.getfield 7, 3) := by decide +kernel
theorem dX9_seed_4 : decode cX9_seed 4 = .ok (.iconst 2, 1) := by decide +kernel
theorem dX9_seed_5 : decode cX9_seed 5 = .ok (.iaload, 1) := by decide +kernel
theorem dX9_seed_6 : decode cX9_seed 6 = .ok (.istore_n 2, 1) := by decide +kernel
theorem dX9_seed_7 : decode cX9_seed 7 = .ok (.aload_n 0, 1) := by decide +kernel
theorem dX9_seed_8 : decode cX9_seed 8 = .ok (.getfield 7, 3) := by decide +kernel
theorem dX9_seed_11 : decode cX9_seed 11 = .ok (.iconst 2, 1) := by decide +kernel
theorem dX9_seed_12 : decode cX9_seed 12 = .ok (.iload_n 1, 1) := by decide +kernel
theorem dX9_seed_13 : decode cX9_seed 13 = .ok (.iastore, 1) := by decide +kernel
theorem dX9_seed_14 : decode cX9_seed 14 = .ok (.iload_n 2, 1) := by decide +kernel
theorem dX9_seed_15 : decode cX9_seed 15 = .ok (.ireturn, 1) := by decide +kernel
theorem dX9_ran_0 : decode cX9_ran 0 = .ok (.aload_n 0, 1) := by decide +kernel
theorem dX9_ran_1 : decode cX9_ran 1 = .ok (.getfield 234, 3) := by decide +kernel
theorem dX9_ran_4 : decode cX9_ran 4 = .ok (.bipush 40, 2) := by decide +kernel
theorem dX9_ran_6 : decode cX9_ran 6 = .ok (.if_icmp .ge 23, 3) := by decide +kernel
theorem dX9_ran_9 : decode cX9_ran 9 = .ok (.aload_n 0, 1) := by decide +kernel
theorem dX9_ran_10 : decode cX9_ran 10 = .ok (.getfield 49, 3) := by decide +kernel
theorem dX9_ran_13 : decode cX9_ran 13 = .ok (.aload_n 0, 1) := by decide +kernel
theorem dX9_ran_14 : decode cX9_ran 14 = .ok (.getfield 234, 3) := by decide +kernel
theorem dX9_ran_17 : decode cX9_ran 17 = .ok (.iload_n 1, 1) := by decide +kernel
theorem dX9_ran_18 : decode cX9_ran 18 = .ok (.iastore, 1) := by decide +kernel
theorem dX9_ran_19 : decode cX9_ran 19 = .ok (.aload_n 0, 1) := by decide +kernel
theorem dX9_ran_20 : decode cX9_ran 20 = .ok (.dup, 1) := by decide +kernel
theorem dX9_ran_21 : decode cX9_ran 21 = .ok (.getfield 234, 3) := by decide +kernel
theorem dX9_ran_24 : decode cX9_ran 24 = .ok (.iconst 1, 1) := by decide +kernel
theorem dX9_ran_25 : decode cX9_ran 25 = .ok (.iadd, 1) := by decide +kernel
theorem dX9_ran_26 : decode cX9_ran 26 = .ok (.putfield 234, 3) := by decide +kernel
theorem dX9_ran_29 : decode cX9_ran 29 = .ok (.return_, 1) := by decide +kernel
theorem dX9_speaksIn_0 : decode cX9_speaksIn 0 = .ok (.iload_n 1, 1) := by decide +kernel
theorem dX9_speaksIn_1 : decode cX9_speaksIn 1 = .ok (.ifCond .ne 16, 3) := by decide +kernel
theorem dX9_speaksIn_4 : decode cX9_speaksIn 4 = .ok (.aload_n 0, 1) := by decide +kernel
theorem dX9_speaksIn_5 : decode cX9_speaksIn 5 = .ok (.bipush 10, 2) := by decide +kernel
theorem dX9_speaksIn_7 : decode cX9_speaksIn 7 = .ok (.invokevirtual 237, 3) := by decide +kernel
theorem dX9_speaksIn_10 : decode cX9_speaksIn 10 = .ok (.iload_n 2, 1) := by decide +kernel
theorem dX9_speaksIn_11 : decode cX9_speaksIn 11 = .ok (.aload_n 0, 1) := by decide +kernel
theorem dX9_speaksIn_12 : decode cX9_speaksIn 12 = .ok (.getfield 241, 3) := by decide +kernel
theorem dX9_speaksIn_15 : decode cX9_speaksIn 15 = .ok (.iadd, 1) := by decide +kernel
theorem dX9_speaksIn_16 : decode cX9_speaksIn 16 = .ok (.ireturn, 1) := by decide +kernel
theorem dX9_speaksIn_17 : decode cX9_speaksIn 17 = .ok (.iload_n 1, 1) := by decide +kernel
theorem dX9_speaksIn_18 : decode cX9_speaksIn 18 = .ok (.iconst 2, 1) := by decide +kernel
theorem dX9_speaksIn_19 : decode cX9_speaksIn 19 = .ok (.if_icmp .ne 18, 3) := by decide +kernel
theorem dX9_speaksIn_22 : decode cX9_speaksIn 22 = .ok (.aload_n 0, 1) := by decide +kernel
theorem dX9_speaksIn_23 : decode cX9_speaksIn 23 = .ok (.bipush 30, 2) := by decide +kernel
theorem dX9_speaksIn_25 : decode cX9_speaksIn 25 = .ok (.invokevirtual 237, 3) := by decide +kernel
theorem dX9_speaksIn_28 : decode cX9_speaksIn 28 = .ok (.aload_n 0, 1) := by decide +kernel
theorem dX9_speaksIn_29 : decode cX9_speaksIn 29 = .ok (.iconst 0, 1) := by decide +kernel
theorem dX9_speaksIn_30 : decode cX9_speaksIn 30 = .ok (.iload_n 2, 1) := by decide +kernel
theorem dX9_speaksIn_31 : decode cX9_speaksIn 31 = .ok (.invokevirtual 244, 3) := by decide +kernel
theorem dX9_speaksIn_34 : decode cX9_speaksIn 34 = .ok (.iconst 3, 1) := by decide +kernel
theorem dX9_speaksIn_35 : decode cX9_speaksIn 35 = .ok (.imul, 1) := by decide +kernel
theorem dX9_speaksIn_36 : decode cX9_speaksIn 36 = .ok (.ireturn, 1) := by decide +kernel
theorem dX9_speaksIn_37 : decode cX9_speaksIn 37 = .ok (.aload_n 0, 1) := by decide +kernel
theorem dX9_speaksIn_38 : decode cX9_speaksIn 38 = .ok (.iload_n 1, 1) := by decide +kernel
theorem dX9_speaksIn_39 : decode cX9_speaksIn 39 = .ok (.invokestatic 93, 3) := by decide +kernel
theorem dX9_speaksIn_42 : decode cX9_speaksIn 42 = .ok (.iload_n 2, 1) := by decide +kernel
theorem dX9_speaksIn_43 : decode cX9_speaksIn 43 = .ok (.invokevirtual 244, 3) := by decide +kernel
theorem dX9_speaksIn_46 : decode cX9_speaksIn 46 = .ok (.ireturn, 1) := by decide +kernel
theorem dX9_fallsIn_0 : decode cX9_fallsIn 0 = .ok (.iload_n 1, 1) := by decide +kernel
theorem dX9_fallsIn_1 : decode cX9_fallsIn 1 = .ok (.ifCond .ne 16, 3) := by decide +kernel
theorem dX9_fallsIn_4 : decode cX9_fallsIn 4 = .ok (.aload_n 0, 1) := by decide +kernel
theorem dX9_fallsIn_5 : decode cX9_fallsIn 5 = .ok (.bipush 12, 2) := by decide +kernel
theorem dX9_fallsIn_7 : decode cX9_fallsIn 7 = .ok (.invokevirtual 237, 3) := by decide +kernel
theorem dX9_fallsIn_10 : decode cX9_fallsIn 10 = .ok (.iload_n 2, 1) := by decide +kernel
theorem dX9_fallsIn_11 : decode cX9_fallsIn 11 = .ok (.aload_n 0, 1) := by decide +kernel
theorem dX9_fallsIn_12 : decode cX9_fallsIn 12 = .ok (.getfield 247, 3) := by decide +kernel
theorem dX9_fallsIn_15 : decode cX9_fallsIn 15 = .ok (.isub, 1) := by decide +kernel
theorem dX9_fallsIn_16 : decode cX9_fallsIn 16 = .ok (.ireturn, 1) := by decide +kernel
theorem dX9_fallsIn_17 : decode cX9_fallsIn 17 = .ok (.iload_n 1, 1) := by decide +kernel
theorem dX9_fallsIn_18 : decode cX9_fallsIn 18 = .ok (.iconst 3, 1) := by decide +kernel
theorem dX9_fallsIn_19 : decode cX9_fallsIn 19 = .ok (.if_icmp .ne 17, 3) := by decide +kernel
theorem dX9_fallsIn_22 : decode cX9_fallsIn 22 = .ok (.aload_n 0, 1) := by decide +kernel
theorem dX9_fallsIn_23 : decode cX9_fallsIn 23 = .ok (.bipush 40, 2) := by decide +kernel
theorem dX9_fallsIn_25 : decode cX9_fallsIn 25 = .ok (.invokevirtual 237, 3) := by decide +kernel
theorem dX9_fallsIn_28 : decode cX9_fallsIn 28 = .ok (.aload_n 0, 1) := by decide +kernel
theorem dX9_fallsIn_29 : decode cX9_fallsIn 29 = .ok (.iconst 0, 1) := by decide +kernel
theorem dX9_fallsIn_30 : decode cX9_fallsIn 30 = .ok (.iload_n 2, 1) := by decide +kernel
theorem dX9_fallsIn_31 : decode cX9_fallsIn 31 = .ok (.invokevirtual 250, 3) := by decide +kernel
theorem dX9_fallsIn_34 : decode cX9_fallsIn 34 = .ok (.ineg, 1) := by decide +kernel
theorem dX9_fallsIn_35 : decode cX9_fallsIn 35 = .ok (.ireturn, 1) := by decide +kernel
theorem dX9_fallsIn_36 : decode cX9_fallsIn 36 = .ok (.iload_n 1, 1) := by decide +kernel
theorem dX9_fallsIn_37 : decode cX9_fallsIn 37 = .ok (.bipush 6, 2) := by decide +kernel
theorem dX9_fallsIn_39 : decode cX9_fallsIn 39 = .ok (.if_icmp .ne 21, 3) := by decide +kernel
theorem dX9_fallsIn_42 : decode cX9_fallsIn 42 = .ok (.aload_n 0, 1) := by decide +kernel
theorem dX9_fallsIn_43 : decode cX9_fallsIn 43 = .ok (.bipush 70, 2) := by decide +kernel
theorem dX9_fallsIn_45 : decode cX9_fallsIn 45 = .ok (.invokevirtual 237, 3) := by decide +kernel
theorem dX9_fallsIn_48 : decode cX9_fallsIn 48 = .ok (.aload_n 0, 1) := by decide +kernel
theorem dX9_fallsIn_49 : decode cX9_fallsIn 49 = .ok (.iconst 3, 1) := by decide +kernel
theorem dX9_fallsIn_50 : decode cX9_fallsIn 50 = .ok (.iload_n 2, 1) := by decide +kernel
theorem dX9_fallsIn_51 : decode cX9_fallsIn 51 = .ok (.invokevirtual 250, 3) := by decide +kernel
theorem dX9_fallsIn_54 : decode cX9_fallsIn 54 = .ok (.aload_n 0, 1) := by decide +kernel
theorem dX9_fallsIn_55 : decode cX9_fallsIn 55 = .ok (.getfield 241, 3) := by decide +kernel
theorem dX9_fallsIn_58 : decode cX9_fallsIn 58 = .ok (.ixor, 1) := by decide +kernel
theorem dX9_fallsIn_59 : decode cX9_fallsIn 59 = .ok (.ireturn, 1) := by decide +kernel
theorem dX9_fallsIn_60 : decode cX9_fallsIn 60 = .ok (.aload_n 0, 1) := by decide +kernel
theorem dX9_fallsIn_61 : decode cX9_fallsIn 61 = .ok (.iload_n 1, 1) := by decide +kernel
theorem dX9_fallsIn_62 : decode cX9_fallsIn 62 = .ok (.invokestatic 93, 3) := by decide +kernel
theorem dX9_fallsIn_65 : decode cX9_fallsIn 65 = .ok (.iload_n 2, 1) := by decide +kernel
theorem dX9_fallsIn_66 : decode cX9_fallsIn 66 = .ok (.invokevirtual 250, 3) := by decide +kernel
theorem dX9_fallsIn_69 : decode cX9_fallsIn 69 = .ok (.ireturn, 1) := by decide +kernel
theorem dX9_entersIn_0 : decode cX9_entersIn 0 = .ok (.iload_n 1, 1) := by decide +kernel
theorem dX9_entersIn_1 : decode cX9_entersIn 1 = .ok (.ifCond .ne 21, 3) := by decide +kernel
theorem dX9_entersIn_4 : decode cX9_entersIn 4 = .ok (.aload_n 0, 1) := by decide +kernel
theorem dX9_entersIn_5 : decode cX9_entersIn 5 = .ok (.bipush 11, 2) := by decide +kernel
theorem dX9_entersIn_7 : decode cX9_entersIn 7 = .ok (.invokevirtual 237, 3) := by decide +kernel
theorem dX9_entersIn_10 : decode cX9_entersIn 10 = .ok (.aload_n 0, 1) := by decide +kernel
theorem dX9_entersIn_11 : decode cX9_entersIn 11 = .ok (.aload_n 0, 1) := by decide +kernel
theorem dX9_entersIn_12 : decode cX9_entersIn 12 = .ok (.getfield 253, 3) := by decide +kernel
theorem dX9_entersIn_15 : decode cX9_entersIn 15 = .ok (.iload_n 2, 1) := by decide +kernel
theorem dX9_entersIn_16 : decode cX9_entersIn 16 = .ok (.invokevirtual 244, 3) := by decide +kernel
theorem dX9_entersIn_19 : decode cX9_entersIn 19 = .ok (.iconst 2, 1) := by decide +kernel
theorem dX9_entersIn_20 : decode cX9_entersIn 20 = .ok (.imul, 1) := by decide +kernel
theorem dX9_entersIn_21 : decode cX9_entersIn 21 = .ok (.ireturn, 1) := by decide +kernel
theorem dX9_entersIn_22 : decode cX9_entersIn 22 = .ok (.iload_n 1, 1) := by decide +kernel
theorem dX9_entersIn_23 : decode cX9_entersIn 23 = .ok (.iconst 1, 1) := by decide +kernel
theorem dX9_entersIn_24 : decode cX9_entersIn 24 = .ok (.if_icmp .ne 28, 3) := by decide +kernel
theorem dX9_entersIn_27 : decode cX9_entersIn 27 = .ok (.aload_n 0, 1) := by decide +kernel
theorem dX9_entersIn_28 : decode cX9_entersIn 28 = .ok (.bipush 20, 2) := by decide +kernel
theorem dX9_entersIn_30 : decode cX9_entersIn 30 = .ok (.invokevirtual 237, 3) := by decide +kernel
theorem dX9_entersIn_33 : decode cX9_entersIn 33 = .ok (.aload_n 0, 1) := by decide +kernel
theorem dX9_entersIn_34 : decode cX9_entersIn 34 = .ok (.iconst 0, 1) := by decide +kernel
theorem dX9_entersIn_35 : decode cX9_entersIn 35 = .ok (.iload_n 2, 1) := by decide +kernel
theorem dX9_entersIn_36 : decode cX9_entersIn 36 = .ok (.invokevirtual 256, 3) := by decide +kernel
theorem dX9_entersIn_39 : decode cX9_entersIn 39 = .ok (.istore_n 3, 1) := by decide +kernel
theorem dX9_entersIn_40 : decode cX9_entersIn 40 = .ok (.iload_n 3, 1) := by decide +kernel
theorem dX9_entersIn_41 : decode cX9_entersIn 41 = .ok (.aload_n 0, 1) := by decide +kernel
theorem dX9_entersIn_42 : decode cX9_entersIn 42 = .ok (.aload_n 0, 1) := by decide +kernel
theorem dX9_entersIn_43 : decode cX9_entersIn 43 = .ok (.getfield 253, 3) := by decide +kernel
theorem dX9_entersIn_46 : decode cX9_entersIn 46 = .ok (.iconst 1, 1) := by decide +kernel
theorem dX9_entersIn_47 : decode cX9_entersIn 47 = .ok (.invokevirtual 250, 3) := by decide +kernel
theorem dX9_entersIn_50 : decode cX9_entersIn 50 = .ok (.isub, 1) := by decide +kernel
theorem dX9_entersIn_51 : decode cX9_entersIn 51 = .ok (.ireturn, 1) := by decide +kernel
theorem dX9_entersIn_52 : decode cX9_entersIn 52 = .ok (.iload_n 1, 1) := by decide +kernel
theorem dX9_entersIn_53 : decode cX9_entersIn 53 = .ok (.iconst 4, 1) := by decide +kernel
theorem dX9_entersIn_54 : decode cX9_entersIn 54 = .ok (.if_icmp .ne 18, 3) := by decide +kernel
theorem dX9_entersIn_57 : decode cX9_entersIn 57 = .ok (.aload_n 0, 1) := by decide +kernel
theorem dX9_entersIn_58 : decode cX9_entersIn 58 = .ok (.bipush 50, 2) := by decide +kernel
theorem dX9_entersIn_60 : decode cX9_entersIn 60 = .ok (.invokevirtual 237, 3) := by decide +kernel
theorem dX9_entersIn_63 : decode cX9_entersIn 63 = .ok (.aload_n 0, 1) := by decide +kernel
theorem dX9_entersIn_64 : decode cX9_entersIn 64 = .ok (.iconst 1, 1) := by decide +kernel
theorem dX9_entersIn_65 : decode cX9_entersIn 65 = .ok (.iload_n 2, 1) := by decide +kernel
theorem dX9_entersIn_66 : decode cX9_entersIn 66 = .ok (.iconst 1, 1) := by decide +kernel
theorem dX9_entersIn_67 : decode cX9_entersIn 67 = .ok (.iadd, 1) := by decide +kernel
theorem dX9_entersIn_68 : decode cX9_entersIn 68 = .ok (.invokevirtual 256, 3) := by decide +kernel
theorem dX9_entersIn_71 : decode cX9_entersIn 71 = .ok (.ireturn, 1) := by decide +kernel
theorem dX9_entersIn_72 : decode cX9_entersIn 72 = .ok (.aload_n 0, 1) := by decide +kernel
theorem dX9_entersIn_73 : decode cX9_entersIn 73 = .ok (.iload_n 1, 1) := by decide +kernel
theorem dX9_entersIn_74 : decode cX9_entersIn 74 = .ok (.invokestatic 93, 3) := by decide +kernel
theorem dX9_entersIn_77 : decode cX9_entersIn 77 = .ok (.iload_n 2, 1) := by decide +kernel
theorem dX9_entersIn_78 : decode cX9_entersIn 78 = .ok (.invokevirtual 256, 3) := by decide +kernel
theorem dX9_entersIn_81 : decode cX9_entersIn 81 = .ok (.ireturn, 1) := by decide +kernel
theorem dX9_tellsIn_0 : decode cX9_tellsIn 0 = .ok (.iload_n 1, 1) := by decide +kernel
theorem dX9_tellsIn_1 : decode cX9_tellsIn 1 = .ok (.ifCond .ne 31, 3) := by decide +kernel
theorem dX9_tellsIn_4 : decode cX9_tellsIn 4 = .ok (.aload_n 0, 1) := by decide +kernel
theorem dX9_tellsIn_5 : decode cX9_tellsIn 5 = .ok (.bipush 13, 2) := by decide +kernel
theorem dX9_tellsIn_7 : decode cX9_tellsIn 7 = .ok (.invokevirtual 237, 3) := by decide +kernel
theorem dX9_tellsIn_10 : decode cX9_tellsIn 10 = .ok (.aload_n 0, 1) := by decide +kernel
theorem dX9_tellsIn_11 : decode cX9_tellsIn 11 = .ok (.aload_n 0, 1) := by decide +kernel
theorem dX9_tellsIn_12 : decode cX9_tellsIn 12 = .ok (.getfield 253, 3) := by decide +kernel
theorem dX9_tellsIn_15 : decode cX9_tellsIn 15 = .ok (.iload_n 2, 1) := by decide +kernel
theorem dX9_tellsIn_16 : decode cX9_tellsIn 16 = .ok (.invokevirtual 256, 3) := by decide +kernel
theorem dX9_tellsIn_19 : decode cX9_tellsIn 19 = .ok (.istore_n 3, 1) := by decide +kernel
theorem dX9_tellsIn_20 : decode cX9_tellsIn 20 = .ok (.iload_n 3, 1) := by decide +kernel
theorem dX9_tellsIn_21 : decode cX9_tellsIn 21 = .ok (.aload_n 0, 1) := by decide +kernel
theorem dX9_tellsIn_22 : decode cX9_tellsIn 22 = .ok (.aload_n 0, 1) := by decide +kernel
theorem dX9_tellsIn_23 : decode cX9_tellsIn 23 = .ok (.getfield 253, 3) := by decide +kernel
theorem dX9_tellsIn_26 : decode cX9_tellsIn 26 = .ok (.iload_n 2, 1) := by decide +kernel
theorem dX9_tellsIn_27 : decode cX9_tellsIn 27 = .ok (.invokevirtual 250, 3) := by decide +kernel
theorem dX9_tellsIn_30 : decode cX9_tellsIn 30 = .ok (.ixor, 1) := by decide +kernel
theorem dX9_tellsIn_31 : decode cX9_tellsIn 31 = .ok (.ireturn, 1) := by decide +kernel
theorem dX9_tellsIn_32 : decode cX9_tellsIn 32 = .ok (.iload_n 1, 1) := by decide +kernel
theorem dX9_tellsIn_33 : decode cX9_tellsIn 33 = .ok (.iconst 5, 1) := by decide +kernel
theorem dX9_tellsIn_34 : decode cX9_tellsIn 34 = .ok (.if_icmp .ne 28, 3) := by decide +kernel
theorem dX9_tellsIn_37 : decode cX9_tellsIn 37 = .ok (.aload_n 0, 1) := by decide +kernel
theorem dX9_tellsIn_38 : decode cX9_tellsIn 38 = .ok (.bipush 60, 2) := by decide +kernel
theorem dX9_tellsIn_40 : decode cX9_tellsIn 40 = .ok (.invokevirtual 237, 3) := by decide +kernel
theorem dX9_tellsIn_43 : decode cX9_tellsIn 43 = .ok (.aload_n 0, 1) := by decide +kernel
theorem dX9_tellsIn_44 : decode cX9_tellsIn 44 = .ok (.iconst 2, 1) := by decide +kernel
theorem dX9_tellsIn_45 : decode cX9_tellsIn 45 = .ok (.iload_n 2, 1) := by decide +kernel
theorem dX9_tellsIn_46 : decode cX9_tellsIn 46 = .ok (.invokevirtual 259, 3) := by decide +kernel
theorem dX9_tellsIn_49 : decode cX9_tellsIn 49 = .ok (.istore_n 3, 1) := by decide +kernel
theorem dX9_tellsIn_50 : decode cX9_tellsIn 50 = .ok (.iload_n 3, 1) := by decide +kernel
theorem dX9_tellsIn_51 : decode cX9_tellsIn 51 = .ok (.aload_n 0, 1) := by decide +kernel
theorem dX9_tellsIn_52 : decode cX9_tellsIn 52 = .ok (.aload_n 0, 1) := by decide +kernel
theorem dX9_tellsIn_53 : decode cX9_tellsIn 53 = .ok (.getfield 253, 3) := by decide +kernel
theorem dX9_tellsIn_56 : decode cX9_tellsIn 56 = .ok (.iconst 2, 1) := by decide +kernel
theorem dX9_tellsIn_57 : decode cX9_tellsIn 57 = .ok (.invokevirtual 244, 3) := by decide +kernel
theorem dX9_tellsIn_60 : decode cX9_tellsIn 60 = .ok (.isub, 1) := by decide +kernel
theorem dX9_tellsIn_61 : decode cX9_tellsIn 61 = .ok (.ireturn, 1) := by decide +kernel
theorem dX9_tellsIn_62 : decode cX9_tellsIn 62 = .ok (.iload_n 1, 1) := by decide +kernel
theorem dX9_tellsIn_63 : decode cX9_tellsIn 63 = .ok (.bipush 6, 2) := by decide +kernel
theorem dX9_tellsIn_65 : decode cX9_tellsIn 65 = .ok (.if_icmp .ne 28, 3) := by decide +kernel
theorem dX9_tellsIn_68 : decode cX9_tellsIn 68 = .ok (.aload_n 0, 1) := by decide +kernel
theorem dX9_tellsIn_69 : decode cX9_tellsIn 69 = .ok (.bipush 71, 2) := by decide +kernel
theorem dX9_tellsIn_71 : decode cX9_tellsIn 71 = .ok (.invokevirtual 237, 3) := by decide +kernel
theorem dX9_tellsIn_74 : decode cX9_tellsIn 74 = .ok (.aload_n 0, 1) := by decide +kernel
theorem dX9_tellsIn_75 : decode cX9_tellsIn 75 = .ok (.aload_n 0, 1) := by decide +kernel
theorem dX9_tellsIn_76 : decode cX9_tellsIn 76 = .ok (.getfield 253, 3) := by decide +kernel
theorem dX9_tellsIn_79 : decode cX9_tellsIn 79 = .ok (.iload_n 2, 1) := by decide +kernel
theorem dX9_tellsIn_80 : decode cX9_tellsIn 80 = .ok (.invokevirtual 256, 3) := by decide +kernel
theorem dX9_tellsIn_83 : decode cX9_tellsIn 83 = .ok (.istore_n 3, 1) := by decide +kernel
theorem dX9_tellsIn_84 : decode cX9_tellsIn 84 = .ok (.iload_n 3, 1) := by decide +kernel
theorem dX9_tellsIn_85 : decode cX9_tellsIn 85 = .ok (.aload_n 0, 1) := by decide +kernel
theorem dX9_tellsIn_86 : decode cX9_tellsIn 86 = .ok (.iconst 3, 1) := by decide +kernel
theorem dX9_tellsIn_87 : decode cX9_tellsIn 87 = .ok (.iload_n 2, 1) := by decide +kernel
theorem dX9_tellsIn_88 : decode cX9_tellsIn 88 = .ok (.invokevirtual 259, 3) := by decide +kernel
theorem dX9_tellsIn_91 : decode cX9_tellsIn 91 = .ok (.isub, 1) := by decide +kernel
theorem dX9_tellsIn_92 : decode cX9_tellsIn 92 = .ok (.ireturn, 1) := by decide +kernel
theorem dX9_tellsIn_93 : decode cX9_tellsIn 93 = .ok (.aload_n 0, 1) := by decide +kernel
theorem dX9_tellsIn_94 : decode cX9_tellsIn 94 = .ok (.iload_n 1, 1) := by decide +kernel
theorem dX9_tellsIn_95 : decode cX9_tellsIn 95 = .ok (.invokestatic 93, 3) := by decide +kernel
theorem dX9_tellsIn_98 : decode cX9_tellsIn 98 = .ok (.iload_n 2, 1) := by decide +kernel
theorem dX9_tellsIn_99 : decode cX9_tellsIn 99 = .ok (.invokevirtual 259, 3) := by decide +kernel
theorem dX9_tellsIn_102 : decode cX9_tellsIn 102 = .ok (.ireturn, 1) := by decide +kernel
theorem dX9_voice_0 : decode cX9_voice 0 = .ok (.aload_n 0, 1) := by decide +kernel
theorem dX9_voice_1 : decode cX9_voice 1 = .ok (.iload_n 1, 1) := by decide +kernel
theorem dX9_voice_2 : decode cX9_voice 2 = .ok (.invokevirtual 57, 3) := by decide +kernel
theorem dX9_voice_5 : decode cX9_voice 5 = .ok (.ifCond .eq 12, 3) := by decide +kernel
theorem dX9_voice_8 : decode cX9_voice 8 = .ok (.iload_n 2, 1) := by decide +kernel
theorem dX9_voice_9 : decode cX9_voice 9 = .ok (.iconst 0, 1) := by decide +kernel
theorem dX9_voice_10 : decode cX9_voice 10 = .ok (.iconst 3, 1) := by decide +kernel
theorem dX9_voice_11 : decode cX9_voice 11 = .ok (.invokestatic 53, 3) := by decide +kernel
theorem dX9_voice_14 : decode cX9_voice 14 = .ok (.ifCond .ne 10, 3) := by decide +kernel
theorem dX9_voice_17 : decode cX9_voice 17 = .ok (.aload_n 0, 1) := by decide +kernel
theorem dX9_voice_18 : decode cX9_voice 18 = .ok (.ldc 61, 2) := by decide +kernel
theorem dX9_voice_20 : decode cX9_voice 20 = .ok (.invokevirtual 62, 3) := by decide +kernel
theorem dX9_voice_23 : decode cX9_voice 23 = .ok (.ireturn, 1) := by decide +kernel
theorem dX9_voice_24 : decode cX9_voice 24 = .ok (.aload_n 0, 1) := by decide +kernel
theorem dX9_voice_25 : decode cX9_voice 25 = .ok (.iconst 0, 1) := by decide +kernel
theorem dX9_voice_26 : decode cX9_voice 26 = .ok (.putfield 234, 3) := by decide +kernel
theorem dX9_voice_29 : decode cX9_voice 29 = .ok (.aload_n 0, 1) := by decide +kernel
theorem dX9_voice_30 : decode cX9_voice 30 = .ok (.aload_n 0, 1) := by decide +kernel
theorem dX9_voice_31 : decode cX9_voice 31 = .ok (.iload_n 1, 1) := by decide +kernel
theorem dX9_voice_32 : decode cX9_voice 32 = .ok (.iconst 0, 1) := by decide +kernel
theorem dX9_voice_33 : decode cX9_voice 33 = .ok (.invokevirtual 67, 3) := by decide +kernel
theorem dX9_voice_36 : decode cX9_voice 36 = .ok (.putfield 253, 3) := by decide +kernel
theorem dX9_voice_39 : decode cX9_voice 39 = .ok (.aload_n 0, 1) := by decide +kernel
theorem dX9_voice_40 : decode cX9_voice 40 = .ok (.iload_n 1, 1) := by decide +kernel
theorem dX9_voice_41 : decode cX9_voice 41 = .ok (.putfield 241, 3) := by decide +kernel
theorem dX9_voice_44 : decode cX9_voice 44 = .ok (.aload_n 0, 1) := by decide +kernel
theorem dX9_voice_45 : decode cX9_voice 45 = .ok (.aload_n 0, 1) := by decide +kernel
theorem dX9_voice_46 : decode cX9_voice 46 = .ok (.iload_n 1, 1) := by decide +kernel
theorem dX9_voice_47 : decode cX9_voice 47 = .ok (.iconst 1, 1) := by decide +kernel
theorem dX9_voice_48 : decode cX9_voice 48 = .ok (.invokevirtual 67, 3) := by decide +kernel
theorem dX9_voice_51 : decode cX9_voice 51 = .ok (.putfield 247, 3) := by decide +kernel
theorem dX9_voice_54 : decode cX9_voice 54 = .ok (.iload_n 2, 1) := by decide +kernel
theorem dX9_voice_55 : decode cX9_voice 55 = .ok (.tableswitch 55 0 2 #[25, 35, 45], 25) := by decide +kernel
theorem dX9_voice_80 : decode cX9_voice 80 = .ok (.aload_n 0, 1) := by decide +kernel
theorem dX9_voice_81 : decode cX9_voice 81 = .ok (.aload_n 0, 1) := by decide +kernel
theorem dX9_voice_82 : decode cX9_voice 82 = .ok (.getfield 253, 3) := by decide +kernel
theorem dX9_voice_85 : decode cX9_voice 85 = .ok (.iload_n 3, 1) := by decide +kernel
theorem dX9_voice_86 : decode cX9_voice 86 = .ok (.invokevirtual 244, 3) := by decide +kernel
theorem dX9_voice_89 : decode cX9_voice 89 = .ok (.ireturn, 1) := by decide +kernel
theorem dX9_voice_90 : decode cX9_voice 90 = .ok (.aload_n 0, 1) := by decide +kernel
theorem dX9_voice_91 : decode cX9_voice 91 = .ok (.aload_n 0, 1) := by decide +kernel
theorem dX9_voice_92 : decode cX9_voice 92 = .ok (.getfield 253, 3) := by decide +kernel
theorem dX9_voice_95 : decode cX9_voice 95 = .ok (.iload_n 3, 1) := by decide +kernel
theorem dX9_voice_96 : decode cX9_voice 96 = .ok (.invokevirtual 256, 3) := by decide +kernel
theorem dX9_voice_99 : decode cX9_voice 99 = .ok (.ireturn, 1) := by decide +kernel
theorem dX9_voice_100 : decode cX9_voice 100 = .ok (.aload_n 0, 1) := by decide +kernel
theorem dX9_voice_101 : decode cX9_voice 101 = .ok (.aload_n 0, 1) := by decide +kernel
theorem dX9_voice_102 : decode cX9_voice 102 = .ok (.getfield 253, 3) := by decide +kernel
theorem dX9_voice_105 : decode cX9_voice 105 = .ok (.iload_n 3, 1) := by decide +kernel
theorem dX9_voice_106 : decode cX9_voice 106 = .ok (.invokevirtual 250, 3) := by decide +kernel
theorem dX9_voice_109 : decode cX9_voice 109 = .ok (.ireturn, 1) := by decide +kernel
theorem dX9_voice_110 : decode cX9_voice 110 = .ok (.aload_n 0, 1) := by decide +kernel
theorem dX9_voice_111 : decode cX9_voice 111 = .ok (.aload_n 0, 1) := by decide +kernel
theorem dX9_voice_112 : decode cX9_voice 112 = .ok (.getfield 253, 3) := by decide +kernel
theorem dX9_voice_115 : decode cX9_voice 115 = .ok (.iload_n 3, 1) := by decide +kernel
theorem dX9_voice_116 : decode cX9_voice 116 = .ok (.invokevirtual 259, 3) := by decide +kernel
theorem dX9_voice_119 : decode cX9_voice 119 = .ok (.ireturn, 1) := by decide +kernel
theorem dX9_trace_0 : decode cX9_trace 0 = .ok (.iload_n 1, 1) := by decide +kernel
theorem dX9_trace_1 : decode cX9_trace 1 = .ok (.iconst 0, 1) := by decide +kernel
theorem dX9_trace_2 : decode cX9_trace 2 = .ok (.aload_n 0, 1) := by decide +kernel
theorem dX9_trace_3 : decode cX9_trace 3 = .ok (.getfield 234, 3) := by decide +kernel
theorem dX9_trace_6 : decode cX9_trace 6 = .ok (.iconst 1, 1) := by decide +kernel
theorem dX9_trace_7 : decode cX9_trace 7 = .ok (.isub, 1) := by decide +kernel
theorem dX9_trace_8 : decode cX9_trace 8 = .ok (.invokestatic 53, 3) := by decide +kernel
theorem dX9_trace_11 : decode cX9_trace 11 = .ok (.ifCond .eq 12, 3) := by decide +kernel
theorem dX9_trace_14 : decode cX9_trace 14 = .ok (.aload_n 0, 1) := by decide +kernel
theorem dX9_trace_15 : decode cX9_trace 15 = .ok (.getfield 49, 3) := by decide +kernel
theorem dX9_trace_18 : decode cX9_trace 18 = .ok (.iload_n 1, 1) := by decide +kernel
theorem dX9_trace_19 : decode cX9_trace 19 = .ok (.iaload, 1) := by decide +kernel
theorem dX9_trace_20 : decode cX9_trace 20 = .ok (.goto 9, 3) := by decide +kernel
theorem dX9_trace_23 : decode cX9_trace 23 = .ok (.aload_n 0, 1) := by decide +kernel
theorem dX9_trace_24 : decode cX9_trace 24 = .ok (.ldc 218, 2) := by decide +kernel
theorem dX9_trace_26 : decode cX9_trace 26 = .ok (.invokevirtual 62, 3) := by decide +kernel
theorem dX9_trace_29 : decode cX9_trace 29 = .ok (.ireturn, 1) := by decide +kernel
theorem dX9_narrow_0 : decode cX9_narrow 0 = .ok (.iload_n 0, 1) := by decide +kernel
theorem dX9_narrow_1 : decode cX9_narrow 1 = .ok (.bipush 8, 2) := by decide +kernel
theorem dX9_narrow_3 : decode cX9_narrow 3 = .ok (.if_icmp .ne 8, 3) := by decide +kernel
theorem dX9_narrow_6 : decode cX9_narrow 6 = .ok (.iload_n 1, 1) := by decide +kernel
theorem dX9_narrow_7 : decode cX9_narrow 7 = .ok (.i2b, 1) := by decide +kernel
theorem dX9_narrow_8 : decode cX9_narrow 8 = .ok (.goto 15, 3) := by decide +kernel
theorem dX9_narrow_11 : decode cX9_narrow 11 = .ok (.iload_n 0, 1) := by decide +kernel
theorem dX9_narrow_12 : decode cX9_narrow 12 = .ok (.bipush 16, 2) := by decide +kernel
theorem dX9_narrow_14 : decode cX9_narrow 14 = .ok (.if_icmp .ne 8, 3) := by decide +kernel
theorem dX9_narrow_17 : decode cX9_narrow 17 = .ok (.iload_n 1, 1) := by decide +kernel
theorem dX9_narrow_18 : decode cX9_narrow 18 = .ok (.i2s, 1) := by decide +kernel
theorem dX9_narrow_19 : decode cX9_narrow 19 = .ok (.goto 4, 3) := by decide +kernel
theorem dX9_narrow_22 : decode cX9_narrow 22 = .ok (.iload_n 1, 1) := by decide +kernel
theorem dX9_narrow_23 : decode cX9_narrow 23 = .ok (.ireturn, 1) := by decide +kernel
theorem dX9_sheet_0 : decode cX9_sheet 0 = .ok (.iload_n 1, 1) := by decide +kernel
theorem dX9_sheet_1 : decode cX9_sheet 1 = .ok (.invokestatic 228, 3) := by decide +kernel
theorem dX9_sheet_4 : decode cX9_sheet 4 = .ok (.ifCond .eq 25, 3) := by decide +kernel
theorem dX9_sheet_7 : decode cX9_sheet 7 = .ok (.iload_n 2, 1) := by decide +kernel
theorem dX9_sheet_8 : decode cX9_sheet 8 = .ok (.ifCond .eq 28, 3) := by decide +kernel
theorem dX9_sheet_11 : decode cX9_sheet 11 = .ok (.iload_n 2, 1) := by decide +kernel
theorem dX9_sheet_12 : decode cX9_sheet 12 = .ok (.bipush 8, 2) := by decide +kernel
theorem dX9_sheet_14 : decode cX9_sheet 14 = .ok (.if_icmp .eq 22, 3) := by decide +kernel
theorem dX9_sheet_17 : decode cX9_sheet 17 = .ok (.iload_n 2, 1) := by decide +kernel
theorem dX9_sheet_18 : decode cX9_sheet 18 = .ok (.bipush 16, 2) := by decide +kernel
theorem dX9_sheet_20 : decode cX9_sheet 20 = .ok (.if_icmp .eq 16, 3) := by decide +kernel
theorem dX9_sheet_23 : decode cX9_sheet 23 = .ok (.iload_n 2, 1) := by decide +kernel
theorem dX9_sheet_24 : decode cX9_sheet 24 = .ok (.bipush 32, 2) := by decide +kernel
theorem dX9_sheet_26 : decode cX9_sheet 26 = .ok (.if_icmp .eq 10, 3) := by decide +kernel
theorem dX9_sheet_29 : decode cX9_sheet 29 = .ok (.aload_n 0, 1) := by decide +kernel
theorem dX9_sheet_30 : decode cX9_sheet 30 = .ok (.ldc 61, 2) := by decide +kernel
theorem dX9_sheet_32 : decode cX9_sheet 32 = .ok (.invokevirtual 62, 3) := by decide +kernel
theorem dX9_sheet_35 : decode cX9_sheet 35 = .ok (.ireturn, 1) := by decide +kernel
theorem dX9_sheet_36 : decode cX9_sheet 36 = .ok (.iload_n 2, 1) := by decide +kernel
theorem dX9_sheet_37 : decode cX9_sheet 37 = .ok (.ifCond .eq 14, 3) := by decide +kernel
theorem dX9_sheet_40 : decode cX9_sheet 40 = .ok (.iload_n 3, 1) := by decide +kernel
theorem dX9_sheet_41 : decode cX9_sheet 41 = .ok (.ifCond .ge 10, 3) := by decide +kernel
theorem dX9_sheet_44 : decode cX9_sheet 44 = .ok (.aload_n 0, 1) := by decide +kernel
theorem dX9_sheet_45 : decode cX9_sheet 45 = .ok (.ldc 211, 2) := by decide +kernel
theorem dX9_sheet_47 : decode cX9_sheet 47 = .ok (.invokevirtual 62, 3) := by decide +kernel
theorem dX9_sheet_50 : decode cX9_sheet 50 = .ok (.ireturn, 1) := by decide +kernel
theorem dX9_sheet_51 : decode cX9_sheet 51 = .ok (.iload_n 2, 1) := by decide +kernel
theorem dX9_sheet_52 : decode cX9_sheet 52 = .ok (.ifCond .eq 16, 3) := by decide +kernel
theorem dX9_sheet_55 : decode cX9_sheet 55 = .ok (.iload_n 3, 1) := by decide +kernel
theorem dX9_sheet_56 : decode cX9_sheet 56 = .ok (.bipush 40, 2) := by decide +kernel
theorem dX9_sheet_58 : decode cX9_sheet 58 = .ok (.if_icmp .le 10, 3) := by decide +kernel
theorem dX9_sheet_61 : decode cX9_sheet 61 = .ok (.aload_n 0, 1) := by decide +kernel
theorem dX9_sheet_62 : decode cX9_sheet 62 = .ok (.ldc 61, 2) := by decide +kernel
theorem dX9_sheet_64 : decode cX9_sheet 64 = .ok (.invokevirtual 62, 3) := by decide +kernel
theorem dX9_sheet_67 : decode cX9_sheet 67 = .ok (.ireturn, 1) := by decide +kernel
theorem dX9_sheet_68 : decode cX9_sheet 68 = .ok (.aload_n 0, 1) := by decide +kernel
theorem dX9_sheet_69 : decode cX9_sheet 69 = .ok (.getfield 37, 3) := by decide +kernel
theorem dX9_sheet_72 : decode cX9_sheet 72 = .ok (.iload_n 1, 1) := by decide +kernel
theorem dX9_sheet_73 : decode cX9_sheet 73 = .ok (.iload_n 2, 1) := by decide +kernel
theorem dX9_sheet_74 : decode cX9_sheet 74 = .ok (.iastore, 1) := by decide +kernel
theorem dX9_sheet_75 : decode cX9_sheet 75 = .ok (.aload_n 0, 1) := by decide +kernel
theorem dX9_sheet_76 : decode cX9_sheet 76 = .ok (.getfield 40, 3) := by decide +kernel
theorem dX9_sheet_79 : decode cX9_sheet 79 = .ok (.iload_n 1, 1) := by decide +kernel
theorem dX9_sheet_80 : decode cX9_sheet 80 = .ok (.iload_n 2, 1) := by decide +kernel
theorem dX9_sheet_81 : decode cX9_sheet 81 = .ok (.ifCond .ne 7, 3) := by decide +kernel
theorem dX9_sheet_84 : decode cX9_sheet 84 = .ok (.iconst 0, 1) := by decide +kernel
theorem dX9_sheet_85 : decode cX9_sheet 85 = .ok (.goto 4, 3) := by decide +kernel
theorem dX9_sheet_88 : decode cX9_sheet 88 = .ok (.iload_n 3, 1) := by decide +kernel
theorem dX9_sheet_89 : decode cX9_sheet 89 = .ok (.iastore, 1) := by decide +kernel
theorem dX9_sheet_90 : decode cX9_sheet 90 = .ok (.iconst 0, 1) := by decide +kernel
theorem dX9_sheet_91 : decode cX9_sheet 91 = .ok (.istore 4, 2) := by decide +kernel
theorem dX9_sheet_93 : decode cX9_sheet 93 = .ok (.iload 4, 2) := by decide +kernel
theorem dX9_sheet_95 : decode cX9_sheet 95 = .ok (.bipush 40, 2) := by decide +kernel
theorem dX9_sheet_97 : decode cX9_sheet 97 = .ok (.if_icmp .ge 22, 3) := by decide +kernel
theorem dX9_sheet_100 : decode cX9_sheet 100 = .ok (.aload_n 0, 1) := by decide +kernel
theorem dX9_sheet_101 : decode cX9_sheet 101 = .ok (.getfield 43, 3) := by decide +kernel
theorem dX9_sheet_104 : decode cX9_sheet 104 = .ok (.bipush 40, 2) := by decide +kernel
theorem dX9_sheet_106 : decode cX9_sheet 106 = .ok (.iload_n 1, 1) := by decide +kernel
theorem dX9_sheet_107 : decode cX9_sheet 107 = .ok (.imul, 1) := by decide +kernel
theorem dX9_sheet_108 : decode cX9_sheet 108 = .ok (.iload 4, 2) := by decide +kernel
theorem dX9_sheet_110 : decode cX9_sheet 110 = .ok (.iadd, 1) := by decide +kernel
theorem dX9_sheet_111 : decode cX9_sheet 111 = .ok (.iconst 0, 1) := by decide +kernel
theorem dX9_sheet_112 : decode cX9_sheet 112 = .ok (.iastore, 1) := by decide +kernel
theorem dX9_sheet_113 : decode cX9_sheet 113 = .ok (.iinc 4 1, 3) := by decide +kernel
theorem dX9_sheet_116 : decode cX9_sheet 116 = .ok (.goto (-23), 3) := by decide +kernel
theorem dX9_sheet_119 : decode cX9_sheet 119 = .ok (.iconst 1, 1) := by decide +kernel
theorem dX9_sheet_120 : decode cX9_sheet 120 = .ok (.ireturn, 1) := by decide +kernel
theorem dX9_put_0 : decode cX9_put 0 = .ok (.iload_n 1, 1) := by decide +kernel
theorem dX9_put_1 : decode cX9_put 1 = .ok (.invokestatic 228, 3) := by decide +kernel
theorem dX9_put_4 : decode cX9_put 4 = .ok (.ifCond .ne 10, 3) := by decide +kernel
theorem dX9_put_7 : decode cX9_put 7 = .ok (.aload_n 0, 1) := by decide +kernel
theorem dX9_put_8 : decode cX9_put 8 = .ok (.ldc 61, 2) := by decide +kernel
theorem dX9_put_10 : decode cX9_put 10 = .ok (.invokevirtual 62, 3) := by decide +kernel
theorem dX9_put_13 : decode cX9_put 13 = .ok (.ireturn, 1) := by decide +kernel
theorem dX9_put_14 : decode cX9_put 14 = .ok (.aload_n 0, 1) := by decide +kernel
theorem dX9_put_15 : decode cX9_put 15 = .ok (.getfield 37, 3) := by decide +kernel
theorem dX9_put_18 : decode cX9_put 18 = .ok (.iload_n 1, 1) := by decide +kernel
theorem dX9_put_19 : decode cX9_put 19 = .ok (.iaload, 1) := by decide +kernel
theorem dX9_put_20 : decode cX9_put 20 = .ok (.ifCond .ne 10, 3) := by decide +kernel
theorem dX9_put_23 : decode cX9_put 23 = .ok (.aload_n 0, 1) := by decide +kernel
theorem dX9_put_24 : decode cX9_put 24 = .ok (.ldc 218, 2) := by decide +kernel
theorem dX9_put_26 : decode cX9_put 26 = .ok (.invokevirtual 62, 3) := by decide +kernel
theorem dX9_put_29 : decode cX9_put 29 = .ok (.ireturn, 1) := by decide +kernel
theorem dX9_put_30 : decode cX9_put 30 = .ok (.iload_n 2, 1) := by decide +kernel
theorem dX9_put_31 : decode cX9_put 31 = .ok (.iconst 0, 1) := by decide +kernel
theorem dX9_put_32 : decode cX9_put 32 = .ok (.aload_n 0, 1) := by decide +kernel
theorem dX9_put_33 : decode cX9_put 33 = .ok (.getfield 40, 3) := by decide +kernel
theorem dX9_put_36 : decode cX9_put 36 = .ok (.iload_n 1, 1) := by decide +kernel
theorem dX9_put_37 : decode cX9_put 37 = .ok (.iaload, 1) := by decide +kernel
theorem dX9_put_38 : decode cX9_put 38 = .ok (.iconst 1, 1) := by decide +kernel
theorem dX9_put_39 : decode cX9_put 39 = .ok (.isub, 1) := by decide +kernel
theorem dX9_put_40 : decode cX9_put 40 = .ok (.invokestatic 53, 3) := by decide +kernel
theorem dX9_put_43 : decode cX9_put 43 = .ok (.ifCond .ne 10, 3) := by decide +kernel
theorem dX9_put_46 : decode cX9_put 46 = .ok (.aload_n 0, 1) := by decide +kernel
theorem dX9_put_47 : decode cX9_put 47 = .ok (.ldc 61, 2) := by decide +kernel
theorem dX9_put_49 : decode cX9_put 49 = .ok (.invokevirtual 62, 3) := by decide +kernel
theorem dX9_put_52 : decode cX9_put 52 = .ok (.ireturn, 1) := by decide +kernel
theorem dX9_put_53 : decode cX9_put 53 = .ok (.aload_n 0, 1) := by decide +kernel
theorem dX9_put_54 : decode cX9_put 54 = .ok (.getfield 43, 3) := by decide +kernel
theorem dX9_put_57 : decode cX9_put 57 = .ok (.bipush 40, 2) := by decide +kernel
theorem dX9_put_59 : decode cX9_put 59 = .ok (.iload_n 1, 1) := by decide +kernel
theorem dX9_put_60 : decode cX9_put 60 = .ok (.imul, 1) := by decide +kernel
theorem dX9_put_61 : decode cX9_put 61 = .ok (.iload_n 2, 1) := by decide +kernel
theorem dX9_put_62 : decode cX9_put 62 = .ok (.iadd, 1) := by decide +kernel
theorem dX9_put_63 : decode cX9_put 63 = .ok (.aload_n 0, 1) := by decide +kernel
theorem dX9_put_64 : decode cX9_put 64 = .ok (.getfield 37, 3) := by decide +kernel
theorem dX9_put_67 : decode cX9_put 67 = .ok (.iload_n 1, 1) := by decide +kernel
theorem dX9_put_68 : decode cX9_put 68 = .ok (.iaload, 1) := by decide +kernel
theorem dX9_put_69 : decode cX9_put 69 = .ok (.iload_n 3, 1) := by decide +kernel
theorem dX9_put_70 : decode cX9_put 70 = .ok (.invokestatic 262, 3) := by decide +kernel
theorem dX9_put_73 : decode cX9_put 73 = .ok (.iastore, 1) := by decide +kernel
theorem dX9_put_74 : decode cX9_put 74 = .ok (.iconst 1, 1) := by decide +kernel
theorem dX9_put_75 : decode cX9_put 75 = .ok (.ireturn, 1) := by decide +kernel
theorem dX9_move_0 : decode cX9_move 0 = .ok (.iload_n 1, 1) := by decide +kernel
theorem dX9_move_1 : decode cX9_move 1 = .ok (.invokestatic 228, 3) := by decide +kernel
theorem dX9_move_4 : decode cX9_move 4 = .ok (.ifCond .eq 10, 3) := by decide +kernel
theorem dX9_move_7 : decode cX9_move 7 = .ok (.iload_n 3, 1) := by decide +kernel
theorem dX9_move_8 : decode cX9_move 8 = .ok (.invokestatic 228, 3) := by decide +kernel
theorem dX9_move_11 : decode cX9_move 11 = .ok (.ifCond .ne 10, 3) := by decide +kernel
theorem dX9_move_14 : decode cX9_move 14 = .ok (.aload_n 0, 1) := by decide +kernel
theorem dX9_move_15 : decode cX9_move 15 = .ok (.ldc 61, 2) := by decide +kernel
theorem dX9_move_17 : decode cX9_move 17 = .ok (.invokevirtual 62, 3) := by decide +kernel
theorem dX9_move_20 : decode cX9_move 20 = .ok (.ireturn, 1) := by decide +kernel
theorem dX9_move_21 : decode cX9_move 21 = .ok (.aload_n 0, 1) := by decide +kernel
theorem dX9_move_22 : decode cX9_move 22 = .ok (.getfield 37, 3) := by decide +kernel
theorem dX9_move_25 : decode cX9_move 25 = .ok (.iload_n 1, 1) := by decide +kernel
theorem dX9_move_26 : decode cX9_move 26 = .ok (.iaload, 1) := by decide +kernel
theorem dX9_move_27 : decode cX9_move 27 = .ok (.ifCond .eq 12, 3) := by decide +kernel
theorem dX9_move_30 : decode cX9_move 30 = .ok (.aload_n 0, 1) := by decide +kernel
theorem dX9_move_31 : decode cX9_move 31 = .ok (.getfield 37, 3) := by decide +kernel
theorem dX9_move_34 : decode cX9_move 34 = .ok (.iload_n 3, 1) := by decide +kernel
theorem dX9_move_35 : decode cX9_move 35 = .ok (.iaload, 1) := by decide +kernel
theorem dX9_move_36 : decode cX9_move 36 = .ok (.ifCond .ne 10, 3) := by decide +kernel
theorem dX9_move_39 : decode cX9_move 39 = .ok (.aload_n 0, 1) := by decide +kernel
theorem dX9_move_40 : decode cX9_move 40 = .ok (.ldc 218, 2) := by decide +kernel
theorem dX9_move_42 : decode cX9_move 42 = .ok (.invokevirtual 62, 3) := by decide +kernel
theorem dX9_move_45 : decode cX9_move 45 = .ok (.ireturn, 1) := by decide +kernel
theorem dX9_move_46 : decode cX9_move 46 = .ok (.aload_n 0, 1) := by decide +kernel
theorem dX9_move_47 : decode cX9_move 47 = .ok (.getfield 37, 3) := by decide +kernel
theorem dX9_move_50 : decode cX9_move 50 = .ok (.iload_n 1, 1) := by decide +kernel
theorem dX9_move_51 : decode cX9_move 51 = .ok (.iaload, 1) := by decide +kernel
theorem dX9_move_52 : decode cX9_move 52 = .ok (.aload_n 0, 1) := by decide +kernel
theorem dX9_move_53 : decode cX9_move 53 = .ok (.getfield 37, 3) := by decide +kernel
theorem dX9_move_56 : decode cX9_move 56 = .ok (.iload_n 3, 1) := by decide +kernel
theorem dX9_move_57 : decode cX9_move 57 = .ok (.iaload, 1) := by decide +kernel
theorem dX9_move_58 : decode cX9_move 58 = .ok (.if_icmp .eq 10, 3) := by decide +kernel
theorem dX9_move_61 : decode cX9_move 61 = .ok (.aload_n 0, 1) := by decide +kernel
theorem dX9_move_62 : decode cX9_move 62 = .ok (.ldc 96, 2) := by decide +kernel
theorem dX9_move_64 : decode cX9_move 64 = .ok (.invokevirtual 62, 3) := by decide +kernel
theorem dX9_move_67 : decode cX9_move 67 = .ok (.ireturn, 1) := by decide +kernel
theorem dX9_move_68 : decode cX9_move 68 = .ok (.iload 5, 2) := by decide +kernel
theorem dX9_move_70 : decode cX9_move 70 = .ok (.ifCond .lt 39, 3) := by decide +kernel
theorem dX9_move_73 : decode cX9_move 73 = .ok (.iload_n 2, 1) := by decide +kernel
theorem dX9_move_74 : decode cX9_move 74 = .ok (.ifCond .lt 35, 3) := by decide +kernel
theorem dX9_move_77 : decode cX9_move 77 = .ok (.iload 4, 2) := by decide +kernel
theorem dX9_move_79 : decode cX9_move 79 = .ok (.ifCond .lt 30, 3) := by decide +kernel
theorem dX9_move_82 : decode cX9_move 82 = .ok (.iload_n 2, 1) := by decide +kernel
theorem dX9_move_83 : decode cX9_move 83 = .ok (.aload_n 0, 1) := by decide +kernel
theorem dX9_move_84 : decode cX9_move 84 = .ok (.getfield 40, 3) := by decide +kernel
theorem dX9_move_87 : decode cX9_move 87 = .ok (.iload_n 1, 1) := by decide +kernel
theorem dX9_move_88 : decode cX9_move 88 = .ok (.iaload, 1) := by decide +kernel
theorem dX9_move_89 : decode cX9_move 89 = .ok (.iload 5, 2) := by decide +kernel
theorem dX9_move_91 : decode cX9_move 91 = .ok (.isub, 1) := by decide +kernel
theorem dX9_move_92 : decode cX9_move 92 = .ok (.if_icmp .gt 17, 3) := by decide +kernel
theorem dX9_move_95 : decode cX9_move 95 = .ok (.iload 4, 2) := by decide +kernel
theorem dX9_move_97 : decode cX9_move 97 = .ok (.aload_n 0, 1) := by decide +kernel
theorem dX9_move_98 : decode cX9_move 98 = .ok (.getfield 40, 3) := by decide +kernel
theorem dX9_move_101 : decode cX9_move 101 = .ok (.iload_n 3, 1) := by decide +kernel
theorem dX9_move_102 : decode cX9_move 102 = .ok (.iaload, 1) := by decide +kernel
theorem dX9_move_103 : decode cX9_move 103 = .ok (.iload 5, 2) := by decide +kernel
theorem dX9_move_105 : decode cX9_move 105 = .ok (.isub, 1) := by decide +kernel
theorem dX9_move_106 : decode cX9_move 106 = .ok (.if_icmp .le 10, 3) := by decide +kernel
theorem dX9_move_109 : decode cX9_move 109 = .ok (.aload_n 0, 1) := by decide +kernel
theorem dX9_move_110 : decode cX9_move 110 = .ok (.ldc 61, 2) := by decide +kernel
theorem dX9_move_112 : decode cX9_move 112 = .ok (.invokevirtual 62, 3) := by decide +kernel
theorem dX9_move_115 : decode cX9_move 115 = .ok (.ireturn, 1) := by decide +kernel
theorem dX9_move_116 : decode cX9_move 116 = .ok (.iconst 0, 1) := by decide +kernel
theorem dX9_move_117 : decode cX9_move 117 = .ok (.istore 6, 2) := by decide +kernel
theorem dX9_move_119 : decode cX9_move 119 = .ok (.iload 6, 2) := by decide +kernel
theorem dX9_move_121 : decode cX9_move 121 = .ok (.iload 5, 2) := by decide +kernel
theorem dX9_move_123 : decode cX9_move 123 = .ok (.if_icmp .ge 30, 3) := by decide +kernel
theorem dX9_move_126 : decode cX9_move 126 = .ok (.aload_n 0, 1) := by decide +kernel
theorem dX9_move_127 : decode cX9_move 127 = .ok (.getfield 46, 3) := by decide +kernel
theorem dX9_move_130 : decode cX9_move 130 = .ok (.iload 6, 2) := by decide +kernel
theorem dX9_move_132 : decode cX9_move 132 = .ok (.aload_n 0, 1) := by decide +kernel
theorem dX9_move_133 : decode cX9_move 133 = .ok (.getfield 43, 3) := by decide +kernel
theorem dX9_move_136 : decode cX9_move 136 = .ok (.bipush 40, 2) := by decide +kernel
theorem dX9_move_138 : decode cX9_move 138 = .ok (.iload_n 1, 1) := by decide +kernel
theorem dX9_move_139 : decode cX9_move 139 = .ok (.imul, 1) := by decide +kernel
theorem dX9_move_140 : decode cX9_move 140 = .ok (.iload_n 2, 1) := by decide +kernel
theorem dX9_move_141 : decode cX9_move 141 = .ok (.iadd, 1) := by decide +kernel
theorem dX9_move_142 : decode cX9_move 142 = .ok (.iload 6, 2) := by decide +kernel
theorem dX9_move_144 : decode cX9_move 144 = .ok (.iadd, 1) := by decide +kernel
theorem dX9_move_145 : decode cX9_move 145 = .ok (.iaload, 1) := by decide +kernel
theorem dX9_move_146 : decode cX9_move 146 = .ok (.iastore, 1) := by decide +kernel
theorem dX9_move_147 : decode cX9_move 147 = .ok (.iinc 6 1, 3) := by decide +kernel
theorem dX9_move_150 : decode cX9_move 150 = .ok (.goto (-31), 3) := by decide +kernel
theorem dX9_move_153 : decode cX9_move 153 = .ok (.iconst 0, 1) := by decide +kernel
theorem dX9_move_154 : decode cX9_move 154 = .ok (.istore 6, 2) := by decide +kernel
theorem dX9_move_156 : decode cX9_move 156 = .ok (.iload 6, 2) := by decide +kernel
theorem dX9_move_158 : decode cX9_move 158 = .ok (.iload 5, 2) := by decide +kernel
theorem dX9_move_160 : decode cX9_move 160 = .ok (.if_icmp .ge 31, 3) := by decide +kernel
theorem dX9_move_163 : decode cX9_move 163 = .ok (.aload_n 0, 1) := by decide +kernel
theorem dX9_move_164 : decode cX9_move 164 = .ok (.getfield 43, 3) := by decide +kernel
theorem dX9_move_167 : decode cX9_move 167 = .ok (.bipush 40, 2) := by decide +kernel
theorem dX9_move_169 : decode cX9_move 169 = .ok (.iload_n 3, 1) := by decide +kernel
theorem dX9_move_170 : decode cX9_move 170 = .ok (.imul, 1) := by decide +kernel
theorem dX9_move_171 : decode cX9_move 171 = .ok (.iload 4, 2) := by decide +kernel
theorem dX9_move_173 : decode cX9_move 173 = .ok (.iadd, 1) := by decide +kernel
theorem dX9_move_174 : decode cX9_move 174 = .ok (.iload 6, 2) := by decide +kernel
theorem dX9_move_176 : decode cX9_move 176 = .ok (.iadd, 1) := by decide +kernel
theorem dX9_move_177 : decode cX9_move 177 = .ok (.aload_n 0, 1) := by decide +kernel
theorem dX9_move_178 : decode cX9_move 178 = .ok (.getfield 46, 3) := by decide +kernel
theorem dX9_move_181 : decode cX9_move 181 = .ok (.iload 6, 2) := by decide +kernel
theorem dX9_move_183 : decode cX9_move 183 = .ok (.iaload, 1) := by decide +kernel
theorem dX9_move_184 : decode cX9_move 184 = .ok (.iastore, 1) := by decide +kernel
theorem dX9_move_185 : decode cX9_move 185 = .ok (.iinc 6 1, 3) := by decide +kernel
theorem dX9_move_188 : decode cX9_move 188 = .ok (.goto (-32), 3) := by decide +kernel
theorem dX9_move_191 : decode cX9_move 191 = .ok (.iload 5, 2) := by decide +kernel
theorem dX9_move_193 : decode cX9_move 193 = .ok (.ireturn, 1) := by decide +kernel
theorem dX9_loads_0 : decode cX9_loads 0 = .ok (.iload_n 1, 1) := by decide +kernel
theorem dX9_loads_1 : decode cX9_loads 1 = .ok (.invokestatic 228, 3) := by decide +kernel
theorem dX9_loads_4 : decode cX9_loads 4 = .ok (.ifCond .ne 10, 3) := by decide +kernel
theorem dX9_loads_7 : decode cX9_loads 7 = .ok (.aload_n 0, 1) := by decide +kernel
theorem dX9_loads_8 : decode cX9_loads 8 = .ok (.ldc 61, 2) := by decide +kernel
theorem dX9_loads_10 : decode cX9_loads 10 = .ok (.invokevirtual 62, 3) := by decide +kernel
theorem dX9_loads_13 : decode cX9_loads 13 = .ok (.ireturn, 1) := by decide +kernel
theorem dX9_loads_14 : decode cX9_loads 14 = .ok (.aload_n 0, 1) := by decide +kernel
theorem dX9_loads_15 : decode cX9_loads 15 = .ok (.getfield 37, 3) := by decide +kernel
theorem dX9_loads_18 : decode cX9_loads 18 = .ok (.iload_n 1, 1) := by decide +kernel
theorem dX9_loads_19 : decode cX9_loads 19 = .ok (.iaload, 1) := by decide +kernel
theorem dX9_loads_20 : decode cX9_loads 20 = .ok (.ifCond .ne 10, 3) := by decide +kernel
theorem dX9_loads_23 : decode cX9_loads 23 = .ok (.aload_n 0, 1) := by decide +kernel
theorem dX9_loads_24 : decode cX9_loads 24 = .ok (.ldc 218, 2) := by decide +kernel
theorem dX9_loads_26 : decode cX9_loads 26 = .ok (.invokevirtual 62, 3) := by decide +kernel
theorem dX9_loads_29 : decode cX9_loads 29 = .ok (.ireturn, 1) := by decide +kernel
theorem dX9_loads_30 : decode cX9_loads 30 = .ok (.iconst 0, 1) := by decide +kernel
theorem dX9_loads_31 : decode cX9_loads 31 = .ok (.istore_n 2, 1) := by decide +kernel
theorem dX9_loads_32 : decode cX9_loads 32 = .ok (.iload_n 2, 1) := by decide +kernel
theorem dX9_loads_33 : decode cX9_loads 33 = .ok (.aload_n 0, 1) := by decide +kernel
theorem dX9_loads_34 : decode cX9_loads 34 = .ok (.getfield 40, 3) := by decide +kernel
theorem dX9_loads_37 : decode cX9_loads 37 = .ok (.iload_n 1, 1) := by decide +kernel
theorem dX9_loads_38 : decode cX9_loads 38 = .ok (.iaload, 1) := by decide +kernel
theorem dX9_loads_39 : decode cX9_loads 39 = .ok (.if_icmp .ge 63, 3) := by decide +kernel
theorem dX9_loads_42 : decode cX9_loads 42 = .ok (.iload_n 2, 1) := by decide +kernel
theorem dX9_loads_43 : decode cX9_loads 43 = .ok (.aload_n 0, 1) := by decide +kernel
theorem dX9_loads_44 : decode cX9_loads 44 = .ok (.getfield 7, 3) := by decide +kernel
theorem dX9_loads_47 : decode cX9_loads 47 = .ok (.iconst 3, 1) := by decide +kernel
theorem dX9_loads_48 : decode cX9_loads 48 = .ok (.iaload, 1) := by decide +kernel
theorem dX9_loads_49 : decode cX9_loads 49 = .ok (.if_icmp .ge 53, 3) := by decide +kernel
theorem dX9_loads_52 : decode cX9_loads 52 = .ok (.aload_n 0, 1) := by decide +kernel
theorem dX9_loads_53 : decode cX9_loads 53 = .ok (.getfield 43, 3) := by decide +kernel
theorem dX9_loads_56 : decode cX9_loads 56 = .ok (.bipush 40, 2) := by decide +kernel
theorem dX9_loads_58 : decode cX9_loads 58 = .ok (.iload_n 1, 1) := by decide +kernel
theorem dX9_loads_59 : decode cX9_loads 59 = .ok (.imul, 1) := by decide +kernel
theorem dX9_loads_60 : decode cX9_loads 60 = .ok (.iload_n 2, 1) := by decide +kernel
theorem dX9_loads_61 : decode cX9_loads 61 = .ok (.iadd, 1) := by decide +kernel
theorem dX9_loads_62 : decode cX9_loads 62 = .ok (.iaload, 1) := by decide +kernel
theorem dX9_loads_63 : decode cX9_loads 63 = .ok (.iconst 0, 1) := by decide +kernel
theorem dX9_loads_64 : decode cX9_loads 64 = .ok (.bipush 99, 2) := by decide +kernel
theorem dX9_loads_66 : decode cX9_loads 66 = .ok (.invokestatic 53, 3) := by decide +kernel
theorem dX9_loads_69 : decode cX9_loads 69 = .ok (.ifCond .eq 33, 3) := by decide +kernel
theorem dX9_loads_72 : decode cX9_loads 72 = .ok (.aload_n 0, 1) := by decide +kernel
theorem dX9_loads_73 : decode cX9_loads 73 = .ok (.getfield 7, 3) := by decide +kernel
theorem dX9_loads_76 : decode cX9_loads 76 = .ok (.bipush 9, 2) := by decide +kernel
theorem dX9_loads_78 : decode cX9_loads 78 = .ok (.iconst 4, 1) := by decide +kernel
theorem dX9_loads_79 : decode cX9_loads 79 = .ok (.iload_n 2, 1) := by decide +kernel
theorem dX9_loads_80 : decode cX9_loads 80 = .ok (.imul, 1) := by decide +kernel
theorem dX9_loads_81 : decode cX9_loads 81 = .ok (.iadd, 1) := by decide +kernel
theorem dX9_loads_82 : decode cX9_loads 82 = .ok (.iconst 2, 1) := by decide +kernel
theorem dX9_loads_83 : decode cX9_loads 83 = .ok (.iadd, 1) := by decide +kernel
theorem dX9_loads_84 : decode cX9_loads 84 = .ok (.aload_n 0, 1) := by decide +kernel
theorem dX9_loads_85 : decode cX9_loads 85 = .ok (.getfield 43, 3) := by decide +kernel
theorem dX9_loads_88 : decode cX9_loads 88 = .ok (.bipush 40, 2) := by decide +kernel
theorem dX9_loads_90 : decode cX9_loads 90 = .ok (.iload_n 1, 1) := by decide +kernel
theorem dX9_loads_91 : decode cX9_loads 91 = .ok (.imul, 1) := by decide +kernel
theorem dX9_loads_92 : decode cX9_loads 92 = .ok (.iload_n 2, 1) := by decide +kernel
theorem dX9_loads_93 : decode cX9_loads 93 = .ok (.iadd, 1) := by decide +kernel
theorem dX9_loads_94 : decode cX9_loads 94 = .ok (.iaload, 1) := by decide +kernel
theorem dX9_loads_95 : decode cX9_loads 95 = .ok (.iastore, 1) := by decide +kernel
theorem dX9_loads_96 : decode cX9_loads 96 = .ok (.iinc 2 1, 3) := by decide +kernel
theorem dX9_loads_99 : decode cX9_loads 99 = .ok (.goto (-67), 3) := by decide +kernel
theorem dX9_loads_102 : decode cX9_loads 102 = .ok (.iload_n 2, 1) := by decide +kernel
theorem dX9_loads_103 : decode cX9_loads 103 = .ok (.ireturn, 1) := by decide +kernel
theorem dX9_judge_0 : decode cX9_judge 0 = .ok (.iload_n 1, 1) := by decide +kernel
theorem dX9_judge_1 : decode cX9_judge 1 = .ok (.invokestatic 228, 3) := by decide +kernel
theorem dX9_judge_4 : decode cX9_judge 4 = .ok (.ifCond .ne 10, 3) := by decide +kernel
theorem dX9_judge_7 : decode cX9_judge 7 = .ok (.aload_n 0, 1) := by decide +kernel
theorem dX9_judge_8 : decode cX9_judge 8 = .ok (.ldc 61, 2) := by decide +kernel
theorem dX9_judge_10 : decode cX9_judge 10 = .ok (.invokevirtual 62, 3) := by decide +kernel
theorem dX9_judge_13 : decode cX9_judge 13 = .ok (.ireturn, 1) := by decide +kernel
theorem dX9_judge_14 : decode cX9_judge 14 = .ok (.aload_n 0, 1) := by decide +kernel
theorem dX9_judge_15 : decode cX9_judge 15 = .ok (.getfield 37, 3) := by decide +kernel
theorem dX9_judge_18 : decode cX9_judge 18 = .ok (.iload_n 1, 1) := by decide +kernel
theorem dX9_judge_19 : decode cX9_judge 19 = .ok (.iaload, 1) := by decide +kernel
theorem dX9_judge_20 : decode cX9_judge 20 = .ok (.ifCond .ne 12, 3) := by decide +kernel
theorem dX9_judge_23 : decode cX9_judge 23 = .ok (.aload_n 0, 1) := by decide +kernel
theorem dX9_judge_24 : decode cX9_judge 24 = .ok (.ldc 218, 2) := by decide +kernel
theorem dX9_judge_26 : decode cX9_judge 26 = .ok (.invokevirtual 62, 3) := by decide +kernel
theorem dX9_judge_29 : decode cX9_judge 29 = .ok (.goto 8, 3) := by decide +kernel
theorem dX9_judge_32 : decode cX9_judge 32 = .ok (.aload_n 0, 1) := by decide +kernel
theorem dX9_judge_33 : decode cX9_judge 33 = .ok (.iload_n 1, 1) := by decide +kernel
theorem dX9_judge_34 : decode cX9_judge 34 = .ok (.invokevirtual 231, 3) := by decide +kernel
theorem dX9_judge_37 : decode cX9_judge 37 = .ok (.ireturn, 1) := by decide +kernel
theorem dX9_image_0 : decode cX9_image 0 = .ok (.aload_n 0, 1) := by decide +kernel
theorem dX9_image_1 : decode cX9_image 1 = .ok (.aload_n 0, 1) := by decide +kernel
theorem dX9_image_2 : decode cX9_image 2 = .ok (.getfield 7, 3) := by decide +kernel
theorem dX9_image_5 : decode cX9_image 5 = .ok (.aload_n 0, 1) := by decide +kernel
theorem dX9_image_6 : decode cX9_image 6 = .ok (.getfield 13, 3) := by decide +kernel
theorem dX9_image_9 : decode cX9_image 9 = .ok (.invokevirtual 186, 3) := by decide +kernel
theorem dX9_image_12 : decode cX9_image 12 = .ok (.aload_n 0, 1) := by decide +kernel
theorem dX9_image_13 : decode cX9_image 13 = .ok (.iconst 1, 1) := by decide +kernel
theorem dX9_image_14 : decode cX9_image 14 = .ok (.putfield 265, 3) := by decide +kernel
theorem dX9_image_17 : decode cX9_image 17 = .ok (.aload_n 0, 1) := by decide +kernel
theorem dX9_image_18 : decode cX9_image 18 = .ok (.dup, 1) := by decide +kernel
theorem dX9_image_19 : decode cX9_image 19 = .ok (.getfield 268, 3) := by decide +kernel
theorem dX9_image_22 : decode cX9_image 22 = .ok (.iconst 1, 1) := by decide +kernel
theorem dX9_image_23 : decode cX9_image 23 = .ok (.iadd, 1) := by decide +kernel
theorem dX9_image_24 : decode cX9_image 24 = .ok (.putfield 268, 3) := by decide +kernel
theorem dX9_image_27 : decode cX9_image 27 = .ok (.aload_n 0, 1) := by decide +kernel
theorem dX9_image_28 : decode cX9_image 28 = .ok (.getfield 268, 3) := by decide +kernel
theorem dX9_image_31 : decode cX9_image 31 = .ok (.ireturn, 1) := by decide +kernel
theorem dX9_restore_0 : decode cX9_restore 0 = .ok (.aload_n 0, 1) := by decide +kernel
theorem dX9_restore_1 : decode cX9_restore 1 = .ok (.getfield 265, 3) := by decide +kernel
theorem dX9_restore_4 : decode cX9_restore 4 = .ok (.ifCond .ne 10, 3) := by decide +kernel
theorem dX9_restore_7 : decode cX9_restore 7 = .ok (.aload_n 0, 1) := by decide +kernel
theorem dX9_restore_8 : decode cX9_restore 8 = .ok (.ldc 218, 2) := by decide +kernel
theorem dX9_restore_10 : decode cX9_restore 10 = .ok (.invokevirtual 62, 3) := by decide +kernel
theorem dX9_restore_13 : decode cX9_restore 13 = .ok (.ireturn, 1) := by decide +kernel
theorem dX9_restore_14 : decode cX9_restore 14 = .ok (.aload_n 0, 1) := by decide +kernel
theorem dX9_restore_15 : decode cX9_restore 15 = .ok (.aload_n 0, 1) := by decide +kernel
theorem dX9_restore_16 : decode cX9_restore 16 = .ok (.getfield 13, 3) := by decide +kernel
theorem dX9_restore_19 : decode cX9_restore 19 = .ok (.aload_n 0, 1) := by decide +kernel
theorem dX9_restore_20 : decode cX9_restore 20 = .ok (.getfield 7, 3) := by decide +kernel
theorem dX9_restore_23 : decode cX9_restore 23 = .ok (.invokevirtual 186, 3) := by decide +kernel
theorem dX9_restore_26 : decode cX9_restore 26 = .ok (.aload_n 0, 1) := by decide +kernel
theorem dX9_restore_27 : decode cX9_restore 27 = .ok (.getfield 7, 3) := by decide +kernel
theorem dX9_restore_30 : decode cX9_restore 30 = .ok (.iconst 0, 1) := by decide +kernel
theorem dX9_restore_31 : decode cX9_restore 31 = .ok (.iaload, 1) := by decide +kernel
theorem dX9_restore_32 : decode cX9_restore 32 = .ok (.ireturn, 1) := by decide +kernel
theorem dX9_tell_0 : decode cX9_tell 0 = .ok (.aload_n 0, 1) := by decide +kernel
theorem dX9_tell_1 : decode cX9_tell 1 = .ok (.getfield 7, 3) := by decide +kernel
theorem dX9_tell_4 : decode cX9_tell 4 = .ok (.iconst 5, 1) := by decide +kernel
theorem dX9_tell_5 : decode cX9_tell 5 = .ok (.iaload, 1) := by decide +kernel
theorem dX9_tell_6 : decode cX9_tell 6 = .ok (.bipush 20, 2) := by decide +kernel
theorem dX9_tell_8 : decode cX9_tell 8 = .ok (.if_icmp .ne 10, 3) := by decide +kernel
theorem dX9_tell_11 : decode cX9_tell 11 = .ok (.aload_n 0, 1) := by decide +kernel
theorem dX9_tell_12 : decode cX9_tell 12 = .ok (.ldc 66, 2) := by decide +kernel
theorem dX9_tell_14 : decode cX9_tell 14 = .ok (.invokevirtual 62, 3) := by decide +kernel
theorem dX9_tell_17 : decode cX9_tell 17 = .ok (.ireturn, 1) := by decide +kernel
theorem dX9_tell_18 : decode cX9_tell 18 = .ok (.aload_n 0, 1) := by decide +kernel
theorem dX9_tell_19 : decode cX9_tell 19 = .ok (.getfield 7, 3) := by decide +kernel
theorem dX9_tell_22 : decode cX9_tell 22 = .ok (.bipush 109, 2) := by decide +kernel
theorem dX9_tell_24 : decode cX9_tell 24 = .ok (.aload_n 0, 1) := by decide +kernel
theorem dX9_tell_25 : decode cX9_tell 25 = .ok (.getfield 7, 3) := by decide +kernel
theorem dX9_tell_28 : decode cX9_tell 28 = .ok (.iconst 5, 1) := by decide +kernel
theorem dX9_tell_29 : decode cX9_tell 29 = .ok (.iaload, 1) := by decide +kernel
theorem dX9_tell_30 : decode cX9_tell 30 = .ok (.iadd, 1) := by decide +kernel
theorem dX9_tell_31 : decode cX9_tell 31 = .ok (.iload_n 1, 1) := by decide +kernel
theorem dX9_tell_32 : decode cX9_tell 32 = .ok (.iastore, 1) := by decide +kernel
theorem dX9_tell_33 : decode cX9_tell 33 = .ok (.aload_n 0, 1) := by decide +kernel
theorem dX9_tell_34 : decode cX9_tell 34 = .ok (.getfield 7, 3) := by decide +kernel
theorem dX9_tell_37 : decode cX9_tell 37 = .ok (.iconst 5, 1) := by decide +kernel
theorem dX9_tell_38 : decode cX9_tell 38 = .ok (.dup2, 1) := by decide +kernel
theorem dX9_tell_39 : decode cX9_tell 39 = .ok (.iaload, 1) := by decide +kernel
theorem dX9_tell_40 : decode cX9_tell 40 = .ok (.iconst 1, 1) := by decide +kernel
theorem dX9_tell_41 : decode cX9_tell 41 = .ok (.iadd, 1) := by decide +kernel
theorem dX9_tell_42 : decode cX9_tell 42 = .ok (.iastore, 1) := by decide +kernel
theorem dX9_tell_43 : decode cX9_tell 43 = .ok (.aload_n 0, 1) := by decide +kernel
theorem dX9_tell_44 : decode cX9_tell 44 = .ok (.getfield 7, 3) := by decide +kernel
theorem dX9_tell_47 : decode cX9_tell 47 = .ok (.iconst 5, 1) := by decide +kernel
theorem dX9_tell_48 : decode cX9_tell 48 = .ok (.iaload, 1) := by decide +kernel
theorem dX9_tell_49 : decode cX9_tell 49 = .ok (.ireturn, 1) := by decide +kernel
theorem dX9_check_0 : decode cX9_check 0 = .ok (.aload_n 0, 1) := by decide +kernel
theorem dX9_check_1 : decode cX9_check 1 = .ok (.getfield 7, 3) := by decide +kernel
theorem dX9_check_4 : decode cX9_check 4 = .ok (.iconst 5, 1) := by decide +kernel
theorem dX9_check_5 : decode cX9_check 5 = .ok (.iaload, 1) := by decide +kernel
theorem dX9_check_6 : decode cX9_check 6 = .ok (.istore_n 1, 1) := by decide +kernel
theorem dX9_check_7 : decode cX9_check 7 = .ok (.aload_n 0, 1) := by decide +kernel
theorem dX9_check_8 : decode cX9_check 8 = .ok (.getfield 7, 3) := by decide +kernel
theorem dX9_check_11 : decode cX9_check 11 = .ok (.iconst 5, 1) := by decide +kernel
theorem dX9_check_12 : decode cX9_check 12 = .ok (.iconst 0, 1) := by decide +kernel
theorem dX9_check_13 : decode cX9_check 13 = .ok (.iastore, 1) := by decide +kernel
theorem dX9_check_14 : decode cX9_check 14 = .ok (.aload_n 0, 1) := by decide +kernel
theorem dX9_check_15 : decode cX9_check 15 = .ok (.aload_n 0, 1) := by decide +kernel
theorem dX9_check_16 : decode cX9_check 16 = .ok (.getfield 7, 3) := by decide +kernel
theorem dX9_check_19 : decode cX9_check 19 = .ok (.aload_n 0, 1) := by decide +kernel
theorem dX9_check_20 : decode cX9_check 20 = .ok (.getfield 16, 3) := by decide +kernel
theorem dX9_check_23 : decode cX9_check 23 = .ok (.invokevirtual 186, 3) := by decide +kernel
theorem dX9_check_26 : decode cX9_check 26 = .ok (.iconst 0, 1) := by decide +kernel
theorem dX9_check_27 : decode cX9_check 27 = .ok (.istore_n 2, 1) := by decide +kernel
theorem dX9_check_28 : decode cX9_check 28 = .ok (.iconst 1, 1) := by decide +kernel
theorem dX9_check_29 : decode cX9_check 29 = .ok (.istore_n 3, 1) := by decide +kernel
theorem dX9_check_30 : decode cX9_check 30 = .ok (.iload_n 2, 1) := by decide +kernel
theorem dX9_check_31 : decode cX9_check 31 = .ok (.iload_n 1, 1) := by decide +kernel
theorem dX9_check_32 : decode cX9_check 32 = .ok (.if_icmp .ge 56, 3) := by decide +kernel
theorem dX9_check_35 : decode cX9_check 35 = .ok (.iload_n 3, 1) := by decide +kernel
theorem dX9_check_36 : decode cX9_check 36 = .ok (.ifCond .eq 52, 3) := by decide +kernel
theorem dX9_check_39 : decode cX9_check 39 = .ok (.aload_n 0, 1) := by decide +kernel
theorem dX9_check_40 : decode cX9_check 40 = .ok (.iconst 1, 1) := by decide +kernel
theorem dX9_check_41 : decode cX9_check 41 = .ok (.invokevirtual 222, 3) := by decide +kernel
theorem dX9_check_44 : decode cX9_check 44 = .ok (.istore 4, 2) := by decide +kernel
theorem dX9_check_46 : decode cX9_check 46 = .ok (.iload 4, 2) := by decide +kernel
theorem dX9_check_48 : decode cX9_check 48 = .ok (.ifCond .lt 23, 3) := by decide +kernel
theorem dX9_check_51 : decode cX9_check 51 = .ok (.aload_n 0, 1) := by decide +kernel
theorem dX9_check_52 : decode cX9_check 52 = .ok (.invokevirtual 215, 3) := by decide +kernel
theorem dX9_check_55 : decode cX9_check 55 = .ok (.aload_n 0, 1) := by decide +kernel
theorem dX9_check_56 : decode cX9_check 56 = .ok (.getfield 7, 3) := by decide +kernel
theorem dX9_check_59 : decode cX9_check 59 = .ok (.bipush 109, 2) := by decide +kernel
theorem dX9_check_61 : decode cX9_check 61 = .ok (.iload_n 2, 1) := by decide +kernel
theorem dX9_check_62 : decode cX9_check 62 = .ok (.iadd, 1) := by decide +kernel
theorem dX9_check_63 : decode cX9_check 63 = .ok (.iaload, 1) := by decide +kernel
theorem dX9_check_64 : decode cX9_check 64 = .ok (.if_icmp .ne 7, 3) := by decide +kernel
theorem dX9_check_67 : decode cX9_check 67 = .ok (.iconst 1, 1) := by decide +kernel
theorem dX9_check_68 : decode cX9_check 68 = .ok (.goto 4, 3) := by decide +kernel
theorem dX9_check_71 : decode cX9_check 71 = .ok (.iconst 0, 1) := by decide +kernel
theorem dX9_check_72 : decode cX9_check 72 = .ok (.istore_n 3, 1) := by decide +kernel
theorem dX9_check_73 : decode cX9_check 73 = .ok (.iload_n 2, 1) := by decide +kernel
theorem dX9_check_74 : decode cX9_check 74 = .ok (.iload_n 3, 1) := by decide +kernel
theorem dX9_check_75 : decode cX9_check 75 = .ok (.ifCond .eq 7, 3) := by decide +kernel
theorem dX9_check_78 : decode cX9_check 78 = .ok (.iconst 1, 1) := by decide +kernel
theorem dX9_check_79 : decode cX9_check 79 = .ok (.goto 4, 3) := by decide +kernel
theorem dX9_check_82 : decode cX9_check 82 = .ok (.iconst 0, 1) := by decide +kernel
theorem dX9_check_83 : decode cX9_check 83 = .ok (.iadd, 1) := by decide +kernel
theorem dX9_check_84 : decode cX9_check 84 = .ok (.istore_n 2, 1) := by decide +kernel
theorem dX9_check_85 : decode cX9_check 85 = .ok (.goto (-55), 3) := by decide +kernel
theorem dX9_check_88 : decode cX9_check 88 = .ok (.aload_n 0, 1) := by decide +kernel
theorem dX9_check_89 : decode cX9_check 89 = .ok (.aload_n 0, 1) := by decide +kernel
theorem dX9_check_90 : decode cX9_check 90 = .ok (.getfield 16, 3) := by decide +kernel
theorem dX9_check_93 : decode cX9_check 93 = .ok (.aload_n 0, 1) := by decide +kernel
theorem dX9_check_94 : decode cX9_check 94 = .ok (.getfield 7, 3) := by decide +kernel
theorem dX9_check_97 : decode cX9_check 97 = .ok (.invokevirtual 186, 3) := by decide +kernel
theorem dX9_check_100 : decode cX9_check 100 = .ok (.iload_n 3, 1) := by decide +kernel
theorem dX9_check_101 : decode cX9_check 101 = .ok (.ifCond .eq 7, 3) := by decide +kernel
theorem dX9_check_104 : decode cX9_check 104 = .ok (.iconst 0, 1) := by decide +kernel
theorem dX9_check_105 : decode cX9_check 105 = .ok (.goto 6, 3) := by decide +kernel
theorem dX9_check_108 : decode cX9_check 108 = .ok (.iconst 1, 1) := by decide +kernel
theorem dX9_check_109 : decode cX9_check 109 = .ok (.iload_n 2, 1) := by decide +kernel
theorem dX9_check_110 : decode cX9_check 110 = .ok (.iadd, 1) := by decide +kernel
theorem dX9_check_111 : decode cX9_check 111 = .ok (.ireturn, 1) := by decide +kernel
theorem dX9_applause_0 : decode cX9_applause 0 = .ok (.iconst 0, 1) := by decide +kernel
theorem dX9_applause_1 : decode cX9_applause 1 = .ok (.istore_n 1, 1) := by decide +kernel
theorem dX9_applause_2 : decode cX9_applause 2 = .ok (.iconst 0, 1) := by decide +kernel
theorem dX9_applause_3 : decode cX9_applause 3 = .ok (.istore_n 2, 1) := by decide +kernel
theorem dX9_applause_4 : decode cX9_applause 4 = .ok (.iload_n 2, 1) := by decide +kernel
theorem dX9_applause_5 : decode cX9_applause 5 = .ok (.aload_n 0, 1) := by decide +kernel
theorem dX9_applause_6 : decode cX9_applause 6 = .ok (.getfield 7, 3) := by decide +kernel
theorem dX9_applause_9 : decode cX9_applause 9 = .ok (.iconst 3, 1) := by decide +kernel
theorem dX9_applause_10 : decode cX9_applause 10 = .ok (.iaload, 1) := by decide +kernel
theorem dX9_applause_11 : decode cX9_applause 11 = .ok (.if_icmp .ge 18, 3) := by decide +kernel
theorem dX9_applause_14 : decode cX9_applause 14 = .ok (.iload_n 1, 1) := by decide +kernel
theorem dX9_applause_15 : decode cX9_applause 15 = .ok (.aload_n 0, 1) := by decide +kernel
theorem dX9_applause_16 : decode cX9_applause 16 = .ok (.iload_n 2, 1) := by decide +kernel
theorem dX9_applause_17 : decode cX9_applause 17 = .ok (.iconst 3, 1) := by decide +kernel
theorem dX9_applause_18 : decode cX9_applause 18 = .ok (.invokevirtual 67, 3) := by decide +kernel
theorem dX9_applause_21 : decode cX9_applause 21 = .ok (.iadd, 1) := by decide +kernel
theorem dX9_applause_22 : decode cX9_applause 22 = .ok (.istore_n 1, 1) := by decide +kernel
theorem dX9_applause_23 : decode cX9_applause 23 = .ok (.iinc 2 1, 3) := by decide +kernel
theorem dX9_applause_26 : decode cX9_applause 26 = .ok (.goto (-22), 3) := by decide +kernel
theorem dX9_applause_29 : decode cX9_applause 29 = .ok (.iload_n 1, 1) := by decide +kernel
theorem dX9_applause_30 : decode cX9_applause 30 = .ok (.ireturn, 1) := by decide +kernel
theorem dX9_illSet_0 : decode cX9_illSet 0 = .ok (.iconst 0, 1) := by decide +kernel
theorem dX9_illSet_1 : decode cX9_illSet 1 = .ok (.istore_n 1, 1) := by decide +kernel
theorem dX9_illSet_2 : decode cX9_illSet 2 = .ok (.iconst 0, 1) := by decide +kernel
theorem dX9_illSet_3 : decode cX9_illSet 3 = .ok (.istore_n 2, 1) := by decide +kernel
theorem dX9_illSet_4 : decode cX9_illSet 4 = .ok (.iload_n 2, 1) := by decide +kernel
theorem dX9_illSet_5 : decode cX9_illSet 5 = .ok (.aload_n 0, 1) := by decide +kernel
theorem dX9_illSet_6 : decode cX9_illSet 6 = .ok (.getfield 7, 3) := by decide +kernel
theorem dX9_illSet_9 : decode cX9_illSet 9 = .ok (.bipush 8, 2) := by decide +kernel
theorem dX9_illSet_11 : decode cX9_illSet 11 = .ok (.iaload, 1) := by decide +kernel
theorem dX9_illSet_12 : decode cX9_illSet 12 = .ok (.if_icmp .ge 20, 3) := by decide +kernel
theorem dX9_illSet_15 : decode cX9_illSet 15 = .ok (.iload_n 1, 1) := by decide +kernel
theorem dX9_illSet_16 : decode cX9_illSet 16 = .ok (.aload_n 0, 1) := by decide +kernel
theorem dX9_illSet_17 : decode cX9_illSet 17 = .ok (.iload_n 2, 1) := by decide +kernel
theorem dX9_illSet_18 : decode cX9_illSet 18 = .ok (.iconst 4, 1) := by decide +kernel
theorem dX9_illSet_19 : decode cX9_illSet 19 = .ok (.invokevirtual 71, 3) := by decide +kernel
theorem dX9_illSet_22 : decode cX9_illSet 22 = .ok (.iload_n 2, 1) := by decide +kernel
theorem dX9_illSet_23 : decode cX9_illSet 23 = .ok (.ishl, 1) := by decide +kernel
theorem dX9_illSet_24 : decode cX9_illSet 24 = .ok (.ior, 1) := by decide +kernel
theorem dX9_illSet_25 : decode cX9_illSet 25 = .ok (.istore_n 1, 1) := by decide +kernel
theorem dX9_illSet_26 : decode cX9_illSet 26 = .ok (.iinc 2 1, 3) := by decide +kernel
theorem dX9_illSet_29 : decode cX9_illSet 29 = .ok (.goto (-25), 3) := by decide +kernel
theorem dX9_illSet_32 : decode cX9_illSet 32 = .ok (.iload_n 1, 1) := by decide +kernel
theorem dX9_illSet_33 : decode cX9_illSet 33 = .ok (.ireturn, 1) := by decide +kernel
theorem dX9_count_0 : decode cX9_count 0 = .ok (.iload_n 1, 1) := by decide +kernel
theorem dX9_count_1 : decode cX9_count 1 = .ok (.tableswitch 129 0 10 #[59, 66, 74, 81, 88, 93, 98, 103, 110, 117, 122], 59) := by decide +kernel
theorem dX9_count_60 : decode cX9_count 60 = .ok (.aload_n 0, 1) := by decide +kernel
theorem dX9_count_61 : decode cX9_count 61 = .ok (.getfield 7, 3) := by decide +kernel
theorem dX9_count_64 : decode cX9_count 64 = .ok (.iconst 3, 1) := by decide +kernel
theorem dX9_count_65 : decode cX9_count 65 = .ok (.iaload, 1) := by decide +kernel
theorem dX9_count_66 : decode cX9_count 66 = .ok (.ireturn, 1) := by decide +kernel
theorem dX9_count_67 : decode cX9_count 67 = .ok (.aload_n 0, 1) := by decide +kernel
theorem dX9_count_68 : decode cX9_count 68 = .ok (.getfield 7, 3) := by decide +kernel
theorem dX9_count_71 : decode cX9_count 71 = .ok (.bipush 8, 2) := by decide +kernel
theorem dX9_count_73 : decode cX9_count 73 = .ok (.iaload, 1) := by decide +kernel
theorem dX9_count_74 : decode cX9_count 74 = .ok (.ireturn, 1) := by decide +kernel
theorem dX9_count_75 : decode cX9_count 75 = .ok (.aload_n 0, 1) := by decide +kernel
theorem dX9_count_76 : decode cX9_count 76 = .ok (.getfield 7, 3) := by decide +kernel
theorem dX9_count_79 : decode cX9_count 79 = .ok (.iconst 0, 1) := by decide +kernel
theorem dX9_count_80 : decode cX9_count 80 = .ok (.iaload, 1) := by decide +kernel
theorem dX9_count_81 : decode cX9_count 81 = .ok (.ireturn, 1) := by decide +kernel
theorem dX9_count_82 : decode cX9_count 82 = .ok (.aload_n 0, 1) := by decide +kernel
theorem dX9_count_83 : decode cX9_count 83 = .ok (.getfield 7, 3) := by decide +kernel
theorem dX9_count_86 : decode cX9_count 86 = .ok (.iconst 1, 1) := by decide +kernel
theorem dX9_count_87 : decode cX9_count 87 = .ok (.iaload, 1) := by decide +kernel
theorem dX9_count_88 : decode cX9_count 88 = .ok (.ireturn, 1) := by decide +kernel
theorem dX9_count_89 : decode cX9_count 89 = .ok (.aload_n 0, 1) := by decide +kernel
theorem dX9_count_90 : decode cX9_count 90 = .ok (.invokevirtual 271, 3) := by decide +kernel
theorem dX9_count_93 : decode cX9_count 93 = .ok (.ireturn, 1) := by decide +kernel
theorem dX9_count_94 : decode cX9_count 94 = .ok (.aload_n 0, 1) := by decide +kernel
theorem dX9_count_95 : decode cX9_count 95 = .ok (.invokevirtual 215, 3) := by decide +kernel
theorem dX9_count_98 : decode cX9_count 98 = .ok (.ireturn, 1) := by decide +kernel
theorem dX9_count_99 : decode cX9_count 99 = .ok (.aload_n 0, 1) := by decide +kernel
theorem dX9_count_100 : decode cX9_count 100 = .ok (.invokevirtual 274, 3) := by decide +kernel
theorem dX9_count_103 : decode cX9_count 103 = .ok (.ireturn, 1) := by decide +kernel
theorem dX9_count_104 : decode cX9_count 104 = .ok (.aload_n 0, 1) := by decide +kernel
theorem dX9_count_105 : decode cX9_count 105 = .ok (.getfield 7, 3) := by decide +kernel
theorem dX9_count_108 : decode cX9_count 108 = .ok (.iconst 4, 1) := by decide +kernel
theorem dX9_count_109 : decode cX9_count 109 = .ok (.iaload, 1) := by decide +kernel
theorem dX9_count_110 : decode cX9_count 110 = .ok (.ireturn, 1) := by decide +kernel
theorem dX9_count_111 : decode cX9_count 111 = .ok (.aload_n 0, 1) := by decide +kernel
theorem dX9_count_112 : decode cX9_count 112 = .ok (.getfield 7, 3) := by decide +kernel
theorem dX9_count_115 : decode cX9_count 115 = .ok (.iconst 5, 1) := by decide +kernel
theorem dX9_count_116 : decode cX9_count 116 = .ok (.iaload, 1) := by decide +kernel
theorem dX9_count_117 : decode cX9_count 117 = .ok (.ireturn, 1) := by decide +kernel
theorem dX9_count_118 : decode cX9_count 118 = .ok (.aload_n 0, 1) := by decide +kernel
theorem dX9_count_119 : decode cX9_count 119 = .ok (.getfield 234, 3) := by decide +kernel
theorem dX9_count_122 : decode cX9_count 122 = .ok (.ireturn, 1) := by decide +kernel
theorem dX9_count_123 : decode cX9_count 123 = .ok (.aload_n 0, 1) := by decide +kernel
theorem dX9_count_124 : decode cX9_count 124 = .ok (.getfield 7, 3) := by decide +kernel
theorem dX9_count_127 : decode cX9_count 127 = .ok (.iconst 2, 1) := by decide +kernel
theorem dX9_count_128 : decode cX9_count 128 = .ok (.iaload, 1) := by decide +kernel
theorem dX9_count_129 : decode cX9_count 129 = .ok (.ireturn, 1) := by decide +kernel
theorem dX9_count_130 : decode cX9_count 130 = .ok (.aload_n 0, 1) := by decide +kernel
theorem dX9_count_131 : decode cX9_count 131 = .ok (.ldc 61, 2) := by decide +kernel
theorem dX9_count_133 : decode cX9_count 133 = .ok (.invokevirtual 62, 3) := by decide +kernel
theorem dX9_count_136 : decode cX9_count 136 = .ok (.ireturn, 1) := by decide +kernel
theorem dX9_told_0 : decode cX9_told 0 = .ok (.iload_n 1, 1) := by decide +kernel
theorem dX9_told_1 : decode cX9_told 1 = .ok (.iconst 1, 1) := by decide +kernel
theorem dX9_told_2 : decode cX9_told 2 = .ok (.iconst 5, 1) := by decide +kernel
theorem dX9_told_3 : decode cX9_told 3 = .ok (.invokestatic 53, 3) := by decide +kernel
theorem dX9_told_6 : decode cX9_told 6 = .ok (.ifCond .eq 12, 3) := by decide +kernel
theorem dX9_told_9 : decode cX9_told 9 = .ok (.aload_n 0, 1) := by decide +kernel
theorem dX9_told_10 : decode cX9_told 10 = .ok (.getfield 22, 3) := by decide +kernel
theorem dX9_told_13 : decode cX9_told 13 = .ok (.iload_n 1, 1) := by decide +kernel
theorem dX9_told_14 : decode cX9_told 14 = .ok (.iaload, 1) := by decide +kernel
theorem dX9_told_15 : decode cX9_told 15 = .ok (.goto 9, 3) := by decide +kernel
theorem dX9_told_18 : decode cX9_told 18 = .ok (.aload_n 0, 1) := by decide +kernel
theorem dX9_told_19 : decode cX9_told 19 = .ok (.ldc 61, 2) := by decide +kernel
theorem dX9_told_21 : decode cX9_told 21 = .ok (.invokevirtual 62, 3) := by decide +kernel
theorem dX9_told_24 : decode cX9_told 24 = .ok (.ireturn, 1) := by decide +kernel
theorem dJ11_isValidCodePoint_9a6ad_0 : decode cJ11_isValidCodePoint_9a6ad 0 = .ok (.iload_n 0, 1) := by decide +kernel
theorem dJ11_isValidCodePoint_9a6ad_1 : decode cJ11_isValidCodePoint_9a6ad 1 = .ok (.bipush 16, 2) := by decide +kernel
theorem dJ11_isValidCodePoint_9a6ad_3 : decode cJ11_isValidCodePoint_9a6ad 3 = .ok (.iushr, 1) := by decide +kernel
theorem dJ11_isValidCodePoint_9a6ad_4 : decode cJ11_isValidCodePoint_9a6ad 4 = .ok (.istore_n 1, 1) := by decide +kernel
theorem dJ11_isValidCodePoint_9a6ad_5 : decode cJ11_isValidCodePoint_9a6ad 5 = .ok (.iload_n 1, 1) := by decide +kernel
theorem dJ11_isValidCodePoint_9a6ad_6 : decode cJ11_isValidCodePoint_9a6ad 6 = .ok (.bipush 17, 2) := by decide +kernel
theorem dJ11_isValidCodePoint_9a6ad_8 : decode cJ11_isValidCodePoint_9a6ad 8 = .ok (.if_icmp .ge 7, 3) := by decide +kernel
theorem dJ11_isValidCodePoint_9a6ad_11 : decode cJ11_isValidCodePoint_9a6ad 11 = .ok (.iconst 1, 1) := by decide +kernel
theorem dJ11_isValidCodePoint_9a6ad_12 : decode cJ11_isValidCodePoint_9a6ad 12 = .ok (.goto 4, 3) := by decide +kernel
theorem dJ11_isValidCodePoint_9a6ad_15 : decode cJ11_isValidCodePoint_9a6ad 15 = .ok (.iconst 0, 1) := by decide +kernel
theorem dJ11_isValidCodePoint_9a6ad_16 : decode cJ11_isValidCodePoint_9a6ad 16 = .ok (.ireturn, 1) := by decide +kernel
theorem dJ11_highSurrogate_5068e_0 : decode cJ11_highSurrogate_5068e 0 = .ok (.iload_n 0, 1) := by decide +kernel
theorem dJ11_highSurrogate_5068e_1 : decode cJ11_highSurrogate_5068e 1 = .ok (.bipush 10, 2) := by decide +kernel
theorem dJ11_highSurrogate_5068e_3 : decode cJ11_highSurrogate_5068e 3 = .ok (.iushr, 1) := by decide +kernel
theorem dJ11_highSurrogate_5068e_4 : decode cJ11_highSurrogate_5068e 4 = .ok (.ldc 110, 2) := by decide +kernel
theorem dJ11_highSurrogate_5068e_6 : decode cJ11_highSurrogate_5068e 6 = .ok (.iadd, 1) := by decide +kernel
theorem dJ11_highSurrogate_5068e_7 : decode cJ11_highSurrogate_5068e 7 = .ok (.i2c, 1) := by decide +kernel
theorem dJ11_highSurrogate_5068e_8 : decode cJ11_highSurrogate_5068e 8 = .ok (.ireturn, 1) := by decide +kernel
theorem dJ11_lowSurrogate_5068e_0 : decode cJ11_lowSurrogate_5068e 0 = .ok (.iload_n 0, 1) := by decide +kernel
theorem dJ11_lowSurrogate_5068e_1 : decode cJ11_lowSurrogate_5068e 1 = .ok (.sipush 1023, 3) := by decide +kernel
theorem dJ11_lowSurrogate_5068e_4 : decode cJ11_lowSurrogate_5068e 4 = .ok (.iand, 1) := by decide +kernel
theorem dJ11_lowSurrogate_5068e_5 : decode cJ11_lowSurrogate_5068e 5 = .ok (.ldc 76, 2) := by decide +kernel
theorem dJ11_lowSurrogate_5068e_7 : decode cJ11_lowSurrogate_5068e 7 = .ok (.iadd, 1) := by decide +kernel
theorem dJ11_lowSurrogate_5068e_8 : decode cJ11_lowSurrogate_5068e 8 = .ok (.i2c, 1) := by decide +kernel
theorem dJ11_lowSurrogate_5068e_9 : decode cJ11_lowSurrogate_5068e 9 = .ok (.ireturn, 1) := by decide +kernel
theorem dJ6_bitCount_0f7a4_0 : decode cJ6_bitCount_0f7a4 0 = .ok (.iload_n 0, 1) := by decide +kernel
theorem dJ6_bitCount_0f7a4_1 : decode cJ6_bitCount_0f7a4 1 = .ok (.iload_n 0, 1) := by decide +kernel
theorem dJ6_bitCount_0f7a4_2 : decode cJ6_bitCount_0f7a4 2 = .ok (.iconst 1, 1) := by decide +kernel
theorem dJ6_bitCount_0f7a4_3 : decode cJ6_bitCount_0f7a4 3 = .ok (.iushr, 1) := by decide +kernel
theorem dJ6_bitCount_0f7a4_4 : decode cJ6_bitCount_0f7a4 4 = .ok (.ldc_w 265, 3) := by decide +kernel
theorem dJ6_bitCount_0f7a4_7 : decode cJ6_bitCount_0f7a4 7 = .ok (.iand, 1) := by decide +kernel
theorem dJ6_bitCount_0f7a4_8 : decode cJ6_bitCount_0f7a4 8 = .ok (.isub, 1) := by decide +kernel
theorem dJ6_bitCount_0f7a4_9 : decode cJ6_bitCount_0f7a4 9 = .ok (.istore_n 0, 1) := by decide +kernel
theorem dJ6_bitCount_0f7a4_10 : decode cJ6_bitCount_0f7a4 10 = .ok (.iload_n 0, 1) := by decide +kernel
theorem dJ6_bitCount_0f7a4_11 : decode cJ6_bitCount_0f7a4 11 = .ok (.ldc_w 266, 3) := by decide +kernel
theorem dJ6_bitCount_0f7a4_14 : decode cJ6_bitCount_0f7a4 14 = .ok (.iand, 1) := by decide +kernel
theorem dJ6_bitCount_0f7a4_15 : decode cJ6_bitCount_0f7a4 15 = .ok (.iload_n 0, 1) := by decide +kernel
theorem dJ6_bitCount_0f7a4_16 : decode cJ6_bitCount_0f7a4 16 = .ok (.iconst 2, 1) := by decide +kernel
theorem dJ6_bitCount_0f7a4_17 : decode cJ6_bitCount_0f7a4 17 = .ok (.iushr, 1) := by decide +kernel
theorem dJ6_bitCount_0f7a4_18 : decode cJ6_bitCount_0f7a4 18 = .ok (.ldc_w 266, 3) := by decide +kernel
theorem dJ6_bitCount_0f7a4_21 : decode cJ6_bitCount_0f7a4 21 = .ok (.iand, 1) := by decide +kernel
theorem dJ6_bitCount_0f7a4_22 : decode cJ6_bitCount_0f7a4 22 = .ok (.iadd, 1) := by decide +kernel
theorem dJ6_bitCount_0f7a4_23 : decode cJ6_bitCount_0f7a4 23 = .ok (.istore_n 0, 1) := by decide +kernel
theorem dJ6_bitCount_0f7a4_24 : decode cJ6_bitCount_0f7a4 24 = .ok (.iload_n 0, 1) := by decide +kernel
theorem dJ6_bitCount_0f7a4_25 : decode cJ6_bitCount_0f7a4 25 = .ok (.iload_n 0, 1) := by decide +kernel
theorem dJ6_bitCount_0f7a4_26 : decode cJ6_bitCount_0f7a4 26 = .ok (.iconst 4, 1) := by decide +kernel
theorem dJ6_bitCount_0f7a4_27 : decode cJ6_bitCount_0f7a4 27 = .ok (.iushr, 1) := by decide +kernel
theorem dJ6_bitCount_0f7a4_28 : decode cJ6_bitCount_0f7a4 28 = .ok (.iadd, 1) := by decide +kernel
theorem dJ6_bitCount_0f7a4_29 : decode cJ6_bitCount_0f7a4 29 = .ok (.ldc_w 267, 3) := by decide +kernel
theorem dJ6_bitCount_0f7a4_32 : decode cJ6_bitCount_0f7a4 32 = .ok (.iand, 1) := by decide +kernel
theorem dJ6_bitCount_0f7a4_33 : decode cJ6_bitCount_0f7a4 33 = .ok (.istore_n 0, 1) := by decide +kernel
theorem dJ6_bitCount_0f7a4_34 : decode cJ6_bitCount_0f7a4 34 = .ok (.iload_n 0, 1) := by decide +kernel
theorem dJ6_bitCount_0f7a4_35 : decode cJ6_bitCount_0f7a4 35 = .ok (.iload_n 0, 1) := by decide +kernel
theorem dJ6_bitCount_0f7a4_36 : decode cJ6_bitCount_0f7a4 36 = .ok (.bipush 8, 2) := by decide +kernel
theorem dJ6_bitCount_0f7a4_38 : decode cJ6_bitCount_0f7a4 38 = .ok (.iushr, 1) := by decide +kernel
theorem dJ6_bitCount_0f7a4_39 : decode cJ6_bitCount_0f7a4 39 = .ok (.iadd, 1) := by decide +kernel
theorem dJ6_bitCount_0f7a4_40 : decode cJ6_bitCount_0f7a4 40 = .ok (.istore_n 0, 1) := by decide +kernel
theorem dJ6_bitCount_0f7a4_41 : decode cJ6_bitCount_0f7a4 41 = .ok (.iload_n 0, 1) := by decide +kernel
theorem dJ6_bitCount_0f7a4_42 : decode cJ6_bitCount_0f7a4 42 = .ok (.iload_n 0, 1) := by decide +kernel
theorem dJ6_bitCount_0f7a4_43 : decode cJ6_bitCount_0f7a4 43 = .ok (.bipush 16, 2) := by decide +kernel
theorem dJ6_bitCount_0f7a4_45 : decode cJ6_bitCount_0f7a4 45 = .ok (.iushr, 1) := by decide +kernel
theorem dJ6_bitCount_0f7a4_46 : decode cJ6_bitCount_0f7a4 46 = .ok (.iadd, 1) := by decide +kernel
theorem dJ6_bitCount_0f7a4_47 : decode cJ6_bitCount_0f7a4 47 = .ok (.istore_n 0, 1) := by decide +kernel
theorem dJ6_bitCount_0f7a4_48 : decode cJ6_bitCount_0f7a4 48 = .ok (.iload_n 0, 1) := by decide +kernel
theorem dJ6_bitCount_0f7a4_49 : decode cJ6_bitCount_0f7a4 49 = .ok (.bipush 63, 2) := by decide +kernel
theorem dJ6_bitCount_0f7a4_51 : decode cJ6_bitCount_0f7a4 51 = .ok (.iand, 1) := by decide +kernel
theorem dJ6_bitCount_0f7a4_52 : decode cJ6_bitCount_0f7a4 52 = .ok (.ireturn, 1) := by decide +kernel
theorem dJ9_max_7cf53_0 : decode cJ9_max_7cf53 0 = .ok (.iload_n 0, 1) := by decide +kernel
theorem dJ9_max_7cf53_1 : decode cJ9_max_7cf53 1 = .ok (.iload_n 1, 1) := by decide +kernel
theorem dJ9_max_7cf53_2 : decode cJ9_max_7cf53 2 = .ok (.if_icmp .lt 7, 3) := by decide +kernel
theorem dJ9_max_7cf53_5 : decode cJ9_max_7cf53 5 = .ok (.iload_n 0, 1) := by decide +kernel
theorem dJ9_max_7cf53_6 : decode cJ9_max_7cf53 6 = .ok (.goto 4, 3) := by decide +kernel
theorem dJ9_max_7cf53_9 : decode cJ9_max_7cf53 9 = .ok (.iload_n 1, 1) := by decide +kernel
theorem dJ9_max_7cf53_10 : decode cJ9_max_7cf53 10 = .ok (.ireturn, 1) := by decide +kernel
theorem dJ9_min_7cf53_0 : decode cJ9_min_7cf53 0 = .ok (.iload_n 0, 1) := by decide +kernel
theorem dJ9_min_7cf53_1 : decode cJ9_min_7cf53 1 = .ok (.iload_n 1, 1) := by decide +kernel
theorem dJ9_min_7cf53_2 : decode cJ9_min_7cf53 2 = .ok (.if_icmp .gt 7, 3) := by decide +kernel
theorem dJ9_min_7cf53_5 : decode cJ9_min_7cf53 5 = .ok (.iload_n 0, 1) := by decide +kernel
theorem dJ9_min_7cf53_6 : decode cJ9_min_7cf53 6 = .ok (.goto 4, 3) := by decide +kernel
theorem dJ9_min_7cf53_9 : decode cJ9_min_7cf53 9 = .ok (.iload_n 1, 1) := by decide +kernel
theorem dJ9_min_7cf53_10 : decode cJ9_min_7cf53 10 = .ok (.ireturn, 1) := by decide +kernel
theorem dJ0_length_8abf5_0 : decode cJ0_length_8abf5 0 = .ok (.aload_n 0, 1) := by decide +kernel
theorem dJ0_length_8abf5_1 : decode cJ0_length_8abf5 1 = .ok (.getfield 9, 3) := by decide +kernel
theorem dJ0_length_8abf5_4 : decode cJ0_length_8abf5 4 = .ok (.arraylength, 1) := by decide +kernel
theorem dJ0_length_8abf5_5 : decode cJ0_length_8abf5 5 = .ok (.aload_n 0, 1) := by decide +kernel
theorem dJ0_length_8abf5_6 : decode cJ0_length_8abf5 6 = .ok (.invokevirtual 335, 3) := by decide +kernel
theorem dJ0_length_8abf5_9 : decode cJ0_length_8abf5 9 = .ok (.ishr, 1) := by decide +kernel
theorem dJ0_length_8abf5_10 : decode cJ0_length_8abf5 10 = .ok (.ireturn, 1) := by decide +kernel
theorem dJ0_indexOf_0f7a4_0 : decode cJ0_indexOf_0f7a4 0 = .ok (.aload_n 0, 1) := by decide +kernel
theorem dJ0_indexOf_0f7a4_1 : decode cJ0_indexOf_0f7a4 1 = .ok (.iload_n 1, 1) := by decide +kernel
theorem dJ0_indexOf_0f7a4_2 : decode cJ0_indexOf_0f7a4 2 = .ok (.iconst 0, 1) := by decide +kernel
theorem dJ0_indexOf_0f7a4_3 : decode cJ0_indexOf_0f7a4 3 = .ok (.invokevirtual 633, 3) := by decide +kernel
theorem dJ0_indexOf_0f7a4_6 : decode cJ0_indexOf_0f7a4 6 = .ok (.ireturn, 1) := by decide +kernel
theorem dJ0_indexOf_7cf53_0 : decode cJ0_indexOf_7cf53 0 = .ok (.aload_n 0, 1) := by decide +kernel
theorem dJ0_indexOf_7cf53_1 : decode cJ0_indexOf_7cf53 1 = .ok (.invokevirtual 492, 3) := by decide +kernel
theorem dJ0_indexOf_7cf53_4 : decode cJ0_indexOf_7cf53 4 = .ok (.ifCond .eq 19, 3) := by decide +kernel
theorem dJ0_indexOf_7cf53_7 : decode cJ0_indexOf_7cf53 7 = .ok (.aload_n 0, 1) := by decide +kernel
theorem dJ0_indexOf_7cf53_8 : decode cJ0_indexOf_7cf53 8 = .ok (.getfield 9, 3) := by decide +kernel
theorem dJ0_indexOf_7cf53_11 : decode cJ0_indexOf_7cf53 11 = .ok (.iload_n 1, 1) := by decide +kernel
theorem dJ0_indexOf_7cf53_12 : decode cJ0_indexOf_7cf53 12 = .ok (.iload_n 2, 1) := by decide +kernel
theorem dJ0_indexOf_7cf53_13 : decode cJ0_indexOf_7cf53 13 = .ok (.aload_n 0, 1) := by decide +kernel
theorem dJ0_indexOf_7cf53_14 : decode cJ0_indexOf_7cf53 14 = .ok (.invokevirtual 505, 3) := by decide +kernel
theorem dJ0_indexOf_7cf53_17 : decode cJ0_indexOf_7cf53 17 = .ok (.invokestatic 637, 3) := by decide +kernel
theorem dJ0_indexOf_7cf53_20 : decode cJ0_indexOf_7cf53 20 = .ok (.goto 16, 3) := by decide +kernel
theorem dJ0_indexOf_7cf53_23 : decode cJ0_indexOf_7cf53 23 = .ok (.aload_n 0, 1) := by decide +kernel
theorem dJ0_indexOf_7cf53_24 : decode cJ0_indexOf_7cf53 24 = .ok (.getfield 9, 3) := by decide +kernel
theorem dJ0_indexOf_7cf53_27 : decode cJ0_indexOf_7cf53 27 = .ok (.iload_n 1, 1) := by decide +kernel
theorem dJ0_indexOf_7cf53_28 : decode cJ0_indexOf_7cf53 28 = .ok (.iload_n 2, 1) := by decide +kernel
theorem dJ0_indexOf_7cf53_29 : decode cJ0_indexOf_7cf53 29 = .ok (.aload_n 0, 1) := by decide +kernel
theorem dJ0_indexOf_7cf53_30 : decode cJ0_indexOf_7cf53 30 = .ok (.invokevirtual 505, 3) := by decide +kernel
theorem dJ0_indexOf_7cf53_33 : decode cJ0_indexOf_7cf53 33 = .ok (.invokestatic 640, 3) := by decide +kernel
theorem dJ0_indexOf_7cf53_36 : decode cJ0_indexOf_7cf53 36 = .ok (.ireturn, 1) := by decide +kernel
theorem dJ0_coder_7d493_0 : decode cJ0_coder_7d493 0 = .ok (.getstatic 38, 3) := by decide +kernel
theorem dJ0_coder_7d493_3 : decode cJ0_coder_7d493 3 = .ok (.ifCond .eq 10, 3) := by decide +kernel
theorem dJ0_coder_7d493_6 : decode cJ0_coder_7d493 6 = .ok (.aload_n 0, 1) := by decide +kernel
theorem dJ0_coder_7d493_7 : decode cJ0_coder_7d493 7 = .ok (.getfield 15, 3) := by decide +kernel
theorem dJ0_coder_7d493_10 : decode cJ0_coder_7d493 10 = .ok (.goto 4, 3) := by decide +kernel
theorem dJ0_coder_7d493_13 : decode cJ0_coder_7d493 13 = .ok (.iconst 1, 1) := by decide +kernel
theorem dJ0_coder_7d493_14 : decode cJ0_coder_7d493 14 = .ok (.ireturn, 1) := by decide +kernel
theorem dJ0_isLatin1_aae02_0 : decode cJ0_isLatin1_aae02 0 = .ok (.getstatic 38, 3) := by decide +kernel
theorem dJ0_isLatin1_aae02_3 : decode cJ0_isLatin1_aae02 3 = .ok (.ifCond .eq 14, 3) := by decide +kernel
theorem dJ0_isLatin1_aae02_6 : decode cJ0_isLatin1_aae02 6 = .ok (.aload_n 0, 1) := by decide +kernel
theorem dJ0_isLatin1_aae02_7 : decode cJ0_isLatin1_aae02 7 = .ok (.getfield 15, 3) := by decide +kernel
theorem dJ0_isLatin1_aae02_10 : decode cJ0_isLatin1_aae02 10 = .ok (.ifCond .ne 7, 3) := by decide +kernel
theorem dJ0_isLatin1_aae02_13 : decode cJ0_isLatin1_aae02 13 = .ok (.iconst 1, 1) := by decide +kernel
theorem dJ0_isLatin1_aae02_14 : decode cJ0_isLatin1_aae02 14 = .ok (.goto 4, 3) := by decide +kernel
theorem dJ0_isLatin1_aae02_17 : decode cJ0_isLatin1_aae02 17 = .ok (.iconst 0, 1) := by decide +kernel
theorem dJ0_isLatin1_aae02_18 : decode cJ0_isLatin1_aae02 18 = .ok (.ireturn, 1) := by decide +kernel
theorem dJ0_checkBoundsBeginEnd_23922_0 : decode cJ0_checkBoundsBeginEnd_23922 0 = .ok (.iload_n 0, 1) := by decide +kernel
theorem dJ0_checkBoundsBeginEnd_23922_1 : decode cJ0_checkBoundsBeginEnd_23922 1 = .ok (.iload_n 1, 1) := by decide +kernel
theorem dJ0_checkBoundsBeginEnd_23922_2 : decode cJ0_checkBoundsBeginEnd_23922 2 = .ok (.iload_n 2, 1) := by decide +kernel
theorem dJ0_checkBoundsBeginEnd_23922_3 : decode cJ0_checkBoundsBeginEnd_23922 3 = .ok (.getstatic 1053, 3) := by decide +kernel
theorem dJ0_checkBoundsBeginEnd_23922_6 : decode cJ0_checkBoundsBeginEnd_23922 6 = .ok (.invokestatic 1062, 3) := by decide +kernel
theorem dJ0_checkBoundsBeginEnd_23922_9 : decode cJ0_checkBoundsBeginEnd_23922 9 = .ok (.pop, 1) := by decide +kernel
theorem dJ0_checkBoundsBeginEnd_23922_10 : decode cJ0_checkBoundsBeginEnd_23922 10 = .ok (.return_, 1) := by decide +kernel
theorem dJ1_canEncode_9a6ad_0 : decode cJ1_canEncode_9a6ad 0 = .ok (.iload_n 0, 1) := by decide +kernel
theorem dJ1_canEncode_9a6ad_1 : decode cJ1_canEncode_9a6ad 1 = .ok (.ifCond .lt 14, 3) := by decide +kernel
theorem dJ1_canEncode_9a6ad_4 : decode cJ1_canEncode_9a6ad 4 = .ok (.iload_n 0, 1) := by decide +kernel
theorem dJ1_canEncode_9a6ad_5 : decode cJ1_canEncode_9a6ad 5 = .ok (.sipush 255, 3) := by decide +kernel
theorem dJ1_canEncode_9a6ad_8 : decode cJ1_canEncode_9a6ad 8 = .ok (.if_icmp .gt 7, 3) := by decide +kernel
theorem dJ1_canEncode_9a6ad_11 : decode cJ1_canEncode_9a6ad 11 = .ok (.iconst 1, 1) := by decide +kernel
theorem dJ1_canEncode_9a6ad_12 : decode cJ1_canEncode_9a6ad 12 = .ok (.goto 4, 3) := by decide +kernel
theorem dJ1_canEncode_9a6ad_15 : decode cJ1_canEncode_9a6ad 15 = .ok (.iconst 0, 1) := by decide +kernel
theorem dJ1_canEncode_9a6ad_16 : decode cJ1_canEncode_9a6ad 16 = .ok (.ireturn, 1) := by decide +kernel
theorem dJ1_indexOf_4cfef_0 : decode cJ1_indexOf_4cfef 0 = .ok (.iload_n 1, 1) := by decide +kernel
theorem dJ1_indexOf_4cfef_1 : decode cJ1_indexOf_4cfef 1 = .ok (.invokestatic 88, 3) := by decide +kernel
theorem dJ1_indexOf_4cfef_4 : decode cJ1_indexOf_4cfef 4 = .ok (.ifCond .ne 5, 3) := by decide +kernel
theorem dJ1_indexOf_4cfef_7 : decode cJ1_indexOf_4cfef 7 = .ok (.iconst (-1), 1) := by decide +kernel
theorem dJ1_indexOf_4cfef_8 : decode cJ1_indexOf_4cfef 8 = .ok (.ireturn, 1) := by decide +kernel
theorem dJ1_indexOf_4cfef_9 : decode cJ1_indexOf_4cfef 9 = .ok (.iload_n 2, 1) := by decide +kernel
theorem dJ1_indexOf_4cfef_10 : decode cJ1_indexOf_4cfef 10 = .ok (.iconst 0, 1) := by decide +kernel
theorem dJ1_indexOf_4cfef_11 : decode cJ1_indexOf_4cfef 11 = .ok (.invokestatic 92, 3) := by decide +kernel
theorem dJ1_indexOf_4cfef_14 : decode cJ1_indexOf_4cfef 14 = .ok (.istore_n 2, 1) := by decide +kernel
theorem dJ1_indexOf_4cfef_15 : decode cJ1_indexOf_4cfef 15 = .ok (.iload_n 3, 1) := by decide +kernel
theorem dJ1_indexOf_4cfef_16 : decode cJ1_indexOf_4cfef 16 = .ok (.aload_n 0, 1) := by decide +kernel
theorem dJ1_indexOf_4cfef_17 : decode cJ1_indexOf_4cfef 17 = .ok (.arraylength, 1) := by decide +kernel
theorem dJ1_indexOf_4cfef_18 : decode cJ1_indexOf_4cfef 18 = .ok (.invokestatic 38, 3) := by decide +kernel
theorem dJ1_indexOf_4cfef_21 : decode cJ1_indexOf_4cfef 21 = .ok (.istore_n 3, 1) := by decide +kernel
theorem dJ1_indexOf_4cfef_22 : decode cJ1_indexOf_4cfef 22 = .ok (.iload_n 2, 1) := by decide +kernel
theorem dJ1_indexOf_4cfef_23 : decode cJ1_indexOf_4cfef 23 = .ok (.iload_n 3, 1) := by decide +kernel
theorem dJ1_indexOf_4cfef_24 : decode cJ1_indexOf_4cfef 24 = .ok (.if_icmp .lt 5, 3) := by decide +kernel
theorem dJ1_indexOf_4cfef_27 : decode cJ1_indexOf_4cfef 27 = .ok (.iconst (-1), 1) := by decide +kernel
theorem dJ1_indexOf_4cfef_28 : decode cJ1_indexOf_4cfef 28 = .ok (.ireturn, 1) := by decide +kernel
theorem dJ1_indexOf_4cfef_29 : decode cJ1_indexOf_4cfef 29 = .ok (.aload_n 0, 1) := by decide +kernel
theorem dJ1_indexOf_4cfef_30 : decode cJ1_indexOf_4cfef 30 = .ok (.iload_n 1, 1) := by decide +kernel
theorem dJ1_indexOf_4cfef_31 : decode cJ1_indexOf_4cfef 31 = .ok (.iload_n 2, 1) := by decide +kernel
theorem dJ1_indexOf_4cfef_32 : decode cJ1_indexOf_4cfef 32 = .ok (.iload_n 3, 1) := by decide +kernel
theorem dJ1_indexOf_4cfef_33 : decode cJ1_indexOf_4cfef 33 = .ok (.invokestatic 95, 3) := by decide +kernel
theorem dJ1_indexOf_4cfef_36 : decode cJ1_indexOf_4cfef 36 = .ok (.ireturn, 1) := by decide +kernel
theorem dJ1_indexOfChar_4cfef_0 : decode cJ1_indexOfChar_4cfef 0 = .ok (.iload_n 1, 1) := by decide +kernel
theorem dJ1_indexOfChar_4cfef_1 : decode cJ1_indexOfChar_4cfef 1 = .ok (.i2b, 1) := by decide +kernel
theorem dJ1_indexOfChar_4cfef_2 : decode cJ1_indexOfChar_4cfef 2 = .ok (.istore 4, 2) := by decide +kernel
theorem dJ1_indexOfChar_4cfef_4 : decode cJ1_indexOfChar_4cfef 4 = .ok (.iload_n 2, 1) := by decide +kernel
theorem dJ1_indexOfChar_4cfef_5 : decode cJ1_indexOfChar_4cfef 5 = .ok (.istore 5, 2) := by decide +kernel
theorem dJ1_indexOfChar_4cfef_7 : decode cJ1_indexOfChar_4cfef 7 = .ok (.iload 5, 2) := by decide +kernel
theorem dJ1_indexOfChar_4cfef_9 : decode cJ1_indexOfChar_4cfef 9 = .ok (.iload_n 3, 1) := by decide +kernel
theorem dJ1_indexOfChar_4cfef_10 : decode cJ1_indexOfChar_4cfef 10 = .ok (.if_icmp .ge 21, 3) := by decide +kernel
theorem dJ1_indexOfChar_4cfef_13 : decode cJ1_indexOfChar_4cfef 13 = .ok (.aload_n 0, 1) := by decide +kernel
theorem dJ1_indexOfChar_4cfef_14 : decode cJ1_indexOfChar_4cfef 14 = .ok (.iload 5, 2) := by decide +kernel
theorem dJ1_indexOfChar_4cfef_16 : decode cJ1_indexOfChar_4cfef 16 = .ok (.baload, 1) := by decide +kernel
theorem dJ1_indexOfChar_4cfef_17 : decode cJ1_indexOfChar_4cfef 17 = .ok (.iload 4, 2) := by decide +kernel
theorem dJ1_indexOfChar_4cfef_19 : decode cJ1_indexOfChar_4cfef 19 = .ok (.if_icmp .ne 6, 3) := by decide +kernel
theorem dJ1_indexOfChar_4cfef_22 : decode cJ1_indexOfChar_4cfef 22 = .ok (.iload 5, 2) := by decide +kernel
theorem dJ1_indexOfChar_4cfef_24 : decode cJ1_indexOfChar_4cfef 24 = .ok (.ireturn, 1) := by decide +kernel
theorem dJ1_indexOfChar_4cfef_25 : decode cJ1_indexOfChar_4cfef 25 = .ok (.iinc 5 1, 3) := by decide +kernel
theorem dJ1_indexOfChar_4cfef_28 : decode cJ1_indexOfChar_4cfef 28 = .ok (.goto (-21), 3) := by decide +kernel
theorem dJ1_indexOfChar_4cfef_31 : decode cJ1_indexOfChar_4cfef 31 = .ok (.iconst (-1), 1) := by decide +kernel
theorem dJ1_indexOfChar_4cfef_32 : decode cJ1_indexOfChar_4cfef 32 = .ok (.ireturn, 1) := by decide +kernel
theorem dJ2_getChar_3b067_0 : decode cJ2_getChar_3b067 0 = .ok (.getstatic 44, 3) := by decide +kernel
theorem dJ2_getChar_3b067_3 : decode cJ2_getChar_3b067 3 = .ok (.ifCond .ne 25, 3) := by decide +kernel
theorem dJ2_getChar_3b067_6 : decode cJ2_getChar_3b067 6 = .ok (.iload_n 1, 1) := by decide +kernel
theorem dJ2_getChar_3b067_7 : decode cJ2_getChar_3b067 7 = .ok (.ifCond .lt 11, 3) := by decide +kernel
theorem dJ2_getChar_3b067_10 : decode cJ2_getChar_3b067 10 = .ok (.iload_n 1, 1) := by decide +kernel
theorem dJ2_getChar_3b067_11 : decode cJ2_getChar_3b067 11 = .ok (.aload_n 0, 1) := by decide +kernel
theorem dJ2_getChar_3b067_12 : decode cJ2_getChar_3b067 12 = .ok (.invokestatic 48, 3) := by decide +kernel
theorem dJ2_getChar_3b067_15 : decode cJ2_getChar_3b067 15 = .ok (.if_icmp .lt 13, 3) := by decide +kernel
theorem dJ2_getChar_3b067_18 : decode cJ2_getChar_3b067 18 = .ok (.new 52, 3) := by decide +kernel
theorem dJ2_getChar_3b067_21 : decode cJ2_getChar_3b067 21 = .ok (.dup, 1) := by decide +kernel
theorem dJ2_getChar_3b067_22 : decode cJ2_getChar_3b067 22 = .ok (.ldc 54, 2) := by decide +kernel
theorem dJ2_getChar_3b067_24 : decode cJ2_getChar_3b067 24 = .ok (.invokespecial 56, 3) := by decide +kernel
theorem dJ2_getChar_3b067_27 : decode cJ2_getChar_3b067 27 = .ok (.athrow, 1) := by decide +kernel
theorem dJ2_getChar_3b067_28 : decode cJ2_getChar_3b067 28 = .ok (.iload_n 1, 1) := by decide +kernel
theorem dJ2_getChar_3b067_29 : decode cJ2_getChar_3b067 29 = .ok (.iconst 1, 1) := by decide +kernel
theorem dJ2_getChar_3b067_30 : decode cJ2_getChar_3b067 30 = .ok (.ishl, 1) := by decide +kernel
theorem dJ2_getChar_3b067_31 : decode cJ2_getChar_3b067 31 = .ok (.istore_n 1, 1) := by decide +kernel
theorem dJ2_getChar_3b067_32 : decode cJ2_getChar_3b067 32 = .ok (.aload_n 0, 1) := by decide +kernel
theorem dJ2_getChar_3b067_33 : decode cJ2_getChar_3b067 33 = .ok (.iload_n 1, 1) := by decide +kernel
theorem dJ2_getChar_3b067_34 : decode cJ2_getChar_3b067 34 = .ok (.iinc 1 1, 3) := by decide +kernel
theorem dJ2_getChar_3b067_37 : decode cJ2_getChar_3b067 37 = .ok (.baload, 1) := by decide +kernel
theorem dJ2_getChar_3b067_38 : decode cJ2_getChar_3b067 38 = .ok (.sipush 255, 3) := by decide +kernel
theorem dJ2_getChar_3b067_41 : decode cJ2_getChar_3b067 41 = .ok (.iand, 1) := by decide +kernel
theorem dJ2_getChar_3b067_42 : decode cJ2_getChar_3b067 42 = .ok (.getstatic 59, 3) := by decide +kernel
theorem dJ2_getChar_3b067_45 : decode cJ2_getChar_3b067 45 = .ok (.ishl, 1) := by decide +kernel
theorem dJ2_getChar_3b067_46 : decode cJ2_getChar_3b067 46 = .ok (.aload_n 0, 1) := by decide +kernel
theorem dJ2_getChar_3b067_47 : decode cJ2_getChar_3b067 47 = .ok (.iload_n 1, 1) := by decide +kernel
theorem dJ2_getChar_3b067_48 : decode cJ2_getChar_3b067 48 = .ok (.baload, 1) := by decide +kernel
theorem dJ2_getChar_3b067_49 : decode cJ2_getChar_3b067 49 = .ok (.sipush 255, 3) := by decide +kernel
theorem dJ2_getChar_3b067_52 : decode cJ2_getChar_3b067 52 = .ok (.iand, 1) := by decide +kernel
theorem dJ2_getChar_3b067_53 : decode cJ2_getChar_3b067 53 = .ok (.getstatic 63, 3) := by decide +kernel
theorem dJ2_getChar_3b067_56 : decode cJ2_getChar_3b067 56 = .ok (.ishl, 1) := by decide +kernel
theorem dJ2_getChar_3b067_57 : decode cJ2_getChar_3b067 57 = .ok (.ior, 1) := by decide +kernel
theorem dJ2_getChar_3b067_58 : decode cJ2_getChar_3b067 58 = .ok (.i2c, 1) := by decide +kernel
theorem dJ2_getChar_3b067_59 : decode cJ2_getChar_3b067 59 = .ok (.ireturn, 1) := by decide +kernel
theorem dJ2_length_9d52b_0 : decode cJ2_length_9d52b 0 = .ok (.aload_n 0, 1) := by decide +kernel
theorem dJ2_length_9d52b_1 : decode cJ2_length_9d52b 1 = .ok (.arraylength, 1) := by decide +kernel
theorem dJ2_length_9d52b_2 : decode cJ2_length_9d52b 2 = .ok (.iconst 1, 1) := by decide +kernel
theorem dJ2_length_9d52b_3 : decode cJ2_length_9d52b 3 = .ok (.ishr, 1) := by decide +kernel
theorem dJ2_length_9d52b_4 : decode cJ2_length_9d52b 4 = .ok (.ireturn, 1) := by decide +kernel
theorem dJ2_indexOf_4cfef_0 : decode cJ2_indexOf_4cfef 0 = .ok (.iload_n 2, 1) := by decide +kernel
theorem dJ2_indexOf_4cfef_1 : decode cJ2_indexOf_4cfef 1 = .ok (.iconst 0, 1) := by decide +kernel
theorem dJ2_indexOf_4cfef_2 : decode cJ2_indexOf_4cfef 2 = .ok (.invokestatic 224, 3) := by decide +kernel
theorem dJ2_indexOf_4cfef_5 : decode cJ2_indexOf_4cfef 5 = .ok (.istore_n 2, 1) := by decide +kernel
theorem dJ2_indexOf_4cfef_6 : decode cJ2_indexOf_4cfef 6 = .ok (.iload_n 3, 1) := by decide +kernel
theorem dJ2_indexOf_4cfef_7 : decode cJ2_indexOf_4cfef 7 = .ok (.aload_n 0, 1) := by decide +kernel
theorem dJ2_indexOf_4cfef_8 : decode cJ2_indexOf_4cfef 8 = .ok (.arraylength, 1) := by decide +kernel
theorem dJ2_indexOf_4cfef_9 : decode cJ2_indexOf_4cfef 9 = .ok (.iconst 1, 1) := by decide +kernel
theorem dJ2_indexOf_4cfef_10 : decode cJ2_indexOf_4cfef 10 = .ok (.ishr, 1) := by decide +kernel
theorem dJ2_indexOf_4cfef_11 : decode cJ2_indexOf_4cfef 11 = .ok (.invokestatic 183, 3) := by decide +kernel
theorem dJ2_indexOf_4cfef_14 : decode cJ2_indexOf_4cfef 14 = .ok (.istore_n 3, 1) := by decide +kernel
theorem dJ2_indexOf_4cfef_15 : decode cJ2_indexOf_4cfef 15 = .ok (.iload_n 2, 1) := by decide +kernel
theorem dJ2_indexOf_4cfef_16 : decode cJ2_indexOf_4cfef 16 = .ok (.iload_n 3, 1) := by decide +kernel
theorem dJ2_indexOf_4cfef_17 : decode cJ2_indexOf_4cfef 17 = .ok (.if_icmp .lt 5, 3) := by decide +kernel
theorem dJ2_indexOf_4cfef_20 : decode cJ2_indexOf_4cfef 20 = .ok (.iconst (-1), 1) := by decide +kernel
theorem dJ2_indexOf_4cfef_21 : decode cJ2_indexOf_4cfef 21 = .ok (.ireturn, 1) := by decide +kernel
theorem dJ2_indexOf_4cfef_22 : decode cJ2_indexOf_4cfef 22 = .ok (.iload_n 1, 1) := by decide +kernel
theorem dJ2_indexOf_4cfef_23 : decode cJ2_indexOf_4cfef 23 = .ok (.ldc 227, 2) := by decide +kernel
theorem dJ2_indexOf_4cfef_25 : decode cJ2_indexOf_4cfef 25 = .ok (.if_icmp .ge 11, 3) := by decide +kernel
theorem dJ2_indexOf_4cfef_28 : decode cJ2_indexOf_4cfef 28 = .ok (.aload_n 0, 1) := by decide +kernel
theorem dJ2_indexOf_4cfef_29 : decode cJ2_indexOf_4cfef 29 = .ok (.iload_n 1, 1) := by decide +kernel
theorem dJ2_indexOf_4cfef_30 : decode cJ2_indexOf_4cfef 30 = .ok (.iload_n 2, 1) := by decide +kernel
theorem dJ2_indexOf_4cfef_31 : decode cJ2_indexOf_4cfef 31 = .ok (.iload_n 3, 1) := by decide +kernel
theorem dJ2_indexOf_4cfef_32 : decode cJ2_indexOf_4cfef 32 = .ok (.invokestatic 228, 3) := by decide +kernel
theorem dJ2_indexOf_4cfef_35 : decode cJ2_indexOf_4cfef 35 = .ok (.ireturn, 1) := by decide +kernel
theorem dJ2_indexOf_4cfef_36 : decode cJ2_indexOf_4cfef 36 = .ok (.aload_n 0, 1) := by decide +kernel
theorem dJ2_indexOf_4cfef_37 : decode cJ2_indexOf_4cfef 37 = .ok (.iload_n 1, 1) := by decide +kernel
theorem dJ2_indexOf_4cfef_38 : decode cJ2_indexOf_4cfef 38 = .ok (.iload_n 2, 1) := by decide +kernel
theorem dJ2_indexOf_4cfef_39 : decode cJ2_indexOf_4cfef 39 = .ok (.iload_n 3, 1) := by decide +kernel
theorem dJ2_indexOf_4cfef_40 : decode cJ2_indexOf_4cfef 40 = .ok (.invokestatic 232, 3) := by decide +kernel
theorem dJ2_indexOf_4cfef_43 : decode cJ2_indexOf_4cfef 43 = .ok (.ireturn, 1) := by decide +kernel
theorem dJ2_indexOfChar_4cfef_0 : decode cJ2_indexOfChar_4cfef 0 = .ok (.iload_n 2, 1) := by decide +kernel
theorem dJ2_indexOfChar_4cfef_1 : decode cJ2_indexOfChar_4cfef 1 = .ok (.iload_n 3, 1) := by decide +kernel
theorem dJ2_indexOfChar_4cfef_2 : decode cJ2_indexOfChar_4cfef 2 = .ok (.aload_n 0, 1) := by decide +kernel
theorem dJ2_indexOfChar_4cfef_3 : decode cJ2_indexOfChar_4cfef 3 = .ok (.invokestatic 96, 3) := by decide +kernel
theorem dJ2_indexOfChar_4cfef_6 : decode cJ2_indexOfChar_4cfef 6 = .ok (.aload_n 0, 1) := by decide +kernel
theorem dJ2_indexOfChar_4cfef_7 : decode cJ2_indexOfChar_4cfef 7 = .ok (.iload_n 1, 1) := by decide +kernel
theorem dJ2_indexOfChar_4cfef_8 : decode cJ2_indexOfChar_4cfef 8 = .ok (.iload_n 2, 1) := by decide +kernel
theorem dJ2_indexOfChar_4cfef_9 : decode cJ2_indexOfChar_4cfef 9 = .ok (.iload_n 3, 1) := by decide +kernel
theorem dJ2_indexOfChar_4cfef_10 : decode cJ2_indexOfChar_4cfef 10 = .ok (.invokestatic 244, 3) := by decide +kernel
theorem dJ2_indexOfChar_4cfef_13 : decode cJ2_indexOfChar_4cfef 13 = .ok (.ireturn, 1) := by decide +kernel
theorem dJ2_indexOfCharUnsafe_4cfef_0 : decode cJ2_indexOfCharUnsafe_4cfef 0 = .ok (.iload_n 2, 1) := by decide +kernel
theorem dJ2_indexOfCharUnsafe_4cfef_1 : decode cJ2_indexOfCharUnsafe_4cfef 1 = .ok (.istore 4, 2) := by decide +kernel
theorem dJ2_indexOfCharUnsafe_4cfef_3 : decode cJ2_indexOfCharUnsafe_4cfef 3 = .ok (.iload 4, 2) := by decide +kernel
theorem dJ2_indexOfCharUnsafe_4cfef_5 : decode cJ2_indexOfCharUnsafe_4cfef 5 = .ok (.iload_n 3, 1) := by decide +kernel
theorem dJ2_indexOfCharUnsafe_4cfef_6 : decode cJ2_indexOfCharUnsafe_4cfef 6 = .ok (.if_icmp .ge 22, 3) := by decide +kernel
theorem dJ2_indexOfCharUnsafe_4cfef_9 : decode cJ2_indexOfCharUnsafe_4cfef 9 = .ok (.aload_n 0, 1) := by decide +kernel
theorem dJ2_indexOfCharUnsafe_4cfef_10 : decode cJ2_indexOfCharUnsafe_4cfef 10 = .ok (.iload 4, 2) := by decide +kernel
theorem dJ2_indexOfCharUnsafe_4cfef_12 : decode cJ2_indexOfCharUnsafe_4cfef 12 = .ok (.invokestatic 71, 3) := by decide +kernel
theorem dJ2_indexOfCharUnsafe_4cfef_15 : decode cJ2_indexOfCharUnsafe_4cfef 15 = .ok (.iload_n 1, 1) := by decide +kernel
theorem dJ2_indexOfCharUnsafe_4cfef_16 : decode cJ2_indexOfCharUnsafe_4cfef 16 = .ok (.if_icmp .ne 6, 3) := by decide +kernel
theorem dJ2_indexOfCharUnsafe_4cfef_19 : decode cJ2_indexOfCharUnsafe_4cfef 19 = .ok (.iload 4, 2) := by decide +kernel
theorem dJ2_indexOfCharUnsafe_4cfef_21 : decode cJ2_indexOfCharUnsafe_4cfef 21 = .ok (.ireturn, 1) := by decide +kernel
theorem dJ2_indexOfCharUnsafe_4cfef_22 : decode cJ2_indexOfCharUnsafe_4cfef 22 = .ok (.iinc 4 1, 3) := by decide +kernel
theorem dJ2_indexOfCharUnsafe_4cfef_25 : decode cJ2_indexOfCharUnsafe_4cfef 25 = .ok (.goto (-22), 3) := by decide +kernel
theorem dJ2_indexOfCharUnsafe_4cfef_28 : decode cJ2_indexOfCharUnsafe_4cfef 28 = .ok (.iconst (-1), 1) := by decide +kernel
theorem dJ2_indexOfCharUnsafe_4cfef_29 : decode cJ2_indexOfCharUnsafe_4cfef 29 = .ok (.ireturn, 1) := by decide +kernel
theorem dJ2_indexOfSupplementary_4cfef_0 : decode cJ2_indexOfSupplementary_4cfef 0 = .ok (.iload_n 1, 1) := by decide +kernel
theorem dJ2_indexOfSupplementary_4cfef_1 : decode cJ2_indexOfSupplementary_4cfef 1 = .ok (.invokestatic 164, 3) := by decide +kernel
theorem dJ2_indexOfSupplementary_4cfef_4 : decode cJ2_indexOfSupplementary_4cfef 4 = .ok (.ifCond .eq 65, 3) := by decide +kernel
theorem dJ2_indexOfSupplementary_4cfef_7 : decode cJ2_indexOfSupplementary_4cfef 7 = .ok (.iload_n 1, 1) := by decide +kernel
theorem dJ2_indexOfSupplementary_4cfef_8 : decode cJ2_indexOfSupplementary_4cfef 8 = .ok (.invokestatic 157, 3) := by decide +kernel
theorem dJ2_indexOfSupplementary_4cfef_11 : decode cJ2_indexOfSupplementary_4cfef 11 = .ok (.istore 4, 2) := by decide +kernel
theorem dJ2_indexOfSupplementary_4cfef_13 : decode cJ2_indexOfSupplementary_4cfef 13 = .ok (.iload_n 1, 1) := by decide +kernel
theorem dJ2_indexOfSupplementary_4cfef_14 : decode cJ2_indexOfSupplementary_4cfef 14 = .ok (.invokestatic 161, 3) := by decide +kernel
theorem dJ2_indexOfSupplementary_4cfef_17 : decode cJ2_indexOfSupplementary_4cfef 17 = .ok (.istore 5, 2) := by decide +kernel
theorem dJ2_indexOfSupplementary_4cfef_19 : decode cJ2_indexOfSupplementary_4cfef 19 = .ok (.iload_n 2, 1) := by decide +kernel
theorem dJ2_indexOfSupplementary_4cfef_20 : decode cJ2_indexOfSupplementary_4cfef 20 = .ok (.iload_n 3, 1) := by decide +kernel
theorem dJ2_indexOfSupplementary_4cfef_21 : decode cJ2_indexOfSupplementary_4cfef 21 = .ok (.aload_n 0, 1) := by decide +kernel
theorem dJ2_indexOfSupplementary_4cfef_22 : decode cJ2_indexOfSupplementary_4cfef 22 = .ok (.invokestatic 96, 3) := by decide +kernel
theorem dJ2_indexOfSupplementary_4cfef_25 : decode cJ2_indexOfSupplementary_4cfef 25 = .ok (.iload_n 2, 1) := by decide +kernel
theorem dJ2_indexOfSupplementary_4cfef_26 : decode cJ2_indexOfSupplementary_4cfef 26 = .ok (.istore 6, 2) := by decide +kernel
theorem dJ2_indexOfSupplementary_4cfef_28 : decode cJ2_indexOfSupplementary_4cfef 28 = .ok (.iload 6, 2) := by decide +kernel
theorem dJ2_indexOfSupplementary_4cfef_30 : decode cJ2_indexOfSupplementary_4cfef 30 = .ok (.iload_n 3, 1) := by decide +kernel
theorem dJ2_indexOfSupplementary_4cfef_31 : decode cJ2_indexOfSupplementary_4cfef 31 = .ok (.iconst 1, 1) := by decide +kernel
theorem dJ2_indexOfSupplementary_4cfef_32 : decode cJ2_indexOfSupplementary_4cfef 32 = .ok (.isub, 1) := by decide +kernel
theorem dJ2_indexOfSupplementary_4cfef_33 : decode cJ2_indexOfSupplementary_4cfef 33 = .ok (.if_icmp .ge 36, 3) := by decide +kernel
theorem dJ2_indexOfSupplementary_4cfef_36 : decode cJ2_indexOfSupplementary_4cfef 36 = .ok (.aload_n 0, 1) := by decide +kernel
theorem dJ2_indexOfSupplementary_4cfef_37 : decode cJ2_indexOfSupplementary_4cfef 37 = .ok (.iload 6, 2) := by decide +kernel
theorem dJ2_indexOfSupplementary_4cfef_39 : decode cJ2_indexOfSupplementary_4cfef 39 = .ok (.invokestatic 71, 3) := by decide +kernel
theorem dJ2_indexOfSupplementary_4cfef_42 : decode cJ2_indexOfSupplementary_4cfef 42 = .ok (.iload 4, 2) := by decide +kernel
theorem dJ2_indexOfSupplementary_4cfef_44 : decode cJ2_indexOfSupplementary_4cfef 44 = .ok (.if_icmp .ne 19, 3) := by decide +kernel
theorem dJ2_indexOfSupplementary_4cfef_47 : decode cJ2_indexOfSupplementary_4cfef 47 = .ok (.aload_n 0, 1) := by decide +kernel
theorem dJ2_indexOfSupplementary_4cfef_48 : decode cJ2_indexOfSupplementary_4cfef 48 = .ok (.iload 6, 2) := by decide +kernel
theorem dJ2_indexOfSupplementary_4cfef_50 : decode cJ2_indexOfSupplementary_4cfef 50 = .ok (.iconst 1, 1) := by decide +kernel
theorem dJ2_indexOfSupplementary_4cfef_51 : decode cJ2_indexOfSupplementary_4cfef 51 = .ok (.iadd, 1) := by decide +kernel
theorem dJ2_indexOfSupplementary_4cfef_52 : decode cJ2_indexOfSupplementary_4cfef 52 = .ok (.invokestatic 71, 3) := by decide +kernel
theorem dJ2_indexOfSupplementary_4cfef_55 : decode cJ2_indexOfSupplementary_4cfef 55 = .ok (.iload 5, 2) := by decide +kernel
theorem dJ2_indexOfSupplementary_4cfef_57 : decode cJ2_indexOfSupplementary_4cfef 57 = .ok (.if_icmp .ne 6, 3) := by decide +kernel
theorem dJ2_indexOfSupplementary_4cfef_60 : decode cJ2_indexOfSupplementary_4cfef 60 = .ok (.iload 6, 2) := by decide +kernel
theorem dJ2_indexOfSupplementary_4cfef_62 : decode cJ2_indexOfSupplementary_4cfef 62 = .ok (.ireturn, 1) := by decide +kernel
theorem dJ2_indexOfSupplementary_4cfef_63 : decode cJ2_indexOfSupplementary_4cfef 63 = .ok (.iinc 6 1, 3) := by decide +kernel
theorem dJ2_indexOfSupplementary_4cfef_66 : decode cJ2_indexOfSupplementary_4cfef 66 = .ok (.goto (-38), 3) := by decide +kernel
theorem dJ2_indexOfSupplementary_4cfef_69 : decode cJ2_indexOfSupplementary_4cfef 69 = .ok (.iconst (-1), 1) := by decide +kernel
theorem dJ2_indexOfSupplementary_4cfef_70 : decode cJ2_indexOfSupplementary_4cfef 70 = .ok (.ireturn, 1) := by decide +kernel
theorem dJ2_checkBoundsBeginEnd_d044e_0 : decode cJ2_checkBoundsBeginEnd_d044e 0 = .ok (.iload_n 0, 1) := by decide +kernel
theorem dJ2_checkBoundsBeginEnd_d044e_1 : decode cJ2_checkBoundsBeginEnd_d044e 1 = .ok (.iload_n 1, 1) := by decide +kernel
theorem dJ2_checkBoundsBeginEnd_d044e_2 : decode cJ2_checkBoundsBeginEnd_d044e 2 = .ok (.aload_n 2, 1) := by decide +kernel
theorem dJ2_checkBoundsBeginEnd_d044e_3 : decode cJ2_checkBoundsBeginEnd_d044e 3 = .ok (.invokestatic 48, 3) := by decide +kernel
theorem dJ2_checkBoundsBeginEnd_d044e_6 : decode cJ2_checkBoundsBeginEnd_d044e 6 = .ok (.invokestatic 241, 3) := by decide +kernel
theorem dJ2_checkBoundsBeginEnd_d044e_9 : decode cJ2_checkBoundsBeginEnd_d044e 9 = .ok (.return_, 1) := by decide +kernel
theorem dJ3_checkFromToIndex_8c36e_0 : decode cJ3_checkFromToIndex_8c36e 0 = .ok (.iload_n 0, 1) := by decide +kernel
theorem dJ3_checkFromToIndex_8c36e_1 : decode cJ3_checkFromToIndex_8c36e 1 = .ok (.ifCond .lt 13, 3) := by decide +kernel
theorem dJ3_checkFromToIndex_8c36e_4 : decode cJ3_checkFromToIndex_8c36e 4 = .ok (.iload_n 0, 1) := by decide +kernel
theorem dJ3_checkFromToIndex_8c36e_5 : decode cJ3_checkFromToIndex_8c36e 5 = .ok (.iload_n 1, 1) := by decide +kernel
theorem dJ3_checkFromToIndex_8c36e_6 : decode cJ3_checkFromToIndex_8c36e 6 = .ok (.if_icmp .gt 8, 3) := by decide +kernel
theorem dJ3_checkFromToIndex_8c36e_9 : decode cJ3_checkFromToIndex_8c36e 9 = .ok (.iload_n 1, 1) := by decide +kernel
theorem dJ3_checkFromToIndex_8c36e_10 : decode cJ3_checkFromToIndex_8c36e 10 = .ok (.iload_n 2, 1) := by decide +kernel
theorem dJ3_checkFromToIndex_8c36e_11 : decode cJ3_checkFromToIndex_8c36e 11 = .ok (.if_icmp .le 11, 3) := by decide +kernel
theorem dJ3_checkFromToIndex_8c36e_14 : decode cJ3_checkFromToIndex_8c36e 14 = .ok (.aload_n 3, 1) := by decide +kernel
theorem dJ3_checkFromToIndex_8c36e_15 : decode cJ3_checkFromToIndex_8c36e 15 = .ok (.iload_n 0, 1) := by decide +kernel
theorem dJ3_checkFromToIndex_8c36e_16 : decode cJ3_checkFromToIndex_8c36e 16 = .ok (.iload_n 1, 1) := by decide +kernel
theorem dJ3_checkFromToIndex_8c36e_17 : decode cJ3_checkFromToIndex_8c36e 17 = .ok (.iload_n 2, 1) := by decide +kernel
theorem dJ3_checkFromToIndex_8c36e_18 : decode cJ3_checkFromToIndex_8c36e 18 = .ok (.invokestatic 99, 3) := by decide +kernel
theorem dJ3_checkFromToIndex_8c36e_21 : decode cJ3_checkFromToIndex_8c36e 21 = .ok (.athrow, 1) := by decide +kernel
theorem dJ3_checkFromToIndex_8c36e_22 : decode cJ3_checkFromToIndex_8c36e 22 = .ok (.iload_n 0, 1) := by decide +kernel
theorem dJ3_checkFromToIndex_8c36e_23 : decode cJ3_checkFromToIndex_8c36e 23 = .ok (.ireturn, 1) := by decide +kernel
theorem dL_law_0 : decode cL_law 0 = .ok (.new 7, 3) := by decide +kernel
theorem dL_law_3 : decode cL_law 3 = .ok (.dup, 1) := by decide +kernel
theorem dL_law_4 : decode cL_law 4 = .ok (.invokespecial 9, 3) := by decide +kernel
theorem dL_law_7 : decode cL_law 7 = .ok (.astore_n 1, 1) := by decide +kernel
theorem dL_law_8 : decode cL_law 8 = .ok (.new 10, 3) := by decide +kernel
theorem dL_law_11 : decode cL_law 11 = .ok (.dup, 1) := by decide +kernel
theorem dL_law_12 : decode cL_law 12 = .ok (.invokespecial 12, 3) := by decide +kernel
theorem dL_law_15 : decode cL_law 15 = .ok (.astore_n 2, 1) := by decide +kernel
theorem dL_law_16 : decode cL_law 16 = .ok (.iconst 0, 1) := by decide +kernel
theorem dL_law_17 : decode cL_law 17 = .ok (.istore_n 3, 1) := by decide +kernel
theorem dL_law_18 : decode cL_law 18 = .ok (.iload_n 3, 1) := by decide +kernel
theorem dL_law_19 : decode cL_law 19 = .ok (.aload_n 0, 1) := by decide +kernel
theorem dL_law_20 : decode cL_law 20 = .ok (.arraylength, 1) := by decide +kernel
theorem dL_law_21 : decode cL_law 21 = .ok (.bipush 6, 2) := by decide +kernel
theorem dL_law_23 : decode cL_law 23 = .ok (.isub, 1) := by decide +kernel
theorem dL_law_24 : decode cL_law 24 = .ok (.if_icmp .gt 1340, 3) := by decide +kernel
theorem dL_law_27 : decode cL_law 27 = .ok (.aload_n 0, 1) := by decide +kernel
theorem dL_law_28 : decode cL_law 28 = .ok (.iload_n 3, 1) := by decide +kernel
theorem dL_law_29 : decode cL_law 29 = .ok (.iaload, 1) := by decide +kernel
theorem dL_law_30 : decode cL_law 30 = .ok (.bipush 63, 2) := by decide +kernel
theorem dL_law_32 : decode cL_law 32 = .ok (.iand, 1) := by decide +kernel
theorem dL_law_33 : decode cL_law 33 = .ok (.tableswitch 1325 0 39 #[175, 208, 241, 274, 307, 340, 363, 396, 439, 462, 525, 548, 601, 624, 647, 670, 693, 706, 719, 762, 795, 808, 821, 854, 877, 910, 933, 956, 999, 1022, 1065, 1108, 1171, 1194, 1217, 1230, 1243, 1266, 1279, 1302], 175) := by decide +kernel
theorem dL_law_208 : decode cL_law 208 = .ok (.aload_n 1, 1) := by decide +kernel
theorem dL_law_209 : decode cL_law 209 = .ok (.aload_n 0, 1) := by decide +kernel
theorem dL_law_210 : decode cL_law 210 = .ok (.iload_n 3, 1) := by decide +kernel
theorem dL_law_211 : decode cL_law 211 = .ok (.iconst 1, 1) := by decide +kernel
theorem dL_law_212 : decode cL_law 212 = .ok (.iadd, 1) := by decide +kernel
theorem dL_law_213 : decode cL_law 213 = .ok (.iaload, 1) := by decide +kernel
theorem dL_law_214 : decode cL_law 214 = .ok (.aload_n 0, 1) := by decide +kernel
theorem dL_law_215 : decode cL_law 215 = .ok (.iload_n 3, 1) := by decide +kernel
theorem dL_law_216 : decode cL_law 216 = .ok (.iconst 2, 1) := by decide +kernel
theorem dL_law_217 : decode cL_law 217 = .ok (.iadd, 1) := by decide +kernel
theorem dL_law_218 : decode cL_law 218 = .ok (.iaload, 1) := by decide +kernel
theorem dL_law_219 : decode cL_law 219 = .ok (.invokevirtual 13, 3) := by decide +kernel
theorem dL_law_222 : decode cL_law 222 = .ok (.aload_n 2, 1) := by decide +kernel
theorem dL_law_223 : decode cL_law 223 = .ok (.aload_n 0, 1) := by decide +kernel
theorem dL_law_224 : decode cL_law 224 = .ok (.iload_n 3, 1) := by decide +kernel
theorem dL_law_225 : decode cL_law 225 = .ok (.iconst 1, 1) := by decide +kernel
theorem dL_law_226 : decode cL_law 226 = .ok (.iadd, 1) := by decide +kernel
theorem dL_law_227 : decode cL_law 227 = .ok (.iaload, 1) := by decide +kernel
theorem dL_law_228 : decode cL_law 228 = .ok (.aload_n 0, 1) := by decide +kernel
theorem dL_law_229 : decode cL_law 229 = .ok (.iload_n 3, 1) := by decide +kernel
theorem dL_law_230 : decode cL_law 230 = .ok (.iconst 2, 1) := by decide +kernel
theorem dL_law_231 : decode cL_law 231 = .ok (.iadd, 1) := by decide +kernel
theorem dL_law_232 : decode cL_law 232 = .ok (.iaload, 1) := by decide +kernel
theorem dL_law_233 : decode cL_law 233 = .ok (.invokevirtual 17, 3) := by decide +kernel
theorem dL_law_236 : decode cL_law 236 = .ok (.if_icmp .eq 1122, 3) := by decide +kernel
theorem dL_law_239 : decode cL_law 239 = .ok (.iconst 0, 1) := by decide +kernel
theorem dL_law_240 : decode cL_law 240 = .ok (.ireturn, 1) := by decide +kernel
theorem dL_law_241 : decode cL_law 241 = .ok (.aload_n 1, 1) := by decide +kernel
theorem dL_law_242 : decode cL_law 242 = .ok (.aload_n 0, 1) := by decide +kernel
theorem dL_law_243 : decode cL_law 243 = .ok (.iload_n 3, 1) := by decide +kernel
theorem dL_law_244 : decode cL_law 244 = .ok (.iconst 1, 1) := by decide +kernel
theorem dL_law_245 : decode cL_law 245 = .ok (.iadd, 1) := by decide +kernel
theorem dL_law_246 : decode cL_law 246 = .ok (.iaload, 1) := by decide +kernel
theorem dL_law_247 : decode cL_law 247 = .ok (.aload_n 0, 1) := by decide +kernel
theorem dL_law_248 : decode cL_law 248 = .ok (.iload_n 3, 1) := by decide +kernel
theorem dL_law_249 : decode cL_law 249 = .ok (.iconst 2, 1) := by decide +kernel
theorem dL_law_250 : decode cL_law 250 = .ok (.iadd, 1) := by decide +kernel
theorem dL_law_251 : decode cL_law 251 = .ok (.iaload, 1) := by decide +kernel
theorem dL_law_252 : decode cL_law 252 = .ok (.invokevirtual 18, 3) := by decide +kernel
theorem dL_law_255 : decode cL_law 255 = .ok (.aload_n 2, 1) := by decide +kernel
theorem dL_law_256 : decode cL_law 256 = .ok (.aload_n 0, 1) := by decide +kernel
theorem dL_law_257 : decode cL_law 257 = .ok (.iload_n 3, 1) := by decide +kernel
theorem dL_law_258 : decode cL_law 258 = .ok (.iconst 1, 1) := by decide +kernel
theorem dL_law_259 : decode cL_law 259 = .ok (.iadd, 1) := by decide +kernel
theorem dL_law_260 : decode cL_law 260 = .ok (.iaload, 1) := by decide +kernel
theorem dL_law_261 : decode cL_law 261 = .ok (.aload_n 0, 1) := by decide +kernel
theorem dL_law_262 : decode cL_law 262 = .ok (.iload_n 3, 1) := by decide +kernel
theorem dL_law_263 : decode cL_law 263 = .ok (.iconst 2, 1) := by decide +kernel
theorem dL_law_264 : decode cL_law 264 = .ok (.iadd, 1) := by decide +kernel
theorem dL_law_265 : decode cL_law 265 = .ok (.iaload, 1) := by decide +kernel
theorem dL_law_266 : decode cL_law 266 = .ok (.invokevirtual 21, 3) := by decide +kernel
theorem dL_law_269 : decode cL_law 269 = .ok (.if_icmp .eq 1089, 3) := by decide +kernel
theorem dL_law_272 : decode cL_law 272 = .ok (.iconst 0, 1) := by decide +kernel
theorem dL_law_273 : decode cL_law 273 = .ok (.ireturn, 1) := by decide +kernel
theorem dL_law_274 : decode cL_law 274 = .ok (.aload_n 1, 1) := by decide +kernel
theorem dL_law_275 : decode cL_law 275 = .ok (.aload_n 0, 1) := by decide +kernel
theorem dL_law_276 : decode cL_law 276 = .ok (.iload_n 3, 1) := by decide +kernel
theorem dL_law_277 : decode cL_law 277 = .ok (.iconst 1, 1) := by decide +kernel
theorem dL_law_278 : decode cL_law 278 = .ok (.iadd, 1) := by decide +kernel
theorem dL_law_279 : decode cL_law 279 = .ok (.iaload, 1) := by decide +kernel
theorem dL_law_280 : decode cL_law 280 = .ok (.aload_n 0, 1) := by decide +kernel
theorem dL_law_281 : decode cL_law 281 = .ok (.iload_n 3, 1) := by decide +kernel
theorem dL_law_282 : decode cL_law 282 = .ok (.iconst 2, 1) := by decide +kernel
theorem dL_law_283 : decode cL_law 283 = .ok (.iadd, 1) := by decide +kernel
theorem dL_law_284 : decode cL_law 284 = .ok (.iaload, 1) := by decide +kernel
theorem dL_law_285 : decode cL_law 285 = .ok (.invokevirtual 22, 3) := by decide +kernel
theorem dL_law_288 : decode cL_law 288 = .ok (.aload_n 2, 1) := by decide +kernel
theorem dL_law_289 : decode cL_law 289 = .ok (.aload_n 0, 1) := by decide +kernel
theorem dL_law_290 : decode cL_law 290 = .ok (.iload_n 3, 1) := by decide +kernel
theorem dL_law_291 : decode cL_law 291 = .ok (.iconst 1, 1) := by decide +kernel
theorem dL_law_292 : decode cL_law 292 = .ok (.iadd, 1) := by decide +kernel
theorem dL_law_293 : decode cL_law 293 = .ok (.iaload, 1) := by decide +kernel
theorem dL_law_294 : decode cL_law 294 = .ok (.aload_n 0, 1) := by decide +kernel
theorem dL_law_295 : decode cL_law 295 = .ok (.iload_n 3, 1) := by decide +kernel
theorem dL_law_296 : decode cL_law 296 = .ok (.iconst 2, 1) := by decide +kernel
theorem dL_law_297 : decode cL_law 297 = .ok (.iadd, 1) := by decide +kernel
theorem dL_law_298 : decode cL_law 298 = .ok (.iaload, 1) := by decide +kernel
theorem dL_law_299 : decode cL_law 299 = .ok (.invokevirtual 25, 3) := by decide +kernel
theorem dL_law_302 : decode cL_law 302 = .ok (.if_icmp .eq 1056, 3) := by decide +kernel
theorem dL_law_305 : decode cL_law 305 = .ok (.iconst 0, 1) := by decide +kernel
theorem dL_law_306 : decode cL_law 306 = .ok (.ireturn, 1) := by decide +kernel
theorem dL_law_307 : decode cL_law 307 = .ok (.aload_n 1, 1) := by decide +kernel
theorem dL_law_308 : decode cL_law 308 = .ok (.aload_n 0, 1) := by decide +kernel
theorem dL_law_309 : decode cL_law 309 = .ok (.iload_n 3, 1) := by decide +kernel
theorem dL_law_310 : decode cL_law 310 = .ok (.iconst 1, 1) := by decide +kernel
theorem dL_law_311 : decode cL_law 311 = .ok (.iadd, 1) := by decide +kernel
theorem dL_law_312 : decode cL_law 312 = .ok (.iaload, 1) := by decide +kernel
theorem dL_law_313 : decode cL_law 313 = .ok (.aload_n 0, 1) := by decide +kernel
theorem dL_law_314 : decode cL_law 314 = .ok (.iload_n 3, 1) := by decide +kernel
theorem dL_law_315 : decode cL_law 315 = .ok (.iconst 2, 1) := by decide +kernel
theorem dL_law_316 : decode cL_law 316 = .ok (.iadd, 1) := by decide +kernel
theorem dL_law_317 : decode cL_law 317 = .ok (.iaload, 1) := by decide +kernel
theorem dL_law_318 : decode cL_law 318 = .ok (.invokevirtual 26, 3) := by decide +kernel
theorem dL_law_321 : decode cL_law 321 = .ok (.aload_n 2, 1) := by decide +kernel
theorem dL_law_322 : decode cL_law 322 = .ok (.aload_n 0, 1) := by decide +kernel
theorem dL_law_323 : decode cL_law 323 = .ok (.iload_n 3, 1) := by decide +kernel
theorem dL_law_324 : decode cL_law 324 = .ok (.iconst 1, 1) := by decide +kernel
theorem dL_law_325 : decode cL_law 325 = .ok (.iadd, 1) := by decide +kernel
theorem dL_law_326 : decode cL_law 326 = .ok (.iaload, 1) := by decide +kernel
theorem dL_law_327 : decode cL_law 327 = .ok (.aload_n 0, 1) := by decide +kernel
theorem dL_law_328 : decode cL_law 328 = .ok (.iload_n 3, 1) := by decide +kernel
theorem dL_law_329 : decode cL_law 329 = .ok (.iconst 2, 1) := by decide +kernel
theorem dL_law_330 : decode cL_law 330 = .ok (.iadd, 1) := by decide +kernel
theorem dL_law_331 : decode cL_law 331 = .ok (.iaload, 1) := by decide +kernel
theorem dL_law_332 : decode cL_law 332 = .ok (.invokevirtual 29, 3) := by decide +kernel
theorem dL_law_335 : decode cL_law 335 = .ok (.if_icmp .eq 1023, 3) := by decide +kernel
theorem dL_law_338 : decode cL_law 338 = .ok (.iconst 0, 1) := by decide +kernel
theorem dL_law_339 : decode cL_law 339 = .ok (.ireturn, 1) := by decide +kernel
theorem dL_law_340 : decode cL_law 340 = .ok (.aload_n 1, 1) := by decide +kernel
theorem dL_law_341 : decode cL_law 341 = .ok (.aload_n 0, 1) := by decide +kernel
theorem dL_law_342 : decode cL_law 342 = .ok (.iload_n 3, 1) := by decide +kernel
theorem dL_law_343 : decode cL_law 343 = .ok (.iconst 1, 1) := by decide +kernel
theorem dL_law_344 : decode cL_law 344 = .ok (.iadd, 1) := by decide +kernel
theorem dL_law_345 : decode cL_law 345 = .ok (.iaload, 1) := by decide +kernel
theorem dL_law_346 : decode cL_law 346 = .ok (.aload_n 0, 1) := by decide +kernel
theorem dL_law_347 : decode cL_law 347 = .ok (.iload_n 3, 1) := by decide +kernel
theorem dL_law_348 : decode cL_law 348 = .ok (.iconst 2, 1) := by decide +kernel
theorem dL_law_349 : decode cL_law 349 = .ok (.iadd, 1) := by decide +kernel
theorem dL_law_350 : decode cL_law 350 = .ok (.iaload, 1) := by decide +kernel
theorem dL_law_351 : decode cL_law 351 = .ok (.invokevirtual 30, 3) := by decide +kernel
theorem dL_law_354 : decode cL_law 354 = .ok (.aload_n 2, 1) := by decide +kernel
theorem dL_law_355 : decode cL_law 355 = .ok (.aload_n 0, 1) := by decide +kernel
theorem dL_law_356 : decode cL_law 356 = .ok (.iload_n 3, 1) := by decide +kernel
theorem dL_law_357 : decode cL_law 357 = .ok (.iconst 1, 1) := by decide +kernel
theorem dL_law_358 : decode cL_law 358 = .ok (.iadd, 1) := by decide +kernel
theorem dL_law_359 : decode cL_law 359 = .ok (.iaload, 1) := by decide +kernel
theorem dL_law_360 : decode cL_law 360 = .ok (.aload_n 0, 1) := by decide +kernel
theorem dL_law_361 : decode cL_law 361 = .ok (.iload_n 3, 1) := by decide +kernel
theorem dL_law_362 : decode cL_law 362 = .ok (.iconst 2, 1) := by decide +kernel
theorem dL_law_363 : decode cL_law 363 = .ok (.iadd, 1) := by decide +kernel
theorem dL_law_364 : decode cL_law 364 = .ok (.iaload, 1) := by decide +kernel
theorem dL_law_365 : decode cL_law 365 = .ok (.invokevirtual 33, 3) := by decide +kernel
theorem dL_law_368 : decode cL_law 368 = .ok (.if_icmp .eq 990, 3) := by decide +kernel
theorem dL_law_371 : decode cL_law 371 = .ok (.iconst 0, 1) := by decide +kernel
theorem dL_law_372 : decode cL_law 372 = .ok (.ireturn, 1) := by decide +kernel
theorem dL_law_373 : decode cL_law 373 = .ok (.aload_n 1, 1) := by decide +kernel
theorem dL_law_374 : decode cL_law 374 = .ok (.aload_n 0, 1) := by decide +kernel
theorem dL_law_375 : decode cL_law 375 = .ok (.iload_n 3, 1) := by decide +kernel
theorem dL_law_376 : decode cL_law 376 = .ok (.iconst 1, 1) := by decide +kernel
theorem dL_law_377 : decode cL_law 377 = .ok (.iadd, 1) := by decide +kernel
theorem dL_law_378 : decode cL_law 378 = .ok (.iaload, 1) := by decide +kernel
theorem dL_law_379 : decode cL_law 379 = .ok (.invokevirtual 34, 3) := by decide +kernel
theorem dL_law_382 : decode cL_law 382 = .ok (.aload_n 2, 1) := by decide +kernel
theorem dL_law_383 : decode cL_law 383 = .ok (.aload_n 0, 1) := by decide +kernel
theorem dL_law_384 : decode cL_law 384 = .ok (.iload_n 3, 1) := by decide +kernel
theorem dL_law_385 : decode cL_law 385 = .ok (.iconst 1, 1) := by decide +kernel
theorem dL_law_386 : decode cL_law 386 = .ok (.iadd, 1) := by decide +kernel
theorem dL_law_387 : decode cL_law 387 = .ok (.iaload, 1) := by decide +kernel
theorem dL_law_388 : decode cL_law 388 = .ok (.invokevirtual 38, 3) := by decide +kernel
theorem dL_law_391 : decode cL_law 391 = .ok (.if_icmp .eq 967, 3) := by decide +kernel
theorem dL_law_394 : decode cL_law 394 = .ok (.iconst 0, 1) := by decide +kernel
theorem dL_law_395 : decode cL_law 395 = .ok (.ireturn, 1) := by decide +kernel
theorem dL_law_396 : decode cL_law 396 = .ok (.aload_n 1, 1) := by decide +kernel
theorem dL_law_397 : decode cL_law 397 = .ok (.aload_n 0, 1) := by decide +kernel
theorem dL_law_398 : decode cL_law 398 = .ok (.iload_n 3, 1) := by decide +kernel
theorem dL_law_399 : decode cL_law 399 = .ok (.iconst 1, 1) := by decide +kernel
theorem dL_law_400 : decode cL_law 400 = .ok (.iadd, 1) := by decide +kernel
theorem dL_law_401 : decode cL_law 401 = .ok (.iaload, 1) := by decide +kernel
theorem dL_law_402 : decode cL_law 402 = .ok (.aload_n 0, 1) := by decide +kernel
theorem dL_law_403 : decode cL_law 403 = .ok (.iload_n 3, 1) := by decide +kernel
theorem dL_law_404 : decode cL_law 404 = .ok (.iconst 2, 1) := by decide +kernel
theorem dL_law_405 : decode cL_law 405 = .ok (.iadd, 1) := by decide +kernel
theorem dL_law_406 : decode cL_law 406 = .ok (.iaload, 1) := by decide +kernel
theorem dL_law_407 : decode cL_law 407 = .ok (.invokevirtual 39, 3) := by decide +kernel
theorem dL_law_410 : decode cL_law 410 = .ok (.aload_n 2, 1) := by decide +kernel
theorem dL_law_411 : decode cL_law 411 = .ok (.aload_n 0, 1) := by decide +kernel
theorem dL_law_412 : decode cL_law 412 = .ok (.iload_n 3, 1) := by decide +kernel
theorem dL_law_413 : decode cL_law 413 = .ok (.iconst 1, 1) := by decide +kernel
theorem dL_law_414 : decode cL_law 414 = .ok (.iadd, 1) := by decide +kernel
theorem dL_law_415 : decode cL_law 415 = .ok (.iaload, 1) := by decide +kernel
theorem dL_law_416 : decode cL_law 416 = .ok (.aload_n 0, 1) := by decide +kernel
theorem dL_law_417 : decode cL_law 417 = .ok (.iload_n 3, 1) := by decide +kernel
theorem dL_law_418 : decode cL_law 418 = .ok (.iconst 2, 1) := by decide +kernel
theorem dL_law_419 : decode cL_law 419 = .ok (.iadd, 1) := by decide +kernel
theorem dL_law_420 : decode cL_law 420 = .ok (.iaload, 1) := by decide +kernel
theorem dL_law_421 : decode cL_law 421 = .ok (.invokevirtual 42, 3) := by decide +kernel
theorem dL_law_424 : decode cL_law 424 = .ok (.if_icmp .eq 934, 3) := by decide +kernel
theorem dL_law_427 : decode cL_law 427 = .ok (.iconst 0, 1) := by decide +kernel
theorem dL_law_428 : decode cL_law 428 = .ok (.ireturn, 1) := by decide +kernel
theorem dL_law_429 : decode cL_law 429 = .ok (.aload_n 1, 1) := by decide +kernel
theorem dL_law_430 : decode cL_law 430 = .ok (.aload_n 0, 1) := by decide +kernel
theorem dL_law_431 : decode cL_law 431 = .ok (.iload_n 3, 1) := by decide +kernel
theorem dL_law_432 : decode cL_law 432 = .ok (.iconst 1, 1) := by decide +kernel
theorem dL_law_433 : decode cL_law 433 = .ok (.iadd, 1) := by decide +kernel
theorem dL_law_434 : decode cL_law 434 = .ok (.iaload, 1) := by decide +kernel
theorem dL_law_435 : decode cL_law 435 = .ok (.aload_n 0, 1) := by decide +kernel
theorem dL_law_436 : decode cL_law 436 = .ok (.iload_n 3, 1) := by decide +kernel
theorem dL_law_437 : decode cL_law 437 = .ok (.iconst 2, 1) := by decide +kernel
theorem dL_law_438 : decode cL_law 438 = .ok (.iadd, 1) := by decide +kernel
theorem dL_law_439 : decode cL_law 439 = .ok (.iaload, 1) := by decide +kernel
theorem dL_law_440 : decode cL_law 440 = .ok (.aload_n 0, 1) := by decide +kernel
theorem dL_law_441 : decode cL_law 441 = .ok (.iload_n 3, 1) := by decide +kernel
theorem dL_law_442 : decode cL_law 442 = .ok (.iconst 3, 1) := by decide +kernel
theorem dL_law_443 : decode cL_law 443 = .ok (.iadd, 1) := by decide +kernel
theorem dL_law_444 : decode cL_law 444 = .ok (.iaload, 1) := by decide +kernel
theorem dL_law_445 : decode cL_law 445 = .ok (.invokevirtual 43, 3) := by decide +kernel
theorem dL_law_448 : decode cL_law 448 = .ok (.aload_n 2, 1) := by decide +kernel
theorem dL_law_449 : decode cL_law 449 = .ok (.aload_n 0, 1) := by decide +kernel
theorem dL_law_450 : decode cL_law 450 = .ok (.iload_n 3, 1) := by decide +kernel
theorem dL_law_451 : decode cL_law 451 = .ok (.iconst 1, 1) := by decide +kernel
theorem dL_law_452 : decode cL_law 452 = .ok (.iadd, 1) := by decide +kernel
theorem dL_law_453 : decode cL_law 453 = .ok (.iaload, 1) := by decide +kernel
theorem dL_law_454 : decode cL_law 454 = .ok (.aload_n 0, 1) := by decide +kernel
theorem dL_law_455 : decode cL_law 455 = .ok (.iload_n 3, 1) := by decide +kernel
theorem dL_law_456 : decode cL_law 456 = .ok (.iconst 2, 1) := by decide +kernel
theorem dL_law_457 : decode cL_law 457 = .ok (.iadd, 1) := by decide +kernel
theorem dL_law_458 : decode cL_law 458 = .ok (.iaload, 1) := by decide +kernel
theorem dL_law_459 : decode cL_law 459 = .ok (.aload_n 0, 1) := by decide +kernel
theorem dL_law_460 : decode cL_law 460 = .ok (.iload_n 3, 1) := by decide +kernel
theorem dL_law_461 : decode cL_law 461 = .ok (.iconst 3, 1) := by decide +kernel
theorem dL_law_462 : decode cL_law 462 = .ok (.iadd, 1) := by decide +kernel
theorem dL_law_463 : decode cL_law 463 = .ok (.iaload, 1) := by decide +kernel
theorem dL_law_464 : decode cL_law 464 = .ok (.invokevirtual 47, 3) := by decide +kernel
theorem dL_law_467 : decode cL_law 467 = .ok (.if_icmp .eq 891, 3) := by decide +kernel
theorem dL_law_470 : decode cL_law 470 = .ok (.iconst 0, 1) := by decide +kernel
theorem dL_law_471 : decode cL_law 471 = .ok (.ireturn, 1) := by decide +kernel
theorem dL_law_472 : decode cL_law 472 = .ok (.aload_n 1, 1) := by decide +kernel
theorem dL_law_473 : decode cL_law 473 = .ok (.aload_n 0, 1) := by decide +kernel
theorem dL_law_474 : decode cL_law 474 = .ok (.iload_n 3, 1) := by decide +kernel
theorem dL_law_475 : decode cL_law 475 = .ok (.iconst 1, 1) := by decide +kernel
theorem dL_law_476 : decode cL_law 476 = .ok (.iadd, 1) := by decide +kernel
theorem dL_law_477 : decode cL_law 477 = .ok (.iaload, 1) := by decide +kernel
theorem dL_law_478 : decode cL_law 478 = .ok (.invokevirtual 48, 3) := by decide +kernel
theorem dL_law_481 : decode cL_law 481 = .ok (.aload_n 2, 1) := by decide +kernel
theorem dL_law_482 : decode cL_law 482 = .ok (.aload_n 0, 1) := by decide +kernel
theorem dL_law_483 : decode cL_law 483 = .ok (.iload_n 3, 1) := by decide +kernel
theorem dL_law_484 : decode cL_law 484 = .ok (.iconst 1, 1) := by decide +kernel
theorem dL_law_485 : decode cL_law 485 = .ok (.iadd, 1) := by decide +kernel
theorem dL_law_486 : decode cL_law 486 = .ok (.iaload, 1) := by decide +kernel
theorem dL_law_487 : decode cL_law 487 = .ok (.invokevirtual 51, 3) := by decide +kernel
theorem dL_law_490 : decode cL_law 490 = .ok (.if_icmp .eq 868, 3) := by decide +kernel
theorem dL_law_493 : decode cL_law 493 = .ok (.iconst 0, 1) := by decide +kernel
theorem dL_law_494 : decode cL_law 494 = .ok (.ireturn, 1) := by decide +kernel
theorem dL_law_495 : decode cL_law 495 = .ok (.aload_n 1, 1) := by decide +kernel
theorem dL_law_496 : decode cL_law 496 = .ok (.aload_n 0, 1) := by decide +kernel
theorem dL_law_497 : decode cL_law 497 = .ok (.iload_n 3, 1) := by decide +kernel
theorem dL_law_498 : decode cL_law 498 = .ok (.iconst 1, 1) := by decide +kernel
theorem dL_law_499 : decode cL_law 499 = .ok (.iadd, 1) := by decide +kernel
theorem dL_law_500 : decode cL_law 500 = .ok (.iaload, 1) := by decide +kernel
theorem dL_law_501 : decode cL_law 501 = .ok (.i2l, 1) := by decide +kernel
theorem dL_law_502 : decode cL_law 502 = .ok (.bipush 32, 2) := by decide +kernel
theorem dL_law_504 : decode cL_law 504 = .ok (.lshl, 1) := by decide +kernel
theorem dL_law_505 : decode cL_law 505 = .ok (.aload_n 0, 1) := by decide +kernel
theorem dL_law_506 : decode cL_law 506 = .ok (.iload_n 3, 1) := by decide +kernel
theorem dL_law_507 : decode cL_law 507 = .ok (.iconst 2, 1) := by decide +kernel
theorem dL_law_508 : decode cL_law 508 = .ok (.iadd, 1) := by decide +kernel
theorem dL_law_509 : decode cL_law 509 = .ok (.iaload, 1) := by decide +kernel
theorem dL_law_510 : decode cL_law 510 = .ok (.i2l, 1) := by decide +kernel
theorem dL_law_511 : decode cL_law 511 = .ok (.ldc2_w 52, 3) := by decide +kernel
theorem dL_law_514 : decode cL_law 514 = .ok (.land, 1) := by decide +kernel
theorem dL_law_515 : decode cL_law 515 = .ok (.lor, 1) := by decide +kernel
theorem dL_law_516 : decode cL_law 516 = .ok (.aload_n 0, 1) := by decide +kernel
theorem dL_law_517 : decode cL_law 517 = .ok (.iload_n 3, 1) := by decide +kernel
theorem dL_law_518 : decode cL_law 518 = .ok (.iconst 3, 1) := by decide +kernel
theorem dL_law_519 : decode cL_law 519 = .ok (.iadd, 1) := by decide +kernel
theorem dL_law_520 : decode cL_law 520 = .ok (.iaload, 1) := by decide +kernel
theorem dL_law_521 : decode cL_law 521 = .ok (.invokevirtual 54, 3) := by decide +kernel
theorem dL_law_524 : decode cL_law 524 = .ok (.aload_n 2, 1) := by decide +kernel
theorem dL_law_525 : decode cL_law 525 = .ok (.aload_n 0, 1) := by decide +kernel
theorem dL_law_526 : decode cL_law 526 = .ok (.iload_n 3, 1) := by decide +kernel
theorem dL_law_527 : decode cL_law 527 = .ok (.iconst 1, 1) := by decide +kernel
theorem dL_law_528 : decode cL_law 528 = .ok (.iadd, 1) := by decide +kernel
theorem dL_law_529 : decode cL_law 529 = .ok (.iaload, 1) := by decide +kernel
theorem dL_law_530 : decode cL_law 530 = .ok (.i2l, 1) := by decide +kernel
theorem dL_law_531 : decode cL_law 531 = .ok (.bipush 32, 2) := by decide +kernel
theorem dL_law_533 : decode cL_law 533 = .ok (.lshl, 1) := by decide +kernel
theorem dL_law_534 : decode cL_law 534 = .ok (.aload_n 0, 1) := by decide +kernel
theorem dL_law_535 : decode cL_law 535 = .ok (.iload_n 3, 1) := by decide +kernel
theorem dL_law_536 : decode cL_law 536 = .ok (.iconst 2, 1) := by decide +kernel
theorem dL_law_537 : decode cL_law 537 = .ok (.iadd, 1) := by decide +kernel
theorem dL_law_538 : decode cL_law 538 = .ok (.iaload, 1) := by decide +kernel
theorem dL_law_539 : decode cL_law 539 = .ok (.i2l, 1) := by decide +kernel
theorem dL_law_540 : decode cL_law 540 = .ok (.ldc2_w 52, 3) := by decide +kernel
theorem dL_law_543 : decode cL_law 543 = .ok (.land, 1) := by decide +kernel
theorem dL_law_544 : decode cL_law 544 = .ok (.lor, 1) := by decide +kernel
theorem dL_law_545 : decode cL_law 545 = .ok (.aload_n 0, 1) := by decide +kernel
theorem dL_law_546 : decode cL_law 546 = .ok (.iload_n 3, 1) := by decide +kernel
theorem dL_law_547 : decode cL_law 547 = .ok (.iconst 3, 1) := by decide +kernel
theorem dL_law_548 : decode cL_law 548 = .ok (.iadd, 1) := by decide +kernel
theorem dL_law_549 : decode cL_law 549 = .ok (.iaload, 1) := by decide +kernel
theorem dL_law_550 : decode cL_law 550 = .ok (.invokevirtual 58, 3) := by decide +kernel
theorem dL_law_553 : decode cL_law 553 = .ok (.if_icmp .eq 805, 3) := by decide +kernel
theorem dL_law_556 : decode cL_law 556 = .ok (.iconst 0, 1) := by decide +kernel
theorem dL_law_557 : decode cL_law 557 = .ok (.ireturn, 1) := by decide +kernel
theorem dL_law_558 : decode cL_law 558 = .ok (.aload_n 1, 1) := by decide +kernel
theorem dL_law_559 : decode cL_law 559 = .ok (.aload_n 0, 1) := by decide +kernel
theorem dL_law_560 : decode cL_law 560 = .ok (.iload_n 3, 1) := by decide +kernel
theorem dL_law_561 : decode cL_law 561 = .ok (.iconst 1, 1) := by decide +kernel
theorem dL_law_562 : decode cL_law 562 = .ok (.iadd, 1) := by decide +kernel
theorem dL_law_563 : decode cL_law 563 = .ok (.iaload, 1) := by decide +kernel
theorem dL_law_564 : decode cL_law 564 = .ok (.invokevirtual 59, 3) := by decide +kernel
theorem dL_law_567 : decode cL_law 567 = .ok (.aload_n 2, 1) := by decide +kernel
theorem dL_law_568 : decode cL_law 568 = .ok (.aload_n 0, 1) := by decide +kernel
theorem dL_law_569 : decode cL_law 569 = .ok (.iload_n 3, 1) := by decide +kernel
theorem dL_law_570 : decode cL_law 570 = .ok (.iconst 1, 1) := by decide +kernel
theorem dL_law_571 : decode cL_law 571 = .ok (.iadd, 1) := by decide +kernel
theorem dL_law_572 : decode cL_law 572 = .ok (.iaload, 1) := by decide +kernel
theorem dL_law_573 : decode cL_law 573 = .ok (.invokevirtual 62, 3) := by decide +kernel
theorem dL_law_576 : decode cL_law 576 = .ok (.if_icmp .eq 782, 3) := by decide +kernel
theorem dL_law_579 : decode cL_law 579 = .ok (.iconst 0, 1) := by decide +kernel
theorem dL_law_580 : decode cL_law 580 = .ok (.ireturn, 1) := by decide +kernel
theorem dL_law_581 : decode cL_law 581 = .ok (.aload_n 1, 1) := by decide +kernel
theorem dL_law_582 : decode cL_law 582 = .ok (.aload_n 0, 1) := by decide +kernel
theorem dL_law_583 : decode cL_law 583 = .ok (.iload_n 3, 1) := by decide +kernel
theorem dL_law_584 : decode cL_law 584 = .ok (.iconst 1, 1) := by decide +kernel
theorem dL_law_585 : decode cL_law 585 = .ok (.iadd, 1) := by decide +kernel
theorem dL_law_586 : decode cL_law 586 = .ok (.iaload, 1) := by decide +kernel
theorem dL_law_587 : decode cL_law 587 = .ok (.aload_n 0, 1) := by decide +kernel
theorem dL_law_588 : decode cL_law 588 = .ok (.iload_n 3, 1) := by decide +kernel
theorem dL_law_589 : decode cL_law 589 = .ok (.iconst 2, 1) := by decide +kernel
theorem dL_law_590 : decode cL_law 590 = .ok (.iadd, 1) := by decide +kernel
theorem dL_law_591 : decode cL_law 591 = .ok (.iaload, 1) := by decide +kernel
theorem dL_law_592 : decode cL_law 592 = .ok (.aload_n 0, 1) := by decide +kernel
theorem dL_law_593 : decode cL_law 593 = .ok (.iload_n 3, 1) := by decide +kernel
theorem dL_law_594 : decode cL_law 594 = .ok (.iconst 3, 1) := by decide +kernel
theorem dL_law_595 : decode cL_law 595 = .ok (.iadd, 1) := by decide +kernel
theorem dL_law_596 : decode cL_law 596 = .ok (.iaload, 1) := by decide +kernel
theorem dL_law_597 : decode cL_law 597 = .ok (.aload_n 0, 1) := by decide +kernel
theorem dL_law_598 : decode cL_law 598 = .ok (.iload_n 3, 1) := by decide +kernel
theorem dL_law_599 : decode cL_law 599 = .ok (.iconst 4, 1) := by decide +kernel
theorem dL_law_600 : decode cL_law 600 = .ok (.iadd, 1) := by decide +kernel
theorem dL_law_601 : decode cL_law 601 = .ok (.iaload, 1) := by decide +kernel
theorem dL_law_602 : decode cL_law 602 = .ok (.invokevirtual 63, 3) := by decide +kernel
theorem dL_law_605 : decode cL_law 605 = .ok (.aload_n 2, 1) := by decide +kernel
theorem dL_law_606 : decode cL_law 606 = .ok (.aload_n 0, 1) := by decide +kernel
theorem dL_law_607 : decode cL_law 607 = .ok (.iload_n 3, 1) := by decide +kernel
theorem dL_law_608 : decode cL_law 608 = .ok (.iconst 1, 1) := by decide +kernel
theorem dL_law_609 : decode cL_law 609 = .ok (.iadd, 1) := by decide +kernel
theorem dL_law_610 : decode cL_law 610 = .ok (.iaload, 1) := by decide +kernel
theorem dL_law_611 : decode cL_law 611 = .ok (.aload_n 0, 1) := by decide +kernel
theorem dL_law_612 : decode cL_law 612 = .ok (.iload_n 3, 1) := by decide +kernel
theorem dL_law_613 : decode cL_law 613 = .ok (.iconst 2, 1) := by decide +kernel
theorem dL_law_614 : decode cL_law 614 = .ok (.iadd, 1) := by decide +kernel
theorem dL_law_615 : decode cL_law 615 = .ok (.iaload, 1) := by decide +kernel
theorem dL_law_616 : decode cL_law 616 = .ok (.aload_n 0, 1) := by decide +kernel
theorem dL_law_617 : decode cL_law 617 = .ok (.iload_n 3, 1) := by decide +kernel
theorem dL_law_618 : decode cL_law 618 = .ok (.iconst 3, 1) := by decide +kernel
theorem dL_law_619 : decode cL_law 619 = .ok (.iadd, 1) := by decide +kernel
theorem dL_law_620 : decode cL_law 620 = .ok (.iaload, 1) := by decide +kernel
theorem dL_law_621 : decode cL_law 621 = .ok (.aload_n 0, 1) := by decide +kernel
theorem dL_law_622 : decode cL_law 622 = .ok (.iload_n 3, 1) := by decide +kernel
theorem dL_law_623 : decode cL_law 623 = .ok (.iconst 4, 1) := by decide +kernel
theorem dL_law_624 : decode cL_law 624 = .ok (.iadd, 1) := by decide +kernel
theorem dL_law_625 : decode cL_law 625 = .ok (.iaload, 1) := by decide +kernel
theorem dL_law_626 : decode cL_law 626 = .ok (.invokevirtual 67, 3) := by decide +kernel
theorem dL_law_629 : decode cL_law 629 = .ok (.if_icmp .eq 729, 3) := by decide +kernel
theorem dL_law_632 : decode cL_law 632 = .ok (.iconst 0, 1) := by decide +kernel
theorem dL_law_633 : decode cL_law 633 = .ok (.ireturn, 1) := by decide +kernel
theorem dL_law_634 : decode cL_law 634 = .ok (.aload_n 1, 1) := by decide +kernel
theorem dL_law_635 : decode cL_law 635 = .ok (.aload_n 0, 1) := by decide +kernel
theorem dL_law_636 : decode cL_law 636 = .ok (.iload_n 3, 1) := by decide +kernel
theorem dL_law_637 : decode cL_law 637 = .ok (.iconst 1, 1) := by decide +kernel
theorem dL_law_638 : decode cL_law 638 = .ok (.iadd, 1) := by decide +kernel
theorem dL_law_639 : decode cL_law 639 = .ok (.iaload, 1) := by decide +kernel
theorem dL_law_640 : decode cL_law 640 = .ok (.invokevirtual 68, 3) := by decide +kernel
theorem dL_law_643 : decode cL_law 643 = .ok (.aload_n 2, 1) := by decide +kernel
theorem dL_law_644 : decode cL_law 644 = .ok (.aload_n 0, 1) := by decide +kernel
theorem dL_law_645 : decode cL_law 645 = .ok (.iload_n 3, 1) := by decide +kernel
theorem dL_law_646 : decode cL_law 646 = .ok (.iconst 1, 1) := by decide +kernel
theorem dL_law_647 : decode cL_law 647 = .ok (.iadd, 1) := by decide +kernel
theorem dL_law_648 : decode cL_law 648 = .ok (.iaload, 1) := by decide +kernel
theorem dL_law_649 : decode cL_law 649 = .ok (.invokevirtual 71, 3) := by decide +kernel
theorem dL_law_652 : decode cL_law 652 = .ok (.if_icmp .eq 706, 3) := by decide +kernel
theorem dL_law_655 : decode cL_law 655 = .ok (.iconst 0, 1) := by decide +kernel
theorem dL_law_656 : decode cL_law 656 = .ok (.ireturn, 1) := by decide +kernel
theorem dL_law_657 : decode cL_law 657 = .ok (.aload_n 1, 1) := by decide +kernel
theorem dL_law_658 : decode cL_law 658 = .ok (.aload_n 0, 1) := by decide +kernel
theorem dL_law_659 : decode cL_law 659 = .ok (.iload_n 3, 1) := by decide +kernel
theorem dL_law_660 : decode cL_law 660 = .ok (.iconst 1, 1) := by decide +kernel
theorem dL_law_661 : decode cL_law 661 = .ok (.iadd, 1) := by decide +kernel
theorem dL_law_662 : decode cL_law 662 = .ok (.iaload, 1) := by decide +kernel
theorem dL_law_663 : decode cL_law 663 = .ok (.invokevirtual 72, 3) := by decide +kernel
theorem dL_law_666 : decode cL_law 666 = .ok (.aload_n 2, 1) := by decide +kernel
theorem dL_law_667 : decode cL_law 667 = .ok (.aload_n 0, 1) := by decide +kernel
theorem dL_law_668 : decode cL_law 668 = .ok (.iload_n 3, 1) := by decide +kernel
theorem dL_law_669 : decode cL_law 669 = .ok (.iconst 1, 1) := by decide +kernel
theorem dL_law_670 : decode cL_law 670 = .ok (.iadd, 1) := by decide +kernel
theorem dL_law_671 : decode cL_law 671 = .ok (.iaload, 1) := by decide +kernel
theorem dL_law_672 : decode cL_law 672 = .ok (.invokevirtual 75, 3) := by decide +kernel
theorem dL_law_675 : decode cL_law 675 = .ok (.if_icmp .eq 683, 3) := by decide +kernel
theorem dL_law_678 : decode cL_law 678 = .ok (.iconst 0, 1) := by decide +kernel
theorem dL_law_679 : decode cL_law 679 = .ok (.ireturn, 1) := by decide +kernel
theorem dL_law_680 : decode cL_law 680 = .ok (.aload_n 1, 1) := by decide +kernel
theorem dL_law_681 : decode cL_law 681 = .ok (.aload_n 0, 1) := by decide +kernel
theorem dL_law_682 : decode cL_law 682 = .ok (.iload_n 3, 1) := by decide +kernel
theorem dL_law_683 : decode cL_law 683 = .ok (.iconst 1, 1) := by decide +kernel
theorem dL_law_684 : decode cL_law 684 = .ok (.iadd, 1) := by decide +kernel
theorem dL_law_685 : decode cL_law 685 = .ok (.iaload, 1) := by decide +kernel
theorem dL_law_686 : decode cL_law 686 = .ok (.invokevirtual 76, 3) := by decide +kernel
theorem dL_law_689 : decode cL_law 689 = .ok (.aload_n 2, 1) := by decide +kernel
theorem dL_law_690 : decode cL_law 690 = .ok (.aload_n 0, 1) := by decide +kernel
theorem dL_law_691 : decode cL_law 691 = .ok (.iload_n 3, 1) := by decide +kernel
theorem dL_law_692 : decode cL_law 692 = .ok (.iconst 1, 1) := by decide +kernel
theorem dL_law_693 : decode cL_law 693 = .ok (.iadd, 1) := by decide +kernel
theorem dL_law_694 : decode cL_law 694 = .ok (.iaload, 1) := by decide +kernel
theorem dL_law_695 : decode cL_law 695 = .ok (.invokevirtual 79, 3) := by decide +kernel
theorem dL_law_698 : decode cL_law 698 = .ok (.if_icmp .eq 660, 3) := by decide +kernel
theorem dL_law_701 : decode cL_law 701 = .ok (.iconst 0, 1) := by decide +kernel
theorem dL_law_702 : decode cL_law 702 = .ok (.ireturn, 1) := by decide +kernel
theorem dL_law_703 : decode cL_law 703 = .ok (.aload_n 1, 1) := by decide +kernel
theorem dL_law_704 : decode cL_law 704 = .ok (.aload_n 0, 1) := by decide +kernel
theorem dL_law_705 : decode cL_law 705 = .ok (.iload_n 3, 1) := by decide +kernel
theorem dL_law_706 : decode cL_law 706 = .ok (.iconst 1, 1) := by decide +kernel
theorem dL_law_707 : decode cL_law 707 = .ok (.iadd, 1) := by decide +kernel
theorem dL_law_708 : decode cL_law 708 = .ok (.iaload, 1) := by decide +kernel
theorem dL_law_709 : decode cL_law 709 = .ok (.invokevirtual 80, 3) := by decide +kernel
theorem dL_law_712 : decode cL_law 712 = .ok (.aload_n 2, 1) := by decide +kernel
theorem dL_law_713 : decode cL_law 713 = .ok (.aload_n 0, 1) := by decide +kernel
theorem dL_law_714 : decode cL_law 714 = .ok (.iload_n 3, 1) := by decide +kernel
theorem dL_law_715 : decode cL_law 715 = .ok (.iconst 1, 1) := by decide +kernel
theorem dL_law_716 : decode cL_law 716 = .ok (.iadd, 1) := by decide +kernel
theorem dL_law_717 : decode cL_law 717 = .ok (.iaload, 1) := by decide +kernel
theorem dL_law_718 : decode cL_law 718 = .ok (.invokevirtual 83, 3) := by decide +kernel
theorem dL_law_721 : decode cL_law 721 = .ok (.if_icmp .eq 637, 3) := by decide +kernel
theorem dL_law_724 : decode cL_law 724 = .ok (.iconst 0, 1) := by decide +kernel
theorem dL_law_725 : decode cL_law 725 = .ok (.ireturn, 1) := by decide +kernel
theorem dL_law_726 : decode cL_law 726 = .ok (.aload_n 1, 1) := by decide +kernel
theorem dL_law_727 : decode cL_law 727 = .ok (.invokevirtual 84, 3) := by decide +kernel
theorem dL_law_730 : decode cL_law 730 = .ok (.aload_n 2, 1) := by decide +kernel
theorem dL_law_731 : decode cL_law 731 = .ok (.invokevirtual 88, 3) := by decide +kernel
theorem dL_law_734 : decode cL_law 734 = .ok (.if_icmp .eq 624, 3) := by decide +kernel
theorem dL_law_737 : decode cL_law 737 = .ok (.iconst 0, 1) := by decide +kernel
theorem dL_law_738 : decode cL_law 738 = .ok (.ireturn, 1) := by decide +kernel
theorem dL_law_739 : decode cL_law 739 = .ok (.aload_n 1, 1) := by decide +kernel
theorem dL_law_740 : decode cL_law 740 = .ok (.invokevirtual 89, 3) := by decide +kernel
theorem dL_law_743 : decode cL_law 743 = .ok (.aload_n 2, 1) := by decide +kernel
theorem dL_law_744 : decode cL_law 744 = .ok (.invokevirtual 92, 3) := by decide +kernel
theorem dL_law_747 : decode cL_law 747 = .ok (.if_icmp .eq 611, 3) := by decide +kernel
theorem dL_law_750 : decode cL_law 750 = .ok (.iconst 0, 1) := by decide +kernel
theorem dL_law_751 : decode cL_law 751 = .ok (.ireturn, 1) := by decide +kernel
theorem dL_law_752 : decode cL_law 752 = .ok (.aload_n 1, 1) := by decide +kernel
theorem dL_law_753 : decode cL_law 753 = .ok (.aload_n 0, 1) := by decide +kernel
theorem dL_law_754 : decode cL_law 754 = .ok (.iload_n 3, 1) := by decide +kernel
theorem dL_law_755 : decode cL_law 755 = .ok (.iconst 1, 1) := by decide +kernel
theorem dL_law_756 : decode cL_law 756 = .ok (.iadd, 1) := by decide +kernel
theorem dL_law_757 : decode cL_law 757 = .ok (.iaload, 1) := by decide +kernel
theorem dL_law_758 : decode cL_law 758 = .ok (.aload_n 0, 1) := by decide +kernel
theorem dL_law_759 : decode cL_law 759 = .ok (.iload_n 3, 1) := by decide +kernel
theorem dL_law_760 : decode cL_law 760 = .ok (.iconst 2, 1) := by decide +kernel
theorem dL_law_761 : decode cL_law 761 = .ok (.iadd, 1) := by decide +kernel
theorem dL_law_762 : decode cL_law 762 = .ok (.iaload, 1) := by decide +kernel
theorem dL_law_763 : decode cL_law 763 = .ok (.aload_n 0, 1) := by decide +kernel
theorem dL_law_764 : decode cL_law 764 = .ok (.iload_n 3, 1) := by decide +kernel
theorem dL_law_765 : decode cL_law 765 = .ok (.iconst 3, 1) := by decide +kernel
theorem dL_law_766 : decode cL_law 766 = .ok (.iadd, 1) := by decide +kernel
theorem dL_law_767 : decode cL_law 767 = .ok (.iaload, 1) := by decide +kernel
theorem dL_law_768 : decode cL_law 768 = .ok (.invokevirtual 93, 3) := by decide +kernel
theorem dL_law_771 : decode cL_law 771 = .ok (.aload_n 2, 1) := by decide +kernel
theorem dL_law_772 : decode cL_law 772 = .ok (.aload_n 0, 1) := by decide +kernel
theorem dL_law_773 : decode cL_law 773 = .ok (.iload_n 3, 1) := by decide +kernel
theorem dL_law_774 : decode cL_law 774 = .ok (.iconst 1, 1) := by decide +kernel
theorem dL_law_775 : decode cL_law 775 = .ok (.iadd, 1) := by decide +kernel
theorem dL_law_776 : decode cL_law 776 = .ok (.iaload, 1) := by decide +kernel
theorem dL_law_777 : decode cL_law 777 = .ok (.aload_n 0, 1) := by decide +kernel
theorem dL_law_778 : decode cL_law 778 = .ok (.iload_n 3, 1) := by decide +kernel
theorem dL_law_779 : decode cL_law 779 = .ok (.iconst 2, 1) := by decide +kernel
theorem dL_law_780 : decode cL_law 780 = .ok (.iadd, 1) := by decide +kernel
theorem dL_law_781 : decode cL_law 781 = .ok (.iaload, 1) := by decide +kernel
theorem dL_law_782 : decode cL_law 782 = .ok (.aload_n 0, 1) := by decide +kernel
theorem dL_law_783 : decode cL_law 783 = .ok (.iload_n 3, 1) := by decide +kernel
theorem dL_law_784 : decode cL_law 784 = .ok (.iconst 3, 1) := by decide +kernel
theorem dL_law_785 : decode cL_law 785 = .ok (.iadd, 1) := by decide +kernel
theorem dL_law_786 : decode cL_law 786 = .ok (.iaload, 1) := by decide +kernel
theorem dL_law_787 : decode cL_law 787 = .ok (.invokevirtual 96, 3) := by decide +kernel
theorem dL_law_790 : decode cL_law 790 = .ok (.if_icmp .eq 568, 3) := by decide +kernel
theorem dL_law_793 : decode cL_law 793 = .ok (.iconst 0, 1) := by decide +kernel
theorem dL_law_794 : decode cL_law 794 = .ok (.ireturn, 1) := by decide +kernel
theorem dL_law_795 : decode cL_law 795 = .ok (.aload_n 1, 1) := by decide +kernel
theorem dL_law_796 : decode cL_law 796 = .ok (.aload_n 0, 1) := by decide +kernel
theorem dL_law_797 : decode cL_law 797 = .ok (.iload_n 3, 1) := by decide +kernel
theorem dL_law_798 : decode cL_law 798 = .ok (.iconst 1, 1) := by decide +kernel
theorem dL_law_799 : decode cL_law 799 = .ok (.iadd, 1) := by decide +kernel
theorem dL_law_800 : decode cL_law 800 = .ok (.iaload, 1) := by decide +kernel
theorem dL_law_801 : decode cL_law 801 = .ok (.aload_n 0, 1) := by decide +kernel
theorem dL_law_802 : decode cL_law 802 = .ok (.iload_n 3, 1) := by decide +kernel
theorem dL_law_803 : decode cL_law 803 = .ok (.iconst 2, 1) := by decide +kernel
theorem dL_law_804 : decode cL_law 804 = .ok (.iadd, 1) := by decide +kernel
theorem dL_law_805 : decode cL_law 805 = .ok (.iaload, 1) := by decide +kernel
theorem dL_law_806 : decode cL_law 806 = .ok (.invokevirtual 97, 3) := by decide +kernel
theorem dL_law_809 : decode cL_law 809 = .ok (.aload_n 2, 1) := by decide +kernel
theorem dL_law_810 : decode cL_law 810 = .ok (.aload_n 0, 1) := by decide +kernel
theorem dL_law_811 : decode cL_law 811 = .ok (.iload_n 3, 1) := by decide +kernel
theorem dL_law_812 : decode cL_law 812 = .ok (.iconst 1, 1) := by decide +kernel
theorem dL_law_813 : decode cL_law 813 = .ok (.iadd, 1) := by decide +kernel
theorem dL_law_814 : decode cL_law 814 = .ok (.iaload, 1) := by decide +kernel
theorem dL_law_815 : decode cL_law 815 = .ok (.aload_n 0, 1) := by decide +kernel
theorem dL_law_816 : decode cL_law 816 = .ok (.iload_n 3, 1) := by decide +kernel
theorem dL_law_817 : decode cL_law 817 = .ok (.iconst 2, 1) := by decide +kernel
theorem dL_law_818 : decode cL_law 818 = .ok (.iadd, 1) := by decide +kernel
theorem dL_law_819 : decode cL_law 819 = .ok (.iaload, 1) := by decide +kernel
theorem dL_law_820 : decode cL_law 820 = .ok (.invokevirtual 100, 3) := by decide +kernel
theorem dL_law_823 : decode cL_law 823 = .ok (.if_icmp .eq 535, 3) := by decide +kernel
theorem dL_law_826 : decode cL_law 826 = .ok (.iconst 0, 1) := by decide +kernel
theorem dL_law_827 : decode cL_law 827 = .ok (.ireturn, 1) := by decide +kernel
theorem dL_law_828 : decode cL_law 828 = .ok (.aload_n 1, 1) := by decide +kernel
theorem dL_law_829 : decode cL_law 829 = .ok (.invokevirtual 101, 3) := by decide +kernel
theorem dL_law_832 : decode cL_law 832 = .ok (.aload_n 2, 1) := by decide +kernel
theorem dL_law_833 : decode cL_law 833 = .ok (.invokevirtual 104, 3) := by decide +kernel
theorem dL_law_836 : decode cL_law 836 = .ok (.if_icmp .eq 522, 3) := by decide +kernel
theorem dL_law_839 : decode cL_law 839 = .ok (.iconst 0, 1) := by decide +kernel
theorem dL_law_840 : decode cL_law 840 = .ok (.ireturn, 1) := by decide +kernel
theorem dL_law_841 : decode cL_law 841 = .ok (.aload_n 1, 1) := by decide +kernel
theorem dL_law_842 : decode cL_law 842 = .ok (.invokevirtual 105, 3) := by decide +kernel
theorem dL_law_845 : decode cL_law 845 = .ok (.aload_n 2, 1) := by decide +kernel
theorem dL_law_846 : decode cL_law 846 = .ok (.invokevirtual 108, 3) := by decide +kernel
theorem dL_law_849 : decode cL_law 849 = .ok (.if_icmp .eq 509, 3) := by decide +kernel
theorem dL_law_852 : decode cL_law 852 = .ok (.iconst 0, 1) := by decide +kernel
theorem dL_law_853 : decode cL_law 853 = .ok (.ireturn, 1) := by decide +kernel
theorem dL_law_854 : decode cL_law 854 = .ok (.aload_n 1, 1) := by decide +kernel
theorem dL_law_855 : decode cL_law 855 = .ok (.aload_n 0, 1) := by decide +kernel
theorem dL_law_856 : decode cL_law 856 = .ok (.iload_n 3, 1) := by decide +kernel
theorem dL_law_857 : decode cL_law 857 = .ok (.iconst 1, 1) := by decide +kernel
theorem dL_law_858 : decode cL_law 858 = .ok (.iadd, 1) := by decide +kernel
theorem dL_law_859 : decode cL_law 859 = .ok (.iaload, 1) := by decide +kernel
theorem dL_law_860 : decode cL_law 860 = .ok (.aload_n 0, 1) := by decide +kernel
theorem dL_law_861 : decode cL_law 861 = .ok (.iload_n 3, 1) := by decide +kernel
theorem dL_law_862 : decode cL_law 862 = .ok (.iconst 2, 1) := by decide +kernel
theorem dL_law_863 : decode cL_law 863 = .ok (.iadd, 1) := by decide +kernel
theorem dL_law_864 : decode cL_law 864 = .ok (.iaload, 1) := by decide +kernel
theorem dL_law_865 : decode cL_law 865 = .ok (.invokevirtual 109, 3) := by decide +kernel
theorem dL_law_868 : decode cL_law 868 = .ok (.aload_n 2, 1) := by decide +kernel
theorem dL_law_869 : decode cL_law 869 = .ok (.aload_n 0, 1) := by decide +kernel
theorem dL_law_870 : decode cL_law 870 = .ok (.iload_n 3, 1) := by decide +kernel
theorem dL_law_871 : decode cL_law 871 = .ok (.iconst 1, 1) := by decide +kernel
theorem dL_law_872 : decode cL_law 872 = .ok (.iadd, 1) := by decide +kernel
theorem dL_law_873 : decode cL_law 873 = .ok (.iaload, 1) := by decide +kernel
theorem dL_law_874 : decode cL_law 874 = .ok (.aload_n 0, 1) := by decide +kernel
theorem dL_law_875 : decode cL_law 875 = .ok (.iload_n 3, 1) := by decide +kernel
theorem dL_law_876 : decode cL_law 876 = .ok (.iconst 2, 1) := by decide +kernel
theorem dL_law_877 : decode cL_law 877 = .ok (.iadd, 1) := by decide +kernel
theorem dL_law_878 : decode cL_law 878 = .ok (.iaload, 1) := by decide +kernel
theorem dL_law_879 : decode cL_law 879 = .ok (.invokevirtual 112, 3) := by decide +kernel
theorem dL_law_882 : decode cL_law 882 = .ok (.if_icmp .eq 476, 3) := by decide +kernel
theorem dL_law_885 : decode cL_law 885 = .ok (.iconst 0, 1) := by decide +kernel
theorem dL_law_886 : decode cL_law 886 = .ok (.ireturn, 1) := by decide +kernel
theorem dL_law_887 : decode cL_law 887 = .ok (.aload_n 1, 1) := by decide +kernel
theorem dL_law_888 : decode cL_law 888 = .ok (.aload_n 0, 1) := by decide +kernel
theorem dL_law_889 : decode cL_law 889 = .ok (.iload_n 3, 1) := by decide +kernel
theorem dL_law_890 : decode cL_law 890 = .ok (.iconst 1, 1) := by decide +kernel
theorem dL_law_891 : decode cL_law 891 = .ok (.iadd, 1) := by decide +kernel
theorem dL_law_892 : decode cL_law 892 = .ok (.iaload, 1) := by decide +kernel
theorem dL_law_893 : decode cL_law 893 = .ok (.invokevirtual 113, 3) := by decide +kernel
theorem dL_law_896 : decode cL_law 896 = .ok (.aload_n 2, 1) := by decide +kernel
theorem dL_law_897 : decode cL_law 897 = .ok (.aload_n 0, 1) := by decide +kernel
theorem dL_law_898 : decode cL_law 898 = .ok (.iload_n 3, 1) := by decide +kernel
theorem dL_law_899 : decode cL_law 899 = .ok (.iconst 1, 1) := by decide +kernel
theorem dL_law_900 : decode cL_law 900 = .ok (.iadd, 1) := by decide +kernel
theorem dL_law_901 : decode cL_law 901 = .ok (.iaload, 1) := by decide +kernel
theorem dL_law_902 : decode cL_law 902 = .ok (.invokevirtual 116, 3) := by decide +kernel
theorem dL_law_905 : decode cL_law 905 = .ok (.if_icmp .eq 453, 3) := by decide +kernel
theorem dL_law_908 : decode cL_law 908 = .ok (.iconst 0, 1) := by decide +kernel
theorem dL_law_909 : decode cL_law 909 = .ok (.ireturn, 1) := by decide +kernel
theorem dL_law_910 : decode cL_law 910 = .ok (.aload_n 1, 1) := by decide +kernel
theorem dL_law_911 : decode cL_law 911 = .ok (.aload_n 0, 1) := by decide +kernel
theorem dL_law_912 : decode cL_law 912 = .ok (.iload_n 3, 1) := by decide +kernel
theorem dL_law_913 : decode cL_law 913 = .ok (.iconst 1, 1) := by decide +kernel
theorem dL_law_914 : decode cL_law 914 = .ok (.iadd, 1) := by decide +kernel
theorem dL_law_915 : decode cL_law 915 = .ok (.iaload, 1) := by decide +kernel
theorem dL_law_916 : decode cL_law 916 = .ok (.aload_n 0, 1) := by decide +kernel
theorem dL_law_917 : decode cL_law 917 = .ok (.iload_n 3, 1) := by decide +kernel
theorem dL_law_918 : decode cL_law 918 = .ok (.iconst 2, 1) := by decide +kernel
theorem dL_law_919 : decode cL_law 919 = .ok (.iadd, 1) := by decide +kernel
theorem dL_law_920 : decode cL_law 920 = .ok (.iaload, 1) := by decide +kernel
theorem dL_law_921 : decode cL_law 921 = .ok (.invokevirtual 117, 3) := by decide +kernel
theorem dL_law_924 : decode cL_law 924 = .ok (.aload_n 2, 1) := by decide +kernel
theorem dL_law_925 : decode cL_law 925 = .ok (.aload_n 0, 1) := by decide +kernel
theorem dL_law_926 : decode cL_law 926 = .ok (.iload_n 3, 1) := by decide +kernel
theorem dL_law_927 : decode cL_law 927 = .ok (.iconst 1, 1) := by decide +kernel
theorem dL_law_928 : decode cL_law 928 = .ok (.iadd, 1) := by decide +kernel
theorem dL_law_929 : decode cL_law 929 = .ok (.iaload, 1) := by decide +kernel
theorem dL_law_930 : decode cL_law 930 = .ok (.aload_n 0, 1) := by decide +kernel
theorem dL_law_931 : decode cL_law 931 = .ok (.iload_n 3, 1) := by decide +kernel
theorem dL_law_932 : decode cL_law 932 = .ok (.iconst 2, 1) := by decide +kernel
theorem dL_law_933 : decode cL_law 933 = .ok (.iadd, 1) := by decide +kernel
theorem dL_law_934 : decode cL_law 934 = .ok (.iaload, 1) := by decide +kernel
theorem dL_law_935 : decode cL_law 935 = .ok (.invokevirtual 120, 3) := by decide +kernel
theorem dL_law_938 : decode cL_law 938 = .ok (.if_icmp .eq 420, 3) := by decide +kernel
theorem dL_law_941 : decode cL_law 941 = .ok (.iconst 0, 1) := by decide +kernel
theorem dL_law_942 : decode cL_law 942 = .ok (.ireturn, 1) := by decide +kernel
theorem dL_law_943 : decode cL_law 943 = .ok (.aload_n 1, 1) := by decide +kernel
theorem dL_law_944 : decode cL_law 944 = .ok (.aload_n 0, 1) := by decide +kernel
theorem dL_law_945 : decode cL_law 945 = .ok (.iload_n 3, 1) := by decide +kernel
theorem dL_law_946 : decode cL_law 946 = .ok (.iconst 1, 1) := by decide +kernel
theorem dL_law_947 : decode cL_law 947 = .ok (.iadd, 1) := by decide +kernel
theorem dL_law_948 : decode cL_law 948 = .ok (.iaload, 1) := by decide +kernel
theorem dL_law_949 : decode cL_law 949 = .ok (.invokevirtual 121, 3) := by decide +kernel
theorem dL_law_952 : decode cL_law 952 = .ok (.aload_n 2, 1) := by decide +kernel
theorem dL_law_953 : decode cL_law 953 = .ok (.aload_n 0, 1) := by decide +kernel
theorem dL_law_954 : decode cL_law 954 = .ok (.iload_n 3, 1) := by decide +kernel
theorem dL_law_955 : decode cL_law 955 = .ok (.iconst 1, 1) := by decide +kernel
theorem dL_law_956 : decode cL_law 956 = .ok (.iadd, 1) := by decide +kernel
theorem dL_law_957 : decode cL_law 957 = .ok (.iaload, 1) := by decide +kernel
theorem dL_law_958 : decode cL_law 958 = .ok (.invokevirtual 124, 3) := by decide +kernel
theorem dL_law_961 : decode cL_law 961 = .ok (.if_icmp .eq 397, 3) := by decide +kernel
theorem dL_law_964 : decode cL_law 964 = .ok (.iconst 0, 1) := by decide +kernel
theorem dL_law_965 : decode cL_law 965 = .ok (.ireturn, 1) := by decide +kernel
theorem dL_law_966 : decode cL_law 966 = .ok (.aload_n 1, 1) := by decide +kernel
theorem dL_law_967 : decode cL_law 967 = .ok (.aload_n 0, 1) := by decide +kernel
theorem dL_law_968 : decode cL_law 968 = .ok (.iload_n 3, 1) := by decide +kernel
theorem dL_law_969 : decode cL_law 969 = .ok (.iconst 1, 1) := by decide +kernel
theorem dL_law_970 : decode cL_law 970 = .ok (.iadd, 1) := by decide +kernel
theorem dL_law_971 : decode cL_law 971 = .ok (.iaload, 1) := by decide +kernel
theorem dL_law_972 : decode cL_law 972 = .ok (.invokevirtual 125, 3) := by decide +kernel
theorem dL_law_975 : decode cL_law 975 = .ok (.aload_n 2, 1) := by decide +kernel
theorem dL_law_976 : decode cL_law 976 = .ok (.aload_n 0, 1) := by decide +kernel
theorem dL_law_977 : decode cL_law 977 = .ok (.iload_n 3, 1) := by decide +kernel
theorem dL_law_978 : decode cL_law 978 = .ok (.iconst 1, 1) := by decide +kernel
theorem dL_law_979 : decode cL_law 979 = .ok (.iadd, 1) := by decide +kernel
theorem dL_law_980 : decode cL_law 980 = .ok (.iaload, 1) := by decide +kernel
theorem dL_law_981 : decode cL_law 981 = .ok (.invokevirtual 128, 3) := by decide +kernel
theorem dL_law_984 : decode cL_law 984 = .ok (.if_icmp .eq 374, 3) := by decide +kernel
theorem dL_law_987 : decode cL_law 987 = .ok (.iconst 0, 1) := by decide +kernel
theorem dL_law_988 : decode cL_law 988 = .ok (.ireturn, 1) := by decide +kernel
theorem dL_law_989 : decode cL_law 989 = .ok (.aload_n 1, 1) := by decide +kernel
theorem dL_law_990 : decode cL_law 990 = .ok (.aload_n 0, 1) := by decide +kernel
theorem dL_law_991 : decode cL_law 991 = .ok (.iload_n 3, 1) := by decide +kernel
theorem dL_law_992 : decode cL_law 992 = .ok (.iconst 1, 1) := by decide +kernel
theorem dL_law_993 : decode cL_law 993 = .ok (.iadd, 1) := by decide +kernel
theorem dL_law_994 : decode cL_law 994 = .ok (.iaload, 1) := by decide +kernel
theorem dL_law_995 : decode cL_law 995 = .ok (.aload_n 0, 1) := by decide +kernel
theorem dL_law_996 : decode cL_law 996 = .ok (.iload_n 3, 1) := by decide +kernel
theorem dL_law_997 : decode cL_law 997 = .ok (.iconst 2, 1) := by decide +kernel
theorem dL_law_998 : decode cL_law 998 = .ok (.iadd, 1) := by decide +kernel
theorem dL_law_999 : decode cL_law 999 = .ok (.iaload, 1) := by decide +kernel
theorem dL_law_1000 : decode cL_law 1000 = .ok (.aload_n 0, 1) := by decide +kernel
theorem dL_law_1001 : decode cL_law 1001 = .ok (.iload_n 3, 1) := by decide +kernel
theorem dL_law_1002 : decode cL_law 1002 = .ok (.iconst 3, 1) := by decide +kernel
theorem dL_law_1003 : decode cL_law 1003 = .ok (.iadd, 1) := by decide +kernel
theorem dL_law_1004 : decode cL_law 1004 = .ok (.iaload, 1) := by decide +kernel
theorem dL_law_1005 : decode cL_law 1005 = .ok (.invokevirtual 129, 3) := by decide +kernel
theorem dL_law_1008 : decode cL_law 1008 = .ok (.aload_n 2, 1) := by decide +kernel
theorem dL_law_1009 : decode cL_law 1009 = .ok (.aload_n 0, 1) := by decide +kernel
theorem dL_law_1010 : decode cL_law 1010 = .ok (.iload_n 3, 1) := by decide +kernel
theorem dL_law_1011 : decode cL_law 1011 = .ok (.iconst 1, 1) := by decide +kernel
theorem dL_law_1012 : decode cL_law 1012 = .ok (.iadd, 1) := by decide +kernel
theorem dL_law_1013 : decode cL_law 1013 = .ok (.iaload, 1) := by decide +kernel
theorem dL_law_1014 : decode cL_law 1014 = .ok (.aload_n 0, 1) := by decide +kernel
theorem dL_law_1015 : decode cL_law 1015 = .ok (.iload_n 3, 1) := by decide +kernel
theorem dL_law_1016 : decode cL_law 1016 = .ok (.iconst 2, 1) := by decide +kernel
theorem dL_law_1017 : decode cL_law 1017 = .ok (.iadd, 1) := by decide +kernel
theorem dL_law_1018 : decode cL_law 1018 = .ok (.iaload, 1) := by decide +kernel
theorem dL_law_1019 : decode cL_law 1019 = .ok (.aload_n 0, 1) := by decide +kernel
theorem dL_law_1020 : decode cL_law 1020 = .ok (.iload_n 3, 1) := by decide +kernel
theorem dL_law_1021 : decode cL_law 1021 = .ok (.iconst 3, 1) := by decide +kernel
theorem dL_law_1022 : decode cL_law 1022 = .ok (.iadd, 1) := by decide +kernel
theorem dL_law_1023 : decode cL_law 1023 = .ok (.iaload, 1) := by decide +kernel
theorem dL_law_1024 : decode cL_law 1024 = .ok (.invokevirtual 132, 3) := by decide +kernel
theorem dL_law_1027 : decode cL_law 1027 = .ok (.if_icmp .eq 331, 3) := by decide +kernel
theorem dL_law_1030 : decode cL_law 1030 = .ok (.iconst 0, 1) := by decide +kernel
theorem dL_law_1031 : decode cL_law 1031 = .ok (.ireturn, 1) := by decide +kernel
theorem dL_law_1032 : decode cL_law 1032 = .ok (.aload_n 1, 1) := by decide +kernel
theorem dL_law_1033 : decode cL_law 1033 = .ok (.aload_n 0, 1) := by decide +kernel
theorem dL_law_1034 : decode cL_law 1034 = .ok (.iload_n 3, 1) := by decide +kernel
theorem dL_law_1035 : decode cL_law 1035 = .ok (.iconst 1, 1) := by decide +kernel
theorem dL_law_1036 : decode cL_law 1036 = .ok (.iadd, 1) := by decide +kernel
theorem dL_law_1037 : decode cL_law 1037 = .ok (.iaload, 1) := by decide +kernel
theorem dL_law_1038 : decode cL_law 1038 = .ok (.invokevirtual 133, 3) := by decide +kernel
theorem dL_law_1041 : decode cL_law 1041 = .ok (.aload_n 2, 1) := by decide +kernel
theorem dL_law_1042 : decode cL_law 1042 = .ok (.aload_n 0, 1) := by decide +kernel
theorem dL_law_1043 : decode cL_law 1043 = .ok (.iload_n 3, 1) := by decide +kernel
theorem dL_law_1044 : decode cL_law 1044 = .ok (.iconst 1, 1) := by decide +kernel
theorem dL_law_1045 : decode cL_law 1045 = .ok (.iadd, 1) := by decide +kernel
theorem dL_law_1046 : decode cL_law 1046 = .ok (.iaload, 1) := by decide +kernel
theorem dL_law_1047 : decode cL_law 1047 = .ok (.invokevirtual 136, 3) := by decide +kernel
theorem dL_law_1050 : decode cL_law 1050 = .ok (.if_icmp .eq 308, 3) := by decide +kernel
theorem dL_law_1053 : decode cL_law 1053 = .ok (.iconst 0, 1) := by decide +kernel
theorem dL_law_1054 : decode cL_law 1054 = .ok (.ireturn, 1) := by decide +kernel
theorem dL_law_1055 : decode cL_law 1055 = .ok (.aload_n 1, 1) := by decide +kernel
theorem dL_law_1056 : decode cL_law 1056 = .ok (.aload_n 0, 1) := by decide +kernel
theorem dL_law_1057 : decode cL_law 1057 = .ok (.iload_n 3, 1) := by decide +kernel
theorem dL_law_1058 : decode cL_law 1058 = .ok (.iconst 1, 1) := by decide +kernel
theorem dL_law_1059 : decode cL_law 1059 = .ok (.iadd, 1) := by decide +kernel
theorem dL_law_1060 : decode cL_law 1060 = .ok (.iaload, 1) := by decide +kernel
theorem dL_law_1061 : decode cL_law 1061 = .ok (.aload_n 0, 1) := by decide +kernel
theorem dL_law_1062 : decode cL_law 1062 = .ok (.iload_n 3, 1) := by decide +kernel
theorem dL_law_1063 : decode cL_law 1063 = .ok (.iconst 2, 1) := by decide +kernel
theorem dL_law_1064 : decode cL_law 1064 = .ok (.iadd, 1) := by decide +kernel
theorem dL_law_1065 : decode cL_law 1065 = .ok (.iaload, 1) := by decide +kernel
theorem dL_law_1066 : decode cL_law 1066 = .ok (.aload_n 0, 1) := by decide +kernel
theorem dL_law_1067 : decode cL_law 1067 = .ok (.iload_n 3, 1) := by decide +kernel
theorem dL_law_1068 : decode cL_law 1068 = .ok (.iconst 3, 1) := by decide +kernel
theorem dL_law_1069 : decode cL_law 1069 = .ok (.iadd, 1) := by decide +kernel
theorem dL_law_1070 : decode cL_law 1070 = .ok (.iaload, 1) := by decide +kernel
theorem dL_law_1071 : decode cL_law 1071 = .ok (.invokevirtual 137, 3) := by decide +kernel
theorem dL_law_1074 : decode cL_law 1074 = .ok (.aload_n 2, 1) := by decide +kernel
theorem dL_law_1075 : decode cL_law 1075 = .ok (.aload_n 0, 1) := by decide +kernel
theorem dL_law_1076 : decode cL_law 1076 = .ok (.iload_n 3, 1) := by decide +kernel
theorem dL_law_1077 : decode cL_law 1077 = .ok (.iconst 1, 1) := by decide +kernel
theorem dL_law_1078 : decode cL_law 1078 = .ok (.iadd, 1) := by decide +kernel
theorem dL_law_1079 : decode cL_law 1079 = .ok (.iaload, 1) := by decide +kernel
theorem dL_law_1080 : decode cL_law 1080 = .ok (.aload_n 0, 1) := by decide +kernel
theorem dL_law_1081 : decode cL_law 1081 = .ok (.iload_n 3, 1) := by decide +kernel
theorem dL_law_1082 : decode cL_law 1082 = .ok (.iconst 2, 1) := by decide +kernel
theorem dL_law_1083 : decode cL_law 1083 = .ok (.iadd, 1) := by decide +kernel
theorem dL_law_1084 : decode cL_law 1084 = .ok (.iaload, 1) := by decide +kernel
theorem dL_law_1085 : decode cL_law 1085 = .ok (.aload_n 0, 1) := by decide +kernel
theorem dL_law_1086 : decode cL_law 1086 = .ok (.iload_n 3, 1) := by decide +kernel
theorem dL_law_1087 : decode cL_law 1087 = .ok (.iconst 3, 1) := by decide +kernel
theorem dL_law_1088 : decode cL_law 1088 = .ok (.iadd, 1) := by decide +kernel
theorem dL_law_1089 : decode cL_law 1089 = .ok (.iaload, 1) := by decide +kernel
theorem dL_law_1090 : decode cL_law 1090 = .ok (.invokevirtual 140, 3) := by decide +kernel
theorem dL_law_1093 : decode cL_law 1093 = .ok (.if_icmp .eq 265, 3) := by decide +kernel
theorem dL_law_1096 : decode cL_law 1096 = .ok (.iconst 0, 1) := by decide +kernel
theorem dL_law_1097 : decode cL_law 1097 = .ok (.ireturn, 1) := by decide +kernel
theorem dL_law_1098 : decode cL_law 1098 = .ok (.aload_n 1, 1) := by decide +kernel
theorem dL_law_1099 : decode cL_law 1099 = .ok (.aload_n 0, 1) := by decide +kernel
theorem dL_law_1100 : decode cL_law 1100 = .ok (.iload_n 3, 1) := by decide +kernel
theorem dL_law_1101 : decode cL_law 1101 = .ok (.iconst 1, 1) := by decide +kernel
theorem dL_law_1102 : decode cL_law 1102 = .ok (.iadd, 1) := by decide +kernel
theorem dL_law_1103 : decode cL_law 1103 = .ok (.iaload, 1) := by decide +kernel
theorem dL_law_1104 : decode cL_law 1104 = .ok (.aload_n 0, 1) := by decide +kernel
theorem dL_law_1105 : decode cL_law 1105 = .ok (.iload_n 3, 1) := by decide +kernel
theorem dL_law_1106 : decode cL_law 1106 = .ok (.iconst 2, 1) := by decide +kernel
theorem dL_law_1107 : decode cL_law 1107 = .ok (.iadd, 1) := by decide +kernel
theorem dL_law_1108 : decode cL_law 1108 = .ok (.iaload, 1) := by decide +kernel
theorem dL_law_1109 : decode cL_law 1109 = .ok (.aload_n 0, 1) := by decide +kernel
theorem dL_law_1110 : decode cL_law 1110 = .ok (.iload_n 3, 1) := by decide +kernel
theorem dL_law_1111 : decode cL_law 1111 = .ok (.iconst 3, 1) := by decide +kernel
theorem dL_law_1112 : decode cL_law 1112 = .ok (.iadd, 1) := by decide +kernel
theorem dL_law_1113 : decode cL_law 1113 = .ok (.iaload, 1) := by decide +kernel
theorem dL_law_1114 : decode cL_law 1114 = .ok (.invokevirtual 141, 3) := by decide +kernel
theorem dL_law_1117 : decode cL_law 1117 = .ok (.aload_n 2, 1) := by decide +kernel
theorem dL_law_1118 : decode cL_law 1118 = .ok (.aload_n 0, 1) := by decide +kernel
theorem dL_law_1119 : decode cL_law 1119 = .ok (.iload_n 3, 1) := by decide +kernel
theorem dL_law_1120 : decode cL_law 1120 = .ok (.iconst 1, 1) := by decide +kernel
theorem dL_law_1121 : decode cL_law 1121 = .ok (.iadd, 1) := by decide +kernel
theorem dL_law_1122 : decode cL_law 1122 = .ok (.iaload, 1) := by decide +kernel
theorem dL_law_1123 : decode cL_law 1123 = .ok (.aload_n 0, 1) := by decide +kernel
theorem dL_law_1124 : decode cL_law 1124 = .ok (.iload_n 3, 1) := by decide +kernel
theorem dL_law_1125 : decode cL_law 1125 = .ok (.iconst 2, 1) := by decide +kernel
theorem dL_law_1126 : decode cL_law 1126 = .ok (.iadd, 1) := by decide +kernel
theorem dL_law_1127 : decode cL_law 1127 = .ok (.iaload, 1) := by decide +kernel
theorem dL_law_1128 : decode cL_law 1128 = .ok (.aload_n 0, 1) := by decide +kernel
theorem dL_law_1129 : decode cL_law 1129 = .ok (.iload_n 3, 1) := by decide +kernel
theorem dL_law_1130 : decode cL_law 1130 = .ok (.iconst 3, 1) := by decide +kernel
theorem dL_law_1131 : decode cL_law 1131 = .ok (.iadd, 1) := by decide +kernel
theorem dL_law_1132 : decode cL_law 1132 = .ok (.iaload, 1) := by decide +kernel
theorem dL_law_1133 : decode cL_law 1133 = .ok (.invokevirtual 144, 3) := by decide +kernel
theorem dL_law_1136 : decode cL_law 1136 = .ok (.if_icmp .eq 222, 3) := by decide +kernel
theorem dL_law_1139 : decode cL_law 1139 = .ok (.iconst 0, 1) := by decide +kernel
theorem dL_law_1140 : decode cL_law 1140 = .ok (.ireturn, 1) := by decide +kernel
theorem dL_law_1141 : decode cL_law 1141 = .ok (.aload_n 1, 1) := by decide +kernel
theorem dL_law_1142 : decode cL_law 1142 = .ok (.aload_n 0, 1) := by decide +kernel
theorem dL_law_1143 : decode cL_law 1143 = .ok (.iload_n 3, 1) := by decide +kernel
theorem dL_law_1144 : decode cL_law 1144 = .ok (.iconst 1, 1) := by decide +kernel
theorem dL_law_1145 : decode cL_law 1145 = .ok (.iadd, 1) := by decide +kernel
theorem dL_law_1146 : decode cL_law 1146 = .ok (.iaload, 1) := by decide +kernel
theorem dL_law_1147 : decode cL_law 1147 = .ok (.aload_n 0, 1) := by decide +kernel
theorem dL_law_1148 : decode cL_law 1148 = .ok (.iload_n 3, 1) := by decide +kernel
theorem dL_law_1149 : decode cL_law 1149 = .ok (.iconst 2, 1) := by decide +kernel
theorem dL_law_1150 : decode cL_law 1150 = .ok (.iadd, 1) := by decide +kernel
theorem dL_law_1151 : decode cL_law 1151 = .ok (.iaload, 1) := by decide +kernel
theorem dL_law_1152 : decode cL_law 1152 = .ok (.aload_n 0, 1) := by decide +kernel
theorem dL_law_1153 : decode cL_law 1153 = .ok (.iload_n 3, 1) := by decide +kernel
theorem dL_law_1154 : decode cL_law 1154 = .ok (.iconst 3, 1) := by decide +kernel
theorem dL_law_1155 : decode cL_law 1155 = .ok (.iadd, 1) := by decide +kernel
theorem dL_law_1156 : decode cL_law 1156 = .ok (.iaload, 1) := by decide +kernel
theorem dL_law_1157 : decode cL_law 1157 = .ok (.aload_n 0, 1) := by decide +kernel
theorem dL_law_1158 : decode cL_law 1158 = .ok (.iload_n 3, 1) := by decide +kernel
theorem dL_law_1159 : decode cL_law 1159 = .ok (.iconst 4, 1) := by decide +kernel
theorem dL_law_1160 : decode cL_law 1160 = .ok (.iadd, 1) := by decide +kernel
theorem dL_law_1161 : decode cL_law 1161 = .ok (.iaload, 1) := by decide +kernel
theorem dL_law_1162 : decode cL_law 1162 = .ok (.aload_n 0, 1) := by decide +kernel
theorem dL_law_1163 : decode cL_law 1163 = .ok (.iload_n 3, 1) := by decide +kernel
theorem dL_law_1164 : decode cL_law 1164 = .ok (.iconst 5, 1) := by decide +kernel
theorem dL_law_1165 : decode cL_law 1165 = .ok (.iadd, 1) := by decide +kernel
theorem dL_law_1166 : decode cL_law 1166 = .ok (.iaload, 1) := by decide +kernel
theorem dL_law_1167 : decode cL_law 1167 = .ok (.invokevirtual 145, 3) := by decide +kernel
theorem dL_law_1170 : decode cL_law 1170 = .ok (.aload_n 2, 1) := by decide +kernel
theorem dL_law_1171 : decode cL_law 1171 = .ok (.aload_n 0, 1) := by decide +kernel
theorem dL_law_1172 : decode cL_law 1172 = .ok (.iload_n 3, 1) := by decide +kernel
theorem dL_law_1173 : decode cL_law 1173 = .ok (.iconst 1, 1) := by decide +kernel
theorem dL_law_1174 : decode cL_law 1174 = .ok (.iadd, 1) := by decide +kernel
theorem dL_law_1175 : decode cL_law 1175 = .ok (.iaload, 1) := by decide +kernel
theorem dL_law_1176 : decode cL_law 1176 = .ok (.aload_n 0, 1) := by decide +kernel
theorem dL_law_1177 : decode cL_law 1177 = .ok (.iload_n 3, 1) := by decide +kernel
theorem dL_law_1178 : decode cL_law 1178 = .ok (.iconst 2, 1) := by decide +kernel
theorem dL_law_1179 : decode cL_law 1179 = .ok (.iadd, 1) := by decide +kernel
theorem dL_law_1180 : decode cL_law 1180 = .ok (.iaload, 1) := by decide +kernel
theorem dL_law_1181 : decode cL_law 1181 = .ok (.aload_n 0, 1) := by decide +kernel
theorem dL_law_1182 : decode cL_law 1182 = .ok (.iload_n 3, 1) := by decide +kernel
theorem dL_law_1183 : decode cL_law 1183 = .ok (.iconst 3, 1) := by decide +kernel
theorem dL_law_1184 : decode cL_law 1184 = .ok (.iadd, 1) := by decide +kernel
theorem dL_law_1185 : decode cL_law 1185 = .ok (.iaload, 1) := by decide +kernel
theorem dL_law_1186 : decode cL_law 1186 = .ok (.aload_n 0, 1) := by decide +kernel
theorem dL_law_1187 : decode cL_law 1187 = .ok (.iload_n 3, 1) := by decide +kernel
theorem dL_law_1188 : decode cL_law 1188 = .ok (.iconst 4, 1) := by decide +kernel
theorem dL_law_1189 : decode cL_law 1189 = .ok (.iadd, 1) := by decide +kernel
theorem dL_law_1190 : decode cL_law 1190 = .ok (.iaload, 1) := by decide +kernel
theorem dL_law_1191 : decode cL_law 1191 = .ok (.aload_n 0, 1) := by decide +kernel
theorem dL_law_1192 : decode cL_law 1192 = .ok (.iload_n 3, 1) := by decide +kernel
theorem dL_law_1193 : decode cL_law 1193 = .ok (.iconst 5, 1) := by decide +kernel
theorem dL_law_1194 : decode cL_law 1194 = .ok (.iadd, 1) := by decide +kernel
theorem dL_law_1195 : decode cL_law 1195 = .ok (.iaload, 1) := by decide +kernel
theorem dL_law_1196 : decode cL_law 1196 = .ok (.invokevirtual 149, 3) := by decide +kernel
theorem dL_law_1199 : decode cL_law 1199 = .ok (.if_icmp .eq 159, 3) := by decide +kernel
theorem dL_law_1202 : decode cL_law 1202 = .ok (.iconst 0, 1) := by decide +kernel
theorem dL_law_1203 : decode cL_law 1203 = .ok (.ireturn, 1) := by decide +kernel
theorem dL_law_1204 : decode cL_law 1204 = .ok (.aload_n 1, 1) := by decide +kernel
theorem dL_law_1205 : decode cL_law 1205 = .ok (.aload_n 0, 1) := by decide +kernel
theorem dL_law_1206 : decode cL_law 1206 = .ok (.iload_n 3, 1) := by decide +kernel
theorem dL_law_1207 : decode cL_law 1207 = .ok (.iconst 1, 1) := by decide +kernel
theorem dL_law_1208 : decode cL_law 1208 = .ok (.iadd, 1) := by decide +kernel
theorem dL_law_1209 : decode cL_law 1209 = .ok (.iaload, 1) := by decide +kernel
theorem dL_law_1210 : decode cL_law 1210 = .ok (.invokevirtual 150, 3) := by decide +kernel
theorem dL_law_1213 : decode cL_law 1213 = .ok (.aload_n 2, 1) := by decide +kernel
theorem dL_law_1214 : decode cL_law 1214 = .ok (.aload_n 0, 1) := by decide +kernel
theorem dL_law_1215 : decode cL_law 1215 = .ok (.iload_n 3, 1) := by decide +kernel
theorem dL_law_1216 : decode cL_law 1216 = .ok (.iconst 1, 1) := by decide +kernel
theorem dL_law_1217 : decode cL_law 1217 = .ok (.iadd, 1) := by decide +kernel
theorem dL_law_1218 : decode cL_law 1218 = .ok (.iaload, 1) := by decide +kernel
theorem dL_law_1219 : decode cL_law 1219 = .ok (.invokevirtual 153, 3) := by decide +kernel
theorem dL_law_1222 : decode cL_law 1222 = .ok (.if_icmp .eq 136, 3) := by decide +kernel
theorem dL_law_1225 : decode cL_law 1225 = .ok (.iconst 0, 1) := by decide +kernel
theorem dL_law_1226 : decode cL_law 1226 = .ok (.ireturn, 1) := by decide +kernel
theorem dL_law_1227 : decode cL_law 1227 = .ok (.aload_n 1, 1) := by decide +kernel
theorem dL_law_1228 : decode cL_law 1228 = .ok (.aload_n 0, 1) := by decide +kernel
theorem dL_law_1229 : decode cL_law 1229 = .ok (.iload_n 3, 1) := by decide +kernel
theorem dL_law_1230 : decode cL_law 1230 = .ok (.iconst 1, 1) := by decide +kernel
theorem dL_law_1231 : decode cL_law 1231 = .ok (.iadd, 1) := by decide +kernel
theorem dL_law_1232 : decode cL_law 1232 = .ok (.iaload, 1) := by decide +kernel
theorem dL_law_1233 : decode cL_law 1233 = .ok (.invokevirtual 154, 3) := by decide +kernel
theorem dL_law_1236 : decode cL_law 1236 = .ok (.aload_n 2, 1) := by decide +kernel
theorem dL_law_1237 : decode cL_law 1237 = .ok (.aload_n 0, 1) := by decide +kernel
theorem dL_law_1238 : decode cL_law 1238 = .ok (.iload_n 3, 1) := by decide +kernel
theorem dL_law_1239 : decode cL_law 1239 = .ok (.iconst 1, 1) := by decide +kernel
theorem dL_law_1240 : decode cL_law 1240 = .ok (.iadd, 1) := by decide +kernel
theorem dL_law_1241 : decode cL_law 1241 = .ok (.iaload, 1) := by decide +kernel
theorem dL_law_1242 : decode cL_law 1242 = .ok (.invokevirtual 157, 3) := by decide +kernel
theorem dL_law_1245 : decode cL_law 1245 = .ok (.if_icmp .eq 113, 3) := by decide +kernel
theorem dL_law_1248 : decode cL_law 1248 = .ok (.iconst 0, 1) := by decide +kernel
theorem dL_law_1249 : decode cL_law 1249 = .ok (.ireturn, 1) := by decide +kernel
theorem dL_law_1250 : decode cL_law 1250 = .ok (.aload_n 1, 1) := by decide +kernel
theorem dL_law_1251 : decode cL_law 1251 = .ok (.invokevirtual 158, 3) := by decide +kernel
theorem dL_law_1254 : decode cL_law 1254 = .ok (.aload_n 2, 1) := by decide +kernel
theorem dL_law_1255 : decode cL_law 1255 = .ok (.invokevirtual 161, 3) := by decide +kernel
theorem dL_law_1258 : decode cL_law 1258 = .ok (.if_icmp .eq 100, 3) := by decide +kernel
theorem dL_law_1261 : decode cL_law 1261 = .ok (.iconst 0, 1) := by decide +kernel
theorem dL_law_1262 : decode cL_law 1262 = .ok (.ireturn, 1) := by decide +kernel
theorem dL_law_1263 : decode cL_law 1263 = .ok (.aload_n 1, 1) := by decide +kernel
theorem dL_law_1264 : decode cL_law 1264 = .ok (.invokevirtual 162, 3) := by decide +kernel
theorem dL_law_1267 : decode cL_law 1267 = .ok (.aload_n 2, 1) := by decide +kernel
theorem dL_law_1268 : decode cL_law 1268 = .ok (.invokevirtual 165, 3) := by decide +kernel
theorem dL_law_1271 : decode cL_law 1271 = .ok (.if_icmp .eq 87, 3) := by decide +kernel
theorem dL_law_1274 : decode cL_law 1274 = .ok (.iconst 0, 1) := by decide +kernel
theorem dL_law_1275 : decode cL_law 1275 = .ok (.ireturn, 1) := by decide +kernel
theorem dL_law_1276 : decode cL_law 1276 = .ok (.aload_n 1, 1) := by decide +kernel
theorem dL_law_1277 : decode cL_law 1277 = .ok (.aload_n 0, 1) := by decide +kernel
theorem dL_law_1278 : decode cL_law 1278 = .ok (.iload_n 3, 1) := by decide +kernel
theorem dL_law_1279 : decode cL_law 1279 = .ok (.iconst 1, 1) := by decide +kernel
theorem dL_law_1280 : decode cL_law 1280 = .ok (.iadd, 1) := by decide +kernel
theorem dL_law_1281 : decode cL_law 1281 = .ok (.iaload, 1) := by decide +kernel
theorem dL_law_1282 : decode cL_law 1282 = .ok (.invokevirtual 166, 3) := by decide +kernel
theorem dL_law_1285 : decode cL_law 1285 = .ok (.aload_n 2, 1) := by decide +kernel
theorem dL_law_1286 : decode cL_law 1286 = .ok (.aload_n 0, 1) := by decide +kernel
theorem dL_law_1287 : decode cL_law 1287 = .ok (.iload_n 3, 1) := by decide +kernel
theorem dL_law_1288 : decode cL_law 1288 = .ok (.iconst 1, 1) := by decide +kernel
theorem dL_law_1289 : decode cL_law 1289 = .ok (.iadd, 1) := by decide +kernel
theorem dL_law_1290 : decode cL_law 1290 = .ok (.iaload, 1) := by decide +kernel
theorem dL_law_1291 : decode cL_law 1291 = .ok (.invokevirtual 169, 3) := by decide +kernel
theorem dL_law_1294 : decode cL_law 1294 = .ok (.if_icmp .eq 64, 3) := by decide +kernel
theorem dL_law_1297 : decode cL_law 1297 = .ok (.iconst 0, 1) := by decide +kernel
theorem dL_law_1298 : decode cL_law 1298 = .ok (.ireturn, 1) := by decide +kernel
theorem dL_law_1299 : decode cL_law 1299 = .ok (.aload_n 1, 1) := by decide +kernel
theorem dL_law_1300 : decode cL_law 1300 = .ok (.invokevirtual 170, 3) := by decide +kernel
theorem dL_law_1303 : decode cL_law 1303 = .ok (.aload_n 2, 1) := by decide +kernel
theorem dL_law_1304 : decode cL_law 1304 = .ok (.invokevirtual 173, 3) := by decide +kernel
theorem dL_law_1307 : decode cL_law 1307 = .ok (.if_icmp .eq 51, 3) := by decide +kernel
theorem dL_law_1310 : decode cL_law 1310 = .ok (.iconst 0, 1) := by decide +kernel
theorem dL_law_1311 : decode cL_law 1311 = .ok (.ireturn, 1) := by decide +kernel
theorem dL_law_1312 : decode cL_law 1312 = .ok (.aload_n 1, 1) := by decide +kernel
theorem dL_law_1313 : decode cL_law 1313 = .ok (.aload_n 0, 1) := by decide +kernel
theorem dL_law_1314 : decode cL_law 1314 = .ok (.iload_n 3, 1) := by decide +kernel
theorem dL_law_1315 : decode cL_law 1315 = .ok (.iconst 1, 1) := by decide +kernel
theorem dL_law_1316 : decode cL_law 1316 = .ok (.iadd, 1) := by decide +kernel
theorem dL_law_1317 : decode cL_law 1317 = .ok (.iaload, 1) := by decide +kernel
theorem dL_law_1318 : decode cL_law 1318 = .ok (.invokevirtual 174, 3) := by decide +kernel
theorem dL_law_1321 : decode cL_law 1321 = .ok (.aload_n 2, 1) := by decide +kernel
theorem dL_law_1322 : decode cL_law 1322 = .ok (.aload_n 0, 1) := by decide +kernel
theorem dL_law_1323 : decode cL_law 1323 = .ok (.iload_n 3, 1) := by decide +kernel
theorem dL_law_1324 : decode cL_law 1324 = .ok (.iconst 1, 1) := by decide +kernel
theorem dL_law_1325 : decode cL_law 1325 = .ok (.iadd, 1) := by decide +kernel
theorem dL_law_1326 : decode cL_law 1326 = .ok (.iaload, 1) := by decide +kernel
theorem dL_law_1327 : decode cL_law 1327 = .ok (.invokevirtual 177, 3) := by decide +kernel
theorem dL_law_1330 : decode cL_law 1330 = .ok (.if_icmp .eq 28, 3) := by decide +kernel
theorem dL_law_1333 : decode cL_law 1333 = .ok (.iconst 0, 1) := by decide +kernel
theorem dL_law_1334 : decode cL_law 1334 = .ok (.ireturn, 1) := by decide +kernel
theorem dL_law_1335 : decode cL_law 1335 = .ok (.aload_n 1, 1) := by decide +kernel
theorem dL_law_1336 : decode cL_law 1336 = .ok (.aload_n 0, 1) := by decide +kernel
theorem dL_law_1337 : decode cL_law 1337 = .ok (.iload_n 3, 1) := by decide +kernel
theorem dL_law_1338 : decode cL_law 1338 = .ok (.iconst 1, 1) := by decide +kernel
theorem dL_law_1339 : decode cL_law 1339 = .ok (.iadd, 1) := by decide +kernel
theorem dL_law_1340 : decode cL_law 1340 = .ok (.iaload, 1) := by decide +kernel
theorem dL_law_1341 : decode cL_law 1341 = .ok (.invokevirtual 178, 3) := by decide +kernel
theorem dL_law_1344 : decode cL_law 1344 = .ok (.aload_n 2, 1) := by decide +kernel
theorem dL_law_1345 : decode cL_law 1345 = .ok (.aload_n 0, 1) := by decide +kernel
theorem dL_law_1346 : decode cL_law 1346 = .ok (.iload_n 3, 1) := by decide +kernel
theorem dL_law_1347 : decode cL_law 1347 = .ok (.iconst 1, 1) := by decide +kernel
theorem dL_law_1348 : decode cL_law 1348 = .ok (.iadd, 1) := by decide +kernel
theorem dL_law_1349 : decode cL_law 1349 = .ok (.iaload, 1) := by decide +kernel
theorem dL_law_1350 : decode cL_law 1350 = .ok (.invokevirtual 181, 3) := by decide +kernel
theorem dL_law_1353 : decode cL_law 1353 = .ok (.if_icmp .eq 5, 3) := by decide +kernel
theorem dL_law_1356 : decode cL_law 1356 = .ok (.iconst 0, 1) := by decide +kernel
theorem dL_law_1357 : decode cL_law 1357 = .ok (.ireturn, 1) := by decide +kernel
theorem dL_law_1358 : decode cL_law 1358 = .ok (.iinc 3 6, 3) := by decide +kernel
theorem dL_law_1361 : decode cL_law 1361 = .ok (.goto (-1343), 3) := by decide +kernel
theorem dL_law_1364 : decode cL_law 1364 = .ok (.iconst 1, 1) := by decide +kernel
theorem dL_law_1365 : decode cL_law 1365 = .ok (.ireturn, 1) := by decide +kernel
