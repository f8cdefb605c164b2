theorem dX0_init_0 : decode cX0_init 0 = .ok (.aload_n 0, 1) := by decide +kernel
theorem dX0_init_1 : decode cX0_init 1 = .ok (.invokespecial 3, 3) := by decide +kernel
theorem dX0_init_4 : decode cX0_init 4 = .ok (.aload_n 0, 1) := by decide +kernel
theorem dX0_init_5 : decode cX0_init 5 = .ok (.new 9, 3) := by decide +kernel
theorem dX0_init_8 : decode cX0_init 8 = .ok (.dup, 1) := by decide +kernel
theorem dX0_init_9 : decode cX0_init 9 = .ok (.invokespecial 11, 3) := by decide +kernel
theorem dX0_init_12 : decode cX0_init 12 = .ok (.putfield 12, 3) := by decide +kernel
theorem dX0_init_15 : decode cX0_init 15 = .ok (.aload_n 0, 1) := by decide +kernel
theorem dX0_init_16 : decode cX0_init 16 = .ok (.iconst (-1), 1) := by decide +kernel
theorem dX0_init_17 : decode cX0_init 17 = .ok (.putfield 18, 3) := by decide +kernel
theorem dX0_init_20 : decode cX0_init 20 = .ok (.return_, 1) := by decide +kernel
theorem dX0_find_0 : decode cX0_find 0 = .ok (.aload_n 0, 1) := by decide +kernel
theorem dX0_find_1 : decode cX0_find 1 = .ok (.iload_n 3, 1) := by decide +kernel
theorem dX0_find_2 : decode cX0_find 2 = .ok (.putfield 22, 3) := by decide +kernel
theorem dX0_find_5 : decode cX0_find 5 = .ok (.aload_n 0, 1) := by decide +kernel
theorem dX0_find_6 : decode cX0_find 6 = .ok (.iconst (-1), 1) := by decide +kernel
theorem dX0_find_7 : decode cX0_find 7 = .ok (.putfield 25, 3) := by decide +kernel
theorem dX0_find_10 : decode cX0_find 10 = .ok (.aload_n 0, 1) := by decide +kernel
theorem dX0_find_11 : decode cX0_find 11 = .ok (.iconst (-1), 1) := by decide +kernel
theorem dX0_find_12 : decode cX0_find 12 = .ok (.putfield 28, 3) := by decide +kernel
theorem dX0_find_15 : decode cX0_find 15 = .ok (.iconst 0, 1) := by decide +kernel
theorem dX0_find_16 : decode cX0_find 16 = .ok (.istore 4, 2) := by decide +kernel
theorem dX0_find_18 : decode cX0_find 18 = .ok (.iload 4, 2) := by decide +kernel
theorem dX0_find_20 : decode cX0_find 20 = .ok (.aload_n 1, 1) := by decide +kernel
theorem dX0_find_21 : decode cX0_find 21 = .ok (.getfield 31, 3) := by decide +kernel
theorem dX0_find_24 : decode cX0_find 24 = .ok (.if_icmp .ge 57, 3) := by decide +kernel
theorem dX0_find_27 : decode cX0_find 27 = .ok (.iload 4, 2) := by decide +kernel
theorem dX0_find_29 : decode cX0_find 29 = .ok (.bipush 8, 2) := by decide +kernel
theorem dX0_find_31 : decode cX0_find 31 = .ok (.if_icmp .ge 50, 3) := by decide +kernel
theorem dX0_find_34 : decode cX0_find 34 = .ok (.iconst 0, 1) := by decide +kernel
theorem dX0_find_35 : decode cX0_find 35 = .ok (.istore 5, 2) := by decide +kernel
theorem dX0_find_37 : decode cX0_find 37 = .ok (.iload 5, 2) := by decide +kernel
theorem dX0_find_39 : decode cX0_find 39 = .ok (.iconst 3, 1) := by decide +kernel
theorem dX0_find_40 : decode cX0_find 40 = .ok (.if_icmp .ge 35, 3) := by decide +kernel
theorem dX0_find_43 : decode cX0_find 43 = .ok (.aload_n 0, 1) := by decide +kernel
theorem dX0_find_44 : decode cX0_find 44 = .ok (.getfield 28, 3) := by decide +kernel
theorem dX0_find_47 : decode cX0_find 47 = .ok (.iconst (-1), 1) := by decide +kernel
theorem dX0_find_48 : decode cX0_find 48 = .ok (.if_icmp .eq 11, 3) := by decide +kernel
theorem dX0_find_51 : decode cX0_find 51 = .ok (.iload_n 3, 1) := by decide +kernel
theorem dX0_find_52 : decode cX0_find 52 = .ok (.iconst 3, 1) := by decide +kernel
theorem dX0_find_53 : decode cX0_find 53 = .ok (.invokestatic 38, 3) := by decide +kernel
theorem dX0_find_56 : decode cX0_find 56 = .ok (.ifCond .eq 13, 3) := by decide +kernel
theorem dX0_find_59 : decode cX0_find 59 = .ok (.aload_n 0, 1) := by decide +kernel
theorem dX0_find_60 : decode cX0_find 60 = .ok (.aload_n 1, 1) := by decide +kernel
theorem dX0_find_61 : decode cX0_find 61 = .ok (.aload_n 2, 1) := by decide +kernel
theorem dX0_find_62 : decode cX0_find 62 = .ok (.iload 4, 2) := by decide +kernel
theorem dX0_find_64 : decode cX0_find 64 = .ok (.iload 5, 2) := by decide +kernel
theorem dX0_find_66 : decode cX0_find 66 = .ok (.invokevirtual 42, 3) := by decide +kernel
theorem dX0_find_69 : decode cX0_find 69 = .ok (.iinc 5 1, 3) := by decide +kernel
theorem dX0_find_72 : decode cX0_find 72 = .ok (.goto (-35), 3) := by decide +kernel
theorem dX0_find_75 : decode cX0_find 75 = .ok (.iinc 4 1, 3) := by decide +kernel
theorem dX0_find_78 : decode cX0_find 78 = .ok (.goto (-60), 3) := by decide +kernel
theorem dX0_find_81 : decode cX0_find 81 = .ok (.return_, 1) := by decide +kernel
theorem dX0_tryMark_0 : decode cX0_tryMark 0 = .ok (.aload_n 1, 1) := by decide +kernel
theorem dX0_tryMark_1 : decode cX0_tryMark 1 = .ok (.getfield 46, 3) := by decide +kernel
theorem dX0_tryMark_4 : decode cX0_tryMark 4 = .ok (.iconst 3, 1) := by decide +kernel
theorem dX0_tryMark_5 : decode cX0_tryMark 5 = .ok (.aaload, 1) := by decide +kernel
theorem dX0_tryMark_6 : decode cX0_tryMark 6 = .ok (.astore 5, 2) := by decide +kernel
theorem dX0_tryMark_8 : decode cX0_tryMark 8 = .ok (.aload_n 1, 1) := by decide +kernel
theorem dX0_tryMark_9 : decode cX0_tryMark 9 = .ok (.iload_n 3, 1) := by decide +kernel
theorem dX0_tryMark_10 : decode cX0_tryMark 10 = .ok (.invokevirtual 50, 3) := by decide +kernel
theorem dX0_tryMark_13 : decode cX0_tryMark 13 = .ok (.ifCond .eq 16, 3) := by decide +kernel
theorem dX0_tryMark_16 : decode cX0_tryMark 16 = .ok (.aload 5, 2) := by decide +kernel
theorem dX0_tryMark_18 : decode cX0_tryMark 18 = .ok (.iload_n 3, 1) := by decide +kernel
theorem dX0_tryMark_19 : decode cX0_tryMark 19 = .ok (.iaload, 1) := by decide +kernel
theorem dX0_tryMark_20 : decode cX0_tryMark 20 = .ok (.iload 4, 2) := by decide +kernel
theorem dX0_tryMark_22 : decode cX0_tryMark 22 = .ok (.ishr, 1) := by decide +kernel
theorem dX0_tryMark_23 : decode cX0_tryMark 23 = .ok (.iconst 1, 1) := by decide +kernel
theorem dX0_tryMark_24 : decode cX0_tryMark 24 = .ok (.iand, 1) := by decide +kernel
theorem dX0_tryMark_25 : decode cX0_tryMark 25 = .ok (.iconst 1, 1) := by decide +kernel
theorem dX0_tryMark_26 : decode cX0_tryMark 26 = .ok (.if_icmp .ne 4, 3) := by decide +kernel
theorem dX0_tryMark_29 : decode cX0_tryMark 29 = .ok (.return_, 1) := by decide +kernel
theorem dX0_tryMark_30 : decode cX0_tryMark 30 = .ok (.aload 5, 2) := by decide +kernel
theorem dX0_tryMark_32 : decode cX0_tryMark 32 = .ok (.iload_n 3, 1) := by decide +kernel
theorem dX0_tryMark_33 : decode cX0_tryMark 33 = .ok (.dup2, 1) := by decide +kernel
theorem dX0_tryMark_34 : decode cX0_tryMark 34 = .ok (.iaload, 1) := by decide +kernel
theorem dX0_tryMark_35 : decode cX0_tryMark 35 = .ok (.iconst 1, 1) := by decide +kernel
theorem dX0_tryMark_36 : decode cX0_tryMark 36 = .ok (.iload 4, 2) := by decide +kernel
theorem dX0_tryMark_38 : decode cX0_tryMark 38 = .ok (.ishl, 1) := by decide +kernel
theorem dX0_tryMark_39 : decode cX0_tryMark 39 = .ok (.ior, 1) := by decide +kernel
theorem dX0_tryMark_40 : decode cX0_tryMark 40 = .ok (.iastore, 1) := by decide +kernel
theorem dX0_tryMark_41 : decode cX0_tryMark 41 = .ok (.aload_n 0, 1) := by decide +kernel
theorem dX0_tryMark_42 : decode cX0_tryMark 42 = .ok (.getfield 12, 3) := by decide +kernel
theorem dX0_tryMark_45 : decode cX0_tryMark 45 = .ok (.aload_n 1, 1) := by decide +kernel
theorem dX0_tryMark_46 : decode cX0_tryMark 46 = .ok (.aload_n 2, 1) := by decide +kernel
theorem dX0_tryMark_47 : decode cX0_tryMark 47 = .ok (.aload_n 0, 1) := by decide +kernel
theorem dX0_tryMark_48 : decode cX0_tryMark 48 = .ok (.getfield 22, 3) := by decide +kernel
theorem dX0_tryMark_51 : decode cX0_tryMark 51 = .ok (.iconst 1, 1) := by decide +kernel
theorem dX0_tryMark_52 : decode cX0_tryMark 52 = .ok (.invokevirtual 54, 3) := by decide +kernel
theorem dX0_tryMark_55 : decode cX0_tryMark 55 = .ok (.aload 5, 2) := by decide +kernel
theorem dX0_tryMark_57 : decode cX0_tryMark 57 = .ok (.iload_n 3, 1) := by decide +kernel
theorem dX0_tryMark_58 : decode cX0_tryMark 58 = .ok (.dup2, 1) := by decide +kernel
theorem dX0_tryMark_59 : decode cX0_tryMark 59 = .ok (.iaload, 1) := by decide +kernel
theorem dX0_tryMark_60 : decode cX0_tryMark 60 = .ok (.iconst 1, 1) := by decide +kernel
theorem dX0_tryMark_61 : decode cX0_tryMark 61 = .ok (.iload 4, 2) := by decide +kernel
theorem dX0_tryMark_63 : decode cX0_tryMark 63 = .ok (.ishl, 1) := by decide +kernel
theorem dX0_tryMark_64 : decode cX0_tryMark 64 = .ok (.iconst (-1), 1) := by decide +kernel
theorem dX0_tryMark_65 : decode cX0_tryMark 65 = .ok (.ixor, 1) := by decide +kernel
theorem dX0_tryMark_66 : decode cX0_tryMark 66 = .ok (.iand, 1) := by decide +kernel
theorem dX0_tryMark_67 : decode cX0_tryMark 67 = .ok (.iastore, 1) := by decide +kernel
theorem dX0_tryMark_68 : decode cX0_tryMark 68 = .ok (.aload_n 0, 1) := by decide +kernel
theorem dX0_tryMark_69 : decode cX0_tryMark 69 = .ok (.getfield 12, 3) := by decide +kernel
theorem dX0_tryMark_72 : decode cX0_tryMark 72 = .ok (.aload_n 1, 1) := by decide +kernel
theorem dX0_tryMark_73 : decode cX0_tryMark 73 = .ok (.getfield 31, 3) := by decide +kernel
theorem dX0_tryMark_76 : decode cX0_tryMark 76 = .ok (.invokevirtual 58, 3) := by decide +kernel
theorem dX0_tryMark_79 : decode cX0_tryMark 79 = .ok (.istore 6, 2) := by decide +kernel
theorem dX0_tryMark_81 : decode cX0_tryMark 81 = .ok (.aload_n 0, 1) := by decide +kernel
theorem dX0_tryMark_82 : decode cX0_tryMark 82 = .ok (.getfield 28, 3) := by decide +kernel
theorem dX0_tryMark_85 : decode cX0_tryMark 85 = .ok (.iconst (-1), 1) := by decide +kernel
theorem dX0_tryMark_86 : decode cX0_tryMark 86 = .ok (.if_icmp .eq 12, 3) := by decide +kernel
theorem dX0_tryMark_89 : decode cX0_tryMark 89 = .ok (.iload 6, 2) := by decide +kernel
theorem dX0_tryMark_91 : decode cX0_tryMark 91 = .ok (.aload_n 0, 1) := by decide +kernel
theorem dX0_tryMark_92 : decode cX0_tryMark 92 = .ok (.getfield 25, 3) := by decide +kernel
theorem dX0_tryMark_95 : decode cX0_tryMark 95 = .ok (.if_icmp .ge 19, 3) := by decide +kernel
theorem dX0_tryMark_98 : decode cX0_tryMark 98 = .ok (.aload_n 0, 1) := by decide +kernel
theorem dX0_tryMark_99 : decode cX0_tryMark 99 = .ok (.iload 6, 2) := by decide +kernel
theorem dX0_tryMark_101 : decode cX0_tryMark 101 = .ok (.putfield 25, 3) := by decide +kernel
theorem dX0_tryMark_104 : decode cX0_tryMark 104 = .ok (.aload_n 0, 1) := by decide +kernel
theorem dX0_tryMark_105 : decode cX0_tryMark 105 = .ok (.iconst 4, 1) := by decide +kernel
theorem dX0_tryMark_106 : decode cX0_tryMark 106 = .ok (.iload_n 3, 1) := by decide +kernel
theorem dX0_tryMark_107 : decode cX0_tryMark 107 = .ok (.imul, 1) := by decide +kernel
theorem dX0_tryMark_108 : decode cX0_tryMark 108 = .ok (.iload 4, 2) := by decide +kernel
theorem dX0_tryMark_110 : decode cX0_tryMark 110 = .ok (.iadd, 1) := by decide +kernel
theorem dX0_tryMark_111 : decode cX0_tryMark 111 = .ok (.putfield 28, 3) := by decide +kernel
theorem dX0_tryMark_114 : decode cX0_tryMark 114 = .ok (.return_, 1) := by decide +kernel
theorem dX1_init_0 : decode cX1_init 0 = .ok (.aload_n 0, 1) := by decide +kernel
theorem dX1_init_1 : decode cX1_init 1 = .ok (.invokespecial 3, 3) := by decide +kernel
theorem dX1_init_4 : decode cX1_init 4 = .ok (.aload_n 0, 1) := by decide +kernel
theorem dX1_init_5 : decode cX1_init 5 = .ok (.bipush 8, 2) := by decide +kernel
theorem dX1_init_7 : decode cX1_init 7 = .ok (.newarray .int, 2) := by decide +kernel
theorem dX1_init_9 : decode cX1_init 9 = .ok (.putfield 9, 3) := by decide +kernel
theorem dX1_init_12 : decode cX1_init 12 = .ok (.aload_n 0, 1) := by decide +kernel
theorem dX1_init_13 : decode cX1_init 13 = .ok (.bipush 8, 2) := by decide +kernel
theorem dX1_init_15 : decode cX1_init 15 = .ok (.newarray .int, 2) := by decide +kernel
theorem dX1_init_17 : decode cX1_init 17 = .ok (.putfield 15, 3) := by decide +kernel
theorem dX1_init_20 : decode cX1_init 20 = .ok (.aload_n 0, 1) := by decide +kernel
theorem dX1_init_21 : decode cX1_init 21 = .ok (.bipush 8, 2) := by decide +kernel
theorem dX1_init_23 : decode cX1_init 23 = .ok (.newarray .int, 2) := by decide +kernel
theorem dX1_init_25 : decode cX1_init 25 = .ok (.putfield 18, 3) := by decide +kernel
theorem dX1_init_28 : decode cX1_init 28 = .ok (.return_, 1) := by decide +kernel
theorem dX1_start_0 : decode cX1_start 0 = .ok (.aload_n 0, 1) := by decide +kernel
theorem dX1_start_1 : decode cX1_start 1 = .ok (.iconst 0, 1) := by decide +kernel
theorem dX1_start_2 : decode cX1_start 2 = .ok (.putfield 21, 3) := by decide +kernel
theorem dX1_start_5 : decode cX1_start 5 = .ok (.return_, 1) := by decide +kernel
theorem dX1_add_0 : decode cX1_add 0 = .ok (.aload_n 0, 1) := by decide +kernel
theorem dX1_add_1 : decode cX1_add 1 = .ok (.getfield 21, 3) := by decide +kernel
theorem dX1_add_4 : decode cX1_add 4 = .ok (.bipush 8, 2) := by decide +kernel
theorem dX1_add_6 : decode cX1_add 6 = .ok (.if_icmp .ge 33, 3) := by decide +kernel
theorem dX1_add_9 : decode cX1_add 9 = .ok (.aload_n 0, 1) := by decide +kernel
theorem dX1_add_10 : decode cX1_add 10 = .ok (.getfield 9, 3) := by decide +kernel
theorem dX1_add_13 : decode cX1_add 13 = .ok (.aload_n 0, 1) := by decide +kernel
theorem dX1_add_14 : decode cX1_add 14 = .ok (.getfield 21, 3) := by decide +kernel
theorem dX1_add_17 : decode cX1_add 17 = .ok (.iload_n 1, 1) := by decide +kernel
theorem dX1_add_18 : decode cX1_add 18 = .ok (.iastore, 1) := by decide +kernel
theorem dX1_add_19 : decode cX1_add 19 = .ok (.aload_n 0, 1) := by decide +kernel
theorem dX1_add_20 : decode cX1_add 20 = .ok (.getfield 18, 3) := by decide +kernel
theorem dX1_add_23 : decode cX1_add 23 = .ok (.aload_n 0, 1) := by decide +kernel
theorem dX1_add_24 : decode cX1_add 24 = .ok (.getfield 21, 3) := by decide +kernel
theorem dX1_add_27 : decode cX1_add 27 = .ok (.iload_n 2, 1) := by decide +kernel
theorem dX1_add_28 : decode cX1_add 28 = .ok (.iastore, 1) := by decide +kernel
theorem dX1_add_29 : decode cX1_add 29 = .ok (.aload_n 0, 1) := by decide +kernel
theorem dX1_add_30 : decode cX1_add 30 = .ok (.dup, 1) := by decide +kernel
theorem dX1_add_31 : decode cX1_add 31 = .ok (.getfield 21, 3) := by decide +kernel
theorem dX1_add_34 : decode cX1_add 34 = .ok (.iconst 1, 1) := by decide +kernel
theorem dX1_add_35 : decode cX1_add 35 = .ok (.iadd, 1) := by decide +kernel
theorem dX1_add_36 : decode cX1_add 36 = .ok (.putfield 21, 3) := by decide +kernel
theorem dX1_add_39 : decode cX1_add 39 = .ok (.return_, 1) := by decide +kernel
theorem dX1_saidOf_0 : decode cX1_saidOf 0 = .ok (.iconst (-1), 1) := by decide +kernel
theorem dX1_saidOf_1 : decode cX1_saidOf 1 = .ok (.istore_n 2, 1) := by decide +kernel
theorem dX1_saidOf_2 : decode cX1_saidOf 2 = .ok (.iconst 0, 1) := by decide +kernel
theorem dX1_saidOf_3 : decode cX1_saidOf 3 = .ok (.istore_n 3, 1) := by decide +kernel
theorem dX1_saidOf_4 : decode cX1_saidOf 4 = .ok (.iload_n 3, 1) := by decide +kernel
theorem dX1_saidOf_5 : decode cX1_saidOf 5 = .ok (.aload_n 0, 1) := by decide +kernel
theorem dX1_saidOf_6 : decode cX1_saidOf 6 = .ok (.getfield 21, 3) := by decide +kernel
theorem dX1_saidOf_9 : decode cX1_saidOf 9 = .ok (.if_icmp .ge 45, 3) := by decide +kernel
theorem dX1_saidOf_12 : decode cX1_saidOf 12 = .ok (.iload_n 3, 1) := by decide +kernel
theorem dX1_saidOf_13 : decode cX1_saidOf 13 = .ok (.bipush 8, 2) := by decide +kernel
theorem dX1_saidOf_15 : decode cX1_saidOf 15 = .ok (.if_icmp .ge 39, 3) := by decide +kernel
theorem dX1_saidOf_18 : decode cX1_saidOf 18 = .ok (.aload_n 0, 1) := by decide +kernel
theorem dX1_saidOf_19 : decode cX1_saidOf 19 = .ok (.getfield 9, 3) := by decide +kernel
theorem dX1_saidOf_22 : decode cX1_saidOf 22 = .ok (.iload_n 3, 1) := by decide +kernel
theorem dX1_saidOf_23 : decode cX1_saidOf 23 = .ok (.iaload, 1) := by decide +kernel
theorem dX1_saidOf_24 : decode cX1_saidOf 24 = .ok (.iload_n 1, 1) := by decide +kernel
theorem dX1_saidOf_25 : decode cX1_saidOf 25 = .ok (.ishr, 1) := by decide +kernel
theorem dX1_saidOf_26 : decode cX1_saidOf 26 = .ok (.iconst 1, 1) := by decide +kernel
theorem dX1_saidOf_27 : decode cX1_saidOf 27 = .ok (.iand, 1) := by decide +kernel
theorem dX1_saidOf_28 : decode cX1_saidOf 28 = .ok (.iconst 1, 1) := by decide +kernel
theorem dX1_saidOf_29 : decode cX1_saidOf 29 = .ok (.if_icmp .ne 19, 3) := by decide +kernel
theorem dX1_saidOf_32 : decode cX1_saidOf 32 = .ok (.iload_n 2, 1) := by decide +kernel
theorem dX1_saidOf_33 : decode cX1_saidOf 33 = .ok (.iconst (-1), 1) := by decide +kernel
theorem dX1_saidOf_34 : decode cX1_saidOf 34 = .ok (.if_icmp .eq 12, 3) := by decide +kernel
theorem dX1_saidOf_37 : decode cX1_saidOf 37 = .ok (.aload_n 0, 1) := by decide +kernel
theorem dX1_saidOf_38 : decode cX1_saidOf 38 = .ok (.iload_n 3, 1) := by decide +kernel
theorem dX1_saidOf_39 : decode cX1_saidOf 39 = .ok (.iload_n 2, 1) := by decide +kernel
theorem dX1_saidOf_40 : decode cX1_saidOf 40 = .ok (.invokevirtual 25, 3) := by decide +kernel
theorem dX1_saidOf_43 : decode cX1_saidOf 43 = .ok (.ifCond .eq 5, 3) := by decide +kernel
theorem dX1_saidOf_46 : decode cX1_saidOf 46 = .ok (.iload_n 3, 1) := by decide +kernel
theorem dX1_saidOf_47 : decode cX1_saidOf 47 = .ok (.istore_n 2, 1) := by decide +kernel
theorem dX1_saidOf_48 : decode cX1_saidOf 48 = .ok (.iinc 3 1, 3) := by decide +kernel
theorem dX1_saidOf_51 : decode cX1_saidOf 51 = .ok (.goto (-47), 3) := by decide +kernel
theorem dX1_saidOf_54 : decode cX1_saidOf 54 = .ok (.iload_n 2, 1) := by decide +kernel
theorem dX1_saidOf_55 : decode cX1_saidOf 55 = .ok (.ireturn, 1) := by decide +kernel
theorem dX1_isBetter_0 : decode cX1_isBetter 0 = .ok (.aload_n 0, 1) := by decide +kernel
theorem dX1_isBetter_1 : decode cX1_isBetter 1 = .ok (.getfield 9, 3) := by decide +kernel
theorem dX1_isBetter_4 : decode cX1_isBetter 4 = .ok (.iload_n 1, 1) := by decide +kernel
theorem dX1_isBetter_5 : decode cX1_isBetter 5 = .ok (.iaload, 1) := by decide +kernel
theorem dX1_isBetter_6 : decode cX1_isBetter 6 = .ok (.invokestatic 29, 3) := by decide +kernel
theorem dX1_isBetter_9 : decode cX1_isBetter 9 = .ok (.aload_n 0, 1) := by decide +kernel
theorem dX1_isBetter_10 : decode cX1_isBetter 10 = .ok (.getfield 9, 3) := by decide +kernel
theorem dX1_isBetter_13 : decode cX1_isBetter 13 = .ok (.iload_n 2, 1) := by decide +kernel
theorem dX1_isBetter_14 : decode cX1_isBetter 14 = .ok (.iaload, 1) := by decide +kernel
theorem dX1_isBetter_15 : decode cX1_isBetter 15 = .ok (.invokestatic 29, 3) := by decide +kernel
theorem dX1_isBetter_18 : decode cX1_isBetter 18 = .ok (.isub, 1) := by decide +kernel
theorem dX1_isBetter_19 : decode cX1_isBetter 19 = .ok (.istore_n 3, 1) := by decide +kernel
theorem dX1_isBetter_20 : decode cX1_isBetter 20 = .ok (.iload_n 3, 1) := by decide +kernel
theorem dX1_isBetter_21 : decode cX1_isBetter 21 = .ok (.ifCond .lt 22, 3) := by decide +kernel
theorem dX1_isBetter_24 : decode cX1_isBetter 24 = .ok (.iload_n 3, 1) := by decide +kernel
theorem dX1_isBetter_25 : decode cX1_isBetter 25 = .ok (.ifCond .ne 22, 3) := by decide +kernel
theorem dX1_isBetter_28 : decode cX1_isBetter 28 = .ok (.aload_n 0, 1) := by decide +kernel
theorem dX1_isBetter_29 : decode cX1_isBetter 29 = .ok (.getfield 18, 3) := by decide +kernel
theorem dX1_isBetter_32 : decode cX1_isBetter 32 = .ok (.iload_n 1, 1) := by decide +kernel
theorem dX1_isBetter_33 : decode cX1_isBetter 33 = .ok (.iaload, 1) := by decide +kernel
theorem dX1_isBetter_34 : decode cX1_isBetter 34 = .ok (.aload_n 0, 1) := by decide +kernel
theorem dX1_isBetter_35 : decode cX1_isBetter 35 = .ok (.getfield 18, 3) := by decide +kernel
theorem dX1_isBetter_38 : decode cX1_isBetter 38 = .ok (.iload_n 2, 1) := by decide +kernel
theorem dX1_isBetter_39 : decode cX1_isBetter 39 = .ok (.iaload, 1) := by decide +kernel
theorem dX1_isBetter_40 : decode cX1_isBetter 40 = .ok (.if_icmp .ge 7, 3) := by decide +kernel
theorem dX1_isBetter_43 : decode cX1_isBetter 43 = .ok (.iconst 1, 1) := by decide +kernel
theorem dX1_isBetter_44 : decode cX1_isBetter 44 = .ok (.goto 4, 3) := by decide +kernel
theorem dX1_isBetter_47 : decode cX1_isBetter 47 = .ok (.iconst 0, 1) := by decide +kernel
theorem dX1_isBetter_48 : decode cX1_isBetter 48 = .ok (.ireturn, 1) := by decide +kernel
theorem dX1_deepen_0 : decode cX1_deepen 0 = .ok (.aload_n 0, 1) := by decide +kernel
theorem dX1_deepen_1 : decode cX1_deepen 1 = .ok (.getfield 15, 3) := by decide +kernel
theorem dX1_deepen_4 : decode cX1_deepen 4 = .ok (.iconst 0, 1) := by decide +kernel
theorem dX1_deepen_5 : decode cX1_deepen 5 = .ok (.invokestatic 35, 3) := by decide +kernel
theorem dX1_deepen_8 : decode cX1_deepen 8 = .ok (.iconst 0, 1) := by decide +kernel
theorem dX1_deepen_9 : decode cX1_deepen 9 = .ok (.istore_n 2, 1) := by decide +kernel
theorem dX1_deepen_10 : decode cX1_deepen 10 = .ok (.iload_n 2, 1) := by decide +kernel
theorem dX1_deepen_11 : decode cX1_deepen 11 = .ok (.iload_n 1, 1) := by decide +kernel
theorem dX1_deepen_12 : decode cX1_deepen 12 = .ok (.if_icmp .ge 42, 3) := by decide +kernel
theorem dX1_deepen_15 : decode cX1_deepen 15 = .ok (.iload_n 2, 1) := by decide +kernel
theorem dX1_deepen_16 : decode cX1_deepen 16 = .ok (.bipush 8, 2) := by decide +kernel
theorem dX1_deepen_18 : decode cX1_deepen 18 = .ok (.if_icmp .ge 36, 3) := by decide +kernel
theorem dX1_deepen_21 : decode cX1_deepen 21 = .ok (.aload_n 0, 1) := by decide +kernel
theorem dX1_deepen_22 : decode cX1_deepen 22 = .ok (.iload_n 2, 1) := by decide +kernel
theorem dX1_deepen_23 : decode cX1_deepen 23 = .ok (.invokevirtual 41, 3) := by decide +kernel
theorem dX1_deepen_26 : decode cX1_deepen 26 = .ok (.istore_n 3, 1) := by decide +kernel
theorem dX1_deepen_27 : decode cX1_deepen 27 = .ok (.iload_n 3, 1) := by decide +kernel
theorem dX1_deepen_28 : decode cX1_deepen 28 = .ok (.bipush 8, 2) := by decide +kernel
theorem dX1_deepen_30 : decode cX1_deepen 30 = .ok (.invokestatic 44, 3) := by decide +kernel
theorem dX1_deepen_33 : decode cX1_deepen 33 = .ok (.ifCond .eq 15, 3) := by decide +kernel
theorem dX1_deepen_36 : decode cX1_deepen 36 = .ok (.aload_n 0, 1) := by decide +kernel
theorem dX1_deepen_37 : decode cX1_deepen 37 = .ok (.getfield 15, 3) := by decide +kernel
theorem dX1_deepen_40 : decode cX1_deepen 40 = .ok (.iload_n 3, 1) := by decide +kernel
theorem dX1_deepen_41 : decode cX1_deepen 41 = .ok (.dup2, 1) := by decide +kernel
theorem dX1_deepen_42 : decode cX1_deepen 42 = .ok (.iaload, 1) := by decide +kernel
theorem dX1_deepen_43 : decode cX1_deepen 43 = .ok (.iconst 1, 1) := by decide +kernel
theorem dX1_deepen_44 : decode cX1_deepen 44 = .ok (.iload_n 2, 1) := by decide +kernel
theorem dX1_deepen_45 : decode cX1_deepen 45 = .ok (.ishl, 1) := by decide +kernel
theorem dX1_deepen_46 : decode cX1_deepen 46 = .ok (.ior, 1) := by decide +kernel
theorem dX1_deepen_47 : decode cX1_deepen 47 = .ok (.iastore, 1) := by decide +kernel
theorem dX1_deepen_48 : decode cX1_deepen 48 = .ok (.iinc 2 1, 3) := by decide +kernel
theorem dX1_deepen_51 : decode cX1_deepen 51 = .ok (.goto (-41), 3) := by decide +kernel
theorem dX1_deepen_54 : decode cX1_deepen 54 = .ok (.iconst 0, 1) := by decide +kernel
theorem dX1_deepen_55 : decode cX1_deepen 55 = .ok (.istore_n 2, 1) := by decide +kernel
theorem dX1_deepen_56 : decode cX1_deepen 56 = .ok (.iconst 0, 1) := by decide +kernel
theorem dX1_deepen_57 : decode cX1_deepen 57 = .ok (.istore_n 3, 1) := by decide +kernel
theorem dX1_deepen_58 : decode cX1_deepen 58 = .ok (.iload_n 3, 1) := by decide +kernel
theorem dX1_deepen_59 : decode cX1_deepen 59 = .ok (.aload_n 0, 1) := by decide +kernel
theorem dX1_deepen_60 : decode cX1_deepen 60 = .ok (.getfield 21, 3) := by decide +kernel
theorem dX1_deepen_63 : decode cX1_deepen 63 = .ok (.if_icmp .ge 53, 3) := by decide +kernel
theorem dX1_deepen_66 : decode cX1_deepen 66 = .ok (.iload_n 3, 1) := by decide +kernel
theorem dX1_deepen_67 : decode cX1_deepen 67 = .ok (.bipush 8, 2) := by decide +kernel
theorem dX1_deepen_69 : decode cX1_deepen 69 = .ok (.if_icmp .ge 47, 3) := by decide +kernel
theorem dX1_deepen_72 : decode cX1_deepen 72 = .ok (.aload_n 0, 1) := by decide +kernel
theorem dX1_deepen_73 : decode cX1_deepen 73 = .ok (.getfield 15, 3) := by decide +kernel
theorem dX1_deepen_76 : decode cX1_deepen 76 = .ok (.iload_n 3, 1) := by decide +kernel
theorem dX1_deepen_77 : decode cX1_deepen 77 = .ok (.iaload, 1) := by decide +kernel
theorem dX1_deepen_78 : decode cX1_deepen 78 = .ok (.ifCond .eq 32, 3) := by decide +kernel
theorem dX1_deepen_81 : decode cX1_deepen 81 = .ok (.aload_n 0, 1) := by decide +kernel
theorem dX1_deepen_82 : decode cX1_deepen 82 = .ok (.getfield 15, 3) := by decide +kernel
theorem dX1_deepen_85 : decode cX1_deepen 85 = .ok (.iload_n 3, 1) := by decide +kernel
theorem dX1_deepen_86 : decode cX1_deepen 86 = .ok (.iaload, 1) := by decide +kernel
theorem dX1_deepen_87 : decode cX1_deepen 87 = .ok (.aload_n 0, 1) := by decide +kernel
theorem dX1_deepen_88 : decode cX1_deepen 88 = .ok (.getfield 9, 3) := by decide +kernel
theorem dX1_deepen_91 : decode cX1_deepen 91 = .ok (.iload_n 3, 1) := by decide +kernel
theorem dX1_deepen_92 : decode cX1_deepen 92 = .ok (.iaload, 1) := by decide +kernel
theorem dX1_deepen_93 : decode cX1_deepen 93 = .ok (.if_icmp .eq 17, 3) := by decide +kernel
theorem dX1_deepen_96 : decode cX1_deepen 96 = .ok (.aload_n 0, 1) := by decide +kernel
theorem dX1_deepen_97 : decode cX1_deepen 97 = .ok (.getfield 9, 3) := by decide +kernel
theorem dX1_deepen_100 : decode cX1_deepen 100 = .ok (.iload_n 3, 1) := by decide +kernel
theorem dX1_deepen_101 : decode cX1_deepen 101 = .ok (.aload_n 0, 1) := by decide +kernel
theorem dX1_deepen_102 : decode cX1_deepen 102 = .ok (.getfield 15, 3) := by decide +kernel
theorem dX1_deepen_105 : decode cX1_deepen 105 = .ok (.iload_n 3, 1) := by decide +kernel
theorem dX1_deepen_106 : decode cX1_deepen 106 = .ok (.iaload, 1) := by decide +kernel
theorem dX1_deepen_107 : decode cX1_deepen 107 = .ok (.iastore, 1) := by decide +kernel
theorem dX1_deepen_108 : decode cX1_deepen 108 = .ok (.iconst 1, 1) := by decide +kernel
theorem dX1_deepen_109 : decode cX1_deepen 109 = .ok (.istore_n 2, 1) := by decide +kernel
theorem dX1_deepen_110 : decode cX1_deepen 110 = .ok (.iinc 3 1, 3) := by decide +kernel
theorem dX1_deepen_113 : decode cX1_deepen 113 = .ok (.goto (-55), 3) := by decide +kernel
theorem dX1_deepen_116 : decode cX1_deepen 116 = .ok (.iload_n 2, 1) := by decide +kernel
theorem dX1_deepen_117 : decode cX1_deepen 117 = .ok (.ireturn, 1) := by decide +kernel
theorem dX2_init_0 : decode cX2_init 0 = .ok (.aload_n 0, 1) := by decide +kernel
theorem dX2_init_1 : decode cX2_init 1 = .ok (.invokespecial 3, 3) := by decide +kernel
theorem dX2_init_4 : decode cX2_init 4 = .ok (.aload_n 0, 1) := by decide +kernel
theorem dX2_init_5 : decode cX2_init 5 = .ok (.sipush 256, 3) := by decide +kernel
theorem dX2_init_8 : decode cX2_init 8 = .ok (.newarray .int, 2) := by decide +kernel
theorem dX2_init_10 : decode cX2_init 10 = .ok (.putfield 9, 3) := by decide +kernel
theorem dX2_init_13 : decode cX2_init 13 = .ok (.return_, 1) := by decide +kernel
theorem dX2_hear_0 : decode cX2_hear 0 = .ok (.aload_n 0, 1) := by decide +kernel
theorem dX2_hear_1 : decode cX2_hear 1 = .ok (.getfield 9, 3) := by decide +kernel
theorem dX2_hear_4 : decode cX2_hear 4 = .ok (.iconst 0, 1) := by decide +kernel
theorem dX2_hear_5 : decode cX2_hear 5 = .ok (.invokestatic 15, 3) := by decide +kernel
theorem dX2_hear_8 : decode cX2_hear 8 = .ok (.aload_n 0, 1) := by decide +kernel
theorem dX2_hear_9 : decode cX2_hear 9 = .ok (.iconst 0, 1) := by decide +kernel
theorem dX2_hear_10 : decode cX2_hear 10 = .ok (.putfield 21, 3) := by decide +kernel
theorem dX2_hear_13 : decode cX2_hear 13 = .ok (.iconst 0, 1) := by decide +kernel
theorem dX2_hear_14 : decode cX2_hear 14 = .ok (.istore_n 3, 1) := by decide +kernel
theorem dX2_hear_15 : decode cX2_hear 15 = .ok (.iload_n 3, 1) := by decide +kernel
theorem dX2_hear_16 : decode cX2_hear 16 = .ok (.aload_n 2, 1) := by decide +kernel
theorem dX2_hear_17 : decode cX2_hear 17 = .ok (.getfield 25, 3) := by decide +kernel
theorem dX2_hear_20 : decode cX2_hear 20 = .ok (.if_icmp .ge 69, 3) := by decide +kernel
theorem dX2_hear_23 : decode cX2_hear 23 = .ok (.iload_n 3, 1) := by decide +kernel
theorem dX2_hear_24 : decode cX2_hear 24 = .ok (.bipush 24, 2) := by decide +kernel
theorem dX2_hear_26 : decode cX2_hear 26 = .ok (.if_icmp .ge 63, 3) := by decide +kernel
theorem dX2_hear_29 : decode cX2_hear 29 = .ok (.aload_n 2, 1) := by decide +kernel
theorem dX2_hear_30 : decode cX2_hear 30 = .ok (.getfield 30, 3) := by decide +kernel
theorem dX2_hear_33 : decode cX2_hear 33 = .ok (.iload_n 3, 1) := by decide +kernel
theorem dX2_hear_34 : decode cX2_hear 34 = .ok (.iaload, 1) := by decide +kernel
theorem dX2_hear_35 : decode cX2_hear 35 = .ok (.istore 4, 2) := by decide +kernel
theorem dX2_hear_37 : decode cX2_hear 37 = .ok (.iload 4, 2) := by decide +kernel
theorem dX2_hear_39 : decode cX2_hear 39 = .ok (.iconst 3, 1) := by decide +kernel
theorem dX2_hear_40 : decode cX2_hear 40 = .ok (.ishr, 1) := by decide +kernel
theorem dX2_hear_41 : decode cX2_hear 41 = .ok (.istore 5, 2) := by decide +kernel
theorem dX2_hear_43 : decode cX2_hear 43 = .ok (.iload 5, 2) := by decide +kernel
theorem dX2_hear_45 : decode cX2_hear 45 = .ok (.invokestatic 33, 3) := by decide +kernel
theorem dX2_hear_48 : decode cX2_hear 48 = .ok (.istore 6, 2) := by decide +kernel
theorem dX2_hear_50 : decode cX2_hear 50 = .ok (.iload 6, 2) := by decide +kernel
theorem dX2_hear_52 : decode cX2_hear 52 = .ok (.iload 5, 2) := by decide +kernel
theorem dX2_hear_54 : decode cX2_hear 54 = .ok (.invokestatic 39, 3) := by decide +kernel
theorem dX2_hear_57 : decode cX2_hear 57 = .ok (.if_icmp .gt 18, 3) := by decide +kernel
theorem dX2_hear_60 : decode cX2_hear 60 = .ok (.aload_n 0, 1) := by decide +kernel
theorem dX2_hear_61 : decode cX2_hear 61 = .ok (.aload_n 1, 1) := by decide +kernel
theorem dX2_hear_62 : decode cX2_hear 62 = .ok (.aload_n 2, 1) := by decide +kernel
theorem dX2_hear_63 : decode cX2_hear 63 = .ok (.iload_n 3, 1) := by decide +kernel
theorem dX2_hear_64 : decode cX2_hear 64 = .ok (.iload 6, 2) := by decide +kernel
theorem dX2_hear_66 : decode cX2_hear 66 = .ok (.invokevirtual 42, 3) := by decide +kernel
theorem dX2_hear_69 : decode cX2_hear 69 = .ok (.iinc 6 1, 3) := by decide +kernel
theorem dX2_hear_72 : decode cX2_hear 72 = .ok (.goto (-22), 3) := by decide +kernel
theorem dX2_hear_75 : decode cX2_hear 75 = .ok (.aload_n 2, 1) := by decide +kernel
theorem dX2_hear_76 : decode cX2_hear 76 = .ok (.getfield 30, 3) := by decide +kernel
theorem dX2_hear_79 : decode cX2_hear 79 = .ok (.iload_n 3, 1) := by decide +kernel
theorem dX2_hear_80 : decode cX2_hear 80 = .ok (.iload 4, 2) := by decide +kernel
theorem dX2_hear_82 : decode cX2_hear 82 = .ok (.iastore, 1) := by decide +kernel
theorem dX2_hear_83 : decode cX2_hear 83 = .ok (.iinc 3 1, 3) := by decide +kernel
theorem dX2_hear_86 : decode cX2_hear 86 = .ok (.goto (-71), 3) := by decide +kernel
theorem dX2_hear_89 : decode cX2_hear 89 = .ok (.aload_n 0, 1) := by decide +kernel
theorem dX2_hear_90 : decode cX2_hear 90 = .ok (.iconst 0, 1) := by decide +kernel
theorem dX2_hear_91 : decode cX2_hear 91 = .ok (.putfield 46, 3) := by decide +kernel
theorem dX2_hear_94 : decode cX2_hear 94 = .ok (.iconst 1, 1) := by decide +kernel
theorem dX2_hear_95 : decode cX2_hear 95 = .ok (.istore_n 3, 1) := by decide +kernel
theorem dX2_hear_96 : decode cX2_hear 96 = .ok (.iload_n 3, 1) := by decide +kernel
theorem dX2_hear_97 : decode cX2_hear 97 = .ok (.sipush 256, 3) := by decide +kernel
theorem dX2_hear_100 : decode cX2_hear 100 = .ok (.if_icmp .ge 36, 3) := by decide +kernel
theorem dX2_hear_103 : decode cX2_hear 103 = .ok (.aload_n 0, 1) := by decide +kernel
theorem dX2_hear_104 : decode cX2_hear 104 = .ok (.getfield 9, 3) := by decide +kernel
theorem dX2_hear_107 : decode cX2_hear 107 = .ok (.iload_n 3, 1) := by decide +kernel
theorem dX2_hear_108 : decode cX2_hear 108 = .ok (.iaload, 1) := by decide +kernel
theorem dX2_hear_109 : decode cX2_hear 109 = .ok (.aload_n 0, 1) := by decide +kernel
theorem dX2_hear_110 : decode cX2_hear 110 = .ok (.getfield 9, 3) := by decide +kernel
theorem dX2_hear_113 : decode cX2_hear 113 = .ok (.aload_n 0, 1) := by decide +kernel
theorem dX2_hear_114 : decode cX2_hear 114 = .ok (.getfield 46, 3) := by decide +kernel
theorem dX2_hear_117 : decode cX2_hear 117 = .ok (.sipush 255, 3) := by decide +kernel
theorem dX2_hear_120 : decode cX2_hear 120 = .ok (.iand, 1) := by decide +kernel
theorem dX2_hear_121 : decode cX2_hear 121 = .ok (.iaload, 1) := by decide +kernel
theorem dX2_hear_122 : decode cX2_hear 122 = .ok (.if_icmp .le 8, 3) := by decide +kernel
theorem dX2_hear_125 : decode cX2_hear 125 = .ok (.aload_n 0, 1) := by decide +kernel
theorem dX2_hear_126 : decode cX2_hear 126 = .ok (.iload_n 3, 1) := by decide +kernel
theorem dX2_hear_127 : decode cX2_hear 127 = .ok (.putfield 46, 3) := by decide +kernel
theorem dX2_hear_130 : decode cX2_hear 130 = .ok (.iinc 3 1, 3) := by decide +kernel
theorem dX2_hear_133 : decode cX2_hear 133 = .ok (.goto (-37), 3) := by decide +kernel
theorem dX2_hear_136 : decode cX2_hear 136 = .ok (.return_, 1) := by decide +kernel
theorem dX2_hearAs_0 : decode cX2_hearAs 0 = .ok (.iload_n 3, 1) := by decide +kernel
theorem dX2_hearAs_1 : decode cX2_hearAs 1 = .ok (.bipush 24, 2) := by decide +kernel
theorem dX2_hearAs_3 : decode cX2_hearAs 3 = .ok (.invokestatic 49, 3) := by decide +kernel
theorem dX2_hearAs_6 : decode cX2_hearAs 6 = .ok (.ifCond .ne 4, 3) := by decide +kernel
theorem dX2_hearAs_9 : decode cX2_hearAs 9 = .ok (.return_, 1) := by decide +kernel
theorem dX2_hearAs_10 : decode cX2_hearAs 10 = .ok (.aload_n 2, 1) := by decide +kernel
theorem dX2_hearAs_11 : decode cX2_hearAs 11 = .ok (.getfield 30, 3) := by decide +kernel
theorem dX2_hearAs_14 : decode cX2_hearAs 14 = .ok (.iload_n 3, 1) := by decide +kernel
theorem dX2_hearAs_15 : decode cX2_hearAs 15 = .ok (.iaload, 1) := by decide +kernel
theorem dX2_hearAs_16 : decode cX2_hearAs 16 = .ok (.istore 5, 2) := by decide +kernel
theorem dX2_hearAs_18 : decode cX2_hearAs 18 = .ok (.iconst 1, 1) := by decide +kernel
theorem dX2_hearAs_19 : decode cX2_hearAs 19 = .ok (.iload 4, 2) := by decide +kernel
theorem dX2_hearAs_21 : decode cX2_hearAs 21 = .ok (.invokestatic 53, 3) := by decide +kernel
theorem dX2_hearAs_24 : decode cX2_hearAs 24 = .ok (.invokestatic 56, 3) := by decide +kernel
theorem dX2_hearAs_27 : decode cX2_hearAs 27 = .ok (.istore 6, 2) := by decide +kernel
theorem dX2_hearAs_29 : decode cX2_hearAs 29 = .ok (.iconst 0, 1) := by decide +kernel
theorem dX2_hearAs_30 : decode cX2_hearAs 30 = .ok (.istore 7, 2) := by decide +kernel
theorem dX2_hearAs_32 : decode cX2_hearAs 32 = .ok (.iload 7, 2) := by decide +kernel
theorem dX2_hearAs_34 : decode cX2_hearAs 34 = .ok (.iload 6, 2) := by decide +kernel
theorem dX2_hearAs_36 : decode cX2_hearAs 36 = .ok (.if_icmp .ge 64, 3) := by decide +kernel
theorem dX2_hearAs_39 : decode cX2_hearAs 39 = .ok (.bipush 8, 2) := by decide +kernel
theorem dX2_hearAs_41 : decode cX2_hearAs 41 = .ok (.iload 4, 2) := by decide +kernel
theorem dX2_hearAs_43 : decode cX2_hearAs 43 = .ok (.imul, 1) := by decide +kernel
theorem dX2_hearAs_44 : decode cX2_hearAs 44 = .ok (.iload 7, 2) := by decide +kernel
theorem dX2_hearAs_46 : decode cX2_hearAs 46 = .ok (.iadd, 1) := by decide +kernel
theorem dX2_hearAs_47 : decode cX2_hearAs 47 = .ok (.iload 5, 2) := by decide +kernel
theorem dX2_hearAs_49 : decode cX2_hearAs 49 = .ok (.if_icmp .eq 45, 3) := by decide +kernel
theorem dX2_hearAs_52 : decode cX2_hearAs 52 = .ok (.aload_n 2, 1) := by decide +kernel
theorem dX2_hearAs_53 : decode cX2_hearAs 53 = .ok (.getfield 30, 3) := by decide +kernel
theorem dX2_hearAs_56 : decode cX2_hearAs 56 = .ok (.iload_n 3, 1) := by decide +kernel
theorem dX2_hearAs_57 : decode cX2_hearAs 57 = .ok (.bipush 8, 2) := by decide +kernel
theorem dX2_hearAs_59 : decode cX2_hearAs 59 = .ok (.iload 4, 2) := by decide +kernel
theorem dX2_hearAs_61 : decode cX2_hearAs 61 = .ok (.imul, 1) := by decide +kernel
theorem dX2_hearAs_62 : decode cX2_hearAs 62 = .ok (.iload 7, 2) := by decide +kernel
theorem dX2_hearAs_64 : decode cX2_hearAs 64 = .ok (.iadd, 1) := by decide +kernel
theorem dX2_hearAs_65 : decode cX2_hearAs 65 = .ok (.iastore, 1) := by decide +kernel
theorem dX2_hearAs_66 : decode cX2_hearAs 66 = .ok (.aload_n 0, 1) := by decide +kernel
theorem dX2_hearAs_67 : decode cX2_hearAs 67 = .ok (.getfield 9, 3) := by decide +kernel
theorem dX2_hearAs_70 : decode cX2_hearAs 70 = .ok (.aload_n 2, 1) := by decide +kernel
theorem dX2_hearAs_71 : decode cX2_hearAs 71 = .ok (.aload_n 1, 1) := by decide +kernel
theorem dX2_hearAs_72 : decode cX2_hearAs 72 = .ok (.invokevirtual 62, 3) := by decide +kernel
theorem dX2_hearAs_75 : decode cX2_hearAs 75 = .ok (.sipush 255, 3) := by decide +kernel
theorem dX2_hearAs_78 : decode cX2_hearAs 78 = .ok (.iand, 1) := by decide +kernel
theorem dX2_hearAs_79 : decode cX2_hearAs 79 = .ok (.dup2, 1) := by decide +kernel
theorem dX2_hearAs_80 : decode cX2_hearAs 80 = .ok (.iaload, 1) := by decide +kernel
theorem dX2_hearAs_81 : decode cX2_hearAs 81 = .ok (.iconst 1, 1) := by decide +kernel
theorem dX2_hearAs_82 : decode cX2_hearAs 82 = .ok (.iadd, 1) := by decide +kernel
theorem dX2_hearAs_83 : decode cX2_hearAs 83 = .ok (.iastore, 1) := by decide +kernel
theorem dX2_hearAs_84 : decode cX2_hearAs 84 = .ok (.aload_n 0, 1) := by decide +kernel
theorem dX2_hearAs_85 : decode cX2_hearAs 85 = .ok (.dup, 1) := by decide +kernel
theorem dX2_hearAs_86 : decode cX2_hearAs 86 = .ok (.getfield 21, 3) := by decide +kernel
theorem dX2_hearAs_89 : decode cX2_hearAs 89 = .ok (.iconst 1, 1) := by decide +kernel
theorem dX2_hearAs_90 : decode cX2_hearAs 90 = .ok (.iadd, 1) := by decide +kernel
theorem dX2_hearAs_91 : decode cX2_hearAs 91 = .ok (.putfield 21, 3) := by decide +kernel
theorem dX2_hearAs_94 : decode cX2_hearAs 94 = .ok (.iinc 7 1, 3) := by decide +kernel
theorem dX2_hearAs_97 : decode cX2_hearAs 97 = .ok (.goto (-65), 3) := by decide +kernel
theorem dX2_hearAs_100 : decode cX2_hearAs 100 = .ok (.aload_n 2, 1) := by decide +kernel
theorem dX2_hearAs_101 : decode cX2_hearAs 101 = .ok (.getfield 30, 3) := by decide +kernel
theorem dX2_hearAs_104 : decode cX2_hearAs 104 = .ok (.iload_n 3, 1) := by decide +kernel
theorem dX2_hearAs_105 : decode cX2_hearAs 105 = .ok (.iload 5, 2) := by decide +kernel
theorem dX2_hearAs_107 : decode cX2_hearAs 107 = .ok (.iastore, 1) := by decide +kernel
theorem dX2_hearAs_108 : decode cX2_hearAs 108 = .ok (.return_, 1) := by decide +kernel
theorem dX3_cost_0 : decode cX3_cost 0 = .ok (.aload_n 0, 1) := by decide +kernel
theorem dX3_cost_1 : decode cX3_cost 1 = .ok (.invokevirtual 9, 3) := by decide +kernel
theorem dX3_cost_4 : decode cX3_cost 4 = .ok (.istore_n 3, 1) := by decide +kernel
theorem dX3_cost_5 : decode cX3_cost 5 = .ok (.iconst 1, 1) := by decide +kernel
theorem dX3_cost_6 : decode cX3_cost 6 = .ok (.iload_n 2, 1) := by decide +kernel
theorem dX3_cost_7 : decode cX3_cost 7 = .ok (.ishl, 1) := by decide +kernel
theorem dX3_cost_8 : decode cX3_cost 8 = .ok (.istore 4, 2) := by decide +kernel
theorem dX3_cost_10 : decode cX3_cost 10 = .ok (.iconst 0, 1) := by decide +kernel
theorem dX3_cost_11 : decode cX3_cost 11 = .ok (.istore 5, 2) := by decide +kernel
theorem dX3_cost_13 : decode cX3_cost 13 = .ok (.iconst 0, 1) := by decide +kernel
theorem dX3_cost_14 : decode cX3_cost 14 = .ok (.istore 6, 2) := by decide +kernel
theorem dX3_cost_16 : decode cX3_cost 16 = .ok (.iconst 0, 1) := by decide +kernel
theorem dX3_cost_17 : decode cX3_cost 17 = .ok (.istore 7, 2) := by decide +kernel
theorem dX3_cost_19 : decode cX3_cost 19 = .ok (.iload 7, 2) := by decide +kernel
theorem dX3_cost_21 : decode cX3_cost 21 = .ok (.bipush 8, 2) := by decide +kernel
theorem dX3_cost_23 : decode cX3_cost 23 = .ok (.if_icmp .ge 96, 3) := by decide +kernel
theorem dX3_cost_26 : decode cX3_cost 26 = .ok (.iload_n 3, 1) := by decide +kernel
theorem dX3_cost_27 : decode cX3_cost 27 = .ok (.iload 4, 2) := by decide +kernel
theorem dX3_cost_29 : decode cX3_cost 29 = .ok (.if_icmp .eq 90, 3) := by decide +kernel
theorem dX3_cost_32 : decode cX3_cost 32 = .ok (.aload_n 0, 1) := by decide +kernel
theorem dX3_cost_33 : decode cX3_cost 33 = .ok (.iload 7, 2) := by decide +kernel
theorem dX3_cost_35 : decode cX3_cost 35 = .ok (.iload_n 2, 1) := by decide +kernel
theorem dX3_cost_36 : decode cX3_cost 36 = .ok (.invokestatic 15, 3) := by decide +kernel
theorem dX3_cost_39 : decode cX3_cost 39 = .ok (.istore 8, 2) := by decide +kernel
theorem dX3_cost_41 : decode cX3_cost 41 = .ok (.iload_n 3, 1) := by decide +kernel
theorem dX3_cost_42 : decode cX3_cost 42 = .ok (.iload 7, 2) := by decide +kernel
theorem dX3_cost_44 : decode cX3_cost 44 = .ok (.iconst 5, 1) := by decide +kernel
theorem dX3_cost_45 : decode cX3_cost 45 = .ok (.if_icmp .ge 12, 3) := by decide +kernel
theorem dX3_cost_48 : decode cX3_cost 48 = .ok (.aload_n 0, 1) := by decide +kernel
theorem dX3_cost_49 : decode cX3_cost 49 = .ok (.iload 8, 2) := by decide +kernel
theorem dX3_cost_51 : decode cX3_cost 51 = .ok (.invokevirtual 21, 3) := by decide +kernel
theorem dX3_cost_54 : decode cX3_cost 54 = .ok (.goto 11, 3) := by decide +kernel
theorem dX3_cost_57 : decode cX3_cost 57 = .ok (.aload_n 0, 1) := by decide +kernel
theorem dX3_cost_58 : decode cX3_cost 58 = .ok (.iload 8, 2) := by decide +kernel
theorem dX3_cost_60 : decode cX3_cost 60 = .ok (.invokevirtual 21, 3) := by decide +kernel
theorem dX3_cost_63 : decode cX3_cost 63 = .ok (.iconst (-1), 1) := by decide +kernel
theorem dX3_cost_64 : decode cX3_cost 64 = .ok (.ixor, 1) := by decide +kernel
theorem dX3_cost_65 : decode cX3_cost 65 = .ok (.iand, 1) := by decide +kernel
theorem dX3_cost_66 : decode cX3_cost 66 = .ok (.istore 9, 2) := by decide +kernel
theorem dX3_cost_68 : decode cX3_cost 68 = .ok (.iload 9, 2) := by decide +kernel
theorem dX3_cost_70 : decode cX3_cost 70 = .ok (.iload_n 3, 1) := by decide +kernel
theorem dX3_cost_71 : decode cX3_cost 71 = .ok (.if_icmp .eq 42, 3) := by decide +kernel
theorem dX3_cost_74 : decode cX3_cost 74 = .ok (.iload 9, 2) := by decide +kernel
theorem dX3_cost_76 : decode cX3_cost 76 = .ok (.iload 4, 2) := by decide +kernel
theorem dX3_cost_78 : decode cX3_cost 78 = .ok (.iand, 1) := by decide +kernel
theorem dX3_cost_79 : decode cX3_cost 79 = .ok (.ifCond .eq 34, 3) := by decide +kernel
theorem dX3_cost_82 : decode cX3_cost 82 = .ok (.iload 9, 2) := by decide +kernel
theorem dX3_cost_84 : decode cX3_cost 84 = .ok (.istore_n 3, 1) := by decide +kernel
theorem dX3_cost_85 : decode cX3_cost 85 = .ok (.iinc 6 1, 3) := by decide +kernel
theorem dX3_cost_88 : decode cX3_cost 88 = .ok (.iload 5, 2) := by decide +kernel
theorem dX3_cost_90 : decode cX3_cost 90 = .ok (.aload_n 1, 1) := by decide +kernel
theorem dX3_cost_91 : decode cX3_cost 91 = .ok (.iload 8, 2) := by decide +kernel
theorem dX3_cost_93 : decode cX3_cost 93 = .ok (.iconst 3, 1) := by decide +kernel
theorem dX3_cost_94 : decode cX3_cost 94 = .ok (.ishr, 1) := by decide +kernel
theorem dX3_cost_95 : decode cX3_cost 95 = .ok (.iaload, 1) := by decide +kernel
theorem dX3_cost_96 : decode cX3_cost 96 = .ok (.iload 7, 2) := by decide +kernel
theorem dX3_cost_98 : decode cX3_cost 98 = .ok (.iconst 5, 1) := by decide +kernel
theorem dX3_cost_99 : decode cX3_cost 99 = .ok (.if_icmp .ge 7, 3) := by decide +kernel
theorem dX3_cost_102 : decode cX3_cost 102 = .ok (.iconst 0, 1) := by decide +kernel
theorem dX3_cost_103 : decode cX3_cost 103 = .ok (.goto 6, 3) := by decide +kernel
theorem dX3_cost_106 : decode cX3_cost 106 = .ok (.aload_n 1, 1) := by decide +kernel
theorem dX3_cost_107 : decode cX3_cost 107 = .ok (.iconst 4, 1) := by decide +kernel
theorem dX3_cost_108 : decode cX3_cost 108 = .ok (.iaload, 1) := by decide +kernel
theorem dX3_cost_109 : decode cX3_cost 109 = .ok (.iadd, 1) := by decide +kernel
theorem dX3_cost_110 : decode cX3_cost 110 = .ok (.iadd, 1) := by decide +kernel
theorem dX3_cost_111 : decode cX3_cost 111 = .ok (.istore 5, 2) := by decide +kernel
theorem dX3_cost_113 : decode cX3_cost 113 = .ok (.iinc 7 1, 3) := by decide +kernel
theorem dX3_cost_116 : decode cX3_cost 116 = .ok (.goto (-97), 3) := by decide +kernel
theorem dX3_cost_119 : decode cX3_cost 119 = .ok (.iload_n 3, 1) := by decide +kernel
theorem dX3_cost_120 : decode cX3_cost 120 = .ok (.iload 4, 2) := by decide +kernel
theorem dX3_cost_122 : decode cX3_cost 122 = .ok (.if_icmp .eq 5, 3) := by decide +kernel
theorem dX3_cost_125 : decode cX3_cost 125 = .ok (.iconst (-1), 1) := by decide +kernel
theorem dX3_cost_126 : decode cX3_cost 126 = .ok (.ireturn, 1) := by decide +kernel
theorem dX3_cost_127 : decode cX3_cost 127 = .ok (.iload 6, 2) := by decide +kernel
theorem dX3_cost_129 : decode cX3_cost 129 = .ok (.ifCond .ne 9, 3) := by decide +kernel
theorem dX3_cost_132 : decode cX3_cost 132 = .ok (.aload_n 1, 1) := by decide +kernel
theorem dX3_cost_133 : decode cX3_cost 133 = .ok (.iconst 0, 1) := by decide +kernel
theorem dX3_cost_134 : decode cX3_cost 134 = .ok (.iaload, 1) := by decide +kernel
theorem dX3_cost_135 : decode cX3_cost 135 = .ok (.goto 14, 3) := by decide +kernel
theorem dX3_cost_138 : decode cX3_cost 138 = .ok (.iload 5, 2) := by decide +kernel
theorem dX3_cost_140 : decode cX3_cost 140 = .ok (.iload 6, 2) := by decide +kernel
theorem dX3_cost_142 : decode cX3_cost 142 = .ok (.iconst 1, 1) := by decide +kernel
theorem dX3_cost_143 : decode cX3_cost 143 = .ok (.isub, 1) := by decide +kernel
theorem dX3_cost_144 : decode cX3_cost 144 = .ok (.aload_n 1, 1) := by decide +kernel
theorem dX3_cost_145 : decode cX3_cost 145 = .ok (.iconst 5, 1) := by decide +kernel
theorem dX3_cost_146 : decode cX3_cost 146 = .ok (.iaload, 1) := by decide +kernel
theorem dX3_cost_147 : decode cX3_cost 147 = .ok (.imul, 1) := by decide +kernel
theorem dX3_cost_148 : decode cX3_cost 148 = .ok (.iadd, 1) := by decide +kernel
theorem dX3_cost_149 : decode cX3_cost 149 = .ok (.ireturn, 1) := by decide +kernel
theorem dX3_property_0 : decode cX3_property 0 = .ok (.iload_n 1, 1) := by decide +kernel
theorem dX3_property_1 : decode cX3_property 1 = .ok (.ifCond .ne 15, 3) := by decide +kernel
theorem dX3_property_4 : decode cX3_property 4 = .ok (.bipush 8, 2) := by decide +kernel
theorem dX3_property_6 : decode cX3_property 6 = .ok (.aload_n 0, 1) := by decide +kernel
theorem dX3_property_7 : decode cX3_property 7 = .ok (.getfield 27, 3) := by decide +kernel
theorem dX3_property_10 : decode cX3_property 10 = .ok (.iconst 0, 1) := by decide +kernel
theorem dX3_property_11 : decode cX3_property 11 = .ok (.aaload, 1) := by decide +kernel
theorem dX3_property_12 : decode cX3_property 12 = .ok (.iload_n 2, 1) := by decide +kernel
theorem dX3_property_13 : decode cX3_property 13 = .ok (.iaload, 1) := by decide +kernel
theorem dX3_property_14 : decode cX3_property 14 = .ok (.iadd, 1) := by decide +kernel
theorem dX3_property_15 : decode cX3_property 15 = .ok (.ireturn, 1) := by decide +kernel
theorem dX3_property_16 : decode cX3_property 16 = .ok (.iload_n 1, 1) := by decide +kernel
theorem dX3_property_17 : decode cX3_property 17 = .ok (.iconst 1, 1) := by decide +kernel
theorem dX3_property_18 : decode cX3_property 18 = .ok (.if_icmp .ne 15, 3) := by decide +kernel
theorem dX3_property_21 : decode cX3_property 21 = .ok (.bipush 16, 2) := by decide +kernel
theorem dX3_property_23 : decode cX3_property 23 = .ok (.aload_n 0, 1) := by decide +kernel
theorem dX3_property_24 : decode cX3_property 24 = .ok (.getfield 27, 3) := by decide +kernel
theorem dX3_property_27 : decode cX3_property 27 = .ok (.iconst 1, 1) := by decide +kernel
theorem dX3_property_28 : decode cX3_property 28 = .ok (.aaload, 1) := by decide +kernel
theorem dX3_property_29 : decode cX3_property 29 = .ok (.iload_n 2, 1) := by decide +kernel
theorem dX3_property_30 : decode cX3_property 30 = .ok (.iaload, 1) := by decide +kernel
theorem dX3_property_31 : decode cX3_property 31 = .ok (.iadd, 1) := by decide +kernel
theorem dX3_property_32 : decode cX3_property 32 = .ok (.ireturn, 1) := by decide +kernel
theorem dX3_property_33 : decode cX3_property 33 = .ok (.bipush 24, 2) := by decide +kernel
theorem dX3_property_35 : decode cX3_property 35 = .ok (.iload_n 1, 1) := by decide +kernel
theorem dX3_property_36 : decode cX3_property 36 = .ok (.iconst 5, 1) := by decide +kernel
theorem dX3_property_37 : decode cX3_property 37 = .ok (.if_icmp .ge 9, 3) := by decide +kernel
theorem dX3_property_40 : decode cX3_property 40 = .ok (.iload_n 1, 1) := by decide +kernel
theorem dX3_property_41 : decode cX3_property 41 = .ok (.iconst 2, 1) := by decide +kernel
theorem dX3_property_42 : decode cX3_property 42 = .ok (.isub, 1) := by decide +kernel
theorem dX3_property_43 : decode cX3_property 43 = .ok (.goto 6, 3) := by decide +kernel
theorem dX3_property_46 : decode cX3_property 46 = .ok (.iload_n 1, 1) := by decide +kernel
theorem dX3_property_47 : decode cX3_property 47 = .ok (.iconst 5, 1) := by decide +kernel
theorem dX3_property_48 : decode cX3_property 48 = .ok (.isub, 1) := by decide +kernel
theorem dX3_property_49 : decode cX3_property 49 = .ok (.iadd, 1) := by decide +kernel
theorem dX3_property_50 : decode cX3_property 50 = .ok (.ireturn, 1) := by decide +kernel
theorem dX4_init_0 : decode cX4_init 0 = .ok (.aload_n 0, 1) := by decide +kernel
theorem dX4_init_1 : decode cX4_init 1 = .ok (.invokespecial 1, 3) := by decide +kernel
theorem dX4_init_4 : decode cX4_init 4 = .ok (.aload_n 0, 1) := by decide +kernel
theorem dX4_init_5 : decode cX4_init 5 = .ok (.bipush 24, 2) := by decide +kernel
theorem dX4_init_7 : decode cX4_init 7 = .ok (.newarray .int, 2) := by decide +kernel
theorem dX4_init_9 : decode cX4_init 9 = .ok (.putfield 9, 3) := by decide +kernel
theorem dX4_init_12 : decode cX4_init 12 = .ok (.aload_n 0, 1) := by decide +kernel
theorem dX4_init_13 : decode cX4_init 13 = .ok (.bipush 24, 2) := by decide +kernel
theorem dX4_init_15 : decode cX4_init 15 = .ok (.newarray .int, 2) := by decide +kernel
theorem dX4_init_17 : decode cX4_init 17 = .ok (.putfield 13, 3) := by decide +kernel
theorem dX4_init_20 : decode cX4_init 20 = .ok (.return_, 1) := by decide +kernel
theorem dX4_add_0 : decode cX4_add 0 = .ok (.aload_n 0, 1) := by decide +kernel
theorem dX4_add_1 : decode cX4_add 1 = .ok (.getfield 16, 3) := by decide +kernel
theorem dX4_add_4 : decode cX4_add 4 = .ok (.bipush 24, 2) := by decide +kernel
theorem dX4_add_6 : decode cX4_add 6 = .ok (.if_icmp .lt 5, 3) := by decide +kernel
theorem dX4_add_9 : decode cX4_add 9 = .ok (.iconst 0, 1) := by decide +kernel
theorem dX4_add_10 : decode cX4_add 10 = .ok (.ireturn, 1) := by decide +kernel
theorem dX4_add_11 : decode cX4_add 11 = .ok (.aload_n 0, 1) := by decide +kernel
theorem dX4_add_12 : decode cX4_add 12 = .ok (.getfield 9, 3) := by decide +kernel
theorem dX4_add_15 : decode cX4_add 15 = .ok (.aload_n 0, 1) := by decide +kernel
theorem dX4_add_16 : decode cX4_add 16 = .ok (.dup, 1) := by decide +kernel
theorem dX4_add_17 : decode cX4_add 17 = .ok (.getfield 16, 3) := by decide +kernel
theorem dX4_add_20 : decode cX4_add 20 = .ok (.dup_x1, 1) := by decide +kernel
theorem dX4_add_21 : decode cX4_add 21 = .ok (.iconst 1, 1) := by decide +kernel
theorem dX4_add_22 : decode cX4_add 22 = .ok (.iadd, 1) := by decide +kernel
theorem dX4_add_23 : decode cX4_add 23 = .ok (.putfield 16, 3) := by decide +kernel
theorem dX4_add_26 : decode cX4_add 26 = .ok (.iload_n 1, 1) := by decide +kernel
theorem dX4_add_27 : decode cX4_add 27 = .ok (.iastore, 1) := by decide +kernel
theorem dX4_add_28 : decode cX4_add 28 = .ok (.iconst 1, 1) := by decide +kernel
theorem dX4_add_29 : decode cX4_add 29 = .ok (.ireturn, 1) := by decide +kernel
theorem dX4_addNumber_0 : decode cX4_addNumber 0 = .ok (.aload_n 0, 1) := by decide +kernel
theorem dX4_addNumber_1 : decode cX4_addNumber 1 = .ok (.getfield 16, 3) := by decide +kernel
theorem dX4_addNumber_4 : decode cX4_addNumber 4 = .ok (.ifCond .le 27, 3) := by decide +kernel
theorem dX4_addNumber_7 : decode cX4_addNumber 7 = .ok (.aload_n 0, 1) := by decide +kernel
theorem dX4_addNumber_8 : decode cX4_addNumber 8 = .ok (.getfield 16, 3) := by decide +kernel
theorem dX4_addNumber_11 : decode cX4_addNumber 11 = .ok (.bipush 24, 2) := by decide +kernel
theorem dX4_addNumber_13 : decode cX4_addNumber 13 = .ok (.if_icmp .gt 18, 3) := by decide +kernel
theorem dX4_addNumber_16 : decode cX4_addNumber 16 = .ok (.aload_n 0, 1) := by decide +kernel
theorem dX4_addNumber_17 : decode cX4_addNumber 17 = .ok (.getfield 9, 3) := by decide +kernel
theorem dX4_addNumber_20 : decode cX4_addNumber 20 = .ok (.aload_n 0, 1) := by decide +kernel
theorem dX4_addNumber_21 : decode cX4_addNumber 21 = .ok (.getfield 16, 3) := by decide +kernel
theorem dX4_addNumber_24 : decode cX4_addNumber 24 = .ok (.iconst 1, 1) := by decide +kernel
theorem dX4_addNumber_25 : decode cX4_addNumber 25 = .ok (.isub, 1) := by decide +kernel
theorem dX4_addNumber_26 : decode cX4_addNumber 26 = .ok (.dup2, 1) := by decide +kernel
theorem dX4_addNumber_27 : decode cX4_addNumber 27 = .ok (.iaload, 1) := by decide +kernel
theorem dX4_addNumber_28 : decode cX4_addNumber 28 = .ok (.iload_n 1, 1) := by decide +kernel
theorem dX4_addNumber_29 : decode cX4_addNumber 29 = .ok (.ior, 1) := by decide +kernel
theorem dX4_addNumber_30 : decode cX4_addNumber 30 = .ok (.iastore, 1) := by decide +kernel
theorem dX4_addNumber_31 : decode cX4_addNumber 31 = .ok (.return_, 1) := by decide +kernel
theorem dX4_copy_0 : decode cX4_copy 0 = .ok (.aload_n 0, 1) := by decide +kernel
theorem dX4_copy_1 : decode cX4_copy 1 = .ok (.iconst 0, 1) := by decide +kernel
theorem dX4_copy_2 : decode cX4_copy 2 = .ok (.putfield 16, 3) := by decide +kernel
theorem dX4_copy_5 : decode cX4_copy 5 = .ok (.iconst 0, 1) := by decide +kernel
theorem dX4_copy_6 : decode cX4_copy 6 = .ok (.istore_n 2, 1) := by decide +kernel
theorem dX4_copy_7 : decode cX4_copy 7 = .ok (.iload_n 2, 1) := by decide +kernel
theorem dX4_copy_8 : decode cX4_copy 8 = .ok (.aload_n 1, 1) := by decide +kernel
theorem dX4_copy_9 : decode cX4_copy 9 = .ok (.getfield 16, 3) := by decide +kernel
theorem dX4_copy_12 : decode cX4_copy 12 = .ok (.if_icmp .ge 26, 3) := by decide +kernel
theorem dX4_copy_15 : decode cX4_copy 15 = .ok (.iload_n 2, 1) := by decide +kernel
theorem dX4_copy_16 : decode cX4_copy 16 = .ok (.bipush 24, 2) := by decide +kernel
theorem dX4_copy_18 : decode cX4_copy 18 = .ok (.if_icmp .ge 20, 3) := by decide +kernel
theorem dX4_copy_21 : decode cX4_copy 21 = .ok (.aload_n 0, 1) := by decide +kernel
theorem dX4_copy_22 : decode cX4_copy 22 = .ok (.aload_n 1, 1) := by decide +kernel
theorem dX4_copy_23 : decode cX4_copy 23 = .ok (.getfield 9, 3) := by decide +kernel
theorem dX4_copy_26 : decode cX4_copy 26 = .ok (.iload_n 2, 1) := by decide +kernel
theorem dX4_copy_27 : decode cX4_copy 27 = .ok (.iaload, 1) := by decide +kernel
theorem dX4_copy_28 : decode cX4_copy 28 = .ok (.invokevirtual 20, 3) := by decide +kernel
theorem dX4_copy_31 : decode cX4_copy 31 = .ok (.pop, 1) := by decide +kernel
theorem dX4_copy_32 : decode cX4_copy 32 = .ok (.iinc 2 1, 3) := by decide +kernel
theorem dX4_copy_35 : decode cX4_copy 35 = .ok (.goto (-28), 3) := by decide +kernel
theorem dX4_copy_38 : decode cX4_copy 38 = .ok (.return_, 1) := by decide +kernel
theorem dX4_meaning_0 : decode cX4_meaning 0 = .ok (.iconst 0, 1) := by decide +kernel
theorem dX4_meaning_1 : decode cX4_meaning 1 = .ok (.istore_n 2, 1) := by decide +kernel
theorem dX4_meaning_2 : decode cX4_meaning 2 = .ok (.aload_n 0, 1) := by decide +kernel
theorem dX4_meaning_3 : decode cX4_meaning 3 = .ok (.getfield 16, 3) := by decide +kernel
theorem dX4_meaning_6 : decode cX4_meaning 6 = .ok (.bipush 24, 2) := by decide +kernel
theorem dX4_meaning_8 : decode cX4_meaning 8 = .ok (.invokestatic 24, 3) := by decide +kernel
theorem dX4_meaning_11 : decode cX4_meaning 11 = .ok (.iconst 1, 1) := by decide +kernel
theorem dX4_meaning_12 : decode cX4_meaning 12 = .ok (.isub, 1) := by decide +kernel
theorem dX4_meaning_13 : decode cX4_meaning 13 = .ok (.istore_n 3, 1) := by decide +kernel
theorem dX4_meaning_14 : decode cX4_meaning 14 = .ok (.iload_n 3, 1) := by decide +kernel
theorem dX4_meaning_15 : decode cX4_meaning 15 = .ok (.ifCond .lt 136, 3) := by decide +kernel
theorem dX4_meaning_18 : decode cX4_meaning 18 = .ok (.aload_n 0, 1) := by decide +kernel
theorem dX4_meaning_19 : decode cX4_meaning 19 = .ok (.getfield 9, 3) := by decide +kernel
theorem dX4_meaning_22 : decode cX4_meaning 22 = .ok (.iload_n 3, 1) := by decide +kernel
theorem dX4_meaning_23 : decode cX4_meaning 23 = .ok (.iaload, 1) := by decide +kernel
theorem dX4_meaning_24 : decode cX4_meaning 24 = .ok (.iconst 3, 1) := by decide +kernel
theorem dX4_meaning_25 : decode cX4_meaning 25 = .ok (.ishr, 1) := by decide +kernel
theorem dX4_meaning_26 : decode cX4_meaning 26 = .ok (.istore 4, 2) := by decide +kernel
theorem dX4_meaning_28 : decode cX4_meaning 28 = .ok (.iload 4, 2) := by decide +kernel
theorem dX4_meaning_30 : decode cX4_meaning 30 = .ok (.invokestatic 30, 3) := by decide +kernel
theorem dX4_meaning_33 : decode cX4_meaning 33 = .ok (.istore 5, 2) := by decide +kernel
theorem dX4_meaning_35 : decode cX4_meaning 35 = .ok (.iload 5, 2) := by decide +kernel
theorem dX4_meaning_37 : decode cX4_meaning 37 = .ok (.ifCond .ne 31, 3) := by decide +kernel
theorem dX4_meaning_40 : decode cX4_meaning 40 = .ok (.iload_n 2, 1) := by decide +kernel
theorem dX4_meaning_41 : decode cX4_meaning 41 = .ok (.bipush 24, 2) := by decide +kernel
theorem dX4_meaning_43 : decode cX4_meaning 43 = .ok (.if_icmp .ge 25, 3) := by decide +kernel
theorem dX4_meaning_46 : decode cX4_meaning 46 = .ok (.aload_n 0, 1) := by decide +kernel
theorem dX4_meaning_47 : decode cX4_meaning 47 = .ok (.getfield 13, 3) := by decide +kernel
theorem dX4_meaning_50 : decode cX4_meaning 50 = .ok (.iload_n 2, 1) := by decide +kernel
theorem dX4_meaning_51 : decode cX4_meaning 51 = .ok (.iinc 2 1, 3) := by decide +kernel
theorem dX4_meaning_54 : decode cX4_meaning 54 = .ok (.aload_n 1, 1) := by decide +kernel
theorem dX4_meaning_55 : decode cX4_meaning 55 = .ok (.aload_n 0, 1) := by decide +kernel
theorem dX4_meaning_56 : decode cX4_meaning 56 = .ok (.getfield 9, 3) := by decide +kernel
theorem dX4_meaning_59 : decode cX4_meaning 59 = .ok (.iload_n 3, 1) := by decide +kernel
theorem dX4_meaning_60 : decode cX4_meaning 60 = .ok (.iaload, 1) := by decide +kernel
theorem dX4_meaning_61 : decode cX4_meaning 61 = .ok (.invokevirtual 36, 3) := by decide +kernel
theorem dX4_meaning_64 : decode cX4_meaning 64 = .ok (.iastore, 1) := by decide +kernel
theorem dX4_meaning_65 : decode cX4_meaning 65 = .ok (.goto 80, 3) := by decide +kernel
theorem dX4_meaning_68 : decode cX4_meaning 68 = .ok (.iload 5, 2) := by decide +kernel
theorem dX4_meaning_70 : decode cX4_meaning 70 = .ok (.iconst 1, 1) := by decide +kernel
theorem dX4_meaning_71 : decode cX4_meaning 71 = .ok (.if_icmp .ne 33, 3) := by decide +kernel
theorem dX4_meaning_74 : decode cX4_meaning 74 = .ok (.iload_n 2, 1) := by decide +kernel
theorem dX4_meaning_75 : decode cX4_meaning 75 = .ok (.iconst 1, 1) := by decide +kernel
theorem dX4_meaning_76 : decode cX4_meaning 76 = .ok (.if_icmp .lt 28, 3) := by decide +kernel
theorem dX4_meaning_79 : decode cX4_meaning 79 = .ok (.aload_n 0, 1) := by decide +kernel
theorem dX4_meaning_80 : decode cX4_meaning 80 = .ok (.getfield 13, 3) := by decide +kernel
theorem dX4_meaning_83 : decode cX4_meaning 83 = .ok (.iload_n 2, 1) := by decide +kernel
theorem dX4_meaning_84 : decode cX4_meaning 84 = .ok (.iconst 1, 1) := by decide +kernel
theorem dX4_meaning_85 : decode cX4_meaning 85 = .ok (.isub, 1) := by decide +kernel
theorem dX4_meaning_86 : decode cX4_meaning 86 = .ok (.aload_n 1, 1) := by decide +kernel
theorem dX4_meaning_87 : decode cX4_meaning 87 = .ok (.iload 4, 2) := by decide +kernel
theorem dX4_meaning_89 : decode cX4_meaning 89 = .ok (.aload_n 0, 1) := by decide +kernel
theorem dX4_meaning_90 : decode cX4_meaning 90 = .ok (.getfield 13, 3) := by decide +kernel
theorem dX4_meaning_93 : decode cX4_meaning 93 = .ok (.iload_n 2, 1) := by decide +kernel
theorem dX4_meaning_94 : decode cX4_meaning 94 = .ok (.iconst 1, 1) := by decide +kernel
theorem dX4_meaning_95 : decode cX4_meaning 95 = .ok (.isub, 1) := by decide +kernel
theorem dX4_meaning_96 : decode cX4_meaning 96 = .ok (.iaload, 1) := by decide +kernel
theorem dX4_meaning_97 : decode cX4_meaning 97 = .ok (.invokevirtual 41, 3) := by decide +kernel
theorem dX4_meaning_100 : decode cX4_meaning 100 = .ok (.iastore, 1) := by decide +kernel
theorem dX4_meaning_101 : decode cX4_meaning 101 = .ok (.goto 44, 3) := by decide +kernel
theorem dX4_meaning_104 : decode cX4_meaning 104 = .ok (.iload 5, 2) := by decide +kernel
theorem dX4_meaning_106 : decode cX4_meaning 106 = .ok (.iconst 2, 1) := by decide +kernel
theorem dX4_meaning_107 : decode cX4_meaning 107 = .ok (.if_icmp .ne 38, 3) := by decide +kernel
theorem dX4_meaning_110 : decode cX4_meaning 110 = .ok (.iload_n 2, 1) := by decide +kernel
theorem dX4_meaning_111 : decode cX4_meaning 111 = .ok (.iconst 2, 1) := by decide +kernel
theorem dX4_meaning_112 : decode cX4_meaning 112 = .ok (.if_icmp .lt 33, 3) := by decide +kernel
theorem dX4_meaning_115 : decode cX4_meaning 115 = .ok (.iinc 2 (-1), 3) := by decide +kernel
theorem dX4_meaning_118 : decode cX4_meaning 118 = .ok (.aload_n 0, 1) := by decide +kernel
theorem dX4_meaning_119 : decode cX4_meaning 119 = .ok (.getfield 13, 3) := by decide +kernel
theorem dX4_meaning_122 : decode cX4_meaning 122 = .ok (.iload_n 2, 1) := by decide +kernel
theorem dX4_meaning_123 : decode cX4_meaning 123 = .ok (.iconst 1, 1) := by decide +kernel
theorem dX4_meaning_124 : decode cX4_meaning 124 = .ok (.isub, 1) := by decide +kernel
theorem dX4_meaning_125 : decode cX4_meaning 125 = .ok (.iload 4, 2) := by decide +kernel
theorem dX4_meaning_127 : decode cX4_meaning 127 = .ok (.aload_n 0, 1) := by decide +kernel
theorem dX4_meaning_128 : decode cX4_meaning 128 = .ok (.getfield 13, 3) := by decide +kernel
theorem dX4_meaning_131 : decode cX4_meaning 131 = .ok (.iload_n 2, 1) := by decide +kernel
theorem dX4_meaning_132 : decode cX4_meaning 132 = .ok (.iaload, 1) := by decide +kernel
theorem dX4_meaning_133 : decode cX4_meaning 133 = .ok (.aload_n 0, 1) := by decide +kernel
theorem dX4_meaning_134 : decode cX4_meaning 134 = .ok (.getfield 13, 3) := by decide +kernel
theorem dX4_meaning_137 : decode cX4_meaning 137 = .ok (.iload_n 2, 1) := by decide +kernel
theorem dX4_meaning_138 : decode cX4_meaning 138 = .ok (.iconst 1, 1) := by decide +kernel
theorem dX4_meaning_139 : decode cX4_meaning 139 = .ok (.isub, 1) := by decide +kernel
theorem dX4_meaning_140 : decode cX4_meaning 140 = .ok (.iaload, 1) := by decide +kernel
theorem dX4_meaning_141 : decode cX4_meaning 141 = .ok (.invokestatic 44, 3) := by decide +kernel
theorem dX4_meaning_144 : decode cX4_meaning 144 = .ok (.iastore, 1) := by decide +kernel
theorem dX4_meaning_145 : decode cX4_meaning 145 = .ok (.iinc 3 (-1), 3) := by decide +kernel
theorem dX4_meaning_148 : decode cX4_meaning 148 = .ok (.goto (-134), 3) := by decide +kernel
theorem dX4_meaning_151 : decode cX4_meaning 151 = .ok (.aload_n 0, 1) := by decide +kernel
theorem dX4_meaning_152 : decode cX4_meaning 152 = .ok (.getfield 13, 3) := by decide +kernel
theorem dX4_meaning_155 : decode cX4_meaning 155 = .ok (.iconst 0, 1) := by decide +kernel
theorem dX4_meaning_156 : decode cX4_meaning 156 = .ok (.iaload, 1) := by decide +kernel
theorem dX4_meaning_157 : decode cX4_meaning 157 = .ok (.ireturn, 1) := by decide +kernel
theorem dX4_cost_0 : decode cX4_cost 0 = .ok (.iconst 0, 1) := by decide +kernel
theorem dX4_cost_1 : decode cX4_cost 1 = .ok (.istore_n 2, 1) := by decide +kernel
theorem dX4_cost_2 : decode cX4_cost 2 = .ok (.iconst 0, 1) := by decide +kernel
theorem dX4_cost_3 : decode cX4_cost 3 = .ok (.istore_n 3, 1) := by decide +kernel
theorem dX4_cost_4 : decode cX4_cost 4 = .ok (.iload_n 3, 1) := by decide +kernel
theorem dX4_cost_5 : decode cX4_cost 5 = .ok (.aload_n 0, 1) := by decide +kernel
theorem dX4_cost_6 : decode cX4_cost 6 = .ok (.getfield 16, 3) := by decide +kernel
theorem dX4_cost_9 : decode cX4_cost 9 = .ok (.if_icmp .ge 46, 3) := by decide +kernel
theorem dX4_cost_12 : decode cX4_cost 12 = .ok (.iload_n 3, 1) := by decide +kernel
theorem dX4_cost_13 : decode cX4_cost 13 = .ok (.bipush 24, 2) := by decide +kernel
theorem dX4_cost_15 : decode cX4_cost 15 = .ok (.if_icmp .ge 40, 3) := by decide +kernel
theorem dX4_cost_18 : decode cX4_cost 18 = .ok (.aload_n 0, 1) := by decide +kernel
theorem dX4_cost_19 : decode cX4_cost 19 = .ok (.getfield 9, 3) := by decide +kernel
theorem dX4_cost_22 : decode cX4_cost 22 = .ok (.iload_n 3, 1) := by decide +kernel
theorem dX4_cost_23 : decode cX4_cost 23 = .ok (.iaload, 1) := by decide +kernel
theorem dX4_cost_24 : decode cX4_cost 24 = .ok (.iconst 3, 1) := by decide +kernel
theorem dX4_cost_25 : decode cX4_cost 25 = .ok (.ishr, 1) := by decide +kernel
theorem dX4_cost_26 : decode cX4_cost 26 = .ok (.istore 4, 2) := by decide +kernel
theorem dX4_cost_28 : decode cX4_cost 28 = .ok (.iload_n 2, 1) := by decide +kernel
theorem dX4_cost_29 : decode cX4_cost 29 = .ok (.iload 4, 2) := by decide +kernel
theorem dX4_cost_31 : decode cX4_cost 31 = .ok (.aload_n 1, 1) := by decide +kernel
theorem dX4_cost_32 : decode cX4_cost 32 = .ok (.arraylength, 1) := by decide +kernel
theorem dX4_cost_33 : decode cX4_cost 33 = .ok (.invokestatic 48, 3) := by decide +kernel
theorem dX4_cost_36 : decode cX4_cost 36 = .ok (.ifCond .eq 10, 3) := by decide +kernel
theorem dX4_cost_39 : decode cX4_cost 39 = .ok (.aload_n 1, 1) := by decide +kernel
theorem dX4_cost_40 : decode cX4_cost 40 = .ok (.iload 4, 2) := by decide +kernel
theorem dX4_cost_42 : decode cX4_cost 42 = .ok (.iaload, 1) := by decide +kernel
theorem dX4_cost_43 : decode cX4_cost 43 = .ok (.goto 4, 3) := by decide +kernel
theorem dX4_cost_46 : decode cX4_cost 46 = .ok (.iconst 0, 1) := by decide +kernel
theorem dX4_cost_47 : decode cX4_cost 47 = .ok (.iadd, 1) := by decide +kernel
theorem dX4_cost_48 : decode cX4_cost 48 = .ok (.istore_n 2, 1) := by decide +kernel
theorem dX4_cost_49 : decode cX4_cost 49 = .ok (.iinc 3 1, 3) := by decide +kernel
theorem dX4_cost_52 : decode cX4_cost 52 = .ok (.goto (-48), 3) := by decide +kernel
theorem dX4_cost_55 : decode cX4_cost 55 = .ok (.iload_n 2, 1) := by decide +kernel
theorem dX4_cost_56 : decode cX4_cost 56 = .ok (.ireturn, 1) := by decide +kernel
theorem dX5_init_0 : decode cX5_init 0 = .ok (.aload_n 0, 1) := by decide +kernel
theorem dX5_init_1 : decode cX5_init 1 = .ok (.invokespecial 3, 3) := by decide +kernel
theorem dX5_init_4 : decode cX5_init 4 = .ok (.aload_n 0, 1) := by decide +kernel
theorem dX5_init_5 : decode cX5_init 5 = .ok (.bipush 8, 2) := by decide +kernel
theorem dX5_init_7 : decode cX5_init 7 = .ok (.bipush 8, 2) := by decide +kernel
theorem dX5_init_9 : decode cX5_init 9 = .ok (.multianewarray 9 2, 4) := by decide +kernel
theorem dX5_init_13 : decode cX5_init 13 = .ok (.putfield 11, 3) := by decide +kernel
theorem dX5_init_16 : decode cX5_init 16 = .ok (.return_, 1) := by decide +kernel
theorem dX5_isLook_0 : decode cX5_isLook 0 = .ok (.iload_n 0, 1) := by decide +kernel
theorem dX5_isLook_1 : decode cX5_isLook 1 = .ok (.getstatic 16, 3) := by decide +kernel
theorem dX5_isLook_4 : decode cX5_isLook 4 = .ok (.arraylength, 1) := by decide +kernel
theorem dX5_isLook_5 : decode cX5_isLook 5 = .ok (.invokestatic 20, 3) := by decide +kernel
theorem dX5_isLook_8 : decode cX5_isLook 8 = .ok (.ifCond .eq 25, 3) := by decide +kernel
theorem dX5_isLook_11 : decode cX5_isLook 11 = .ok (.iload_n 1, 1) := by decide +kernel
theorem dX5_isLook_12 : decode cX5_isLook 12 = .ok (.getstatic 16, 3) := by decide +kernel
theorem dX5_isLook_15 : decode cX5_isLook 15 = .ok (.iload_n 0, 1) := by decide +kernel
theorem dX5_isLook_16 : decode cX5_isLook 16 = .ok (.baload, 1) := by decide +kernel
theorem dX5_isLook_17 : decode cX5_isLook 17 = .ok (.if_icmp .lt 16, 3) := by decide +kernel
theorem dX5_isLook_20 : decode cX5_isLook 20 = .ok (.iload_n 1, 1) := by decide +kernel
theorem dX5_isLook_21 : decode cX5_isLook 21 = .ok (.getstatic 24, 3) := by decide +kernel
theorem dX5_isLook_24 : decode cX5_isLook 24 = .ok (.iload_n 0, 1) := by decide +kernel
theorem dX5_isLook_25 : decode cX5_isLook 25 = .ok (.baload, 1) := by decide +kernel
theorem dX5_isLook_26 : decode cX5_isLook 26 = .ok (.if_icmp .gt 7, 3) := by decide +kernel
theorem dX5_isLook_29 : decode cX5_isLook 29 = .ok (.iconst 1, 1) := by decide +kernel
theorem dX5_isLook_30 : decode cX5_isLook 30 = .ok (.goto 4, 3) := by decide +kernel
theorem dX5_isLook_33 : decode cX5_isLook 33 = .ok (.iconst 0, 1) := by decide +kernel
theorem dX5_isLook_34 : decode cX5_isLook 34 = .ok (.ireturn, 1) := by decide +kernel
theorem dX5_has_0 : decode cX5_has 0 = .ok (.iload_n 1, 1) := by decide +kernel
theorem dX5_has_1 : decode cX5_has 1 = .ok (.aload_n 0, 1) := by decide +kernel
theorem dX5_has_2 : decode cX5_has 2 = .ok (.getfield 27, 3) := by decide +kernel
theorem dX5_has_5 : decode cX5_has 5 = .ok (.invokestatic 20, 3) := by decide +kernel
theorem dX5_has_8 : decode cX5_has 8 = .ok (.ireturn, 1) := by decide +kernel
theorem dX5_all_0 : decode cX5_all 0 = .ok (.iconst 1, 1) := by decide +kernel
theorem dX5_all_1 : decode cX5_all 1 = .ok (.aload_n 0, 1) := by decide +kernel
theorem dX5_all_2 : decode cX5_all 2 = .ok (.getfield 27, 3) := by decide +kernel
theorem dX5_all_5 : decode cX5_all 5 = .ok (.ishl, 1) := by decide +kernel
theorem dX5_all_6 : decode cX5_all 6 = .ok (.iconst 1, 1) := by decide +kernel
theorem dX5_all_7 : decode cX5_all 7 = .ok (.isub, 1) := by decide +kernel
theorem dX5_all_8 : decode cX5_all 8 = .ok (.ireturn, 1) := by decide +kernel
theorem dX5_isTaken_0 : decode cX5_isTaken 0 = .ok (.aload_n 0, 1) := by decide +kernel
theorem dX5_isTaken_1 : decode cX5_isTaken 1 = .ok (.iconst 4, 1) := by decide +kernel
theorem dX5_isTaken_2 : decode cX5_isTaken 2 = .ok (.iload_n 1, 1) := by decide +kernel
theorem dX5_isTaken_3 : decode cX5_isTaken 3 = .ok (.invokevirtual 31, 3) := by decide +kernel
theorem dX5_isTaken_6 : decode cX5_isTaken 6 = .ok (.ifCond .eq 7, 3) := by decide +kernel
theorem dX5_isTaken_9 : decode cX5_isTaken 9 = .ok (.iconst 1, 1) := by decide +kernel
theorem dX5_isTaken_10 : decode cX5_isTaken 10 = .ok (.goto 4, 3) := by decide +kernel
theorem dX5_isTaken_13 : decode cX5_isTaken 13 = .ok (.iconst 0, 1) := by decide +kernel
theorem dX5_isTaken_14 : decode cX5_isTaken 14 = .ok (.ireturn, 1) := by decide +kernel
theorem dX5_add_0 : decode cX5_add 0 = .ok (.aload_n 0, 1) := by decide +kernel
theorem dX5_add_1 : decode cX5_add 1 = .ok (.getfield 27, 3) := by decide +kernel
theorem dX5_add_4 : decode cX5_add 4 = .ok (.bipush 8, 2) := by decide +kernel
theorem dX5_add_6 : decode cX5_add 6 = .ok (.if_icmp .lt 6, 3) := by decide +kernel
theorem dX5_add_9 : decode cX5_add 9 = .ok (.bipush (-5), 2) := by decide +kernel
theorem dX5_add_11 : decode cX5_add 11 = .ok (.ireturn, 1) := by decide +kernel
theorem dX5_add_12 : decode cX5_add 12 = .ok (.aload_n 0, 1) := by decide +kernel
theorem dX5_add_13 : decode cX5_add 13 = .ok (.getfield 11, 3) := by decide +kernel
theorem dX5_add_16 : decode cX5_add 16 = .ok (.iconst 0, 1) := by decide +kernel
theorem dX5_add_17 : decode cX5_add 17 = .ok (.aaload, 1) := by decide +kernel
theorem dX5_add_18 : decode cX5_add 18 = .ok (.aload_n 0, 1) := by decide +kernel
theorem dX5_add_19 : decode cX5_add 19 = .ok (.getfield 27, 3) := by decide +kernel
theorem dX5_add_22 : decode cX5_add 22 = .ok (.iload_n 1, 1) := by decide +kernel
theorem dX5_add_23 : decode cX5_add 23 = .ok (.iastore, 1) := by decide +kernel
theorem dX5_add_24 : decode cX5_add 24 = .ok (.aload_n 0, 1) := by decide +kernel
theorem dX5_add_25 : decode cX5_add 25 = .ok (.getfield 11, 3) := by decide +kernel
theorem dX5_add_28 : decode cX5_add 28 = .ok (.iconst 1, 1) := by decide +kernel
theorem dX5_add_29 : decode cX5_add 29 = .ok (.aaload, 1) := by decide +kernel
theorem dX5_add_30 : decode cX5_add 30 = .ok (.aload_n 0, 1) := by decide +kernel
theorem dX5_add_31 : decode cX5_add 31 = .ok (.getfield 27, 3) := by decide +kernel
theorem dX5_add_34 : decode cX5_add 34 = .ok (.iload_n 2, 1) := by decide +kernel
theorem dX5_add_35 : decode cX5_add 35 = .ok (.iastore, 1) := by decide +kernel
theorem dX5_add_36 : decode cX5_add 36 = .ok (.aload_n 0, 1) := by decide +kernel
theorem dX5_add_37 : decode cX5_add 37 = .ok (.getfield 11, 3) := by decide +kernel
theorem dX5_add_40 : decode cX5_add 40 = .ok (.iconst 2, 1) := by decide +kernel
theorem dX5_add_41 : decode cX5_add 41 = .ok (.aaload, 1) := by decide +kernel
theorem dX5_add_42 : decode cX5_add 42 = .ok (.aload_n 0, 1) := by decide +kernel
theorem dX5_add_43 : decode cX5_add 43 = .ok (.getfield 27, 3) := by decide +kernel
theorem dX5_add_46 : decode cX5_add 46 = .ok (.iload_n 3, 1) := by decide +kernel
theorem dX5_add_47 : decode cX5_add 47 = .ok (.iastore, 1) := by decide +kernel
theorem dX5_add_48 : decode cX5_add 48 = .ok (.aload_n 0, 1) := by decide +kernel
theorem dX5_add_49 : decode cX5_add 49 = .ok (.getfield 11, 3) := by decide +kernel
theorem dX5_add_52 : decode cX5_add 52 = .ok (.iconst 4, 1) := by decide +kernel
theorem dX5_add_53 : decode cX5_add 53 = .ok (.aaload, 1) := by decide +kernel
theorem dX5_add_54 : decode cX5_add 54 = .ok (.aload_n 0, 1) := by decide +kernel
theorem dX5_add_55 : decode cX5_add 55 = .ok (.getfield 27, 3) := by decide +kernel
theorem dX5_add_58 : decode cX5_add 58 = .ok (.iload 4, 2) := by decide +kernel
theorem dX5_add_60 : decode cX5_add 60 = .ok (.iastore, 1) := by decide +kernel
theorem dX5_add_61 : decode cX5_add 61 = .ok (.aload_n 0, 1) := by decide +kernel
theorem dX5_add_62 : decode cX5_add 62 = .ok (.iconst 4, 1) := by decide +kernel
theorem dX5_add_63 : decode cX5_add 63 = .ok (.iload 4, 2) := by decide +kernel
theorem dX5_add_65 : decode cX5_add 65 = .ok (.iconst 1, 1) := by decide +kernel
theorem dX5_add_66 : decode cX5_add 66 = .ok (.isub, 1) := by decide +kernel
theorem dX5_add_67 : decode cX5_add 67 = .ok (.invokevirtual 31, 3) := by decide +kernel
theorem dX5_add_70 : decode cX5_add 70 = .ok (.aload_n 0, 1) := by decide +kernel
theorem dX5_add_71 : decode cX5_add 71 = .ok (.iconst 4, 1) := by decide +kernel
theorem dX5_add_72 : decode cX5_add 72 = .ok (.iload 4, 2) := by decide +kernel
theorem dX5_add_74 : decode cX5_add 74 = .ok (.iconst 1, 1) := by decide +kernel
theorem dX5_add_75 : decode cX5_add 75 = .ok (.iadd, 1) := by decide +kernel
theorem dX5_add_76 : decode cX5_add 76 = .ok (.invokevirtual 31, 3) := by decide +kernel
theorem dX5_add_79 : decode cX5_add 79 = .ok (.ior, 1) := by decide +kernel
theorem dX5_add_80 : decode cX5_add 80 = .ok (.istore 5, 2) := by decide +kernel
theorem dX5_add_82 : decode cX5_add 82 = .ok (.aload_n 0, 1) := by decide +kernel
theorem dX5_add_83 : decode cX5_add 83 = .ok (.getfield 11, 3) := by decide +kernel
theorem dX5_add_86 : decode cX5_add 86 = .ok (.iconst 5, 1) := by decide +kernel
theorem dX5_add_87 : decode cX5_add 87 = .ok (.aaload, 1) := by decide +kernel
theorem dX5_add_88 : decode cX5_add 88 = .ok (.aload_n 0, 1) := by decide +kernel
theorem dX5_add_89 : decode cX5_add 89 = .ok (.getfield 27, 3) := by decide +kernel
theorem dX5_add_92 : decode cX5_add 92 = .ok (.iload 5, 2) := by decide +kernel
theorem dX5_add_94 : decode cX5_add 94 = .ok (.iastore, 1) := by decide +kernel
theorem dX5_add_95 : decode cX5_add 95 = .ok (.iconst 0, 1) := by decide +kernel
theorem dX5_add_96 : decode cX5_add 96 = .ok (.istore 6, 2) := by decide +kernel
theorem dX5_add_98 : decode cX5_add 98 = .ok (.iload 6, 2) := by decide +kernel
theorem dX5_add_100 : decode cX5_add 100 = .ok (.aload_n 0, 1) := by decide +kernel
theorem dX5_add_101 : decode cX5_add 101 = .ok (.getfield 27, 3) := by decide +kernel
theorem dX5_add_104 : decode cX5_add 104 = .ok (.if_icmp .ge 33, 3) := by decide +kernel
theorem dX5_add_107 : decode cX5_add 107 = .ok (.aload_n 0, 1) := by decide +kernel
theorem dX5_add_108 : decode cX5_add 108 = .ok (.getfield 11, 3) := by decide +kernel
theorem dX5_add_111 : decode cX5_add 111 = .ok (.iconst 5, 1) := by decide +kernel
theorem dX5_add_112 : decode cX5_add 112 = .ok (.aaload, 1) := by decide +kernel
theorem dX5_add_113 : decode cX5_add 113 = .ok (.iload 6, 2) := by decide +kernel
theorem dX5_add_115 : decode cX5_add 115 = .ok (.dup2, 1) := by decide +kernel
theorem dX5_add_116 : decode cX5_add 116 = .ok (.iaload, 1) := by decide +kernel
theorem dX5_add_117 : decode cX5_add 117 = .ok (.iload 5, 2) := by decide +kernel
theorem dX5_add_119 : decode cX5_add 119 = .ok (.iload 6, 2) := by decide +kernel
theorem dX5_add_121 : decode cX5_add 121 = .ok (.ishr, 1) := by decide +kernel
theorem dX5_add_122 : decode cX5_add 122 = .ok (.iconst 1, 1) := by decide +kernel
theorem dX5_add_123 : decode cX5_add 123 = .ok (.iand, 1) := by decide +kernel
theorem dX5_add_124 : decode cX5_add 124 = .ok (.aload_n 0, 1) := by decide +kernel
theorem dX5_add_125 : decode cX5_add 125 = .ok (.getfield 27, 3) := by decide +kernel
theorem dX5_add_128 : decode cX5_add 128 = .ok (.ishl, 1) := by decide +kernel
theorem dX5_add_129 : decode cX5_add 129 = .ok (.ior, 1) := by decide +kernel
theorem dX5_add_130 : decode cX5_add 130 = .ok (.iastore, 1) := by decide +kernel
theorem dX5_add_131 : decode cX5_add 131 = .ok (.iinc 6 1, 3) := by decide +kernel
theorem dX5_add_134 : decode cX5_add 134 = .ok (.goto (-36), 3) := by decide +kernel
theorem dX5_add_137 : decode cX5_add 137 = .ok (.aload_n 0, 1) := by decide +kernel
theorem dX5_add_138 : decode cX5_add 138 = .ok (.dup, 1) := by decide +kernel
theorem dX5_add_139 : decode cX5_add 139 = .ok (.getfield 27, 3) := by decide +kernel
theorem dX5_add_142 : decode cX5_add 142 = .ok (.dup_x1, 1) := by decide +kernel
theorem dX5_add_143 : decode cX5_add 143 = .ok (.iconst 1, 1) := by decide +kernel
theorem dX5_add_144 : decode cX5_add 144 = .ok (.iadd, 1) := by decide +kernel
theorem dX5_add_145 : decode cX5_add 145 = .ok (.putfield 27, 3) := by decide +kernel
theorem dX5_add_148 : decode cX5_add 148 = .ok (.ireturn, 1) := by decide +kernel
theorem dX5_isTied_0 : decode cX5_isTied 0 = .ok (.aload_n 0, 1) := by decide +kernel
theorem dX5_isTied_1 : decode cX5_isTied 1 = .ok (.iload_n 1, 1) := by decide +kernel
theorem dX5_isTied_2 : decode cX5_isTied 2 = .ok (.invokevirtual 35, 3) := by decide +kernel
theorem dX5_isTied_5 : decode cX5_isTied 5 = .ok (.ifCond .eq 32, 3) := by decide +kernel
theorem dX5_isTied_8 : decode cX5_isTied 8 = .ok (.aload_n 0, 1) := by decide +kernel
theorem dX5_isTied_9 : decode cX5_isTied 9 = .ok (.iload_n 2, 1) := by decide +kernel
theorem dX5_isTied_10 : decode cX5_isTied 10 = .ok (.invokevirtual 35, 3) := by decide +kernel
theorem dX5_isTied_13 : decode cX5_isTied 13 = .ok (.ifCond .eq 24, 3) := by decide +kernel
theorem dX5_isTied_16 : decode cX5_isTied 16 = .ok (.aload_n 0, 1) := by decide +kernel
theorem dX5_isTied_17 : decode cX5_isTied 17 = .ok (.getfield 11, 3) := by decide +kernel
theorem dX5_isTied_20 : decode cX5_isTied 20 = .ok (.bipush 6, 2) := by decide +kernel
theorem dX5_isTied_22 : decode cX5_isTied 22 = .ok (.aaload, 1) := by decide +kernel
theorem dX5_isTied_23 : decode cX5_isTied 23 = .ok (.iload_n 1, 1) := by decide +kernel
theorem dX5_isTied_24 : decode cX5_isTied 24 = .ok (.iaload, 1) := by decide +kernel
theorem dX5_isTied_25 : decode cX5_isTied 25 = .ok (.iload_n 2, 1) := by decide +kernel
theorem dX5_isTied_26 : decode cX5_isTied 26 = .ok (.ishr, 1) := by decide +kernel
theorem dX5_isTied_27 : decode cX5_isTied 27 = .ok (.iconst 1, 1) := by decide +kernel
theorem dX5_isTied_28 : decode cX5_isTied 28 = .ok (.iand, 1) := by decide +kernel
theorem dX5_isTied_29 : decode cX5_isTied 29 = .ok (.iconst 1, 1) := by decide +kernel
theorem dX5_isTied_30 : decode cX5_isTied 30 = .ok (.if_icmp .ne 7, 3) := by decide +kernel
theorem dX5_isTied_33 : decode cX5_isTied 33 = .ok (.iconst 1, 1) := by decide +kernel
theorem dX5_isTied_34 : decode cX5_isTied 34 = .ok (.goto 4, 3) := by decide +kernel
theorem dX5_isTied_37 : decode cX5_isTied 37 = .ok (.iconst 0, 1) := by decide +kernel
theorem dX5_isTied_38 : decode cX5_isTied 38 = .ok (.ireturn, 1) := by decide +kernel
theorem dX5_addTie_0 : decode cX5_addTie 0 = .ok (.aload_n 0, 1) := by decide +kernel
theorem dX5_addTie_1 : decode cX5_addTie 1 = .ok (.iload_n 1, 1) := by decide +kernel
theorem dX5_addTie_2 : decode cX5_addTie 2 = .ok (.invokevirtual 35, 3) := by decide +kernel
theorem dX5_addTie_5 : decode cX5_addTie 5 = .ok (.ifCond .eq 51, 3) := by decide +kernel
theorem dX5_addTie_8 : decode cX5_addTie 8 = .ok (.aload_n 0, 1) := by decide +kernel
theorem dX5_addTie_9 : decode cX5_addTie 9 = .ok (.iload_n 2, 1) := by decide +kernel
theorem dX5_addTie_10 : decode cX5_addTie 10 = .ok (.invokevirtual 35, 3) := by decide +kernel
theorem dX5_addTie_13 : decode cX5_addTie 13 = .ok (.ifCond .eq 43, 3) := by decide +kernel
theorem dX5_addTie_16 : decode cX5_addTie 16 = .ok (.aload_n 0, 1) := by decide +kernel
theorem dX5_addTie_17 : decode cX5_addTie 17 = .ok (.getfield 11, 3) := by decide +kernel
theorem dX5_addTie_20 : decode cX5_addTie 20 = .ok (.bipush 6, 2) := by decide +kernel
theorem dX5_addTie_22 : decode cX5_addTie 22 = .ok (.aaload, 1) := by decide +kernel
theorem dX5_addTie_23 : decode cX5_addTie 23 = .ok (.iload_n 1, 1) := by decide +kernel
theorem dX5_addTie_24 : decode cX5_addTie 24 = .ok (.dup2, 1) := by decide +kernel
theorem dX5_addTie_25 : decode cX5_addTie 25 = .ok (.iaload, 1) := by decide +kernel
theorem dX5_addTie_26 : decode cX5_addTie 26 = .ok (.iconst 1, 1) := by decide +kernel
theorem dX5_addTie_27 : decode cX5_addTie 27 = .ok (.iload_n 2, 1) := by decide +kernel
theorem dX5_addTie_28 : decode cX5_addTie 28 = .ok (.ishl, 1) := by decide +kernel
theorem dX5_addTie_29 : decode cX5_addTie 29 = .ok (.ior, 1) := by decide +kernel
theorem dX5_addTie_30 : decode cX5_addTie 30 = .ok (.iastore, 1) := by decide +kernel
theorem dX5_addTie_31 : decode cX5_addTie 31 = .ok (.aload_n 0, 1) := by decide +kernel
theorem dX5_addTie_32 : decode cX5_addTie 32 = .ok (.getfield 11, 3) := by decide +kernel
theorem dX5_addTie_35 : decode cX5_addTie 35 = .ok (.bipush 7, 2) := by decide +kernel
theorem dX5_addTie_37 : decode cX5_addTie 37 = .ok (.aaload, 1) := by decide +kernel
theorem dX5_addTie_38 : decode cX5_addTie 38 = .ok (.iload_n 2, 1) := by decide +kernel
theorem dX5_addTie_39 : decode cX5_addTie 39 = .ok (.dup2, 1) := by decide +kernel
theorem dX5_addTie_40 : decode cX5_addTie 40 = .ok (.iaload, 1) := by decide +kernel
theorem dX5_addTie_41 : decode cX5_addTie 41 = .ok (.iconst 1, 1) := by decide +kernel
theorem dX5_addTie_42 : decode cX5_addTie 42 = .ok (.iload_n 1, 1) := by decide +kernel
theorem dX5_addTie_43 : decode cX5_addTie 43 = .ok (.ishl, 1) := by decide +kernel
theorem dX5_addTie_44 : decode cX5_addTie 44 = .ok (.ior, 1) := by decide +kernel
theorem dX5_addTie_45 : decode cX5_addTie 45 = .ok (.iastore, 1) := by decide +kernel
theorem dX5_addTie_46 : decode cX5_addTie 46 = .ok (.aload_n 0, 1) := by decide +kernel
theorem dX5_addTie_47 : decode cX5_addTie 47 = .ok (.dup, 1) := by decide +kernel
theorem dX5_addTie_48 : decode cX5_addTie 48 = .ok (.getfield 39, 3) := by decide +kernel
theorem dX5_addTie_51 : decode cX5_addTie 51 = .ok (.iconst 1, 1) := by decide +kernel
theorem dX5_addTie_52 : decode cX5_addTie 52 = .ok (.iadd, 1) := by decide +kernel
theorem dX5_addTie_53 : decode cX5_addTie 53 = .ok (.putfield 39, 3) := by decide +kernel
theorem dX5_addTie_56 : decode cX5_addTie 56 = .ok (.aload_n 0, 1) := by decide +kernel
theorem dX5_addTie_57 : decode cX5_addTie 57 = .ok (.getfield 39, 3) := by decide +kernel
theorem dX5_addTie_60 : decode cX5_addTie 60 = .ok (.ireturn, 1) := by decide +kernel
theorem dX5_named_0 : decode cX5_named 0 = .ok (.iload_n 1, 1) := by decide +kernel
theorem dX5_named_1 : decode cX5_named 1 = .ok (.bipush 7, 2) := by decide +kernel
theorem dX5_named_3 : decode cX5_named 3 = .ok (.iand, 1) := by decide +kernel
theorem dX5_named_4 : decode cX5_named 4 = .ok (.istore_n 2, 1) := by decide +kernel
theorem dX5_named_5 : decode cX5_named 5 = .ok (.iload_n 1, 1) := by decide +kernel
theorem dX5_named_6 : decode cX5_named 6 = .ok (.iconst 3, 1) := by decide +kernel
theorem dX5_named_7 : decode cX5_named 7 = .ok (.ishr, 1) := by decide +kernel
theorem dX5_named_8 : decode cX5_named 8 = .ok (.tableswitch 47 0 2 #[28, 33, 40], 28) := by decide +kernel
theorem dX5_named_36 : decode cX5_named 36 = .ok (.aload_n 0, 1) := by decide +kernel
theorem dX5_named_37 : decode cX5_named 37 = .ok (.invokevirtual 42, 3) := by decide +kernel
theorem dX5_named_40 : decode cX5_named 40 = .ok (.ireturn, 1) := by decide +kernel
theorem dX5_named_41 : decode cX5_named 41 = .ok (.aload_n 0, 1) := by decide +kernel
theorem dX5_named_42 : decode cX5_named 42 = .ok (.iconst 0, 1) := by decide +kernel
theorem dX5_named_43 : decode cX5_named 43 = .ok (.iload_n 2, 1) := by decide +kernel
theorem dX5_named_44 : decode cX5_named 44 = .ok (.invokevirtual 31, 3) := by decide +kernel
theorem dX5_named_47 : decode cX5_named 47 = .ok (.ireturn, 1) := by decide +kernel
theorem dX5_named_48 : decode cX5_named 48 = .ok (.aload_n 0, 1) := by decide +kernel
theorem dX5_named_49 : decode cX5_named 49 = .ok (.iconst 1, 1) := by decide +kernel
theorem dX5_named_50 : decode cX5_named 50 = .ok (.iload_n 2, 1) := by decide +kernel
theorem dX5_named_51 : decode cX5_named 51 = .ok (.invokevirtual 31, 3) := by decide +kernel
theorem dX5_named_54 : decode cX5_named 54 = .ok (.ireturn, 1) := by decide +kernel
theorem dX5_named_55 : decode cX5_named 55 = .ok (.aload_n 0, 1) := by decide +kernel
theorem dX5_named_56 : decode cX5_named 56 = .ok (.iload_n 2, 1) := by decide +kernel
theorem dX5_named_57 : decode cX5_named 57 = .ok (.invokevirtual 46, 3) := by decide +kernel
theorem dX5_named_60 : decode cX5_named 60 = .ok (.ireturn, 1) := by decide +kernel
theorem dX5_turned_0 : decode cX5_turned 0 = .ok (.iload_n 1, 1) := by decide +kernel
theorem dX5_turned_1 : decode cX5_turned 1 = .ok (.tableswitch 121 4 13 #[55, 121, 121, 121, 64, 71, 79, 90, 101, 107], 55) := by decide +kernel
theorem dX5_turned_56 : decode cX5_turned 56 = .ok (.aload_n 0, 1) := by decide +kernel
theorem dX5_turned_57 : decode cX5_turned 57 = .ok (.invokevirtual 42, 3) := by decide +kernel
theorem dX5_turned_60 : decode cX5_turned 60 = .ok (.iload_n 2, 1) := by decide +kernel
theorem dX5_turned_61 : decode cX5_turned 61 = .ok (.iconst (-1), 1) := by decide +kernel
theorem dX5_turned_62 : decode cX5_turned 62 = .ok (.ixor, 1) := by decide +kernel
theorem dX5_turned_63 : decode cX5_turned 63 = .ok (.iand, 1) := by decide +kernel
theorem dX5_turned_64 : decode cX5_turned 64 = .ok (.ireturn, 1) := by decide +kernel
theorem dX5_turned_65 : decode cX5_turned 65 = .ok (.aload_n 0, 1) := by decide +kernel
theorem dX5_turned_66 : decode cX5_turned 66 = .ok (.iconst 5, 1) := by decide +kernel
theorem dX5_turned_67 : decode cX5_turned 67 = .ok (.iload_n 2, 1) := by decide +kernel
theorem dX5_turned_68 : decode cX5_turned 68 = .ok (.invokevirtual 50, 3) := by decide +kernel
theorem dX5_turned_71 : decode cX5_turned 71 = .ok (.ireturn, 1) := by decide +kernel
theorem dX5_turned_72 : decode cX5_turned 72 = .ok (.aload_n 0, 1) := by decide +kernel
theorem dX5_turned_73 : decode cX5_turned 73 = .ok (.bipush 6, 2) := by decide +kernel
theorem dX5_turned_75 : decode cX5_turned 75 = .ok (.iload_n 2, 1) := by decide +kernel
theorem dX5_turned_76 : decode cX5_turned 76 = .ok (.invokevirtual 50, 3) := by decide +kernel
theorem dX5_turned_79 : decode cX5_turned 79 = .ok (.ireturn, 1) := by decide +kernel
theorem dX5_turned_80 : decode cX5_turned 80 = .ok (.aload_n 0, 1) := by decide +kernel
theorem dX5_turned_81 : decode cX5_turned 81 = .ok (.iload_n 2, 1) := by decide +kernel
theorem dX5_turned_82 : decode cX5_turned 82 = .ok (.aload_n 0, 1) := by decide +kernel
theorem dX5_turned_83 : decode cX5_turned 83 = .ok (.iload_n 2, 1) := by decide +kernel
theorem dX5_turned_84 : decode cX5_turned 84 = .ok (.invokevirtual 53, 3) := by decide +kernel
theorem dX5_turned_87 : decode cX5_turned 87 = .ok (.invokevirtual 56, 3) := by decide +kernel
theorem dX5_turned_90 : decode cX5_turned 90 = .ok (.ireturn, 1) := by decide +kernel
theorem dX5_turned_91 : decode cX5_turned 91 = .ok (.aload_n 0, 1) := by decide +kernel
theorem dX5_turned_92 : decode cX5_turned 92 = .ok (.iload_n 2, 1) := by decide +kernel
theorem dX5_turned_93 : decode cX5_turned 93 = .ok (.aload_n 0, 1) := by decide +kernel
theorem dX5_turned_94 : decode cX5_turned 94 = .ok (.iload_n 2, 1) := by decide +kernel
theorem dX5_turned_95 : decode cX5_turned 95 = .ok (.invokevirtual 59, 3) := by decide +kernel
theorem dX5_turned_98 : decode cX5_turned 98 = .ok (.invokevirtual 56, 3) := by decide +kernel
theorem dX5_turned_101 : decode cX5_turned 101 = .ok (.ireturn, 1) := by decide +kernel
theorem dX5_turned_102 : decode cX5_turned 102 = .ok (.aload_n 0, 1) := by decide +kernel
theorem dX5_turned_103 : decode cX5_turned 103 = .ok (.iload_n 2, 1) := by decide +kernel
theorem dX5_turned_104 : decode cX5_turned 104 = .ok (.invokevirtual 62, 3) := by decide +kernel
theorem dX5_turned_107 : decode cX5_turned 107 = .ok (.ireturn, 1) := by decide +kernel
theorem dX5_turned_108 : decode cX5_turned 108 = .ok (.aload_n 0, 1) := by decide +kernel
theorem dX5_turned_109 : decode cX5_turned 109 = .ok (.iload_n 2, 1) := by decide +kernel
theorem dX5_turned_110 : decode cX5_turned 110 = .ok (.aload_n 0, 1) := by decide +kernel
theorem dX5_turned_111 : decode cX5_turned 111 = .ok (.iload_n 2, 1) := by decide +kernel
theorem dX5_turned_112 : decode cX5_turned 112 = .ok (.invokevirtual 62, 3) := by decide +kernel
theorem dX5_turned_115 : decode cX5_turned 115 = .ok (.iconst (-1), 1) := by decide +kernel
theorem dX5_turned_116 : decode cX5_turned 116 = .ok (.ixor, 1) := by decide +kernel
theorem dX5_turned_117 : decode cX5_turned 117 = .ok (.iand, 1) := by decide +kernel
theorem dX5_turned_118 : decode cX5_turned 118 = .ok (.invokevirtual 62, 3) := by decide +kernel
theorem dX5_turned_121 : decode cX5_turned 121 = .ok (.ireturn, 1) := by decide +kernel
theorem dX5_turned_122 : decode cX5_turned 122 = .ok (.iload_n 2, 1) := by decide +kernel
theorem dX5_turned_123 : decode cX5_turned 123 = .ok (.invokestatic 65, 3) := by decide +kernel
theorem dX5_turned_126 : decode cX5_turned 126 = .ok (.iconst 1, 1) := by decide +kernel
theorem dX5_turned_127 : decode cX5_turned 127 = .ok (.if_icmp .ne 7, 3) := by decide +kernel
theorem dX5_turned_130 : decode cX5_turned 130 = .ok (.iload_n 2, 1) := by decide +kernel
theorem dX5_turned_131 : decode cX5_turned 131 = .ok (.goto 4, 3) := by decide +kernel
theorem dX5_turned_134 : decode cX5_turned 134 = .ok (.iconst 0, 1) := by decide +kernel
theorem dX5_turned_135 : decode cX5_turned 135 = .ok (.ireturn, 1) := by decide +kernel
theorem dX5_thoseWith_0 : decode cX5_thoseWith 0 = .ok (.iconst 0, 1) := by decide +kernel
theorem dX5_thoseWith_1 : decode cX5_thoseWith 1 = .ok (.istore_n 3, 1) := by decide +kernel
theorem dX5_thoseWith_2 : decode cX5_thoseWith 2 = .ok (.iconst 0, 1) := by decide +kernel
theorem dX5_thoseWith_3 : decode cX5_thoseWith 3 = .ok (.istore 4, 2) := by decide +kernel
theorem dX5_thoseWith_5 : decode cX5_thoseWith 5 = .ok (.iload 4, 2) := by decide +kernel
theorem dX5_thoseWith_7 : decode cX5_thoseWith 7 = .ok (.aload_n 0, 1) := by decide +kernel
theorem dX5_thoseWith_8 : decode cX5_thoseWith 8 = .ok (.getfield 27, 3) := by decide +kernel
theorem dX5_thoseWith_11 : decode cX5_thoseWith 11 = .ok (.if_icmp .ge 36, 3) := by decide +kernel
theorem dX5_thoseWith_14 : decode cX5_thoseWith 14 = .ok (.iload 4, 2) := by decide +kernel
theorem dX5_thoseWith_16 : decode cX5_thoseWith 16 = .ok (.bipush 8, 2) := by decide +kernel
theorem dX5_thoseWith_18 : decode cX5_thoseWith 18 = .ok (.if_icmp .ge 29, 3) := by decide +kernel
theorem dX5_thoseWith_21 : decode cX5_thoseWith 21 = .ok (.aload_n 0, 1) := by decide +kernel
theorem dX5_thoseWith_22 : decode cX5_thoseWith 22 = .ok (.getfield 11, 3) := by decide +kernel
theorem dX5_thoseWith_25 : decode cX5_thoseWith 25 = .ok (.iload_n 1, 1) := by decide +kernel
theorem dX5_thoseWith_26 : decode cX5_thoseWith 26 = .ok (.aaload, 1) := by decide +kernel
theorem dX5_thoseWith_27 : decode cX5_thoseWith 27 = .ok (.iload 4, 2) := by decide +kernel
theorem dX5_thoseWith_29 : decode cX5_thoseWith 29 = .ok (.iaload, 1) := by decide +kernel
theorem dX5_thoseWith_30 : decode cX5_thoseWith 30 = .ok (.iload_n 2, 1) := by decide +kernel
theorem dX5_thoseWith_31 : decode cX5_thoseWith 31 = .ok (.if_icmp .ne 10, 3) := by decide +kernel
theorem dX5_thoseWith_34 : decode cX5_thoseWith 34 = .ok (.iload_n 3, 1) := by decide +kernel
theorem dX5_thoseWith_35 : decode cX5_thoseWith 35 = .ok (.iconst 1, 1) := by decide +kernel
theorem dX5_thoseWith_36 : decode cX5_thoseWith 36 = .ok (.iload 4, 2) := by decide +kernel
theorem dX5_thoseWith_38 : decode cX5_thoseWith 38 = .ok (.ishl, 1) := by decide +kernel
theorem dX5_thoseWith_39 : decode cX5_thoseWith 39 = .ok (.ior, 1) := by decide +kernel
theorem dX5_thoseWith_40 : decode cX5_thoseWith 40 = .ok (.istore_n 3, 1) := by decide +kernel
theorem dX5_thoseWith_41 : decode cX5_thoseWith 41 = .ok (.iinc 4 1, 3) := by decide +kernel
theorem dX5_thoseWith_44 : decode cX5_thoseWith 44 = .ok (.goto (-39), 3) := by decide +kernel
theorem dX5_thoseWith_47 : decode cX5_thoseWith 47 = .ok (.iload_n 3, 1) := by decide +kernel
theorem dX5_thoseWith_48 : decode cX5_thoseWith 48 = .ok (.ireturn, 1) := by decide +kernel
theorem dX5_thoseMarked_0 : decode cX5_thoseMarked 0 = .ok (.iconst 0, 1) := by decide +kernel
theorem dX5_thoseMarked_1 : decode cX5_thoseMarked 1 = .ok (.istore_n 2, 1) := by decide +kernel
theorem dX5_thoseMarked_2 : decode cX5_thoseMarked 2 = .ok (.iconst 0, 1) := by decide +kernel
theorem dX5_thoseMarked_3 : decode cX5_thoseMarked 3 = .ok (.istore_n 3, 1) := by decide +kernel
theorem dX5_thoseMarked_4 : decode cX5_thoseMarked 4 = .ok (.iload_n 3, 1) := by decide +kernel
theorem dX5_thoseMarked_5 : decode cX5_thoseMarked 5 = .ok (.aload_n 0, 1) := by decide +kernel
theorem dX5_thoseMarked_6 : decode cX5_thoseMarked 6 = .ok (.getfield 27, 3) := by decide +kernel
theorem dX5_thoseMarked_9 : decode cX5_thoseMarked 9 = .ok (.if_icmp .ge 32, 3) := by decide +kernel
theorem dX5_thoseMarked_12 : decode cX5_thoseMarked 12 = .ok (.iload_n 3, 1) := by decide +kernel
theorem dX5_thoseMarked_13 : decode cX5_thoseMarked 13 = .ok (.bipush 8, 2) := by decide +kernel
theorem dX5_thoseMarked_15 : decode cX5_thoseMarked 15 = .ok (.if_icmp .ge 26, 3) := by decide +kernel
theorem dX5_thoseMarked_18 : decode cX5_thoseMarked 18 = .ok (.iload_n 2, 1) := by decide +kernel
theorem dX5_thoseMarked_19 : decode cX5_thoseMarked 19 = .ok (.aload_n 0, 1) := by decide +kernel
theorem dX5_thoseMarked_20 : decode cX5_thoseMarked 20 = .ok (.getfield 11, 3) := by decide +kernel
theorem dX5_thoseMarked_23 : decode cX5_thoseMarked 23 = .ok (.iconst 3, 1) := by decide +kernel
theorem dX5_thoseMarked_24 : decode cX5_thoseMarked 24 = .ok (.aaload, 1) := by decide +kernel
theorem dX5_thoseMarked_25 : decode cX5_thoseMarked 25 = .ok (.iload_n 3, 1) := by decide +kernel
theorem dX5_thoseMarked_26 : decode cX5_thoseMarked 26 = .ok (.iaload, 1) := by decide +kernel
theorem dX5_thoseMarked_27 : decode cX5_thoseMarked 27 = .ok (.iload_n 1, 1) := by decide +kernel
theorem dX5_thoseMarked_28 : decode cX5_thoseMarked 28 = .ok (.ishr, 1) := by decide +kernel
theorem dX5_thoseMarked_29 : decode cX5_thoseMarked 29 = .ok (.iconst 1, 1) := by decide +kernel
theorem dX5_thoseMarked_30 : decode cX5_thoseMarked 30 = .ok (.iand, 1) := by decide +kernel
theorem dX5_thoseMarked_31 : decode cX5_thoseMarked 31 = .ok (.iload_n 3, 1) := by decide +kernel
theorem dX5_thoseMarked_32 : decode cX5_thoseMarked 32 = .ok (.ishl, 1) := by decide +kernel
theorem dX5_thoseMarked_33 : decode cX5_thoseMarked 33 = .ok (.ior, 1) := by decide +kernel
theorem dX5_thoseMarked_34 : decode cX5_thoseMarked 34 = .ok (.istore_n 2, 1) := by decide +kernel
theorem dX5_thoseMarked_35 : decode cX5_thoseMarked 35 = .ok (.iinc 3 1, 3) := by decide +kernel
theorem dX5_thoseMarked_38 : decode cX5_thoseMarked 38 = .ok (.goto (-34), 3) := by decide +kernel
theorem dX5_thoseMarked_41 : decode cX5_thoseMarked 41 = .ok (.iload_n 2, 1) := by decide +kernel
theorem dX5_thoseMarked_42 : decode cX5_thoseMarked 42 = .ok (.ireturn, 1) := by decide +kernel
theorem dX5_thoseLinked_0 : decode cX5_thoseLinked 0 = .ok (.iconst 0, 1) := by decide +kernel
theorem dX5_thoseLinked_1 : decode cX5_thoseLinked 1 = .ok (.istore_n 3, 1) := by decide +kernel
theorem dX5_thoseLinked_2 : decode cX5_thoseLinked 2 = .ok (.iconst 0, 1) := by decide +kernel
theorem dX5_thoseLinked_3 : decode cX5_thoseLinked 3 = .ok (.istore 4, 2) := by decide +kernel
theorem dX5_thoseLinked_5 : decode cX5_thoseLinked 5 = .ok (.iload 4, 2) := by decide +kernel
theorem dX5_thoseLinked_7 : decode cX5_thoseLinked 7 = .ok (.aload_n 0, 1) := by decide +kernel
theorem dX5_thoseLinked_8 : decode cX5_thoseLinked 8 = .ok (.getfield 27, 3) := by decide +kernel
theorem dX5_thoseLinked_11 : decode cX5_thoseLinked 11 = .ok (.if_icmp .ge 37, 3) := by decide +kernel
theorem dX5_thoseLinked_14 : decode cX5_thoseLinked 14 = .ok (.iload 4, 2) := by decide +kernel
theorem dX5_thoseLinked_16 : decode cX5_thoseLinked 16 = .ok (.bipush 8, 2) := by decide +kernel
theorem dX5_thoseLinked_18 : decode cX5_thoseLinked 18 = .ok (.if_icmp .ge 30, 3) := by decide +kernel
theorem dX5_thoseLinked_21 : decode cX5_thoseLinked 21 = .ok (.aload_n 0, 1) := by decide +kernel
theorem dX5_thoseLinked_22 : decode cX5_thoseLinked 22 = .ok (.getfield 11, 3) := by decide +kernel
theorem dX5_thoseLinked_25 : decode cX5_thoseLinked 25 = .ok (.iload_n 1, 1) := by decide +kernel
theorem dX5_thoseLinked_26 : decode cX5_thoseLinked 26 = .ok (.aaload, 1) := by decide +kernel
theorem dX5_thoseLinked_27 : decode cX5_thoseLinked 27 = .ok (.iload 4, 2) := by decide +kernel
theorem dX5_thoseLinked_29 : decode cX5_thoseLinked 29 = .ok (.iaload, 1) := by decide +kernel
theorem dX5_thoseLinked_30 : decode cX5_thoseLinked 30 = .ok (.iload_n 2, 1) := by decide +kernel
theorem dX5_thoseLinked_31 : decode cX5_thoseLinked 31 = .ok (.iand, 1) := by decide +kernel
theorem dX5_thoseLinked_32 : decode cX5_thoseLinked 32 = .ok (.ifCond .eq 10, 3) := by decide +kernel
theorem dX5_thoseLinked_35 : decode cX5_thoseLinked 35 = .ok (.iload_n 3, 1) := by decide +kernel
theorem dX5_thoseLinked_36 : decode cX5_thoseLinked 36 = .ok (.iconst 1, 1) := by decide +kernel
theorem dX5_thoseLinked_37 : decode cX5_thoseLinked 37 = .ok (.iload 4, 2) := by decide +kernel
theorem dX5_thoseLinked_39 : decode cX5_thoseLinked 39 = .ok (.ishl, 1) := by decide +kernel
theorem dX5_thoseLinked_40 : decode cX5_thoseLinked 40 = .ok (.ior, 1) := by decide +kernel
theorem dX5_thoseLinked_41 : decode cX5_thoseLinked 41 = .ok (.istore_n 3, 1) := by decide +kernel
theorem dX5_thoseLinked_42 : decode cX5_thoseLinked 42 = .ok (.iinc 4 1, 3) := by decide +kernel
theorem dX5_thoseLinked_45 : decode cX5_thoseLinked 45 = .ok (.goto (-40), 3) := by decide +kernel
theorem dX5_thoseLinked_48 : decode cX5_thoseLinked 48 = .ok (.iload_n 3, 1) := by decide +kernel
theorem dX5_thoseLinked_49 : decode cX5_thoseLinked 49 = .ok (.ireturn, 1) := by decide +kernel
theorem dX5_ofSize_0 : decode cX5_ofSize 0 = .ok (.iload_n 1, 1) := by decide +kernel
theorem dX5_ofSize_1 : decode cX5_ofSize 1 = .ok (.aload_n 0, 1) := by decide +kernel
theorem dX5_ofSize_2 : decode cX5_ofSize 2 = .ok (.iconst 2, 1) := by decide +kernel
theorem dX5_ofSize_3 : decode cX5_ofSize 3 = .ok (.iload_n 2, 1) := by decide +kernel
theorem dX5_ofSize_4 : decode cX5_ofSize 4 = .ok (.invokevirtual 31, 3) := by decide +kernel
theorem dX5_ofSize_7 : decode cX5_ofSize 7 = .ok (.iand, 1) := by decide +kernel
theorem dX5_ofSize_8 : decode cX5_ofSize 8 = .ok (.ireturn, 1) := by decide +kernel
theorem dX5_greatestSize_0 : decode cX5_greatestSize 0 = .ok (.iconst 0, 1) := by decide +kernel
theorem dX5_greatestSize_1 : decode cX5_greatestSize 1 = .ok (.istore_n 2, 1) := by decide +kernel
theorem dX5_greatestSize_2 : decode cX5_greatestSize 2 = .ok (.iconst 0, 1) := by decide +kernel
theorem dX5_greatestSize_3 : decode cX5_greatestSize 3 = .ok (.istore_n 3, 1) := by decide +kernel
theorem dX5_greatestSize_4 : decode cX5_greatestSize 4 = .ok (.iload_n 3, 1) := by decide +kernel
theorem dX5_greatestSize_5 : decode cX5_greatestSize 5 = .ok (.aload_n 0, 1) := by decide +kernel
theorem dX5_greatestSize_6 : decode cX5_greatestSize 6 = .ok (.getfield 27, 3) := by decide +kernel
theorem dX5_greatestSize_9 : decode cX5_greatestSize 9 = .ok (.if_icmp .ge 37, 3) := by decide +kernel
theorem dX5_greatestSize_12 : decode cX5_greatestSize 12 = .ok (.iload_n 3, 1) := by decide +kernel
theorem dX5_greatestSize_13 : decode cX5_greatestSize 13 = .ok (.bipush 8, 2) := by decide +kernel
theorem dX5_greatestSize_15 : decode cX5_greatestSize 15 = .ok (.if_icmp .ge 31, 3) := by decide +kernel
theorem dX5_greatestSize_18 : decode cX5_greatestSize 18 = .ok (.iload_n 1, 1) := by decide +kernel
theorem dX5_greatestSize_19 : decode cX5_greatestSize 19 = .ok (.iload_n 3, 1) := by decide +kernel
theorem dX5_greatestSize_20 : decode cX5_greatestSize 20 = .ok (.ishr, 1) := by decide +kernel
theorem dX5_greatestSize_21 : decode cX5_greatestSize 21 = .ok (.iconst 1, 1) := by decide +kernel
theorem dX5_greatestSize_22 : decode cX5_greatestSize 22 = .ok (.iand, 1) := by decide +kernel
theorem dX5_greatestSize_23 : decode cX5_greatestSize 23 = .ok (.iconst 1, 1) := by decide +kernel
theorem dX5_greatestSize_24 : decode cX5_greatestSize 24 = .ok (.if_icmp .ne 16, 3) := by decide +kernel
theorem dX5_greatestSize_27 : decode cX5_greatestSize 27 = .ok (.iload_n 2, 1) := by decide +kernel
theorem dX5_greatestSize_28 : decode cX5_greatestSize 28 = .ok (.aload_n 0, 1) := by decide +kernel
theorem dX5_greatestSize_29 : decode cX5_greatestSize 29 = .ok (.getfield 11, 3) := by decide +kernel
theorem dX5_greatestSize_32 : decode cX5_greatestSize 32 = .ok (.iconst 2, 1) := by decide +kernel
theorem dX5_greatestSize_33 : decode cX5_greatestSize 33 = .ok (.aaload, 1) := by decide +kernel
theorem dX5_greatestSize_34 : decode cX5_greatestSize 34 = .ok (.iload_n 3, 1) := by decide +kernel
theorem dX5_greatestSize_35 : decode cX5_greatestSize 35 = .ok (.iaload, 1) := by decide +kernel
theorem dX5_greatestSize_36 : decode cX5_greatestSize 36 = .ok (.invokestatic 70, 3) := by decide +kernel
theorem dX5_greatestSize_39 : decode cX5_greatestSize 39 = .ok (.istore_n 2, 1) := by decide +kernel
theorem dX5_greatestSize_40 : decode cX5_greatestSize 40 = .ok (.iinc 3 1, 3) := by decide +kernel
theorem dX5_greatestSize_43 : decode cX5_greatestSize 43 = .ok (.goto (-39), 3) := by decide +kernel
theorem dX5_greatestSize_46 : decode cX5_greatestSize 46 = .ok (.iload_n 2, 1) := by decide +kernel
theorem dX5_greatestSize_47 : decode cX5_greatestSize 47 = .ok (.ireturn, 1) := by decide +kernel
theorem dX5_leastSize_0 : decode cX5_leastSize 0 = .ok (.getstatic 24, 3) := by decide +kernel
theorem dX5_leastSize_3 : decode cX5_leastSize 3 = .ok (.iconst 2, 1) := by decide +kernel
theorem dX5_leastSize_4 : decode cX5_leastSize 4 = .ok (.baload, 1) := by decide +kernel
theorem dX5_leastSize_5 : decode cX5_leastSize 5 = .ok (.istore_n 2, 1) := by decide +kernel
theorem dX5_leastSize_6 : decode cX5_leastSize 6 = .ok (.iconst 0, 1) := by decide +kernel
theorem dX5_leastSize_7 : decode cX5_leastSize 7 = .ok (.istore_n 3, 1) := by decide +kernel
theorem dX5_leastSize_8 : decode cX5_leastSize 8 = .ok (.iload_n 3, 1) := by decide +kernel
theorem dX5_leastSize_9 : decode cX5_leastSize 9 = .ok (.aload_n 0, 1) := by decide +kernel
theorem dX5_leastSize_10 : decode cX5_leastSize 10 = .ok (.getfield 27, 3) := by decide +kernel
theorem dX5_leastSize_13 : decode cX5_leastSize 13 = .ok (.if_icmp .ge 37, 3) := by decide +kernel
theorem dX5_leastSize_16 : decode cX5_leastSize 16 = .ok (.iload_n 3, 1) := by decide +kernel
theorem dX5_leastSize_17 : decode cX5_leastSize 17 = .ok (.bipush 8, 2) := by decide +kernel
theorem dX5_leastSize_19 : decode cX5_leastSize 19 = .ok (.if_icmp .ge 31, 3) := by decide +kernel
theorem dX5_leastSize_22 : decode cX5_leastSize 22 = .ok (.iload_n 1, 1) := by decide +kernel
theorem dX5_leastSize_23 : decode cX5_leastSize 23 = .ok (.iload_n 3, 1) := by decide +kernel
theorem dX5_leastSize_24 : decode cX5_leastSize 24 = .ok (.ishr, 1) := by decide +kernel
theorem dX5_leastSize_25 : decode cX5_leastSize 25 = .ok (.iconst 1, 1) := by decide +kernel
theorem dX5_leastSize_26 : decode cX5_leastSize 26 = .ok (.iand, 1) := by decide +kernel
theorem dX5_leastSize_27 : decode cX5_leastSize 27 = .ok (.iconst 1, 1) := by decide +kernel
theorem dX5_leastSize_28 : decode cX5_leastSize 28 = .ok (.if_icmp .ne 16, 3) := by decide +kernel
theorem dX5_leastSize_31 : decode cX5_leastSize 31 = .ok (.iload_n 2, 1) := by decide +kernel
theorem dX5_leastSize_32 : decode cX5_leastSize 32 = .ok (.aload_n 0, 1) := by decide +kernel
theorem dX5_leastSize_33 : decode cX5_leastSize 33 = .ok (.getfield 11, 3) := by decide +kernel
theorem dX5_leastSize_36 : decode cX5_leastSize 36 = .ok (.iconst 2, 1) := by decide +kernel
theorem dX5_leastSize_37 : decode cX5_leastSize 37 = .ok (.aaload, 1) := by decide +kernel
theorem dX5_leastSize_38 : decode cX5_leastSize 38 = .ok (.iload_n 3, 1) := by decide +kernel
theorem dX5_leastSize_39 : decode cX5_leastSize 39 = .ok (.iaload, 1) := by decide +kernel
theorem dX5_leastSize_40 : decode cX5_leastSize 40 = .ok (.invokestatic 75, 3) := by decide +kernel
theorem dX5_leastSize_43 : decode cX5_leastSize 43 = .ok (.istore_n 2, 1) := by decide +kernel
theorem dX5_leastSize_44 : decode cX5_leastSize 44 = .ok (.iinc 3 1, 3) := by decide +kernel
theorem dX5_leastSize_47 : decode cX5_leastSize 47 = .ok (.goto (-39), 3) := by decide +kernel
theorem dX5_leastSize_50 : decode cX5_leastSize 50 = .ok (.iload_n 2, 1) := by decide +kernel
theorem dX5_leastSize_51 : decode cX5_leastSize 51 = .ok (.ireturn, 1) := by decide +kernel
theorem dX5_leftmost_0 : decode cX5_leftmost 0 = .ok (.iconst 0, 1) := by decide +kernel
theorem dX5_leftmost_1 : decode cX5_leftmost 1 = .ok (.istore_n 2, 1) := by decide +kernel
theorem dX5_leftmost_2 : decode cX5_leftmost 2 = .ok (.bipush 16, 2) := by decide +kernel
theorem dX5_leftmost_4 : decode cX5_leftmost 4 = .ok (.istore_n 3, 1) := by decide +kernel
theorem dX5_leftmost_5 : decode cX5_leftmost 5 = .ok (.iconst 0, 1) := by decide +kernel
theorem dX5_leftmost_6 : decode cX5_leftmost 6 = .ok (.istore 4, 2) := by decide +kernel
theorem dX5_leftmost_8 : decode cX5_leftmost 8 = .ok (.iload 4, 2) := by decide +kernel
theorem dX5_leftmost_10 : decode cX5_leftmost 10 = .ok (.aload_n 0, 1) := by decide +kernel
theorem dX5_leftmost_11 : decode cX5_leftmost 11 = .ok (.getfield 27, 3) := by decide +kernel
theorem dX5_leftmost_14 : decode cX5_leftmost 14 = .ok (.if_icmp .ge 54, 3) := by decide +kernel
theorem dX5_leftmost_17 : decode cX5_leftmost 17 = .ok (.iload 4, 2) := by decide +kernel
theorem dX5_leftmost_19 : decode cX5_leftmost 19 = .ok (.bipush 8, 2) := by decide +kernel
theorem dX5_leftmost_21 : decode cX5_leftmost 21 = .ok (.if_icmp .ge 47, 3) := by decide +kernel
theorem dX5_leftmost_24 : decode cX5_leftmost 24 = .ok (.iload_n 1, 1) := by decide +kernel
theorem dX5_leftmost_25 : decode cX5_leftmost 25 = .ok (.iload 4, 2) := by decide +kernel
theorem dX5_leftmost_27 : decode cX5_leftmost 27 = .ok (.ishr, 1) := by decide +kernel
theorem dX5_leftmost_28 : decode cX5_leftmost 28 = .ok (.iconst 1, 1) := by decide +kernel
theorem dX5_leftmost_29 : decode cX5_leftmost 29 = .ok (.iand, 1) := by decide +kernel
theorem dX5_leftmost_30 : decode cX5_leftmost 30 = .ok (.iconst 1, 1) := by decide +kernel
theorem dX5_leftmost_31 : decode cX5_leftmost 31 = .ok (.if_icmp .ne 31, 3) := by decide +kernel
theorem dX5_leftmost_34 : decode cX5_leftmost 34 = .ok (.aload_n 0, 1) := by decide +kernel
theorem dX5_leftmost_35 : decode cX5_leftmost 35 = .ok (.getfield 11, 3) := by decide +kernel
theorem dX5_leftmost_38 : decode cX5_leftmost 38 = .ok (.iconst 4, 1) := by decide +kernel
theorem dX5_leftmost_39 : decode cX5_leftmost 39 = .ok (.aaload, 1) := by decide +kernel
theorem dX5_leftmost_40 : decode cX5_leftmost 40 = .ok (.iload 4, 2) := by decide +kernel
theorem dX5_leftmost_42 : decode cX5_leftmost 42 = .ok (.iaload, 1) := by decide +kernel
theorem dX5_leftmost_43 : decode cX5_leftmost 43 = .ok (.iload_n 3, 1) := by decide +kernel
theorem dX5_leftmost_44 : decode cX5_leftmost 44 = .ok (.if_icmp .ge 18, 3) := by decide +kernel
theorem dX5_leftmost_47 : decode cX5_leftmost 47 = .ok (.aload_n 0, 1) := by decide +kernel
theorem dX5_leftmost_48 : decode cX5_leftmost 48 = .ok (.getfield 11, 3) := by decide +kernel
theorem dX5_leftmost_51 : decode cX5_leftmost 51 = .ok (.iconst 4, 1) := by decide +kernel
theorem dX5_leftmost_52 : decode cX5_leftmost 52 = .ok (.aaload, 1) := by decide +kernel
theorem dX5_leftmost_53 : decode cX5_leftmost 53 = .ok (.iload 4, 2) := by decide +kernel
theorem dX5_leftmost_55 : decode cX5_leftmost 55 = .ok (.iaload, 1) := by decide +kernel
theorem dX5_leftmost_56 : decode cX5_leftmost 56 = .ok (.istore_n 3, 1) := by decide +kernel
theorem dX5_leftmost_57 : decode cX5_leftmost 57 = .ok (.iconst 1, 1) := by decide +kernel
theorem dX5_leftmost_58 : decode cX5_leftmost 58 = .ok (.iload 4, 2) := by decide +kernel
theorem dX5_leftmost_60 : decode cX5_leftmost 60 = .ok (.ishl, 1) := by decide +kernel
theorem dX5_leftmost_61 : decode cX5_leftmost 61 = .ok (.istore_n 2, 1) := by decide +kernel
theorem dX5_leftmost_62 : decode cX5_leftmost 62 = .ok (.iinc 4 1, 3) := by decide +kernel
theorem dX5_leftmost_65 : decode cX5_leftmost 65 = .ok (.goto (-57), 3) := by decide +kernel
theorem dX5_leftmost_68 : decode cX5_leftmost 68 = .ok (.iload_n 2, 1) := by decide +kernel
theorem dX5_leftmost_69 : decode cX5_leftmost 69 = .ok (.ireturn, 1) := by decide +kernel
theorem dX6_init_0 : decode cX6_init 0 = .ok (.aload_n 0, 1) := by decide +kernel
theorem dX6_init_1 : decode cX6_init 1 = .ok (.invokespecial 3, 3) := by decide +kernel
theorem dX6_init_4 : decode cX6_init 4 = .ok (.aload_n 0, 1) := by decide +kernel
theorem dX6_init_5 : decode cX6_init 5 = .ok (.bipush 12, 2) := by decide +kernel
theorem dX6_init_7 : decode cX6_init 7 = .ok (.newarray .int, 2) := by decide +kernel
theorem dX6_init_9 : decode cX6_init 9 = .ok (.putfield 11, 3) := by decide +kernel
theorem dX6_init_12 : decode cX6_init 12 = .ok (.return_, 1) := by decide +kernel
theorem dX6_add_0 : decode cX6_add 0 = .ok (.aload_n 0, 1) := by decide +kernel
theorem dX6_add_1 : decode cX6_add 1 = .ok (.getfield 15, 3) := by decide +kernel
theorem dX6_add_4 : decode cX6_add 4 = .ok (.bipush 12, 2) := by decide +kernel
theorem dX6_add_6 : decode cX6_add 6 = .ok (.if_icmp .ge 20, 3) := by decide +kernel
theorem dX6_add_9 : decode cX6_add 9 = .ok (.aload_n 0, 1) := by decide +kernel
theorem dX6_add_10 : decode cX6_add 10 = .ok (.getfield 11, 3) := by decide +kernel
theorem dX6_add_13 : decode cX6_add 13 = .ok (.aload_n 0, 1) := by decide +kernel
theorem dX6_add_14 : decode cX6_add 14 = .ok (.dup, 1) := by decide +kernel
theorem dX6_add_15 : decode cX6_add 15 = .ok (.getfield 15, 3) := by decide +kernel
theorem dX6_add_18 : decode cX6_add 18 = .ok (.dup_x1, 1) := by decide +kernel
theorem dX6_add_19 : decode cX6_add 19 = .ok (.iconst 1, 1) := by decide +kernel
theorem dX6_add_20 : decode cX6_add 20 = .ok (.iadd, 1) := by decide +kernel
theorem dX6_add_21 : decode cX6_add 21 = .ok (.putfield 15, 3) := by decide +kernel
theorem dX6_add_24 : decode cX6_add 24 = .ok (.iload_n 1, 1) := by decide +kernel
theorem dX6_add_25 : decode cX6_add 25 = .ok (.iastore, 1) := by decide +kernel
theorem dX6_add_26 : decode cX6_add 26 = .ok (.aload_n 0, 1) := by decide +kernel
theorem dX6_add_27 : decode cX6_add 27 = .ok (.getfield 15, 3) := by decide +kernel
theorem dX6_add_30 : decode cX6_add 30 = .ok (.ireturn, 1) := by decide +kernel
theorem dX6_cost_0 : decode cX6_cost 0 = .ok (.iconst 0, 1) := by decide +kernel
theorem dX6_cost_1 : decode cX6_cost 1 = .ok (.istore_n 2, 1) := by decide +kernel
theorem dX6_cost_2 : decode cX6_cost 2 = .ok (.iconst 0, 1) := by decide +kernel
theorem dX6_cost_3 : decode cX6_cost 3 = .ok (.istore_n 3, 1) := by decide +kernel
theorem dX6_cost_4 : decode cX6_cost 4 = .ok (.iload_n 3, 1) := by decide +kernel
theorem dX6_cost_5 : decode cX6_cost 5 = .ok (.aload_n 0, 1) := by decide +kernel
theorem dX6_cost_6 : decode cX6_cost 6 = .ok (.getfield 15, 3) := by decide +kernel
theorem dX6_cost_9 : decode cX6_cost 9 = .ok (.if_icmp .ge 84, 3) := by decide +kernel
theorem dX6_cost_12 : decode cX6_cost 12 = .ok (.iload_n 3, 1) := by decide +kernel
theorem dX6_cost_13 : decode cX6_cost 13 = .ok (.bipush 12, 2) := by decide +kernel
theorem dX6_cost_15 : decode cX6_cost 15 = .ok (.if_icmp .ge 78, 3) := by decide +kernel
theorem dX6_cost_18 : decode cX6_cost 18 = .ok (.iconst 1, 1) := by decide +kernel
theorem dX6_cost_19 : decode cX6_cost 19 = .ok (.aload_n 0, 1) := by decide +kernel
theorem dX6_cost_20 : decode cX6_cost 20 = .ok (.getfield 11, 3) := by decide +kernel
theorem dX6_cost_23 : decode cX6_cost 23 = .ok (.iload_n 3, 1) := by decide +kernel
theorem dX6_cost_24 : decode cX6_cost 24 = .ok (.iaload, 1) := by decide +kernel
theorem dX6_cost_25 : decode cX6_cost 25 = .ok (.ishl, 1) := by decide +kernel
theorem dX6_cost_26 : decode cX6_cost 26 = .ok (.istore 4, 2) := by decide +kernel
theorem dX6_cost_28 : decode cX6_cost 28 = .ok (.aload_n 0, 1) := by decide +kernel
theorem dX6_cost_29 : decode cX6_cost 29 = .ok (.iload_n 3, 1) := by decide +kernel
theorem dX6_cost_30 : decode cX6_cost 30 = .ok (.invokevirtual 19, 3) := by decide +kernel
theorem dX6_cost_33 : decode cX6_cost 33 = .ok (.istore 5, 2) := by decide +kernel
theorem dX6_cost_35 : decode cX6_cost 35 = .ok (.aload_n 1, 1) := by decide +kernel
theorem dX6_cost_36 : decode cX6_cost 36 = .ok (.iload 4, 2) := by decide +kernel
theorem dX6_cost_38 : decode cX6_cost 38 = .ok (.invokevirtual 23, 3) := by decide +kernel
theorem dX6_cost_41 : decode cX6_cost 41 = .ok (.ifCond .eq 13, 3) := by decide +kernel
theorem dX6_cost_44 : decode cX6_cost 44 = .ok (.aload_n 1, 1) := by decide +kernel
theorem dX6_cost_45 : decode cX6_cost 45 = .ok (.getfield 29, 3) := by decide +kernel
theorem dX6_cost_48 : decode cX6_cost 48 = .ok (.iload 4, 2) := by decide +kernel
theorem dX6_cost_50 : decode cX6_cost 50 = .ok (.iaload, 1) := by decide +kernel
theorem dX6_cost_51 : decode cX6_cost 51 = .ok (.goto 5, 3) := by decide +kernel
theorem dX6_cost_54 : decode cX6_cost 54 = .ok (.iload 5, 2) := by decide +kernel
theorem dX6_cost_56 : decode cX6_cost 56 = .ok (.istore 6, 2) := by decide +kernel
theorem dX6_cost_58 : decode cX6_cost 58 = .ok (.iload 6, 2) := by decide +kernel
theorem dX6_cost_60 : decode cX6_cost 60 = .ok (.iconst (-1), 1) := by decide +kernel
theorem dX6_cost_61 : decode cX6_cost 61 = .ok (.if_icmp .ne 5, 3) := by decide +kernel
theorem dX6_cost_64 : decode cX6_cost 64 = .ok (.iconst (-1), 1) := by decide +kernel
theorem dX6_cost_65 : decode cX6_cost 65 = .ok (.ireturn, 1) := by decide +kernel
theorem dX6_cost_66 : decode cX6_cost 66 = .ok (.iload_n 2, 1) := by decide +kernel
theorem dX6_cost_67 : decode cX6_cost 67 = .ok (.iload 5, 2) := by decide +kernel
theorem dX6_cost_69 : decode cX6_cost 69 = .ok (.iconst (-1), 1) := by decide +kernel
theorem dX6_cost_70 : decode cX6_cost 70 = .ok (.if_icmp .ne 8, 3) := by decide +kernel
theorem dX6_cost_73 : decode cX6_cost 73 = .ok (.iload 6, 2) := by decide +kernel
theorem dX6_cost_75 : decode cX6_cost 75 = .ok (.goto 10, 3) := by decide +kernel
theorem dX6_cost_78 : decode cX6_cost 78 = .ok (.iload 6, 2) := by decide +kernel
theorem dX6_cost_80 : decode cX6_cost 80 = .ok (.iload 5, 2) := by decide +kernel
theorem dX6_cost_82 : decode cX6_cost 82 = .ok (.invokestatic 32, 3) := by decide +kernel
theorem dX6_cost_85 : decode cX6_cost 85 = .ok (.iadd, 1) := by decide +kernel
theorem dX6_cost_86 : decode cX6_cost 86 = .ok (.istore_n 2, 1) := by decide +kernel
theorem dX6_cost_87 : decode cX6_cost 87 = .ok (.iinc 3 1, 3) := by decide +kernel
theorem dX6_cost_90 : decode cX6_cost 90 = .ok (.goto (-86), 3) := by decide +kernel
theorem dX6_cost_93 : decode cX6_cost 93 = .ok (.iload_n 2, 1) := by decide +kernel
theorem dX6_cost_94 : decode cX6_cost 94 = .ok (.ireturn, 1) := by decide +kernel
theorem dX6_pointingAt_0 : decode cX6_pointingAt 0 = .ok (.iload_n 1, 1) := by decide +kernel
theorem dX6_pointingAt_1 : decode cX6_pointingAt 1 = .ok (.iconst 1, 1) := by decide +kernel
theorem dX6_pointingAt_2 : decode cX6_pointingAt 2 = .ok (.if_icmp .lt 9, 3) := by decide +kernel
theorem dX6_pointingAt_5 : decode cX6_pointingAt 5 = .ok (.iload_n 1, 1) := by decide +kernel
theorem dX6_pointingAt_6 : decode cX6_pointingAt 6 = .ok (.bipush 12, 2) := by decide +kernel
theorem dX6_pointingAt_8 : decode cX6_pointingAt 8 = .ok (.if_icmp .lt 5, 3) := by decide +kernel
theorem dX6_pointingAt_11 : decode cX6_pointingAt 11 = .ok (.iconst (-1), 1) := by decide +kernel
theorem dX6_pointingAt_12 : decode cX6_pointingAt 12 = .ok (.ireturn, 1) := by decide +kernel
theorem dX6_pointingAt_13 : decode cX6_pointingAt 13 = .ok (.aload_n 0, 1) := by decide +kernel
theorem dX6_pointingAt_14 : decode cX6_pointingAt 14 = .ok (.getfield 11, 3) := by decide +kernel
theorem dX6_pointingAt_17 : decode cX6_pointingAt 17 = .ok (.iload_n 1, 1) := by decide +kernel
theorem dX6_pointingAt_18 : decode cX6_pointingAt 18 = .ok (.iconst 1, 1) := by decide +kernel
theorem dX6_pointingAt_19 : decode cX6_pointingAt 19 = .ok (.isub, 1) := by decide +kernel
theorem dX6_pointingAt_20 : decode cX6_pointingAt 20 = .ok (.iaload, 1) := by decide +kernel
theorem dX6_pointingAt_21 : decode cX6_pointingAt 21 = .ok (.istore_n 2, 1) := by decide +kernel
theorem dX6_pointingAt_22 : decode cX6_pointingAt 22 = .ok (.aload_n 0, 1) := by decide +kernel
theorem dX6_pointingAt_23 : decode cX6_pointingAt 23 = .ok (.getfield 11, 3) := by decide +kernel
theorem dX6_pointingAt_26 : decode cX6_pointingAt 26 = .ok (.iload_n 1, 1) := by decide +kernel
theorem dX6_pointingAt_27 : decode cX6_pointingAt 27 = .ok (.iaload, 1) := by decide +kernel
theorem dX6_pointingAt_28 : decode cX6_pointingAt 28 = .ok (.iload_n 2, 1) := by decide +kernel
theorem dX6_pointingAt_29 : decode cX6_pointingAt 29 = .ok (.if_icmp .ne 5, 3) := by decide +kernel
theorem dX6_pointingAt_32 : decode cX6_pointingAt 32 = .ok (.iconst 1, 1) := by decide +kernel
theorem dX6_pointingAt_33 : decode cX6_pointingAt 33 = .ok (.ireturn, 1) := by decide +kernel
theorem dX6_pointingAt_34 : decode cX6_pointingAt 34 = .ok (.iload_n 1, 1) := by decide +kernel
theorem dX6_pointingAt_35 : decode cX6_pointingAt 35 = .ok (.iconst 2, 1) := by decide +kernel
theorem dX6_pointingAt_36 : decode cX6_pointingAt 36 = .ok (.isub, 1) := by decide +kernel
theorem dX6_pointingAt_37 : decode cX6_pointingAt 37 = .ok (.istore_n 3, 1) := by decide +kernel
theorem dX6_pointingAt_38 : decode cX6_pointingAt 38 = .ok (.iload_n 3, 1) := by decide +kernel
theorem dX6_pointingAt_39 : decode cX6_pointingAt 39 = .ok (.ifCond .lt 40, 3) := by decide +kernel
theorem dX6_pointingAt_42 : decode cX6_pointingAt 42 = .ok (.aload_n 0, 1) := by decide +kernel
theorem dX6_pointingAt_43 : decode cX6_pointingAt 43 = .ok (.getfield 11, 3) := by decide +kernel
theorem dX6_pointingAt_46 : decode cX6_pointingAt 46 = .ok (.iload_n 3, 1) := by decide +kernel
theorem dX6_pointingAt_47 : decode cX6_pointingAt 47 = .ok (.iaload, 1) := by decide +kernel
theorem dX6_pointingAt_48 : decode cX6_pointingAt 48 = .ok (.iload_n 2, 1) := by decide +kernel
theorem dX6_pointingAt_49 : decode cX6_pointingAt 49 = .ok (.if_icmp .eq 24, 3) := by decide +kernel
theorem dX6_pointingAt_52 : decode cX6_pointingAt 52 = .ok (.aload_n 0, 1) := by decide +kernel
theorem dX6_pointingAt_53 : decode cX6_pointingAt 53 = .ok (.getfield 11, 3) := by decide +kernel
theorem dX6_pointingAt_56 : decode cX6_pointingAt 56 = .ok (.iload_n 3, 1) := by decide +kernel
theorem dX6_pointingAt_57 : decode cX6_pointingAt 57 = .ok (.iaload, 1) := by decide +kernel
theorem dX6_pointingAt_58 : decode cX6_pointingAt 58 = .ok (.aload_n 0, 1) := by decide +kernel
theorem dX6_pointingAt_59 : decode cX6_pointingAt 59 = .ok (.getfield 11, 3) := by decide +kernel
theorem dX6_pointingAt_62 : decode cX6_pointingAt 62 = .ok (.iload_n 1, 1) := by decide +kernel
theorem dX6_pointingAt_63 : decode cX6_pointingAt 63 = .ok (.iaload, 1) := by decide +kernel
theorem dX6_pointingAt_64 : decode cX6_pointingAt 64 = .ok (.if_icmp .ne 7, 3) := by decide +kernel
theorem dX6_pointingAt_67 : decode cX6_pointingAt 67 = .ok (.iconst 2, 1) := by decide +kernel
theorem dX6_pointingAt_68 : decode cX6_pointingAt 68 = .ok (.goto 4, 3) := by decide +kernel
theorem dX6_pointingAt_71 : decode cX6_pointingAt 71 = .ok (.iconst (-1), 1) := by decide +kernel
theorem dX6_pointingAt_72 : decode cX6_pointingAt 72 = .ok (.ireturn, 1) := by decide +kernel
theorem dX6_pointingAt_73 : decode cX6_pointingAt 73 = .ok (.iinc 3 (-1), 3) := by decide +kernel
theorem dX6_pointingAt_76 : decode cX6_pointingAt 76 = .ok (.goto (-38), 3) := by decide +kernel
theorem dX6_pointingAt_79 : decode cX6_pointingAt 79 = .ok (.iconst (-1), 1) := by decide +kernel
theorem dX6_pointingAt_80 : decode cX6_pointingAt 80 = .ok (.ireturn, 1) := by decide +kernel
theorem dX7_init_0 : decode cX7_init 0 = .ok (.aload_n 0, 1) := by decide +kernel
theorem dX7_init_1 : decode cX7_init 1 = .ok (.invokespecial 3, 3) := by decide +kernel
theorem dX7_init_4 : decode cX7_init 4 = .ok (.aload_n 0, 1) := by decide +kernel
theorem dX7_init_5 : decode cX7_init 5 = .ok (.sipush 160, 3) := by decide +kernel
theorem dX7_init_8 : decode cX7_init 8 = .ok (.newarray .char, 2) := by decide +kernel
theorem dX7_init_10 : decode cX7_init 10 = .ok (.putfield 11, 3) := by decide +kernel
theorem dX7_init_13 : decode cX7_init 13 = .ok (.aload_n 0, 1) := by decide +kernel
theorem dX7_init_14 : decode cX7_init 14 = .ok (.new 15, 3) := by decide +kernel
theorem dX7_init_17 : decode cX7_init 17 = .ok (.dup, 1) := by decide +kernel
theorem dX7_init_18 : decode cX7_init 18 = .ok (.invokespecial 17, 3) := by decide +kernel
theorem dX7_init_21 : decode cX7_init 21 = .ok (.putfield 18, 3) := by decide +kernel
theorem dX7_init_24 : decode cX7_init 24 = .ok (.return_, 1) := by decide +kernel
theorem dX7_hasRoomFor_0 : decode cX7_hasRoomFor 0 = .ok (.aload_n 0, 1) := by decide +kernel
theorem dX7_hasRoomFor_1 : decode cX7_hasRoomFor 1 = .ok (.getfield 22, 3) := by decide +kernel
theorem dX7_hasRoomFor_4 : decode cX7_hasRoomFor 4 = .ok (.iload_n 1, 1) := by decide +kernel
theorem dX7_hasRoomFor_5 : decode cX7_hasRoomFor 5 = .ok (.iadd, 1) := by decide +kernel
theorem dX7_hasRoomFor_6 : decode cX7_hasRoomFor 6 = .ok (.sipush 160, 3) := by decide +kernel
theorem dX7_hasRoomFor_9 : decode cX7_hasRoomFor 9 = .ok (.if_icmp .gt 7, 3) := by decide +kernel
theorem dX7_hasRoomFor_12 : decode cX7_hasRoomFor 12 = .ok (.iconst 1, 1) := by decide +kernel
theorem dX7_hasRoomFor_13 : decode cX7_hasRoomFor 13 = .ok (.goto 4, 3) := by decide +kernel
theorem dX7_hasRoomFor_16 : decode cX7_hasRoomFor 16 = .ok (.iconst 0, 1) := by decide +kernel
theorem dX7_hasRoomFor_17 : decode cX7_hasRoomFor 17 = .ok (.ireturn, 1) := by decide +kernel
theorem dX7_append_0 : decode cX7_append 0 = .ok (.iconst 0, 1) := by decide +kernel
theorem dX7_append_1 : decode cX7_append 1 = .ok (.istore 4, 2) := by decide +kernel
theorem dX7_append_3 : decode cX7_append 3 = .ok (.iload 4, 2) := by decide +kernel
theorem dX7_append_5 : decode cX7_append 5 = .ok (.iload_n 3, 1) := by decide +kernel
theorem dX7_append_6 : decode cX7_append 6 = .ok (.if_icmp .ge 48, 3) := by decide +kernel
theorem dX7_append_9 : decode cX7_append 9 = .ok (.aload_n 0, 1) := by decide +kernel
theorem dX7_append_10 : decode cX7_append 10 = .ok (.getfield 22, 3) := by decide +kernel
theorem dX7_append_13 : decode cX7_append 13 = .ok (.sipush 160, 3) := by decide +kernel
theorem dX7_append_16 : decode cX7_append 16 = .ok (.if_icmp .ge 38, 3) := by decide +kernel
theorem dX7_append_19 : decode cX7_append 19 = .ok (.aload_n 0, 1) := by decide +kernel
theorem dX7_append_20 : decode cX7_append 20 = .ok (.getfield 11, 3) := by decide +kernel
theorem dX7_append_23 : decode cX7_append 23 = .ok (.aload_n 0, 1) := by decide +kernel
theorem dX7_append_24 : decode cX7_append 24 = .ok (.dup, 1) := by decide +kernel
theorem dX7_append_25 : decode cX7_append 25 = .ok (.getfield 22, 3) := by decide +kernel
theorem dX7_append_28 : decode cX7_append 28 = .ok (.dup_x1, 1) := by decide +kernel
theorem dX7_append_29 : decode cX7_append 29 = .ok (.iconst 1, 1) := by decide +kernel
theorem dX7_append_30 : decode cX7_append 30 = .ok (.iadd, 1) := by decide +kernel
theorem dX7_append_31 : decode cX7_append 31 = .ok (.putfield 22, 3) := by decide +kernel
theorem dX7_append_34 : decode cX7_append 34 = .ok (.lload_n 1, 1) := by decide +kernel
theorem dX7_append_35 : decode cX7_append 35 = .ok (.bipush 8, 2) := by decide +kernel
theorem dX7_append_37 : decode cX7_append 37 = .ok (.iload 4, 2) := by decide +kernel
theorem dX7_append_39 : decode cX7_append 39 = .ok (.imul, 1) := by decide +kernel
theorem dX7_append_40 : decode cX7_append 40 = .ok (.lshr, 1) := by decide +kernel
theorem dX7_append_41 : decode cX7_append 41 = .ok (.ldc2_w 26, 3) := by decide +kernel
theorem dX7_append_44 : decode cX7_append 44 = .ok (.land, 1) := by decide +kernel
theorem dX7_append_45 : decode cX7_append 45 = .ok (.l2i, 1) := by decide +kernel
theorem dX7_append_46 : decode cX7_append 46 = .ok (.i2c, 1) := by decide +kernel
theorem dX7_append_47 : decode cX7_append 47 = .ok (.castore, 1) := by decide +kernel
theorem dX7_append_48 : decode cX7_append 48 = .ok (.iinc 4 1, 3) := by decide +kernel
theorem dX7_append_51 : decode cX7_append 51 = .ok (.goto (-48), 3) := by decide +kernel
theorem dX7_append_54 : decode cX7_append 54 = .ok (.aload_n 0, 1) := by decide +kernel
theorem dX7_append_55 : decode cX7_append 55 = .ok (.getfield 22, 3) := by decide +kernel
theorem dX7_append_58 : decode cX7_append 58 = .ok (.ireturn, 1) := by decide +kernel
theorem dX7_clear_0 : decode cX7_clear 0 = .ok (.aload_n 0, 1) := by decide +kernel
theorem dX7_clear_1 : decode cX7_clear 1 = .ok (.getfield 22, 3) := by decide +kernel
theorem dX7_clear_4 : decode cX7_clear 4 = .ok (.istore_n 1, 1) := by decide +kernel
theorem dX7_clear_5 : decode cX7_clear 5 = .ok (.aload_n 0, 1) := by decide +kernel
theorem dX7_clear_6 : decode cX7_clear 6 = .ok (.iconst 0, 1) := by decide +kernel
theorem dX7_clear_7 : decode cX7_clear 7 = .ok (.putfield 22, 3) := by decide +kernel
theorem dX7_clear_10 : decode cX7_clear 10 = .ok (.iload_n 1, 1) := by decide +kernel
theorem dX7_clear_11 : decode cX7_clear 11 = .ok (.ireturn, 1) := by decide +kernel
theorem dX7_read_0 : decode cX7_read 0 = .ok (.aload_n 0, 1) := by decide +kernel
theorem dX7_read_1 : decode cX7_read 1 = .ok (.getfield 18, 3) := by decide +kernel
theorem dX7_read_4 : decode cX7_read 4 = .ok (.iconst 0, 1) := by decide +kernel
theorem dX7_read_5 : decode cX7_read 5 = .ok (.putfield 28, 3) := by decide +kernel
theorem dX7_read_8 : decode cX7_read 8 = .ok (.aload_n 0, 1) := by decide +kernel
theorem dX7_read_9 : decode cX7_read 9 = .ok (.iconst 1, 1) := by decide +kernel
theorem dX7_read_10 : decode cX7_read 10 = .ok (.putfield 29, 3) := by decide +kernel
theorem dX7_read_13 : decode cX7_read 13 = .ok (.aload_n 0, 1) := by decide +kernel
theorem dX7_read_14 : decode cX7_read 14 = .ok (.iconst 0, 1) := by decide +kernel
theorem dX7_read_15 : decode cX7_read 15 = .ok (.putfield 32, 3) := by decide +kernel
theorem dX7_read_18 : decode cX7_read 18 = .ok (.iconst 0, 1) := by decide +kernel
theorem dX7_read_19 : decode cX7_read 19 = .ok (.istore_n 1, 1) := by decide +kernel
theorem dX7_read_20 : decode cX7_read 20 = .ok (.iconst 0, 1) := by decide +kernel
theorem dX7_read_21 : decode cX7_read 21 = .ok (.istore_n 2, 1) := by decide +kernel
theorem dX7_read_22 : decode cX7_read 22 = .ok (.iload_n 2, 1) := by decide +kernel
theorem dX7_read_23 : decode cX7_read 23 = .ok (.aload_n 0, 1) := by decide +kernel
theorem dX7_read_24 : decode cX7_read 24 = .ok (.getfield 22, 3) := by decide +kernel
theorem dX7_read_27 : decode cX7_read 27 = .ok (.if_icmp .ge 71, 3) := by decide +kernel
theorem dX7_read_30 : decode cX7_read 30 = .ok (.iload_n 2, 1) := by decide +kernel
theorem dX7_read_31 : decode cX7_read 31 = .ok (.sipush 160, 3) := by decide +kernel
theorem dX7_read_34 : decode cX7_read 34 = .ok (.if_icmp .ge 64, 3) := by decide +kernel
theorem dX7_read_37 : decode cX7_read 37 = .ok (.iload_n 2, 1) := by decide +kernel
theorem dX7_read_38 : decode cX7_read 38 = .ok (.iload_n 1, 1) := by decide +kernel
theorem dX7_read_39 : decode cX7_read 39 = .ok (.if_icmp .lt 53, 3) := by decide +kernel
theorem dX7_read_42 : decode cX7_read 42 = .ok (.aload_n 0, 1) := by decide +kernel
theorem dX7_read_43 : decode cX7_read 43 = .ok (.getfield 11, 3) := by decide +kernel
theorem dX7_read_46 : decode cX7_read 46 = .ok (.iload_n 2, 1) := by decide +kernel
theorem dX7_read_47 : decode cX7_read 47 = .ok (.caload, 1) := by decide +kernel
theorem dX7_read_48 : decode cX7_read 48 = .ok (.bipush 32, 2) := by decide +kernel
theorem dX7_read_50 : decode cX7_read 50 = .ok (.if_icmp .ne 6, 3) := by decide +kernel
theorem dX7_read_53 : decode cX7_read 53 = .ok (.goto 39, 3) := by decide +kernel
theorem dX7_read_56 : decode cX7_read 56 = .ok (.aload_n 0, 1) := by decide +kernel
theorem dX7_read_57 : decode cX7_read 57 = .ok (.iload_n 2, 1) := by decide +kernel
theorem dX7_read_58 : decode cX7_read 58 = .ok (.invokevirtual 35, 3) := by decide +kernel
theorem dX7_read_61 : decode cX7_read 61 = .ok (.istore_n 1, 1) := by decide +kernel
theorem dX7_read_62 : decode cX7_read 62 = .ok (.aload_n 0, 1) := by decide +kernel
theorem dX7_read_63 : decode cX7_read 63 = .ok (.getfield 32, 3) := by decide +kernel
theorem dX7_read_66 : decode cX7_read 66 = .ok (.ifCond .le 15, 3) := by decide +kernel
theorem dX7_read_69 : decode cX7_read 69 = .ok (.aload_n 0, 1) := by decide +kernel
theorem dX7_read_70 : decode cX7_read 70 = .ok (.iload_n 2, 1) := by decide +kernel
theorem dX7_read_71 : decode cX7_read 71 = .ok (.iload_n 1, 1) := by decide +kernel
theorem dX7_read_72 : decode cX7_read 72 = .ok (.invokevirtual 39, 3) := by decide +kernel
theorem dX7_read_75 : decode cX7_read 75 = .ok (.ifCond .eq 15, 3) := by decide +kernel
theorem dX7_read_78 : decode cX7_read 78 = .ok (.goto 14, 3) := by decide +kernel
theorem dX7_read_81 : decode cX7_read 81 = .ok (.aload_n 0, 1) := by decide +kernel
theorem dX7_read_82 : decode cX7_read 82 = .ok (.iload_n 2, 1) := by decide +kernel
theorem dX7_read_83 : decode cX7_read 83 = .ok (.iload_n 1, 1) := by decide +kernel
theorem dX7_read_84 : decode cX7_read 84 = .ok (.invokevirtual 43, 3) := by decide +kernel
theorem dX7_read_87 : decode cX7_read 87 = .ok (.ifCond .ne 5, 3) := by decide +kernel
theorem dX7_read_90 : decode cX7_read 90 = .ok (.iload_n 2, 1) := by decide +kernel
theorem dX7_read_91 : decode cX7_read 91 = .ok (.ireturn, 1) := by decide +kernel
theorem dX7_read_92 : decode cX7_read 92 = .ok (.iinc 2 1, 3) := by decide +kernel
theorem dX7_read_95 : decode cX7_read 95 = .ok (.goto (-73), 3) := by decide +kernel
theorem dX7_read_98 : decode cX7_read 98 = .ok (.aload_n 0, 1) := by decide +kernel
theorem dX7_read_99 : decode cX7_read 99 = .ok (.getfield 29, 3) := by decide +kernel
theorem dX7_read_102 : decode cX7_read 102 = .ok (.ifCond .gt 10, 3) := by decide +kernel
theorem dX7_read_105 : decode cX7_read 105 = .ok (.aload_n 0, 1) := by decide +kernel
theorem dX7_read_106 : decode cX7_read 106 = .ok (.getfield 32, 3) := by decide +kernel
theorem dX7_read_109 : decode cX7_read 109 = .ok (.ifCond .le 10, 3) := by decide +kernel
theorem dX7_read_112 : decode cX7_read 112 = .ok (.aload_n 0, 1) := by decide +kernel
theorem dX7_read_113 : decode cX7_read 113 = .ok (.getfield 22, 3) := by decide +kernel
theorem dX7_read_116 : decode cX7_read 116 = .ok (.goto 4, 3) := by decide +kernel
theorem dX7_read_119 : decode cX7_read 119 = .ok (.iconst (-1), 1) := by decide +kernel
theorem dX7_read_120 : decode cX7_read 120 = .ok (.ireturn, 1) := by decide +kernel
theorem dX7_endOfToken_0 : decode cX7_endOfToken 0 = .ok (.aload_n 0, 1) := by decide +kernel
theorem dX7_endOfToken_1 : decode cX7_endOfToken 1 = .ok (.iload_n 1, 1) := by decide +kernel
theorem dX7_endOfToken_2 : decode cX7_endOfToken 2 = .ok (.invokevirtual 46, 3) := by decide +kernel
theorem dX7_endOfToken_5 : decode cX7_endOfToken 5 = .ok (.istore_n 2, 1) := by decide +kernel
theorem dX7_endOfToken_6 : decode cX7_endOfToken 6 = .ok (.iload_n 1, 1) := by decide +kernel
theorem dX7_endOfToken_7 : decode cX7_endOfToken 7 = .ok (.iconst 1, 1) := by decide +kernel
theorem dX7_endOfToken_8 : decode cX7_endOfToken 8 = .ok (.iadd, 1) := by decide +kernel
theorem dX7_endOfToken_9 : decode cX7_endOfToken 9 = .ok (.istore_n 3, 1) := by decide +kernel
theorem dX7_endOfToken_10 : decode cX7_endOfToken 10 = .ok (.iload_n 2, 1) := by decide +kernel
theorem dX7_endOfToken_11 : decode cX7_endOfToken 11 = .ok (.iconst 2, 1) := by decide +kernel
theorem dX7_endOfToken_12 : decode cX7_endOfToken 12 = .ok (.if_icmp .eq 33, 3) := by decide +kernel
theorem dX7_endOfToken_15 : decode cX7_endOfToken 15 = .ok (.iload_n 3, 1) := by decide +kernel
theorem dX7_endOfToken_16 : decode cX7_endOfToken 16 = .ok (.aload_n 0, 1) := by decide +kernel
theorem dX7_endOfToken_17 : decode cX7_endOfToken 17 = .ok (.getfield 22, 3) := by decide +kernel
theorem dX7_endOfToken_20 : decode cX7_endOfToken 20 = .ok (.if_icmp .ge 25, 3) := by decide +kernel
theorem dX7_endOfToken_23 : decode cX7_endOfToken 23 = .ok (.iload_n 3, 1) := by decide +kernel
theorem dX7_endOfToken_24 : decode cX7_endOfToken 24 = .ok (.sipush 160, 3) := by decide +kernel
theorem dX7_endOfToken_27 : decode cX7_endOfToken 27 = .ok (.if_icmp .ge 18, 3) := by decide +kernel
theorem dX7_endOfToken_30 : decode cX7_endOfToken 30 = .ok (.aload_n 0, 1) := by decide +kernel
theorem dX7_endOfToken_31 : decode cX7_endOfToken 31 = .ok (.iload_n 3, 1) := by decide +kernel
theorem dX7_endOfToken_32 : decode cX7_endOfToken 32 = .ok (.invokevirtual 46, 3) := by decide +kernel
theorem dX7_endOfToken_35 : decode cX7_endOfToken 35 = .ok (.iload_n 2, 1) := by decide +kernel
theorem dX7_endOfToken_36 : decode cX7_endOfToken 36 = .ok (.if_icmp .ne 9, 3) := by decide +kernel
theorem dX7_endOfToken_39 : decode cX7_endOfToken 39 = .ok (.iinc 3 1, 3) := by decide +kernel
theorem dX7_endOfToken_42 : decode cX7_endOfToken 42 = .ok (.goto (-27), 3) := by decide +kernel
theorem dX7_endOfToken_45 : decode cX7_endOfToken 45 = .ok (.iload_n 3, 1) := by decide +kernel
theorem dX7_endOfToken_46 : decode cX7_endOfToken 46 = .ok (.ireturn, 1) := by decide +kernel
theorem dX7_sortAt_0 : decode cX7_sortAt 0 = .ok (.iload_n 1, 1) := by decide +kernel
theorem dX7_sortAt_1 : decode cX7_sortAt 1 = .ok (.sipush 160, 3) := by decide +kernel
theorem dX7_sortAt_4 : decode cX7_sortAt 4 = .ok (.invokestatic 49, 3) := by decide +kernel
theorem dX7_sortAt_7 : decode cX7_sortAt 7 = .ok (.ifCond .eq 12, 3) := by decide +kernel
theorem dX7_sortAt_10 : decode cX7_sortAt 10 = .ok (.aload_n 0, 1) := by decide +kernel
theorem dX7_sortAt_11 : decode cX7_sortAt 11 = .ok (.getfield 11, 3) := by decide +kernel
theorem dX7_sortAt_14 : decode cX7_sortAt 14 = .ok (.iload_n 1, 1) := by decide +kernel
theorem dX7_sortAt_15 : decode cX7_sortAt 15 = .ok (.caload, 1) := by decide +kernel
theorem dX7_sortAt_16 : decode cX7_sortAt 16 = .ok (.goto 5, 3) := by decide +kernel
theorem dX7_sortAt_19 : decode cX7_sortAt 19 = .ok (.bipush 32, 2) := by decide +kernel
theorem dX7_sortAt_21 : decode cX7_sortAt 21 = .ok (.istore_n 2, 1) := by decide +kernel
theorem dX7_sortAt_22 : decode cX7_sortAt 22 = .ok (.iload_n 2, 1) := by decide +kernel
theorem dX7_sortAt_23 : decode cX7_sortAt 23 = .ok (.bipush 97, 2) := by decide +kernel
theorem dX7_sortAt_25 : decode cX7_sortAt 25 = .ok (.if_icmp .lt 11, 3) := by decide +kernel
theorem dX7_sortAt_28 : decode cX7_sortAt 28 = .ok (.iload_n 2, 1) := by decide +kernel
theorem dX7_sortAt_29 : decode cX7_sortAt 29 = .ok (.bipush 122, 2) := by decide +kernel
theorem dX7_sortAt_31 : decode cX7_sortAt 31 = .ok (.if_icmp .gt 5, 3) := by decide +kernel
theorem dX7_sortAt_34 : decode cX7_sortAt 34 = .ok (.iconst 0, 1) := by decide +kernel
theorem dX7_sortAt_35 : decode cX7_sortAt 35 = .ok (.ireturn, 1) := by decide +kernel
theorem dX7_sortAt_36 : decode cX7_sortAt 36 = .ok (.iload_n 2, 1) := by decide +kernel
theorem dX7_sortAt_37 : decode cX7_sortAt 37 = .ok (.bipush 48, 2) := by decide +kernel
theorem dX7_sortAt_39 : decode cX7_sortAt 39 = .ok (.if_icmp .lt 13, 3) := by decide +kernel
theorem dX7_sortAt_42 : decode cX7_sortAt 42 = .ok (.iload_n 2, 1) := by decide +kernel
theorem dX7_sortAt_43 : decode cX7_sortAt 43 = .ok (.bipush 57, 2) := by decide +kernel
theorem dX7_sortAt_45 : decode cX7_sortAt 45 = .ok (.if_icmp .gt 7, 3) := by decide +kernel
theorem dX7_sortAt_48 : decode cX7_sortAt 48 = .ok (.iconst 1, 1) := by decide +kernel
theorem dX7_sortAt_49 : decode cX7_sortAt 49 = .ok (.goto 4, 3) := by decide +kernel
theorem dX7_sortAt_52 : decode cX7_sortAt 52 = .ok (.iconst 2, 1) := by decide +kernel
theorem dX7_sortAt_53 : decode cX7_sortAt 53 = .ok (.ireturn, 1) := by decide +kernel
theorem dX7_readNumber_0 : decode cX7_readNumber 0 = .ok (.iload_n 2, 1) := by decide +kernel
theorem dX7_readNumber_1 : decode cX7_readNumber 1 = .ok (.iload_n 1, 1) := by decide +kernel
theorem dX7_readNumber_2 : decode cX7_readNumber 2 = .ok (.isub, 1) := by decide +kernel
theorem dX7_readNumber_3 : decode cX7_readNumber 3 = .ok (.iconst 1, 1) := by decide +kernel
theorem dX7_readNumber_4 : decode cX7_readNumber 4 = .ok (.if_icmp .ne 32, 3) := by decide +kernel
theorem dX7_readNumber_7 : decode cX7_readNumber 7 = .ok (.iload_n 1, 1) := by decide +kernel
theorem dX7_readNumber_8 : decode cX7_readNumber 8 = .ok (.sipush 160, 3) := by decide +kernel
theorem dX7_readNumber_11 : decode cX7_readNumber 11 = .ok (.invokestatic 49, 3) := by decide +kernel
theorem dX7_readNumber_14 : decode cX7_readNumber 14 = .ok (.ifCond .eq 22, 3) := by decide +kernel
theorem dX7_readNumber_17 : decode cX7_readNumber 17 = .ok (.aload_n 0, 1) := by decide +kernel
theorem dX7_readNumber_18 : decode cX7_readNumber 18 = .ok (.getfield 11, 3) := by decide +kernel
theorem dX7_readNumber_21 : decode cX7_readNumber 21 = .ok (.iload_n 1, 1) := by decide +kernel
theorem dX7_readNumber_22 : decode cX7_readNumber 22 = .ok (.caload, 1) := by decide +kernel
theorem dX7_readNumber_23 : decode cX7_readNumber 23 = .ok (.bipush 48, 2) := by decide +kernel
theorem dX7_readNumber_25 : decode cX7_readNumber 25 = .ok (.isub, 1) := by decide +kernel
theorem dX7_readNumber_26 : decode cX7_readNumber 26 = .ok (.aload_n 0, 1) := by decide +kernel
theorem dX7_readNumber_27 : decode cX7_readNumber 27 = .ok (.getfield 32, 3) := by decide +kernel
theorem dX7_readNumber_30 : decode cX7_readNumber 30 = .ok (.invokestatic 49, 3) := by decide +kernel
theorem dX7_readNumber_33 : decode cX7_readNumber 33 = .ok (.ifCond .ne 5, 3) := by decide +kernel
theorem dX7_readNumber_36 : decode cX7_readNumber 36 = .ok (.iconst 0, 1) := by decide +kernel
theorem dX7_readNumber_37 : decode cX7_readNumber 37 = .ok (.ireturn, 1) := by decide +kernel
theorem dX7_readNumber_38 : decode cX7_readNumber 38 = .ok (.aload_n 0, 1) := by decide +kernel
theorem dX7_readNumber_39 : decode cX7_readNumber 39 = .ok (.getfield 18, 3) := by decide +kernel
theorem dX7_readNumber_42 : decode cX7_readNumber 42 = .ok (.aload_n 0, 1) := by decide +kernel
theorem dX7_readNumber_43 : decode cX7_readNumber 43 = .ok (.getfield 11, 3) := by decide +kernel
theorem dX7_readNumber_46 : decode cX7_readNumber 46 = .ok (.iload_n 1, 1) := by decide +kernel
theorem dX7_readNumber_47 : decode cX7_readNumber 47 = .ok (.caload, 1) := by decide +kernel
theorem dX7_readNumber_48 : decode cX7_readNumber 48 = .ok (.bipush 48, 2) := by decide +kernel
theorem dX7_readNumber_50 : decode cX7_readNumber 50 = .ok (.isub, 1) := by decide +kernel
theorem dX7_readNumber_51 : decode cX7_readNumber 51 = .ok (.invokevirtual 52, 3) := by decide +kernel
theorem dX7_readNumber_54 : decode cX7_readNumber 54 = .ok (.aload_n 0, 1) := by decide +kernel
theorem dX7_readNumber_55 : decode cX7_readNumber 55 = .ok (.iconst 0, 1) := by decide +kernel
theorem dX7_readNumber_56 : decode cX7_readNumber 56 = .ok (.putfield 32, 3) := by decide +kernel
theorem dX7_readNumber_59 : decode cX7_readNumber 59 = .ok (.iconst 1, 1) := by decide +kernel
theorem dX7_readNumber_60 : decode cX7_readNumber 60 = .ok (.ireturn, 1) := by decide +kernel
theorem dX7_readWord_0 : decode cX7_readWord 0 = .ok (.aload_n 0, 1) := by decide +kernel
theorem dX7_readWord_1 : decode cX7_readWord 1 = .ok (.getfield 29, 3) := by decide +kernel
theorem dX7_readWord_4 : decode cX7_readWord 4 = .ok (.ifCond .le 15, 3) := by decide +kernel
theorem dX7_readWord_7 : decode cX7_readWord 7 = .ok (.aload_n 0, 1) := by decide +kernel
theorem dX7_readWord_8 : decode cX7_readWord 8 = .ok (.getfield 11, 3) := by decide +kernel
theorem dX7_readWord_11 : decode cX7_readWord 11 = .ok (.iload_n 1, 1) := by decide +kernel
theorem dX7_readWord_12 : decode cX7_readWord 12 = .ok (.iload_n 2, 1) := by decide +kernel
theorem dX7_readWord_13 : decode cX7_readWord 13 = .ok (.invokestatic 56, 3) := by decide +kernel
theorem dX7_readWord_16 : decode cX7_readWord 16 = .ok (.goto 4, 3) := by decide +kernel
theorem dX7_readWord_19 : decode cX7_readWord 19 = .ok (.iconst (-1), 1) := by decide +kernel
theorem dX7_readWord_20 : decode cX7_readWord 20 = .ok (.istore_n 3, 1) := by decide +kernel
theorem dX7_readWord_21 : decode cX7_readWord 21 = .ok (.iload_n 3, 1) := by decide +kernel
theorem dX7_readWord_22 : decode cX7_readWord 22 = .ok (.iconst (-1), 1) := by decide +kernel
theorem dX7_readWord_23 : decode cX7_readWord 23 = .ok (.if_icmp .eq 17, 3) := by decide +kernel
theorem dX7_readWord_26 : decode cX7_readWord 26 = .ok (.aload_n 0, 1) := by decide +kernel
theorem dX7_readWord_27 : decode cX7_readWord 27 = .ok (.getfield 18, 3) := by decide +kernel
theorem dX7_readWord_30 : decode cX7_readWord 30 = .ok (.bipush 8, 2) := by decide +kernel
theorem dX7_readWord_32 : decode cX7_readWord 32 = .ok (.iload_n 3, 1) := by decide +kernel
theorem dX7_readWord_33 : decode cX7_readWord 33 = .ok (.imul, 1) := by decide +kernel
theorem dX7_readWord_34 : decode cX7_readWord 34 = .ok (.invokevirtual 62, 3) := by decide +kernel
theorem dX7_readWord_37 : decode cX7_readWord 37 = .ok (.ifCond .ne 5, 3) := by decide +kernel
theorem dX7_readWord_40 : decode cX7_readWord 40 = .ok (.iconst 0, 1) := by decide +kernel
theorem dX7_readWord_41 : decode cX7_readWord 41 = .ok (.ireturn, 1) := by decide +kernel
theorem dX7_readWord_42 : decode cX7_readWord 42 = .ok (.aload_n 0, 1) := by decide +kernel
theorem dX7_readWord_43 : decode cX7_readWord 43 = .ok (.dup, 1) := by decide +kernel
theorem dX7_readWord_44 : decode cX7_readWord 44 = .ok (.getfield 29, 3) := by decide +kernel
theorem dX7_readWord_47 : decode cX7_readWord 47 = .ok (.iload_n 3, 1) := by decide +kernel
theorem dX7_readWord_48 : decode cX7_readWord 48 = .ok (.invokestatic 66, 3) := by decide +kernel
theorem dX7_readWord_51 : decode cX7_readWord 51 = .ok (.iconst 1, 1) := by decide +kernel
theorem dX7_readWord_52 : decode cX7_readWord 52 = .ok (.isub, 1) := by decide +kernel
theorem dX7_readWord_53 : decode cX7_readWord 53 = .ok (.iadd, 1) := by decide +kernel
theorem dX7_readWord_54 : decode cX7_readWord 54 = .ok (.putfield 29, 3) := by decide +kernel
theorem dX7_readWord_57 : decode cX7_readWord 57 = .ok (.aload_n 0, 1) := by decide +kernel
theorem dX7_readWord_58 : decode cX7_readWord 58 = .ok (.iload_n 3, 1) := by decide +kernel
theorem dX7_readWord_59 : decode cX7_readWord 59 = .ok (.invokestatic 69, 3) := by decide +kernel
theorem dX7_readWord_62 : decode cX7_readWord 62 = .ok (.putfield 32, 3) := by decide +kernel
theorem dX7_readWord_65 : decode cX7_readWord 65 = .ok (.iconst 1, 1) := by decide +kernel
theorem dX7_readWord_66 : decode cX7_readWord 66 = .ok (.ireturn, 1) := by decide +kernel
theorem dX8_init_0 : decode cX8_init 0 = .ok (.aload_n 0, 1) := by decide +kernel
theorem dX8_init_1 : decode cX8_init 1 = .ok (.invokespecial 3, 3) := by decide +kernel
theorem dX8_init_4 : decode cX8_init 4 = .ok (.aload_n 0, 1) := by decide +kernel
theorem dX8_init_5 : decode cX8_init 5 = .ok (.bipush 8, 2) := by decide +kernel
theorem dX8_init_7 : decode cX8_init 7 = .ok (.newarray .int, 2) := by decide +kernel
theorem dX8_init_9 : decode cX8_init 9 = .ok (.putfield 9, 3) := by decide +kernel
theorem dX8_init_12 : decode cX8_init 12 = .ok (.aload_n 0, 1) := by decide +kernel
theorem dX8_init_13 : decode cX8_init 13 = .ok (.bipush 8, 2) := by decide +kernel
theorem dX8_init_15 : decode cX8_init 15 = .ok (.newarray .int, 2) := by decide +kernel
theorem dX8_init_17 : decode cX8_init 17 = .ok (.putfield 15, 3) := by decide +kernel
theorem dX8_init_20 : decode cX8_init 20 = .ok (.aload_n 0, 1) := by decide +kernel
theorem dX8_init_21 : decode cX8_init 21 = .ok (.bipush 8, 2) := by decide +kernel
theorem dX8_init_23 : decode cX8_init 23 = .ok (.newarray .int, 2) := by decide +kernel
theorem dX8_init_25 : decode cX8_init 25 = .ok (.putfield 18, 3) := by decide +kernel
theorem dX8_init_28 : decode cX8_init 28 = .ok (.return_, 1) := by decide +kernel
theorem dX8_find_0 : decode cX8_find 0 = .ok (.iconst 0, 1) := by decide +kernel
theorem dX8_find_1 : decode cX8_find 1 = .ok (.istore_n 2, 1) := by decide +kernel
theorem dX8_find_2 : decode cX8_find 2 = .ok (.iload_n 2, 1) := by decide +kernel
theorem dX8_find_3 : decode cX8_find 3 = .ok (.aload_n 1, 1) := by decide +kernel
theorem dX8_find_4 : decode cX8_find 4 = .ok (.getfield 21, 3) := by decide +kernel
theorem dX8_find_7 : decode cX8_find 7 = .ok (.if_icmp .ge 33, 3) := by decide +kernel
theorem dX8_find_10 : decode cX8_find 10 = .ok (.iload_n 2, 1) := by decide +kernel
theorem dX8_find_11 : decode cX8_find 11 = .ok (.bipush 8, 2) := by decide +kernel
theorem dX8_find_13 : decode cX8_find 13 = .ok (.if_icmp .ge 27, 3) := by decide +kernel
theorem dX8_find_16 : decode cX8_find 16 = .ok (.aload_n 0, 1) := by decide +kernel
theorem dX8_find_17 : decode cX8_find 17 = .ok (.getfield 9, 3) := by decide +kernel
theorem dX8_find_20 : decode cX8_find 20 = .ok (.iload_n 2, 1) := by decide +kernel
theorem dX8_find_21 : decode cX8_find 21 = .ok (.aload_n 1, 1) := by decide +kernel
theorem dX8_find_22 : decode cX8_find 22 = .ok (.iload_n 2, 1) := by decide +kernel
theorem dX8_find_23 : decode cX8_find 23 = .ok (.invokestatic 27, 3) := by decide +kernel
theorem dX8_find_26 : decode cX8_find 26 = .ok (.iastore, 1) := by decide +kernel
theorem dX8_find_27 : decode cX8_find 27 = .ok (.aload_n 0, 1) := by decide +kernel
theorem dX8_find_28 : decode cX8_find 28 = .ok (.getfield 15, 3) := by decide +kernel
theorem dX8_find_31 : decode cX8_find 31 = .ok (.iload_n 2, 1) := by decide +kernel
theorem dX8_find_32 : decode cX8_find 32 = .ok (.iconst 0, 1) := by decide +kernel
theorem dX8_find_33 : decode cX8_find 33 = .ok (.iastore, 1) := by decide +kernel
theorem dX8_find_34 : decode cX8_find 34 = .ok (.iinc 2 1, 3) := by decide +kernel
theorem dX8_find_37 : decode cX8_find 37 = .ok (.goto (-35), 3) := by decide +kernel
theorem dX8_find_40 : decode cX8_find 40 = .ok (.iconst 1, 1) := by decide +kernel
theorem dX8_find_41 : decode cX8_find 41 = .ok (.istore_n 2, 1) := by decide +kernel
theorem dX8_find_42 : decode cX8_find 42 = .ok (.iload_n 2, 1) := by decide +kernel
theorem dX8_find_43 : decode cX8_find 43 = .ok (.bipush 8, 2) := by decide +kernel
theorem dX8_find_45 : decode cX8_find 45 = .ok (.if_icmp .gt 19, 3) := by decide +kernel
theorem dX8_find_48 : decode cX8_find 48 = .ok (.aload_n 0, 1) := by decide +kernel
theorem dX8_find_49 : decode cX8_find 49 = .ok (.aload_n 1, 1) := by decide +kernel
theorem dX8_find_50 : decode cX8_find 50 = .ok (.iload_n 2, 1) := by decide +kernel
theorem dX8_find_51 : decode cX8_find 51 = .ok (.invokevirtual 31, 3) := by decide +kernel
theorem dX8_find_54 : decode cX8_find 54 = .ok (.ifCond .ne 4, 3) := by decide +kernel
theorem dX8_find_57 : decode cX8_find 57 = .ok (.return_, 1) := by decide +kernel
theorem dX8_find_58 : decode cX8_find 58 = .ok (.iinc 2 1, 3) := by decide +kernel
theorem dX8_find_61 : decode cX8_find 61 = .ok (.goto (-19), 3) := by decide +kernel
theorem dX8_find_64 : decode cX8_find 64 = .ok (.return_, 1) := by decide +kernel
theorem dX8_sorts_0 : decode cX8_sorts 0 = .ok (.iconst 0, 1) := by decide +kernel
theorem dX8_sorts_1 : decode cX8_sorts 1 = .ok (.istore_n 2, 1) := by decide +kernel
theorem dX8_sorts_2 : decode cX8_sorts 2 = .ok (.iconst 0, 1) := by decide +kernel
theorem dX8_sorts_3 : decode cX8_sorts 3 = .ok (.istore_n 3, 1) := by decide +kernel
theorem dX8_sorts_4 : decode cX8_sorts 4 = .ok (.iload_n 3, 1) := by decide +kernel
theorem dX8_sorts_5 : decode cX8_sorts 5 = .ok (.iload_n 1, 1) := by decide +kernel
theorem dX8_sorts_6 : decode cX8_sorts 6 = .ok (.if_icmp .ge 31, 3) := by decide +kernel
theorem dX8_sorts_9 : decode cX8_sorts 9 = .ok (.iload_n 3, 1) := by decide +kernel
theorem dX8_sorts_10 : decode cX8_sorts 10 = .ok (.bipush 8, 2) := by decide +kernel
theorem dX8_sorts_12 : decode cX8_sorts 12 = .ok (.if_icmp .ge 25, 3) := by decide +kernel
theorem dX8_sorts_15 : decode cX8_sorts 15 = .ok (.aload_n 0, 1) := by decide +kernel
theorem dX8_sorts_16 : decode cX8_sorts 16 = .ok (.getfield 9, 3) := by decide +kernel
theorem dX8_sorts_19 : decode cX8_sorts 19 = .ok (.iload_n 3, 1) := by decide +kernel
theorem dX8_sorts_20 : decode cX8_sorts 20 = .ok (.iaload, 1) := by decide +kernel
theorem dX8_sorts_21 : decode cX8_sorts 21 = .ok (.invokestatic 35, 3) := by decide +kernel
theorem dX8_sorts_24 : decode cX8_sorts 24 = .ok (.iload_n 3, 1) := by decide +kernel
theorem dX8_sorts_25 : decode cX8_sorts 25 = .ok (.if_icmp .ne 6, 3) := by decide +kernel
theorem dX8_sorts_28 : decode cX8_sorts 28 = .ok (.iinc 2 1, 3) := by decide +kernel
theorem dX8_sorts_31 : decode cX8_sorts 31 = .ok (.iinc 3 1, 3) := by decide +kernel
theorem dX8_sorts_34 : decode cX8_sorts 34 = .ok (.goto (-30), 3) := by decide +kernel
theorem dX8_sorts_37 : decode cX8_sorts 37 = .ok (.iload_n 2, 1) := by decide +kernel
theorem dX8_sorts_38 : decode cX8_sorts 38 = .ok (.ireturn, 1) := by decide +kernel
theorem dX8_looksLike_0 : decode cX8_looksLike 0 = .ok (.iconst 0, 1) := by decide +kernel
theorem dX8_looksLike_1 : decode cX8_looksLike 1 = .ok (.istore_n 2, 1) := by decide +kernel
theorem dX8_looksLike_2 : decode cX8_looksLike 2 = .ok (.iconst 0, 1) := by decide +kernel
theorem dX8_looksLike_3 : decode cX8_looksLike 3 = .ok (.istore_n 3, 1) := by decide +kernel
theorem dX8_looksLike_4 : decode cX8_looksLike 4 = .ok (.iload_n 3, 1) := by decide +kernel
theorem dX8_looksLike_5 : decode cX8_looksLike 5 = .ok (.aload_n 0, 1) := by decide +kernel
theorem dX8_looksLike_6 : decode cX8_looksLike 6 = .ok (.getfield 21, 3) := by decide +kernel
theorem dX8_looksLike_9 : decode cX8_looksLike 9 = .ok (.if_icmp .ge 78, 3) := by decide +kernel
theorem dX8_looksLike_12 : decode cX8_looksLike 12 = .ok (.iload_n 3, 1) := by decide +kernel
theorem dX8_looksLike_13 : decode cX8_looksLike 13 = .ok (.bipush 8, 2) := by decide +kernel
theorem dX8_looksLike_15 : decode cX8_looksLike 15 = .ok (.if_icmp .ge 72, 3) := by decide +kernel
theorem dX8_looksLike_18 : decode cX8_looksLike 18 = .ok (.aload_n 0, 1) := by decide +kernel
theorem dX8_looksLike_19 : decode cX8_looksLike 19 = .ok (.getfield 41, 3) := by decide +kernel
theorem dX8_looksLike_22 : decode cX8_looksLike 22 = .ok (.iconst 0, 1) := by decide +kernel
theorem dX8_looksLike_23 : decode cX8_looksLike 23 = .ok (.aaload, 1) := by decide +kernel
theorem dX8_looksLike_24 : decode cX8_looksLike 24 = .ok (.iload_n 3, 1) := by decide +kernel
theorem dX8_looksLike_25 : decode cX8_looksLike 25 = .ok (.iaload, 1) := by decide +kernel
theorem dX8_looksLike_26 : decode cX8_looksLike 26 = .ok (.aload_n 0, 1) := by decide +kernel
theorem dX8_looksLike_27 : decode cX8_looksLike 27 = .ok (.getfield 41, 3) := by decide +kernel
theorem dX8_looksLike_30 : decode cX8_looksLike 30 = .ok (.iconst 0, 1) := by decide +kernel
theorem dX8_looksLike_31 : decode cX8_looksLike 31 = .ok (.aaload, 1) := by decide +kernel
theorem dX8_looksLike_32 : decode cX8_looksLike 32 = .ok (.iload_n 1, 1) := by decide +kernel
theorem dX8_looksLike_33 : decode cX8_looksLike 33 = .ok (.iaload, 1) := by decide +kernel
theorem dX8_looksLike_34 : decode cX8_looksLike 34 = .ok (.if_icmp .ne 47, 3) := by decide +kernel
theorem dX8_looksLike_37 : decode cX8_looksLike 37 = .ok (.aload_n 0, 1) := by decide +kernel
theorem dX8_looksLike_38 : decode cX8_looksLike 38 = .ok (.getfield 41, 3) := by decide +kernel
theorem dX8_looksLike_41 : decode cX8_looksLike 41 = .ok (.iconst 1, 1) := by decide +kernel
theorem dX8_looksLike_42 : decode cX8_looksLike 42 = .ok (.aaload, 1) := by decide +kernel
theorem dX8_looksLike_43 : decode cX8_looksLike 43 = .ok (.iload_n 3, 1) := by decide +kernel
theorem dX8_looksLike_44 : decode cX8_looksLike 44 = .ok (.iaload, 1) := by decide +kernel
theorem dX8_looksLike_45 : decode cX8_looksLike 45 = .ok (.aload_n 0, 1) := by decide +kernel
theorem dX8_looksLike_46 : decode cX8_looksLike 46 = .ok (.getfield 41, 3) := by decide +kernel
theorem dX8_looksLike_49 : decode cX8_looksLike 49 = .ok (.iconst 1, 1) := by decide +kernel
theorem dX8_looksLike_50 : decode cX8_looksLike 50 = .ok (.aaload, 1) := by decide +kernel
theorem dX8_looksLike_51 : decode cX8_looksLike 51 = .ok (.iload_n 1, 1) := by decide +kernel
theorem dX8_looksLike_52 : decode cX8_looksLike 52 = .ok (.iaload, 1) := by decide +kernel
theorem dX8_looksLike_53 : decode cX8_looksLike 53 = .ok (.if_icmp .ne 28, 3) := by decide +kernel
theorem dX8_looksLike_56 : decode cX8_looksLike 56 = .ok (.aload_n 0, 1) := by decide +kernel
theorem dX8_looksLike_57 : decode cX8_looksLike 57 = .ok (.getfield 41, 3) := by decide +kernel
theorem dX8_looksLike_60 : decode cX8_looksLike 60 = .ok (.iconst 3, 1) := by decide +kernel
theorem dX8_looksLike_61 : decode cX8_looksLike 61 = .ok (.aaload, 1) := by decide +kernel
theorem dX8_looksLike_62 : decode cX8_looksLike 62 = .ok (.iload_n 3, 1) := by decide +kernel
theorem dX8_looksLike_63 : decode cX8_looksLike 63 = .ok (.iaload, 1) := by decide +kernel
theorem dX8_looksLike_64 : decode cX8_looksLike 64 = .ok (.aload_n 0, 1) := by decide +kernel
theorem dX8_looksLike_65 : decode cX8_looksLike 65 = .ok (.getfield 41, 3) := by decide +kernel
theorem dX8_looksLike_68 : decode cX8_looksLike 68 = .ok (.iconst 3, 1) := by decide +kernel
theorem dX8_looksLike_69 : decode cX8_looksLike 69 = .ok (.aaload, 1) := by decide +kernel
theorem dX8_looksLike_70 : decode cX8_looksLike 70 = .ok (.iload_n 1, 1) := by decide +kernel
theorem dX8_looksLike_71 : decode cX8_looksLike 71 = .ok (.iaload, 1) := by decide +kernel
theorem dX8_looksLike_72 : decode cX8_looksLike 72 = .ok (.if_icmp .ne 9, 3) := by decide +kernel
theorem dX8_looksLike_75 : decode cX8_looksLike 75 = .ok (.iload_n 2, 1) := by decide +kernel
theorem dX8_looksLike_76 : decode cX8_looksLike 76 = .ok (.iconst 1, 1) := by decide +kernel
theorem dX8_looksLike_77 : decode cX8_looksLike 77 = .ok (.iload_n 3, 1) := by decide +kernel
theorem dX8_looksLike_78 : decode cX8_looksLike 78 = .ok (.ishl, 1) := by decide +kernel
theorem dX8_looksLike_79 : decode cX8_looksLike 79 = .ok (.ior, 1) := by decide +kernel
theorem dX8_looksLike_80 : decode cX8_looksLike 80 = .ok (.istore_n 2, 1) := by decide +kernel
theorem dX8_looksLike_81 : decode cX8_looksLike 81 = .ok (.iinc 3 1, 3) := by decide +kernel
theorem dX8_looksLike_84 : decode cX8_looksLike 84 = .ok (.goto (-80), 3) := by decide +kernel
theorem dX8_looksLike_87 : decode cX8_looksLike 87 = .ok (.iload_n 2, 1) := by decide +kernel
theorem dX8_looksLike_88 : decode cX8_looksLike 88 = .ok (.ireturn, 1) := by decide +kernel
theorem dX8_part_0 : decode cX8_part 0 = .ok (.aload_n 0, 1) := by decide +kernel
theorem dX8_part_1 : decode cX8_part 1 = .ok (.getfield 9, 3) := by decide +kernel
theorem dX8_part_4 : decode cX8_part 4 = .ok (.iconst 0, 1) := by decide +kernel
theorem dX8_part_5 : decode cX8_part 5 = .ok (.aload_n 0, 1) := by decide +kernel
theorem dX8_part_6 : decode cX8_part 6 = .ok (.getfield 18, 3) := by decide +kernel
theorem dX8_part_9 : decode cX8_part 9 = .ok (.iconst 0, 1) := by decide +kernel
theorem dX8_part_10 : decode cX8_part 10 = .ok (.bipush 8, 2) := by decide +kernel
theorem dX8_part_12 : decode cX8_part 12 = .ok (.invokestatic 45, 3) := by decide +kernel
theorem dX8_part_15 : decode cX8_part 15 = .ok (.iconst 0, 1) := by decide +kernel
theorem dX8_part_16 : decode cX8_part 16 = .ok (.istore_n 3, 1) := by decide +kernel
theorem dX8_part_17 : decode cX8_part 17 = .ok (.iconst 0, 1) := by decide +kernel
theorem dX8_part_18 : decode cX8_part 18 = .ok (.istore 4, 2) := by decide +kernel
theorem dX8_part_20 : decode cX8_part 20 = .ok (.iload 4, 2) := by decide +kernel
theorem dX8_part_22 : decode cX8_part 22 = .ok (.aload_n 1, 1) := by decide +kernel
theorem dX8_part_23 : decode cX8_part 23 = .ok (.getfield 21, 3) := by decide +kernel
theorem dX8_part_26 : decode cX8_part 26 = .ok (.if_icmp .ge 95, 3) := by decide +kernel
theorem dX8_part_29 : decode cX8_part 29 = .ok (.iload 4, 2) := by decide +kernel
theorem dX8_part_31 : decode cX8_part 31 = .ok (.bipush 8, 2) := by decide +kernel
theorem dX8_part_33 : decode cX8_part 33 = .ok (.if_icmp .ge 88, 3) := by decide +kernel
theorem dX8_part_36 : decode cX8_part 36 = .ok (.iconst 0, 1) := by decide +kernel
theorem dX8_part_37 : decode cX8_part 37 = .ok (.istore 5, 2) := by decide +kernel
theorem dX8_part_39 : decode cX8_part 39 = .ok (.iload 5, 2) := by decide +kernel
theorem dX8_part_41 : decode cX8_part 41 = .ok (.aload_n 1, 1) := by decide +kernel
theorem dX8_part_42 : decode cX8_part 42 = .ok (.getfield 21, 3) := by decide +kernel
theorem dX8_part_45 : decode cX8_part 45 = .ok (.if_icmp .ge 70, 3) := by decide +kernel
theorem dX8_part_48 : decode cX8_part 48 = .ok (.iload 5, 2) := by decide +kernel
theorem dX8_part_50 : decode cX8_part 50 = .ok (.bipush 8, 2) := by decide +kernel
theorem dX8_part_52 : decode cX8_part 52 = .ok (.if_icmp .ge 63, 3) := by decide +kernel
theorem dX8_part_55 : decode cX8_part 55 = .ok (.aload_n 0, 1) := by decide +kernel
theorem dX8_part_56 : decode cX8_part 56 = .ok (.getfield 18, 3) := by decide +kernel
theorem dX8_part_59 : decode cX8_part 59 = .ok (.iload 4, 2) := by decide +kernel
theorem dX8_part_61 : decode cX8_part 61 = .ok (.iaload, 1) := by decide +kernel
theorem dX8_part_62 : decode cX8_part 62 = .ok (.iload 5, 2) := by decide +kernel
theorem dX8_part_64 : decode cX8_part 64 = .ok (.ishr, 1) := by decide +kernel
theorem dX8_part_65 : decode cX8_part 65 = .ok (.iconst 1, 1) := by decide +kernel
theorem dX8_part_66 : decode cX8_part 66 = .ok (.iand, 1) := by decide +kernel
theorem dX8_part_67 : decode cX8_part 67 = .ok (.iconst 1, 1) := by decide +kernel
theorem dX8_part_68 : decode cX8_part 68 = .ok (.if_icmp .ne 41, 3) := by decide +kernel
theorem dX8_part_71 : decode cX8_part 71 = .ok (.aload_n 0, 1) := by decide +kernel
theorem dX8_part_72 : decode cX8_part 72 = .ok (.aload_n 1, 1) := by decide +kernel
theorem dX8_part_73 : decode cX8_part 73 = .ok (.iload 4, 2) := by decide +kernel
theorem dX8_part_75 : decode cX8_part 75 = .ok (.iload 5, 2) := by decide +kernel
theorem dX8_part_77 : decode cX8_part 77 = .ok (.invokevirtual 51, 3) := by decide +kernel
theorem dX8_part_80 : decode cX8_part 80 = .ok (.ifCond .ne 29, 3) := by decide +kernel
theorem dX8_part_83 : decode cX8_part 83 = .ok (.aload_n 0, 1) := by decide +kernel
theorem dX8_part_84 : decode cX8_part 84 = .ok (.getfield 9, 3) := by decide +kernel
theorem dX8_part_87 : decode cX8_part 87 = .ok (.iload 4, 2) := by decide +kernel
theorem dX8_part_89 : decode cX8_part 89 = .ok (.dup2, 1) := by decide +kernel
theorem dX8_part_90 : decode cX8_part 90 = .ok (.iaload, 1) := by decide +kernel
theorem dX8_part_91 : decode cX8_part 91 = .ok (.iconst 1, 1) := by decide +kernel
theorem dX8_part_92 : decode cX8_part 92 = .ok (.iload 5, 2) := by decide +kernel
theorem dX8_part_94 : decode cX8_part 94 = .ok (.ishl, 1) := by decide +kernel
theorem dX8_part_95 : decode cX8_part 95 = .ok (.iconst (-1), 1) := by decide +kernel
theorem dX8_part_96 : decode cX8_part 96 = .ok (.ixor, 1) := by decide +kernel
theorem dX8_part_97 : decode cX8_part 97 = .ok (.iand, 1) := by decide +kernel
theorem dX8_part_98 : decode cX8_part 98 = .ok (.iastore, 1) := by decide +kernel
theorem dX8_part_99 : decode cX8_part 99 = .ok (.aload_n 0, 1) := by decide +kernel
theorem dX8_part_100 : decode cX8_part 100 = .ok (.getfield 15, 3) := by decide +kernel
theorem dX8_part_103 : decode cX8_part 103 = .ok (.iload 4, 2) := by decide +kernel
theorem dX8_part_105 : decode cX8_part 105 = .ok (.iload_n 2, 1) := by decide +kernel
theorem dX8_part_106 : decode cX8_part 106 = .ok (.iastore, 1) := by decide +kernel
theorem dX8_part_107 : decode cX8_part 107 = .ok (.iconst 1, 1) := by decide +kernel
theorem dX8_part_108 : decode cX8_part 108 = .ok (.istore_n 3, 1) := by decide +kernel
theorem dX8_part_109 : decode cX8_part 109 = .ok (.iinc 5 1, 3) := by decide +kernel
theorem dX8_part_112 : decode cX8_part 112 = .ok (.goto (-73), 3) := by decide +kernel
theorem dX8_part_115 : decode cX8_part 115 = .ok (.iinc 4 1, 3) := by decide +kernel
theorem dX8_part_118 : decode cX8_part 118 = .ok (.goto (-98), 3) := by decide +kernel
theorem dX8_part_121 : decode cX8_part 121 = .ok (.iload_n 3, 1) := by decide +kernel
theorem dX8_part_122 : decode cX8_part 122 = .ok (.ireturn, 1) := by decide +kernel
theorem dX8_hasAsMany_0 : decode cX8_hasAsMany 0 = .ok (.iconst 5, 1) := by decide +kernel
theorem dX8_hasAsMany_1 : decode cX8_hasAsMany 1 = .ok (.istore 4, 2) := by decide +kernel
theorem dX8_hasAsMany_3 : decode cX8_hasAsMany 3 = .ok (.iload 4, 2) := by decide +kernel
theorem dX8_hasAsMany_5 : decode cX8_hasAsMany 5 = .ok (.bipush 7, 2) := by decide +kernel
theorem dX8_hasAsMany_7 : decode cX8_hasAsMany 7 = .ok (.if_icmp .gt 78, 3) := by decide +kernel
theorem dX8_hasAsMany_10 : decode cX8_hasAsMany 10 = .ok (.aload_n 1, 1) := by decide +kernel
theorem dX8_hasAsMany_11 : decode cX8_hasAsMany 11 = .ok (.getfield 41, 3) := by decide +kernel
theorem dX8_hasAsMany_14 : decode cX8_hasAsMany 14 = .ok (.iload 4, 2) := by decide +kernel
theorem dX8_hasAsMany_16 : decode cX8_hasAsMany 16 = .ok (.aaload, 1) := by decide +kernel
theorem dX8_hasAsMany_17 : decode cX8_hasAsMany 17 = .ok (.astore 5, 2) := by decide +kernel
theorem dX8_hasAsMany_19 : decode cX8_hasAsMany 19 = .ok (.iconst 0, 1) := by decide +kernel
theorem dX8_hasAsMany_20 : decode cX8_hasAsMany 20 = .ok (.istore 6, 2) := by decide +kernel
theorem dX8_hasAsMany_22 : decode cX8_hasAsMany 22 = .ok (.iload 6, 2) := by decide +kernel
theorem dX8_hasAsMany_24 : decode cX8_hasAsMany 24 = .ok (.aload_n 1, 1) := by decide +kernel
theorem dX8_hasAsMany_25 : decode cX8_hasAsMany 25 = .ok (.getfield 21, 3) := by decide +kernel
theorem dX8_hasAsMany_28 : decode cX8_hasAsMany 28 = .ok (.if_icmp .ge 51, 3) := by decide +kernel
theorem dX8_hasAsMany_31 : decode cX8_hasAsMany 31 = .ok (.iload 6, 2) := by decide +kernel
theorem dX8_hasAsMany_33 : decode cX8_hasAsMany 33 = .ok (.bipush 8, 2) := by decide +kernel
theorem dX8_hasAsMany_35 : decode cX8_hasAsMany 35 = .ok (.if_icmp .ge 44, 3) := by decide +kernel
theorem dX8_hasAsMany_38 : decode cX8_hasAsMany 38 = .ok (.aload 5, 2) := by decide +kernel
theorem dX8_hasAsMany_40 : decode cX8_hasAsMany 40 = .ok (.iload_n 2, 1) := by decide +kernel
theorem dX8_hasAsMany_41 : decode cX8_hasAsMany 41 = .ok (.iaload, 1) := by decide +kernel
theorem dX8_hasAsMany_42 : decode cX8_hasAsMany 42 = .ok (.aload_n 0, 1) := by decide +kernel
theorem dX8_hasAsMany_43 : decode cX8_hasAsMany 43 = .ok (.getfield 18, 3) := by decide +kernel
theorem dX8_hasAsMany_46 : decode cX8_hasAsMany 46 = .ok (.iload 6, 2) := by decide +kernel
theorem dX8_hasAsMany_48 : decode cX8_hasAsMany 48 = .ok (.iaload, 1) := by decide +kernel
theorem dX8_hasAsMany_49 : decode cX8_hasAsMany 49 = .ok (.iand, 1) := by decide +kernel
theorem dX8_hasAsMany_50 : decode cX8_hasAsMany 50 = .ok (.invokestatic 55, 3) := by decide +kernel
theorem dX8_hasAsMany_53 : decode cX8_hasAsMany 53 = .ok (.aload 5, 2) := by decide +kernel
theorem dX8_hasAsMany_55 : decode cX8_hasAsMany 55 = .ok (.iload_n 3, 1) := by decide +kernel
theorem dX8_hasAsMany_56 : decode cX8_hasAsMany 56 = .ok (.iaload, 1) := by decide +kernel
theorem dX8_hasAsMany_57 : decode cX8_hasAsMany 57 = .ok (.aload_n 0, 1) := by decide +kernel
theorem dX8_hasAsMany_58 : decode cX8_hasAsMany 58 = .ok (.getfield 18, 3) := by decide +kernel
theorem dX8_hasAsMany_61 : decode cX8_hasAsMany 61 = .ok (.iload 6, 2) := by decide +kernel
theorem dX8_hasAsMany_63 : decode cX8_hasAsMany 63 = .ok (.iaload, 1) := by decide +kernel
theorem dX8_hasAsMany_64 : decode cX8_hasAsMany 64 = .ok (.iand, 1) := by decide +kernel
theorem dX8_hasAsMany_65 : decode cX8_hasAsMany 65 = .ok (.invokestatic 55, 3) := by decide +kernel
theorem dX8_hasAsMany_68 : decode cX8_hasAsMany 68 = .ok (.if_icmp .eq 5, 3) := by decide +kernel
theorem dX8_hasAsMany_71 : decode cX8_hasAsMany 71 = .ok (.iconst 0, 1) := by decide +kernel
theorem dX8_hasAsMany_72 : decode cX8_hasAsMany 72 = .ok (.ireturn, 1) := by decide +kernel
theorem dX8_hasAsMany_73 : decode cX8_hasAsMany 73 = .ok (.iinc 6 1, 3) := by decide +kernel
theorem dX8_hasAsMany_76 : decode cX8_hasAsMany 76 = .ok (.goto (-54), 3) := by decide +kernel
theorem dX8_hasAsMany_79 : decode cX8_hasAsMany 79 = .ok (.iinc 4 1, 3) := by decide +kernel
theorem dX8_hasAsMany_82 : decode cX8_hasAsMany 82 = .ok (.goto (-79), 3) := by decide +kernel
theorem dX8_hasAsMany_85 : decode cX8_hasAsMany 85 = .ok (.iconst 1, 1) := by decide +kernel
theorem dX8_hasAsMany_86 : decode cX8_hasAsMany 86 = .ok (.ireturn, 1) := by decide +kernel
theorem dX9_init_0 : decode cX9_init 0 = .ok (.aload_n 0, 1) := by decide +kernel
theorem dX9_init_1 : decode cX9_init 1 = .ok (.invokespecial 3, 3) := by decide +kernel
theorem dX9_init_4 : decode cX9_init 4 = .ok (.aload_n 0, 1) := by decide +kernel
theorem dX9_init_5 : decode cX9_init 5 = .ok (.sipush 256, 3) := by decide +kernel
theorem dX9_init_8 : decode cX9_init 8 = .ok (.newarray .int, 2) := by decide +kernel
theorem dX9_init_10 : decode cX9_init 10 = .ok (.putfield 9, 3) := by decide +kernel
theorem dX9_init_13 : decode cX9_init 13 = .ok (.aload_n 0, 1) := by decide +kernel
theorem dX9_init_14 : decode cX9_init 14 = .ok (.sipush 256, 3) := by decide +kernel
theorem dX9_init_17 : decode cX9_init 17 = .ok (.newarray .int, 2) := by decide +kernel
theorem dX9_init_19 : decode cX9_init 19 = .ok (.putfield 15, 3) := by decide +kernel
theorem dX9_init_22 : decode cX9_init 22 = .ok (.aload_n 0, 1) := by decide +kernel
theorem dX9_init_23 : decode cX9_init 23 = .ok (.sipush 256, 3) := by decide +kernel
theorem dX9_init_26 : decode cX9_init 26 = .ok (.newarray .int, 2) := by decide +kernel
theorem dX9_init_28 : decode cX9_init 28 = .ok (.putfield 18, 3) := by decide +kernel
theorem dX9_init_31 : decode cX9_init 31 = .ok (.aload_n 0, 1) := by decide +kernel
theorem dX9_init_32 : decode cX9_init 32 = .ok (.sipush 256, 3) := by decide +kernel
theorem dX9_init_35 : decode cX9_init 35 = .ok (.newarray .int, 2) := by decide +kernel
theorem dX9_init_37 : decode cX9_init 37 = .ok (.putfield 21, 3) := by decide +kernel
theorem dX9_init_40 : decode cX9_init 40 = .ok (.aload_n 0, 1) := by decide +kernel
theorem dX9_init_41 : decode cX9_init 41 = .ok (.sipush 256, 3) := by decide +kernel
theorem dX9_init_44 : decode cX9_init 44 = .ok (.newarray .int, 2) := by decide +kernel
theorem dX9_init_46 : decode cX9_init 46 = .ok (.putfield 24, 3) := by decide +kernel
theorem dX9_init_49 : decode cX9_init 49 = .ok (.aload_n 0, 1) := by decide +kernel
theorem dX9_init_50 : decode cX9_init 50 = .ok (.sipush 256, 3) := by decide +kernel
theorem dX9_init_53 : decode cX9_init 53 = .ok (.newarray .int, 2) := by decide +kernel
theorem dX9_init_55 : decode cX9_init 55 = .ok (.putfield 27, 3) := by decide +kernel
theorem dX9_init_58 : decode cX9_init 58 = .ok (.aload_n 0, 1) := by decide +kernel
theorem dX9_init_59 : decode cX9_init 59 = .ok (.iconst (-1), 1) := by decide +kernel
theorem dX9_init_60 : decode cX9_init 60 = .ok (.putfield 30, 3) := by decide +kernel
theorem dX9_init_63 : decode cX9_init 63 = .ok (.return_, 1) := by decide +kernel
theorem dX9_isReached_0 : decode cX9_isReached 0 = .ok (.iload_n 1, 1) := by decide +kernel
theorem dX9_isReached_1 : decode cX9_isReached 1 = .ok (.sipush 256, 3) := by decide +kernel
theorem dX9_isReached_4 : decode cX9_isReached 4 = .ok (.invokestatic 34, 3) := by decide +kernel
theorem dX9_isReached_7 : decode cX9_isReached 7 = .ok (.ifCond .eq 17, 3) := by decide +kernel
theorem dX9_isReached_10 : decode cX9_isReached 10 = .ok (.aload_n 0, 1) := by decide +kernel
theorem dX9_isReached_11 : decode cX9_isReached 11 = .ok (.getfield 21, 3) := by decide +kernel
theorem dX9_isReached_14 : decode cX9_isReached 14 = .ok (.iload_n 1, 1) := by decide +kernel
theorem dX9_isReached_15 : decode cX9_isReached 15 = .ok (.iaload, 1) := by decide +kernel
theorem dX9_isReached_16 : decode cX9_isReached 16 = .ok (.iconst (-1), 1) := by decide +kernel
theorem dX9_isReached_17 : decode cX9_isReached 17 = .ok (.if_icmp .eq 7, 3) := by decide +kernel
theorem dX9_isReached_20 : decode cX9_isReached 20 = .ok (.iconst 1, 1) := by decide +kernel
theorem dX9_isReached_21 : decode cX9_isReached 21 = .ok (.goto 4, 3) := by decide +kernel
theorem dX9_isReached_24 : decode cX9_isReached 24 = .ok (.iconst 0, 1) := by decide +kernel
theorem dX9_isReached_25 : decode cX9_isReached 25 = .ok (.ireturn, 1) := by decide +kernel
theorem dX9_codeAt_0 : decode cX9_codeAt 0 = .ok (.iload_n 1, 1) := by decide +kernel
theorem dX9_codeAt_1 : decode cX9_codeAt 1 = .ok (.sipush 255, 3) := by decide +kernel
theorem dX9_codeAt_4 : decode cX9_codeAt 4 = .ok (.iand, 1) := by decide +kernel
theorem dX9_codeAt_5 : decode cX9_codeAt 5 = .ok (.istore_n 3, 1) := by decide +kernel
theorem dX9_codeAt_6 : decode cX9_codeAt 6 = .ok (.iload_n 2, 1) := by decide +kernel
theorem dX9_codeAt_7 : decode cX9_codeAt 7 = .ok (.istore 4, 2) := by decide +kernel
theorem dX9_codeAt_9 : decode cX9_codeAt 9 = .ok (.iconst 0, 1) := by decide +kernel
theorem dX9_codeAt_10 : decode cX9_codeAt 10 = .ok (.istore 5, 2) := by decide +kernel
theorem dX9_codeAt_12 : decode cX9_codeAt 12 = .ok (.iload 5, 2) := by decide +kernel
theorem dX9_codeAt_14 : decode cX9_codeAt 14 = .ok (.sipush 1000, 3) := by decide +kernel
theorem dX9_codeAt_17 : decode cX9_codeAt 17 = .ok (.if_icmp .ge 73, 3) := by decide +kernel
theorem dX9_codeAt_20 : decode cX9_codeAt 20 = .ok (.iload 4, 2) := by decide +kernel
theorem dX9_codeAt_22 : decode cX9_codeAt 22 = .ok (.ifCond .le 68, 3) := by decide +kernel
theorem dX9_codeAt_25 : decode cX9_codeAt 25 = .ok (.aload_n 0, 1) := by decide +kernel
theorem dX9_codeAt_26 : decode cX9_codeAt 26 = .ok (.getfield 18, 3) := by decide +kernel
theorem dX9_codeAt_29 : decode cX9_codeAt 29 = .ok (.iload_n 3, 1) := by decide +kernel
theorem dX9_codeAt_30 : decode cX9_codeAt 30 = .ok (.iaload, 1) := by decide +kernel
theorem dX9_codeAt_31 : decode cX9_codeAt 31 = .ok (.bipush 8, 2) := by decide +kernel
theorem dX9_codeAt_33 : decode cX9_codeAt 33 = .ok (.ishr, 1) := by decide +kernel
theorem dX9_codeAt_34 : decode cX9_codeAt 34 = .ok (.sipush 255, 3) := by decide +kernel
theorem dX9_codeAt_37 : decode cX9_codeAt 37 = .ok (.iand, 1) := by decide +kernel
theorem dX9_codeAt_38 : decode cX9_codeAt 38 = .ok (.istore 6, 2) := by decide +kernel
theorem dX9_codeAt_40 : decode cX9_codeAt 40 = .ok (.iinc 4 (-1), 3) := by decide +kernel
theorem dX9_codeAt_43 : decode cX9_codeAt 43 = .ok (.iload 4, 2) := by decide +kernel
theorem dX9_codeAt_45 : decode cX9_codeAt 45 = .ok (.aload_n 0, 1) := by decide +kernel
theorem dX9_codeAt_46 : decode cX9_codeAt 46 = .ok (.getfield 15, 3) := by decide +kernel
theorem dX9_codeAt_49 : decode cX9_codeAt 49 = .ok (.iload 6, 2) := by decide +kernel
theorem dX9_codeAt_51 : decode cX9_codeAt 51 = .ok (.iaload, 1) := by decide +kernel
theorem dX9_codeAt_52 : decode cX9_codeAt 52 = .ok (.if_icmp .ge 9, 3) := by decide +kernel
theorem dX9_codeAt_55 : decode cX9_codeAt 55 = .ok (.iload 6, 2) := by decide +kernel
theorem dX9_codeAt_57 : decode cX9_codeAt 57 = .ok (.istore_n 3, 1) := by decide +kernel
theorem dX9_codeAt_58 : decode cX9_codeAt 58 = .ok (.goto 26, 3) := by decide +kernel
theorem dX9_codeAt_61 : decode cX9_codeAt 61 = .ok (.iload 4, 2) := by decide +kernel
theorem dX9_codeAt_63 : decode cX9_codeAt 63 = .ok (.aload_n 0, 1) := by decide +kernel
theorem dX9_codeAt_64 : decode cX9_codeAt 64 = .ok (.getfield 15, 3) := by decide +kernel
theorem dX9_codeAt_67 : decode cX9_codeAt 67 = .ok (.iload 6, 2) := by decide +kernel
theorem dX9_codeAt_69 : decode cX9_codeAt 69 = .ok (.iaload, 1) := by decide +kernel
theorem dX9_codeAt_70 : decode cX9_codeAt 70 = .ok (.isub, 1) := by decide +kernel
theorem dX9_codeAt_71 : decode cX9_codeAt 71 = .ok (.istore 4, 2) := by decide +kernel
theorem dX9_codeAt_73 : decode cX9_codeAt 73 = .ok (.aload_n 0, 1) := by decide +kernel
theorem dX9_codeAt_74 : decode cX9_codeAt 74 = .ok (.getfield 18, 3) := by decide +kernel
theorem dX9_codeAt_77 : decode cX9_codeAt 77 = .ok (.iload_n 3, 1) := by decide +kernel
theorem dX9_codeAt_78 : decode cX9_codeAt 78 = .ok (.iaload, 1) := by decide +kernel
theorem dX9_codeAt_79 : decode cX9_codeAt 79 = .ok (.sipush 255, 3) := by decide +kernel
theorem dX9_codeAt_82 : decode cX9_codeAt 82 = .ok (.iand, 1) := by decide +kernel
theorem dX9_codeAt_83 : decode cX9_codeAt 83 = .ok (.istore_n 3, 1) := by decide +kernel
theorem dX9_codeAt_84 : decode cX9_codeAt 84 = .ok (.iinc 5 1, 3) := by decide +kernel
theorem dX9_codeAt_87 : decode cX9_codeAt 87 = .ok (.goto (-75), 3) := by decide +kernel
theorem dX9_codeAt_90 : decode cX9_codeAt 90 = .ok (.aload_n 0, 1) := by decide +kernel
theorem dX9_codeAt_91 : decode cX9_codeAt 91 = .ok (.getfield 18, 3) := by decide +kernel
theorem dX9_codeAt_94 : decode cX9_codeAt 94 = .ok (.iload_n 3, 1) := by decide +kernel
theorem dX9_codeAt_95 : decode cX9_codeAt 95 = .ok (.iaload, 1) := by decide +kernel
theorem dX9_codeAt_96 : decode cX9_codeAt 96 = .ok (.bipush 16, 2) := by decide +kernel
theorem dX9_codeAt_98 : decode cX9_codeAt 98 = .ok (.ishr, 1) := by decide +kernel
theorem dX9_codeAt_99 : decode cX9_codeAt 99 = .ok (.ireturn, 1) := by decide +kernel
theorem dX9_worthOf_0 : decode cX9_worthOf 0 = .ok (.iconst 0, 1) := by decide +kernel
theorem dX9_worthOf_1 : decode cX9_worthOf 1 = .ok (.istore_n 2, 1) := by decide +kernel
theorem dX9_worthOf_2 : decode cX9_worthOf 2 = .ok (.iconst 0, 1) := by decide +kernel
theorem dX9_worthOf_3 : decode cX9_worthOf 3 = .ok (.istore_n 3, 1) := by decide +kernel
theorem dX9_worthOf_4 : decode cX9_worthOf 4 = .ok (.iload_n 3, 1) := by decide +kernel
theorem dX9_worthOf_5 : decode cX9_worthOf 5 = .ok (.iload_n 1, 1) := by decide +kernel
theorem dX9_worthOf_6 : decode cX9_worthOf 6 = .ok (.if_icmp .ge 41, 3) := by decide +kernel
theorem dX9_worthOf_9 : decode cX9_worthOf 9 = .ok (.iload_n 3, 1) := by decide +kernel
theorem dX9_worthOf_10 : decode cX9_worthOf 10 = .ok (.bipush 8, 2) := by decide +kernel
theorem dX9_worthOf_12 : decode cX9_worthOf 12 = .ok (.if_icmp .ge 35, 3) := by decide +kernel
