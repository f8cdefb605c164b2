theorem dX9_worthOf_15 : decode cX9_worthOf 15 = .ok (.iload_n 2, 1) := by decide +kernel
theorem dX9_worthOf_16 : decode cX9_worthOf 16 = .ok (.aload_n 0, 1) := by decide +kernel
theorem dX9_worthOf_17 : decode cX9_worthOf 17 = .ok (.iconst 1, 1) := by decide +kernel
theorem dX9_worthOf_18 : decode cX9_worthOf 18 = .ok (.iload_n 3, 1) := by decide +kernel
theorem dX9_worthOf_19 : decode cX9_worthOf 19 = .ok (.ishl, 1) := by decide +kernel
theorem dX9_worthOf_20 : decode cX9_worthOf 20 = .ok (.invokevirtual 38, 3) := by decide +kernel
theorem dX9_worthOf_23 : decode cX9_worthOf 23 = .ok (.ifCond .eq 14, 3) := by decide +kernel
theorem dX9_worthOf_26 : decode cX9_worthOf 26 = .ok (.aload_n 0, 1) := by decide +kernel
theorem dX9_worthOf_27 : decode cX9_worthOf 27 = .ok (.getfield 9, 3) := by decide +kernel
theorem dX9_worthOf_30 : decode cX9_worthOf 30 = .ok (.iconst 1, 1) := by decide +kernel
theorem dX9_worthOf_31 : decode cX9_worthOf 31 = .ok (.iload_n 3, 1) := by decide +kernel
theorem dX9_worthOf_32 : decode cX9_worthOf 32 = .ok (.ishl, 1) := by decide +kernel
theorem dX9_worthOf_33 : decode cX9_worthOf 33 = .ok (.iaload, 1) := by decide +kernel
theorem dX9_worthOf_34 : decode cX9_worthOf 34 = .ok (.goto 5, 3) := by decide +kernel
theorem dX9_worthOf_37 : decode cX9_worthOf 37 = .ok (.bipush 50, 2) := by decide +kernel
theorem dX9_worthOf_39 : decode cX9_worthOf 39 = .ok (.iadd, 1) := by decide +kernel
theorem dX9_worthOf_40 : decode cX9_worthOf 40 = .ok (.istore_n 2, 1) := by decide +kernel
theorem dX9_worthOf_41 : decode cX9_worthOf 41 = .ok (.iinc 3 1, 3) := by decide +kernel
theorem dX9_worthOf_44 : decode cX9_worthOf 44 = .ok (.goto (-40), 3) := by decide +kernel
theorem dX9_worthOf_47 : decode cX9_worthOf 47 = .ok (.iload_n 2, 1) := by decide +kernel
theorem dX9_worthOf_48 : decode cX9_worthOf 48 = .ok (.ireturn, 1) := by decide +kernel
theorem dX9_fill_0 : decode cX9_fill 0 = .ok (.aload_n 0, 1) := by decide +kernel
theorem dX9_fill_1 : decode cX9_fill 1 = .ok (.iload_n 3, 1) := by decide +kernel
theorem dX9_fill_2 : decode cX9_fill 2 = .ok (.putfield 42, 3) := by decide +kernel
theorem dX9_fill_5 : decode cX9_fill 5 = .ok (.aload_n 0, 1) := by decide +kernel
theorem dX9_fill_6 : decode cX9_fill 6 = .ok (.iload 4, 2) := by decide +kernel
theorem dX9_fill_8 : decode cX9_fill 8 = .ok (.putfield 45, 3) := by decide +kernel
theorem dX9_fill_11 : decode cX9_fill 11 = .ok (.aload_n 0, 1) := by decide +kernel
theorem dX9_fill_12 : decode cX9_fill 12 = .ok (.aload_n 1, 1) := by decide +kernel
theorem dX9_fill_13 : decode cX9_fill 13 = .ok (.aload_n 2, 1) := by decide +kernel
theorem dX9_fill_14 : decode cX9_fill 14 = .ok (.invokevirtual 49, 3) := by decide +kernel
theorem dX9_fill_17 : decode cX9_fill 17 = .ok (.aload_n 1, 1) := by decide +kernel
theorem dX9_fill_18 : decode cX9_fill 18 = .ok (.invokevirtual 53, 3) := by decide +kernel
theorem dX9_fill_21 : decode cX9_fill 21 = .ok (.istore 5, 2) := by decide +kernel
theorem dX9_fill_23 : decode cX9_fill 23 = .ok (.iconst 0, 1) := by decide +kernel
theorem dX9_fill_24 : decode cX9_fill 24 = .ok (.istore 6, 2) := by decide +kernel
theorem dX9_fill_26 : decode cX9_fill 26 = .ok (.iload 6, 2) := by decide +kernel
theorem dX9_fill_28 : decode cX9_fill 28 = .ok (.iload 5, 2) := by decide +kernel
theorem dX9_fill_30 : decode cX9_fill 30 = .ok (.if_icmp .gt 45, 3) := by decide +kernel
theorem dX9_fill_33 : decode cX9_fill 33 = .ok (.aload_n 0, 1) := by decide +kernel
theorem dX9_fill_34 : decode cX9_fill 34 = .ok (.iload 5, 2) := by decide +kernel
theorem dX9_fill_36 : decode cX9_fill 36 = .ok (.invokevirtual 59, 3) := by decide +kernel
theorem dX9_fill_39 : decode cX9_fill 39 = .ok (.istore 7, 2) := by decide +kernel
theorem dX9_fill_41 : decode cX9_fill 41 = .ok (.iload 7, 2) := by decide +kernel
theorem dX9_fill_43 : decode cX9_fill 43 = .ok (.iconst (-1), 1) := by decide +kernel
theorem dX9_fill_44 : decode cX9_fill 44 = .ok (.if_icmp .ne 4, 3) := by decide +kernel
theorem dX9_fill_47 : decode cX9_fill 47 = .ok (.return_, 1) := by decide +kernel
theorem dX9_fill_48 : decode cX9_fill 48 = .ok (.aload_n 0, 1) := by decide +kernel
theorem dX9_fill_49 : decode cX9_fill 49 = .ok (.iload 7, 2) := by decide +kernel
theorem dX9_fill_51 : decode cX9_fill 51 = .ok (.invokevirtual 63, 3) := by decide +kernel
theorem dX9_fill_54 : decode cX9_fill 54 = .ok (.aload_n 0, 1) := by decide +kernel
theorem dX9_fill_55 : decode cX9_fill 55 = .ok (.aload_n 1, 1) := by decide +kernel
theorem dX9_fill_56 : decode cX9_fill 56 = .ok (.aload_n 2, 1) := by decide +kernel
theorem dX9_fill_57 : decode cX9_fill 57 = .ok (.iload 7, 2) := by decide +kernel
theorem dX9_fill_59 : decode cX9_fill 59 = .ok (.invokevirtual 67, 3) := by decide +kernel
theorem dX9_fill_62 : decode cX9_fill 62 = .ok (.aload_n 0, 1) := by decide +kernel
theorem dX9_fill_63 : decode cX9_fill 63 = .ok (.aload_n 2, 1) := by decide +kernel
theorem dX9_fill_64 : decode cX9_fill 64 = .ok (.iload 7, 2) := by decide +kernel
theorem dX9_fill_66 : decode cX9_fill 66 = .ok (.invokevirtual 71, 3) := by decide +kernel
theorem dX9_fill_69 : decode cX9_fill 69 = .ok (.iinc 6 1, 3) := by decide +kernel
theorem dX9_fill_72 : decode cX9_fill 72 = .ok (.goto (-46), 3) := by decide +kernel
theorem dX9_fill_75 : decode cX9_fill 75 = .ok (.return_, 1) := by decide +kernel
theorem dX9_start_0 : decode cX9_start 0 = .ok (.aload_n 0, 1) := by decide +kernel
theorem dX9_start_1 : decode cX9_start 1 = .ok (.iconst 0, 1) := by decide +kernel
theorem dX9_start_2 : decode cX9_start 2 = .ok (.putfield 75, 3) := by decide +kernel
theorem dX9_start_5 : decode cX9_start 5 = .ok (.aload_n 0, 1) := by decide +kernel
theorem dX9_start_6 : decode cX9_start 6 = .ok (.getfield 9, 3) := by decide +kernel
theorem dX9_start_9 : decode cX9_start 9 = .ok (.sipush 1000, 3) := by decide +kernel
theorem dX9_start_12 : decode cX9_start 12 = .ok (.invokestatic 78, 3) := by decide +kernel
theorem dX9_start_15 : decode cX9_start 15 = .ok (.aload_n 0, 1) := by decide +kernel
theorem dX9_start_16 : decode cX9_start 16 = .ok (.getfield 21, 3) := by decide +kernel
theorem dX9_start_19 : decode cX9_start 19 = .ok (.iconst (-1), 1) := by decide +kernel
theorem dX9_start_20 : decode cX9_start 20 = .ok (.invokestatic 78, 3) := by decide +kernel
theorem dX9_start_23 : decode cX9_start 23 = .ok (.aload_n 0, 1) := by decide +kernel
theorem dX9_start_24 : decode cX9_start 24 = .ok (.sipush 1000, 3) := by decide +kernel
theorem dX9_start_27 : decode cX9_start 27 = .ok (.putfield 83, 3) := by decide +kernel
theorem dX9_start_30 : decode cX9_start 30 = .ok (.iconst 0, 1) := by decide +kernel
theorem dX9_start_31 : decode cX9_start 31 = .ok (.istore_n 3, 1) := by decide +kernel
theorem dX9_start_32 : decode cX9_start 32 = .ok (.iload_n 3, 1) := by decide +kernel
theorem dX9_start_33 : decode cX9_start 33 = .ok (.bipush 15, 2) := by decide +kernel
theorem dX9_start_35 : decode cX9_start 35 = .ok (.if_icmp .ge 70, 3) := by decide +kernel
theorem dX9_start_38 : decode cX9_start 38 = .ok (.iload_n 3, 1) := by decide +kernel
theorem dX9_start_39 : decode cX9_start 39 = .ok (.aload_n 2, 1) := by decide +kernel
theorem dX9_start_40 : decode cX9_start 40 = .ok (.arraylength, 1) := by decide +kernel
theorem dX9_start_41 : decode cX9_start 41 = .ok (.if_icmp .ge 64, 3) := by decide +kernel
theorem dX9_start_44 : decode cX9_start 44 = .ok (.aload_n 0, 1) := by decide +kernel
theorem dX9_start_45 : decode cX9_start 45 = .ok (.getfield 42, 3) := by decide +kernel
theorem dX9_start_48 : decode cX9_start 48 = .ok (.iload_n 3, 1) := by decide +kernel
theorem dX9_start_49 : decode cX9_start 49 = .ok (.invokestatic 88, 3) := by decide +kernel
theorem dX9_start_52 : decode cX9_start 52 = .ok (.ifCond .ne 6, 3) := by decide +kernel
theorem dX9_start_55 : decode cX9_start 55 = .ok (.goto 44, 3) := by decide +kernel
theorem dX9_start_58 : decode cX9_start 58 = .ok (.iload_n 3, 1) := by decide +kernel
theorem dX9_start_59 : decode cX9_start 59 = .ok (.invokestatic 91, 3) := by decide +kernel
theorem dX9_start_62 : decode cX9_start 62 = .ok (.ifCond .ne 15, 3) := by decide +kernel
theorem dX9_start_65 : decode cX9_start 65 = .ok (.aload_n 0, 1) := by decide +kernel
theorem dX9_start_66 : decode cX9_start 66 = .ok (.aload_n 1, 1) := by decide +kernel
theorem dX9_start_67 : decode cX9_start 67 = .ok (.aload_n 2, 1) := by decide +kernel
theorem dX9_start_68 : decode cX9_start 68 = .ok (.iload_n 3, 1) := by decide +kernel
theorem dX9_start_69 : decode cX9_start 69 = .ok (.iaload, 1) := by decide +kernel
theorem dX9_start_70 : decode cX9_start 70 = .ok (.iload_n 3, 1) := by decide +kernel
theorem dX9_start_71 : decode cX9_start 71 = .ok (.invokevirtual 94, 3) := by decide +kernel
theorem dX9_start_74 : decode cX9_start 74 = .ok (.goto 25, 3) := by decide +kernel
theorem dX9_start_77 : decode cX9_start 77 = .ok (.iload_n 3, 1) := by decide +kernel
theorem dX9_start_78 : decode cX9_start 78 = .ok (.invokestatic 91, 3) := by decide +kernel
theorem dX9_start_81 : decode cX9_start 81 = .ok (.iconst 2, 1) := by decide +kernel
theorem dX9_start_82 : decode cX9_start 82 = .ok (.if_icmp .ne 17, 3) := by decide +kernel
theorem dX9_start_85 : decode cX9_start 85 = .ok (.aload_n 0, 1) := by decide +kernel
theorem dX9_start_86 : decode cX9_start 86 = .ok (.aload_n 0, 1) := by decide +kernel
theorem dX9_start_87 : decode cX9_start 87 = .ok (.getfield 83, 3) := by decide +kernel
theorem dX9_start_90 : decode cX9_start 90 = .ok (.aload_n 2, 1) := by decide +kernel
theorem dX9_start_91 : decode cX9_start 91 = .ok (.iload_n 3, 1) := by decide +kernel
theorem dX9_start_92 : decode cX9_start 92 = .ok (.iaload, 1) := by decide +kernel
theorem dX9_start_93 : decode cX9_start 93 = .ok (.invokestatic 98, 3) := by decide +kernel
theorem dX9_start_96 : decode cX9_start 96 = .ok (.putfield 83, 3) := by decide +kernel
theorem dX9_start_99 : decode cX9_start 99 = .ok (.iinc 3 1, 3) := by decide +kernel
theorem dX9_start_102 : decode cX9_start 102 = .ok (.goto (-70), 3) := by decide +kernel
theorem dX9_start_105 : decode cX9_start 105 = .ok (.return_, 1) := by decide +kernel
theorem dX9_offerNamed_0 : decode cX9_offerNamed 0 = .ok (.iconst 1, 1) := by decide +kernel
theorem dX9_offerNamed_1 : decode cX9_offerNamed 1 = .ok (.iload_n 3, 1) := by decide +kernel
theorem dX9_offerNamed_2 : decode cX9_offerNamed 2 = .ok (.invokestatic 104, 3) := by decide +kernel
theorem dX9_offerNamed_5 : decode cX9_offerNamed 5 = .ok (.invokestatic 107, 3) := by decide +kernel
theorem dX9_offerNamed_8 : decode cX9_offerNamed 8 = .ok (.istore 4, 2) := by decide +kernel
theorem dX9_offerNamed_10 : decode cX9_offerNamed 10 = .ok (.iconst 0, 1) := by decide +kernel
theorem dX9_offerNamed_11 : decode cX9_offerNamed 11 = .ok (.istore 5, 2) := by decide +kernel
theorem dX9_offerNamed_13 : decode cX9_offerNamed 13 = .ok (.iload 5, 2) := by decide +kernel
theorem dX9_offerNamed_15 : decode cX9_offerNamed 15 = .ok (.iload 4, 2) := by decide +kernel
theorem dX9_offerNamed_17 : decode cX9_offerNamed 17 = .ok (.if_icmp .ge 34, 3) := by decide +kernel
theorem dX9_offerNamed_20 : decode cX9_offerNamed 20 = .ok (.bipush 8, 2) := by decide +kernel
theorem dX9_offerNamed_22 : decode cX9_offerNamed 22 = .ok (.iload_n 3, 1) := by decide +kernel
theorem dX9_offerNamed_23 : decode cX9_offerNamed 23 = .ok (.imul, 1) := by decide +kernel
theorem dX9_offerNamed_24 : decode cX9_offerNamed 24 = .ok (.iload 5, 2) := by decide +kernel
theorem dX9_offerNamed_26 : decode cX9_offerNamed 26 = .ok (.iadd, 1) := by decide +kernel
theorem dX9_offerNamed_27 : decode cX9_offerNamed 27 = .ok (.istore 6, 2) := by decide +kernel
theorem dX9_offerNamed_29 : decode cX9_offerNamed 29 = .ok (.aload_n 0, 1) := by decide +kernel
theorem dX9_offerNamed_30 : decode cX9_offerNamed 30 = .ok (.aload_n 1, 1) := by decide +kernel
theorem dX9_offerNamed_31 : decode cX9_offerNamed 31 = .ok (.iload 6, 2) := by decide +kernel
theorem dX9_offerNamed_33 : decode cX9_offerNamed 33 = .ok (.invokevirtual 110, 3) := by decide +kernel
theorem dX9_offerNamed_36 : decode cX9_offerNamed 36 = .ok (.iload_n 2, 1) := by decide +kernel
theorem dX9_offerNamed_37 : decode cX9_offerNamed 37 = .ok (.iload 6, 2) := by decide +kernel
theorem dX9_offerNamed_39 : decode cX9_offerNamed 39 = .ok (.bipush 16, 2) := by decide +kernel
theorem dX9_offerNamed_41 : decode cX9_offerNamed 41 = .ok (.ishl, 1) := by decide +kernel
theorem dX9_offerNamed_42 : decode cX9_offerNamed 42 = .ok (.invokevirtual 113, 3) := by decide +kernel
theorem dX9_offerNamed_45 : decode cX9_offerNamed 45 = .ok (.iinc 5 1, 3) := by decide +kernel
theorem dX9_offerNamed_48 : decode cX9_offerNamed 48 = .ok (.goto (-35), 3) := by decide +kernel
theorem dX9_offerNamed_51 : decode cX9_offerNamed 51 = .ok (.return_, 1) := by decide +kernel
theorem dX9_nearest_0 : decode cX9_nearest 0 = .ok (.iconst (-1), 1) := by decide +kernel
theorem dX9_nearest_1 : decode cX9_nearest 1 = .ok (.istore_n 2, 1) := by decide +kernel
theorem dX9_nearest_2 : decode cX9_nearest 2 = .ok (.sipush 1000, 3) := by decide +kernel
theorem dX9_nearest_5 : decode cX9_nearest 5 = .ok (.istore_n 3, 1) := by decide +kernel
theorem dX9_nearest_6 : decode cX9_nearest 6 = .ok (.aload_n 0, 1) := by decide +kernel
theorem dX9_nearest_7 : decode cX9_nearest 7 = .ok (.iconst (-1), 1) := by decide +kernel
theorem dX9_nearest_8 : decode cX9_nearest 8 = .ok (.putfield 117, 3) := by decide +kernel
theorem dX9_nearest_11 : decode cX9_nearest 11 = .ok (.iconst 0, 1) := by decide +kernel
theorem dX9_nearest_12 : decode cX9_nearest 12 = .ok (.istore 4, 2) := by decide +kernel
theorem dX9_nearest_14 : decode cX9_nearest 14 = .ok (.iload 4, 2) := by decide +kernel
theorem dX9_nearest_16 : decode cX9_nearest 16 = .ok (.iload_n 1, 1) := by decide +kernel
theorem dX9_nearest_17 : decode cX9_nearest 17 = .ok (.if_icmp .gt 94, 3) := by decide +kernel
theorem dX9_nearest_20 : decode cX9_nearest 20 = .ok (.iload 4, 2) := by decide +kernel
theorem dX9_nearest_22 : decode cX9_nearest 22 = .ok (.sipush 256, 3) := by decide +kernel
theorem dX9_nearest_25 : decode cX9_nearest 25 = .ok (.if_icmp .ge 86, 3) := by decide +kernel
theorem dX9_nearest_28 : decode cX9_nearest 28 = .ok (.aload_n 0, 1) := by decide +kernel
theorem dX9_nearest_29 : decode cX9_nearest 29 = .ok (.getfield 21, 3) := by decide +kernel
theorem dX9_nearest_32 : decode cX9_nearest 32 = .ok (.iload 4, 2) := by decide +kernel
theorem dX9_nearest_34 : decode cX9_nearest 34 = .ok (.iaload, 1) := by decide +kernel
theorem dX9_nearest_35 : decode cX9_nearest 35 = .ok (.iconst (-1), 1) := by decide +kernel
theorem dX9_nearest_36 : decode cX9_nearest 36 = .ok (.if_icmp .eq 6, 3) := by decide +kernel
theorem dX9_nearest_39 : decode cX9_nearest 39 = .ok (.goto 66, 3) := by decide +kernel
theorem dX9_nearest_42 : decode cX9_nearest 42 = .ok (.aload_n 0, 1) := by decide +kernel
theorem dX9_nearest_43 : decode cX9_nearest 43 = .ok (.getfield 9, 3) := by decide +kernel
theorem dX9_nearest_46 : decode cX9_nearest 46 = .ok (.iload 4, 2) := by decide +kernel
theorem dX9_nearest_48 : decode cX9_nearest 48 = .ok (.iaload, 1) := by decide +kernel
theorem dX9_nearest_49 : decode cX9_nearest 49 = .ok (.iload_n 3, 1) := by decide +kernel
theorem dX9_nearest_50 : decode cX9_nearest 50 = .ok (.if_icmp .ge 14, 3) := by decide +kernel
theorem dX9_nearest_53 : decode cX9_nearest 53 = .ok (.aload_n 0, 1) := by decide +kernel
theorem dX9_nearest_54 : decode cX9_nearest 54 = .ok (.getfield 9, 3) := by decide +kernel
theorem dX9_nearest_57 : decode cX9_nearest 57 = .ok (.iload 4, 2) := by decide +kernel
theorem dX9_nearest_59 : decode cX9_nearest 59 = .ok (.iaload, 1) := by decide +kernel
theorem dX9_nearest_60 : decode cX9_nearest 60 = .ok (.istore_n 3, 1) := by decide +kernel
theorem dX9_nearest_61 : decode cX9_nearest 61 = .ok (.iload 4, 2) := by decide +kernel
theorem dX9_nearest_63 : decode cX9_nearest 63 = .ok (.istore_n 2, 1) := by decide +kernel
theorem dX9_nearest_64 : decode cX9_nearest 64 = .ok (.aload_n 0, 1) := by decide +kernel
theorem dX9_nearest_65 : decode cX9_nearest 65 = .ok (.getfield 9, 3) := by decide +kernel
theorem dX9_nearest_68 : decode cX9_nearest 68 = .ok (.iload 4, 2) := by decide +kernel
theorem dX9_nearest_70 : decode cX9_nearest 70 = .ok (.iaload, 1) := by decide +kernel
theorem dX9_nearest_71 : decode cX9_nearest 71 = .ok (.aload_n 0, 1) := by decide +kernel
theorem dX9_nearest_72 : decode cX9_nearest 72 = .ok (.getfield 117, 3) := by decide +kernel
theorem dX9_nearest_75 : decode cX9_nearest 75 = .ok (.if_icmp .le 30, 3) := by decide +kernel
theorem dX9_nearest_78 : decode cX9_nearest 78 = .ok (.aload_n 0, 1) := by decide +kernel
theorem dX9_nearest_79 : decode cX9_nearest 79 = .ok (.getfield 45, 3) := by decide +kernel
theorem dX9_nearest_82 : decode cX9_nearest 82 = .ok (.ifCond .eq 12, 3) := by decide +kernel
theorem dX9_nearest_85 : decode cX9_nearest 85 = .ok (.iload 4, 2) := by decide +kernel
theorem dX9_nearest_87 : decode cX9_nearest 87 = .ok (.invokestatic 120, 3) := by decide +kernel
theorem dX9_nearest_90 : decode cX9_nearest 90 = .ok (.iconst 1, 1) := by decide +kernel
theorem dX9_nearest_91 : decode cX9_nearest 91 = .ok (.if_icmp .ne 14, 3) := by decide +kernel
theorem dX9_nearest_94 : decode cX9_nearest 94 = .ok (.aload_n 0, 1) := by decide +kernel
theorem dX9_nearest_95 : decode cX9_nearest 95 = .ok (.aload_n 0, 1) := by decide +kernel
theorem dX9_nearest_96 : decode cX9_nearest 96 = .ok (.getfield 9, 3) := by decide +kernel
theorem dX9_nearest_99 : decode cX9_nearest 99 = .ok (.iload 4, 2) := by decide +kernel
theorem dX9_nearest_101 : decode cX9_nearest 101 = .ok (.iaload, 1) := by decide +kernel
theorem dX9_nearest_102 : decode cX9_nearest 102 = .ok (.putfield 117, 3) := by decide +kernel
theorem dX9_nearest_105 : decode cX9_nearest 105 = .ok (.iinc 4 1, 3) := by decide +kernel
theorem dX9_nearest_108 : decode cX9_nearest 108 = .ok (.goto (-94), 3) := by decide +kernel
theorem dX9_nearest_111 : decode cX9_nearest 111 = .ok (.aload_n 0, 1) := by decide +kernel
theorem dX9_nearest_112 : decode cX9_nearest 112 = .ok (.getfield 117, 3) := by decide +kernel
theorem dX9_nearest_115 : decode cX9_nearest 115 = .ok (.iconst (-1), 1) := by decide +kernel
theorem dX9_nearest_116 : decode cX9_nearest 116 = .ok (.if_icmp .ne 7, 3) := by decide +kernel
theorem dX9_nearest_119 : decode cX9_nearest 119 = .ok (.iconst (-1), 1) := by decide +kernel
theorem dX9_nearest_120 : decode cX9_nearest 120 = .ok (.goto 4, 3) := by decide +kernel
theorem dX9_nearest_123 : decode cX9_nearest 123 = .ok (.iload_n 2, 1) := by decide +kernel
theorem dX9_nearest_124 : decode cX9_nearest 124 = .ok (.ireturn, 1) := by decide +kernel
theorem dX9_reach_0 : decode cX9_reach 0 = .ok (.aload_n 0, 1) := by decide +kernel
theorem dX9_reach_1 : decode cX9_reach 1 = .ok (.getfield 75, 3) := by decide +kernel
theorem dX9_reach_4 : decode cX9_reach 4 = .ok (.sipush 256, 3) := by decide +kernel
theorem dX9_reach_7 : decode cX9_reach 7 = .ok (.if_icmp .ge 13, 3) := by decide +kernel
theorem dX9_reach_10 : decode cX9_reach 10 = .ok (.iload_n 1, 1) := by decide +kernel
theorem dX9_reach_11 : decode cX9_reach 11 = .ok (.sipush 256, 3) := by decide +kernel
theorem dX9_reach_14 : decode cX9_reach 14 = .ok (.invokestatic 34, 3) := by decide +kernel
theorem dX9_reach_17 : decode cX9_reach 17 = .ok (.ifCond .ne 4, 3) := by decide +kernel
theorem dX9_reach_20 : decode cX9_reach 20 = .ok (.return_, 1) := by decide +kernel
theorem dX9_reach_21 : decode cX9_reach 21 = .ok (.aload_n 0, 1) := by decide +kernel
theorem dX9_reach_22 : decode cX9_reach 22 = .ok (.getfield 18, 3) := by decide +kernel
theorem dX9_reach_25 : decode cX9_reach 25 = .ok (.iload_n 1, 1) := by decide +kernel
theorem dX9_reach_26 : decode cX9_reach 26 = .ok (.iaload, 1) := by decide +kernel
theorem dX9_reach_27 : decode cX9_reach 27 = .ok (.istore_n 2, 1) := by decide +kernel
theorem dX9_reach_28 : decode cX9_reach 28 = .ok (.iload_n 2, 1) := by decide +kernel
theorem dX9_reach_29 : decode cX9_reach 29 = .ok (.bipush 19, 2) := by decide +kernel
theorem dX9_reach_31 : decode cX9_reach 31 = .ok (.ishr, 1) := by decide +kernel
theorem dX9_reach_32 : decode cX9_reach 32 = .ok (.invokestatic 91, 3) := by decide +kernel
theorem dX9_reach_35 : decode cX9_reach 35 = .ok (.istore_n 3, 1) := by decide +kernel
theorem dX9_reach_36 : decode cX9_reach 36 = .ok (.aload_n 0, 1) := by decide +kernel
theorem dX9_reach_37 : decode cX9_reach 37 = .ok (.getfield 15, 3) := by decide +kernel
theorem dX9_reach_40 : decode cX9_reach 40 = .ok (.iload_n 1, 1) := by decide +kernel
theorem dX9_reach_41 : decode cX9_reach 41 = .ok (.iconst 1, 1) := by decide +kernel
theorem dX9_reach_42 : decode cX9_reach 42 = .ok (.iload_n 3, 1) := by decide +kernel
theorem dX9_reach_43 : decode cX9_reach 43 = .ok (.ifCond .le 19, 3) := by decide +kernel
theorem dX9_reach_46 : decode cX9_reach 46 = .ok (.aload_n 0, 1) := by decide +kernel
theorem dX9_reach_47 : decode cX9_reach 47 = .ok (.getfield 15, 3) := by decide +kernel
theorem dX9_reach_50 : decode cX9_reach 50 = .ok (.iload_n 2, 1) := by decide +kernel
theorem dX9_reach_51 : decode cX9_reach 51 = .ok (.bipush 8, 2) := by decide +kernel
theorem dX9_reach_53 : decode cX9_reach 53 = .ok (.ishr, 1) := by decide +kernel
theorem dX9_reach_54 : decode cX9_reach 54 = .ok (.sipush 255, 3) := by decide +kernel
theorem dX9_reach_57 : decode cX9_reach 57 = .ok (.iand, 1) := by decide +kernel
theorem dX9_reach_58 : decode cX9_reach 58 = .ok (.iaload, 1) := by decide +kernel
theorem dX9_reach_59 : decode cX9_reach 59 = .ok (.goto 4, 3) := by decide +kernel
theorem dX9_reach_62 : decode cX9_reach 62 = .ok (.iconst 0, 1) := by decide +kernel
theorem dX9_reach_63 : decode cX9_reach 63 = .ok (.iadd, 1) := by decide +kernel
theorem dX9_reach_64 : decode cX9_reach 64 = .ok (.iload_n 3, 1) := by decide +kernel
theorem dX9_reach_65 : decode cX9_reach 65 = .ok (.iconst 1, 1) := by decide +kernel
theorem dX9_reach_66 : decode cX9_reach 66 = .ok (.if_icmp .le 16, 3) := by decide +kernel
theorem dX9_reach_69 : decode cX9_reach 69 = .ok (.aload_n 0, 1) := by decide +kernel
theorem dX9_reach_70 : decode cX9_reach 70 = .ok (.getfield 15, 3) := by decide +kernel
theorem dX9_reach_73 : decode cX9_reach 73 = .ok (.iload_n 2, 1) := by decide +kernel
theorem dX9_reach_74 : decode cX9_reach 74 = .ok (.sipush 255, 3) := by decide +kernel
theorem dX9_reach_77 : decode cX9_reach 77 = .ok (.iand, 1) := by decide +kernel
theorem dX9_reach_78 : decode cX9_reach 78 = .ok (.iaload, 1) := by decide +kernel
theorem dX9_reach_79 : decode cX9_reach 79 = .ok (.goto 4, 3) := by decide +kernel
theorem dX9_reach_82 : decode cX9_reach 82 = .ok (.iconst 0, 1) := by decide +kernel
theorem dX9_reach_83 : decode cX9_reach 83 = .ok (.iadd, 1) := by decide +kernel
theorem dX9_reach_84 : decode cX9_reach 84 = .ok (.iastore, 1) := by decide +kernel
theorem dX9_reach_85 : decode cX9_reach 85 = .ok (.aload_n 0, 1) := by decide +kernel
theorem dX9_reach_86 : decode cX9_reach 86 = .ok (.getfield 75, 3) := by decide +kernel
theorem dX9_reach_89 : decode cX9_reach 89 = .ok (.istore 4, 2) := by decide +kernel
theorem dX9_reach_91 : decode cX9_reach 91 = .ok (.iload 4, 2) := by decide +kernel
theorem dX9_reach_93 : decode cX9_reach 93 = .ok (.ifCond .le 69, 3) := by decide +kernel
theorem dX9_reach_96 : decode cX9_reach 96 = .ok (.aload_n 0, 1) := by decide +kernel
theorem dX9_reach_97 : decode cX9_reach 97 = .ok (.iload_n 2, 1) := by decide +kernel
theorem dX9_reach_98 : decode cX9_reach 98 = .ok (.aload_n 0, 1) := by decide +kernel
theorem dX9_reach_99 : decode cX9_reach 99 = .ok (.getfield 18, 3) := by decide +kernel
theorem dX9_reach_102 : decode cX9_reach 102 = .ok (.aload_n 0, 1) := by decide +kernel
theorem dX9_reach_103 : decode cX9_reach 103 = .ok (.getfield 24, 3) := by decide +kernel
theorem dX9_reach_106 : decode cX9_reach 106 = .ok (.iload 4, 2) := by decide +kernel
theorem dX9_reach_108 : decode cX9_reach 108 = .ok (.iconst 1, 1) := by decide +kernel
theorem dX9_reach_109 : decode cX9_reach 109 = .ok (.isub, 1) := by decide +kernel
theorem dX9_reach_110 : decode cX9_reach 110 = .ok (.iaload, 1) := by decide +kernel
theorem dX9_reach_111 : decode cX9_reach 111 = .ok (.sipush 255, 3) := by decide +kernel
theorem dX9_reach_114 : decode cX9_reach 114 = .ok (.iand, 1) := by decide +kernel
theorem dX9_reach_115 : decode cX9_reach 115 = .ok (.iaload, 1) := by decide +kernel
theorem dX9_reach_116 : decode cX9_reach 116 = .ok (.invokevirtual 125, 3) := by decide +kernel
theorem dX9_reach_119 : decode cX9_reach 119 = .ok (.ifCond .eq 43, 3) := by decide +kernel
theorem dX9_reach_122 : decode cX9_reach 122 = .ok (.aload_n 0, 1) := by decide +kernel
theorem dX9_reach_123 : decode cX9_reach 123 = .ok (.getfield 24, 3) := by decide +kernel
theorem dX9_reach_126 : decode cX9_reach 126 = .ok (.iload 4, 2) := by decide +kernel
theorem dX9_reach_128 : decode cX9_reach 128 = .ok (.aload_n 0, 1) := by decide +kernel
theorem dX9_reach_129 : decode cX9_reach 129 = .ok (.getfield 24, 3) := by decide +kernel
theorem dX9_reach_132 : decode cX9_reach 132 = .ok (.iload 4, 2) := by decide +kernel
theorem dX9_reach_134 : decode cX9_reach 134 = .ok (.iconst 1, 1) := by decide +kernel
theorem dX9_reach_135 : decode cX9_reach 135 = .ok (.isub, 1) := by decide +kernel
theorem dX9_reach_136 : decode cX9_reach 136 = .ok (.iaload, 1) := by decide +kernel
theorem dX9_reach_137 : decode cX9_reach 137 = .ok (.iastore, 1) := by decide +kernel
theorem dX9_reach_138 : decode cX9_reach 138 = .ok (.aload_n 0, 1) := by decide +kernel
theorem dX9_reach_139 : decode cX9_reach 139 = .ok (.getfield 21, 3) := by decide +kernel
theorem dX9_reach_142 : decode cX9_reach 142 = .ok (.aload_n 0, 1) := by decide +kernel
theorem dX9_reach_143 : decode cX9_reach 143 = .ok (.getfield 24, 3) := by decide +kernel
theorem dX9_reach_146 : decode cX9_reach 146 = .ok (.iload 4, 2) := by decide +kernel
theorem dX9_reach_148 : decode cX9_reach 148 = .ok (.iaload, 1) := by decide +kernel
theorem dX9_reach_149 : decode cX9_reach 149 = .ok (.sipush 255, 3) := by decide +kernel
theorem dX9_reach_152 : decode cX9_reach 152 = .ok (.iand, 1) := by decide +kernel
theorem dX9_reach_153 : decode cX9_reach 153 = .ok (.iload 4, 2) := by decide +kernel
theorem dX9_reach_155 : decode cX9_reach 155 = .ok (.iastore, 1) := by decide +kernel
theorem dX9_reach_156 : decode cX9_reach 156 = .ok (.iinc 4 (-1), 3) := by decide +kernel
theorem dX9_reach_159 : decode cX9_reach 159 = .ok (.goto (-68), 3) := by decide +kernel
theorem dX9_reach_162 : decode cX9_reach 162 = .ok (.aload_n 0, 1) := by decide +kernel
theorem dX9_reach_163 : decode cX9_reach 163 = .ok (.getfield 24, 3) := by decide +kernel
theorem dX9_reach_166 : decode cX9_reach 166 = .ok (.iload 4, 2) := by decide +kernel
theorem dX9_reach_168 : decode cX9_reach 168 = .ok (.iload_n 1, 1) := by decide +kernel
theorem dX9_reach_169 : decode cX9_reach 169 = .ok (.iastore, 1) := by decide +kernel
theorem dX9_reach_170 : decode cX9_reach 170 = .ok (.aload_n 0, 1) := by decide +kernel
theorem dX9_reach_171 : decode cX9_reach 171 = .ok (.getfield 21, 3) := by decide +kernel
theorem dX9_reach_174 : decode cX9_reach 174 = .ok (.iload_n 1, 1) := by decide +kernel
theorem dX9_reach_175 : decode cX9_reach 175 = .ok (.iload 4, 2) := by decide +kernel
theorem dX9_reach_177 : decode cX9_reach 177 = .ok (.iastore, 1) := by decide +kernel
theorem dX9_reach_178 : decode cX9_reach 178 = .ok (.aload_n 0, 1) := by decide +kernel
theorem dX9_reach_179 : decode cX9_reach 179 = .ok (.getfield 27, 3) := by decide +kernel
theorem dX9_reach_182 : decode cX9_reach 182 = .ok (.aload_n 0, 1) := by decide +kernel
theorem dX9_reach_183 : decode cX9_reach 183 = .ok (.dup, 1) := by decide +kernel
theorem dX9_reach_184 : decode cX9_reach 184 = .ok (.getfield 75, 3) := by decide +kernel
theorem dX9_reach_187 : decode cX9_reach 187 = .ok (.dup_x1, 1) := by decide +kernel
theorem dX9_reach_188 : decode cX9_reach 188 = .ok (.iconst 1, 1) := by decide +kernel
theorem dX9_reach_189 : decode cX9_reach 189 = .ok (.iadd, 1) := by decide +kernel
theorem dX9_reach_190 : decode cX9_reach 190 = .ok (.putfield 75, 3) := by decide +kernel
theorem dX9_reach_193 : decode cX9_reach 193 = .ok (.iload_n 1, 1) := by decide +kernel
theorem dX9_reach_194 : decode cX9_reach 194 = .ok (.iastore, 1) := by decide +kernel
theorem dX9_reach_195 : decode cX9_reach 195 = .ok (.return_, 1) := by decide +kernel
theorem dX9_turn_0 : decode cX9_turn 0 = .ok (.iconst 4, 1) := by decide +kernel
theorem dX9_turn_1 : decode cX9_turn 1 = .ok (.istore 4, 2) := by decide +kernel
theorem dX9_turn_3 : decode cX9_turn 3 = .ok (.iload 4, 2) := by decide +kernel
theorem dX9_turn_5 : decode cX9_turn 5 = .ok (.bipush 15, 2) := by decide +kernel
theorem dX9_turn_7 : decode cX9_turn 7 = .ok (.if_icmp .ge 82, 3) := by decide +kernel
theorem dX9_turn_10 : decode cX9_turn 10 = .ok (.iload 4, 2) := by decide +kernel
theorem dX9_turn_12 : decode cX9_turn 12 = .ok (.aload_n 2, 1) := by decide +kernel
theorem dX9_turn_13 : decode cX9_turn 13 = .ok (.arraylength, 1) := by decide +kernel
theorem dX9_turn_14 : decode cX9_turn 14 = .ok (.if_icmp .ge 75, 3) := by decide +kernel
theorem dX9_turn_17 : decode cX9_turn 17 = .ok (.iload 4, 2) := by decide +kernel
theorem dX9_turn_19 : decode cX9_turn 19 = .ok (.invokestatic 91, 3) := by decide +kernel
theorem dX9_turn_22 : decode cX9_turn 22 = .ok (.iconst 1, 1) := by decide +kernel
theorem dX9_turn_23 : decode cX9_turn 23 = .ok (.if_icmp .ne 60, 3) := by decide +kernel
theorem dX9_turn_26 : decode cX9_turn 26 = .ok (.aload_n 0, 1) := by decide +kernel
theorem dX9_turn_27 : decode cX9_turn 27 = .ok (.getfield 42, 3) := by decide +kernel
theorem dX9_turn_30 : decode cX9_turn 30 = .ok (.iload 4, 2) := by decide +kernel
theorem dX9_turn_32 : decode cX9_turn 32 = .ok (.invokestatic 88, 3) := by decide +kernel
theorem dX9_turn_35 : decode cX9_turn 35 = .ok (.ifCond .eq 48, 3) := by decide +kernel
theorem dX9_turn_38 : decode cX9_turn 38 = .ok (.aload_n 0, 1) := by decide +kernel
theorem dX9_turn_39 : decode cX9_turn 39 = .ok (.getfield 9, 3) := by decide +kernel
theorem dX9_turn_42 : decode cX9_turn 42 = .ok (.iload_n 3, 1) := by decide +kernel
theorem dX9_turn_43 : decode cX9_turn 43 = .ok (.iaload, 1) := by decide +kernel
theorem dX9_turn_44 : decode cX9_turn 44 = .ok (.aload_n 2, 1) := by decide +kernel
theorem dX9_turn_45 : decode cX9_turn 45 = .ok (.iload 4, 2) := by decide +kernel
theorem dX9_turn_47 : decode cX9_turn 47 = .ok (.iaload, 1) := by decide +kernel
theorem dX9_turn_48 : decode cX9_turn 48 = .ok (.iadd, 1) := by decide +kernel
theorem dX9_turn_49 : decode cX9_turn 49 = .ok (.istore 5, 2) := by decide +kernel
theorem dX9_turn_51 : decode cX9_turn 51 = .ok (.iload 5, 2) := by decide +kernel
theorem dX9_turn_53 : decode cX9_turn 53 = .ok (.aload_n 0, 1) := by decide +kernel
theorem dX9_turn_54 : decode cX9_turn 54 = .ok (.getfield 117, 3) := by decide +kernel
theorem dX9_turn_57 : decode cX9_turn 57 = .ok (.if_icmp .gt 26, 3) := by decide +kernel
theorem dX9_turn_60 : decode cX9_turn 60 = .ok (.aload_n 0, 1) := by decide +kernel
theorem dX9_turn_61 : decode cX9_turn 61 = .ok (.aload_n 1, 1) := by decide +kernel
theorem dX9_turn_62 : decode cX9_turn 62 = .ok (.iload 4, 2) := by decide +kernel
theorem dX9_turn_64 : decode cX9_turn 64 = .ok (.iload_n 3, 1) := by decide +kernel
theorem dX9_turn_65 : decode cX9_turn 65 = .ok (.invokevirtual 128, 3) := by decide +kernel
theorem dX9_turn_68 : decode cX9_turn 68 = .ok (.iload 5, 2) := by decide +kernel
theorem dX9_turn_70 : decode cX9_turn 70 = .ok (.iload 4, 2) := by decide +kernel
theorem dX9_turn_72 : decode cX9_turn 72 = .ok (.bipush 19, 2) := by decide +kernel
theorem dX9_turn_74 : decode cX9_turn 74 = .ok (.ishl, 1) := by decide +kernel
theorem dX9_turn_75 : decode cX9_turn 75 = .ok (.iload_n 3, 1) := by decide +kernel
theorem dX9_turn_76 : decode cX9_turn 76 = .ok (.bipush 8, 2) := by decide +kernel
theorem dX9_turn_78 : decode cX9_turn 78 = .ok (.ishl, 1) := by decide +kernel
theorem dX9_turn_79 : decode cX9_turn 79 = .ok (.ior, 1) := by decide +kernel
theorem dX9_turn_80 : decode cX9_turn 80 = .ok (.invokevirtual 113, 3) := by decide +kernel
theorem dX9_turn_83 : decode cX9_turn 83 = .ok (.iinc 4 1, 3) := by decide +kernel
theorem dX9_turn_86 : decode cX9_turn 86 = .ok (.goto (-83), 3) := by decide +kernel
theorem dX9_turn_89 : decode cX9_turn 89 = .ok (.return_, 1) := by decide +kernel
theorem dX9_joinAll_0 : decode cX9_joinAll 0 = .ok (.iconst 0, 1) := by decide +kernel
theorem dX9_joinAll_1 : decode cX9_joinAll 1 = .ok (.istore_n 3, 1) := by decide +kernel
theorem dX9_joinAll_2 : decode cX9_joinAll 2 = .ok (.iload_n 3, 1) := by decide +kernel
theorem dX9_joinAll_3 : decode cX9_joinAll 3 = .ok (.aload_n 0, 1) := by decide +kernel
theorem dX9_joinAll_4 : decode cX9_joinAll 4 = .ok (.getfield 75, 3) := by decide +kernel
theorem dX9_joinAll_7 : decode cX9_joinAll 7 = .ok (.if_icmp .ge 105, 3) := by decide +kernel
theorem dX9_joinAll_10 : decode cX9_joinAll 10 = .ok (.iload_n 3, 1) := by decide +kernel
theorem dX9_joinAll_11 : decode cX9_joinAll 11 = .ok (.sipush 256, 3) := by decide +kernel
theorem dX9_joinAll_14 : decode cX9_joinAll 14 = .ok (.if_icmp .ge 98, 3) := by decide +kernel
theorem dX9_joinAll_17 : decode cX9_joinAll 17 = .ok (.aload_n 0, 1) := by decide +kernel
theorem dX9_joinAll_18 : decode cX9_joinAll 18 = .ok (.getfield 27, 3) := by decide +kernel
theorem dX9_joinAll_21 : decode cX9_joinAll 21 = .ok (.iload_n 3, 1) := by decide +kernel
theorem dX9_joinAll_22 : decode cX9_joinAll 22 = .ok (.iaload, 1) := by decide +kernel
theorem dX9_joinAll_23 : decode cX9_joinAll 23 = .ok (.sipush 255, 3) := by decide +kernel
theorem dX9_joinAll_26 : decode cX9_joinAll 26 = .ok (.iand, 1) := by decide +kernel
theorem dX9_joinAll_27 : decode cX9_joinAll 27 = .ok (.istore 4, 2) := by decide +kernel
theorem dX9_joinAll_29 : decode cX9_joinAll 29 = .ok (.aload_n 0, 1) := by decide +kernel
theorem dX9_joinAll_30 : decode cX9_joinAll 30 = .ok (.getfield 9, 3) := by decide +kernel
theorem dX9_joinAll_33 : decode cX9_joinAll 33 = .ok (.iload_n 2, 1) := by decide +kernel
theorem dX9_joinAll_34 : decode cX9_joinAll 34 = .ok (.iaload, 1) := by decide +kernel
theorem dX9_joinAll_35 : decode cX9_joinAll 35 = .ok (.aload_n 0, 1) := by decide +kernel
theorem dX9_joinAll_36 : decode cX9_joinAll 36 = .ok (.getfield 9, 3) := by decide +kernel
theorem dX9_joinAll_39 : decode cX9_joinAll 39 = .ok (.iload 4, 2) := by decide +kernel
theorem dX9_joinAll_41 : decode cX9_joinAll 41 = .ok (.iaload, 1) := by decide +kernel
theorem dX9_joinAll_42 : decode cX9_joinAll 42 = .ok (.iadd, 1) := by decide +kernel
theorem dX9_joinAll_43 : decode cX9_joinAll 43 = .ok (.aload_n 0, 1) := by decide +kernel
theorem dX9_joinAll_44 : decode cX9_joinAll 44 = .ok (.getfield 83, 3) := by decide +kernel
theorem dX9_joinAll_47 : decode cX9_joinAll 47 = .ok (.iadd, 1) := by decide +kernel
theorem dX9_joinAll_48 : decode cX9_joinAll 48 = .ok (.aload_n 0, 1) := by decide +kernel
theorem dX9_joinAll_49 : decode cX9_joinAll 49 = .ok (.getfield 117, 3) := by decide +kernel
theorem dX9_joinAll_52 : decode cX9_joinAll 52 = .ok (.if_icmp .le 4, 3) := by decide +kernel
theorem dX9_joinAll_55 : decode cX9_joinAll 55 = .ok (.return_, 1) := by decide +kernel
theorem dX9_joinAll_56 : decode cX9_joinAll 56 = .ok (.aload_n 0, 1) := by decide +kernel
theorem dX9_joinAll_57 : decode cX9_joinAll 57 = .ok (.getfield 21, 3) := by decide +kernel
theorem dX9_joinAll_60 : decode cX9_joinAll 60 = .ok (.iload_n 2, 1) := by decide +kernel
theorem dX9_joinAll_61 : decode cX9_joinAll 61 = .ok (.iaload, 1) := by decide +kernel
theorem dX9_joinAll_62 : decode cX9_joinAll 62 = .ok (.aload_n 0, 1) := by decide +kernel
theorem dX9_joinAll_63 : decode cX9_joinAll 63 = .ok (.getfield 21, 3) := by decide +kernel
theorem dX9_joinAll_66 : decode cX9_joinAll 66 = .ok (.iload 4, 2) := by decide +kernel
theorem dX9_joinAll_68 : decode cX9_joinAll 68 = .ok (.iaload, 1) := by decide +kernel
theorem dX9_joinAll_69 : decode cX9_joinAll 69 = .ok (.if_icmp .ge 7, 3) := by decide +kernel
theorem dX9_joinAll_72 : decode cX9_joinAll 72 = .ok (.iconst 1, 1) := by decide +kernel
theorem dX9_joinAll_73 : decode cX9_joinAll 73 = .ok (.goto 4, 3) := by decide +kernel
theorem dX9_joinAll_76 : decode cX9_joinAll 76 = .ok (.iconst 0, 1) := by decide +kernel
theorem dX9_joinAll_77 : decode cX9_joinAll 77 = .ok (.istore 5, 2) := by decide +kernel
theorem dX9_joinAll_79 : decode cX9_joinAll 79 = .ok (.aload_n 0, 1) := by decide +kernel
theorem dX9_joinAll_80 : decode cX9_joinAll 80 = .ok (.aload_n 1, 1) := by decide +kernel
theorem dX9_joinAll_81 : decode cX9_joinAll 81 = .ok (.iload 5, 2) := by decide +kernel
theorem dX9_joinAll_83 : decode cX9_joinAll 83 = .ok (.ifCond .eq 7, 3) := by decide +kernel
theorem dX9_joinAll_86 : decode cX9_joinAll 86 = .ok (.iload_n 2, 1) := by decide +kernel
theorem dX9_joinAll_87 : decode cX9_joinAll 87 = .ok (.goto 5, 3) := by decide +kernel
theorem dX9_joinAll_90 : decode cX9_joinAll 90 = .ok (.iload 4, 2) := by decide +kernel
theorem dX9_joinAll_92 : decode cX9_joinAll 92 = .ok (.iload 5, 2) := by decide +kernel
theorem dX9_joinAll_94 : decode cX9_joinAll 94 = .ok (.ifCond .eq 8, 3) := by decide +kernel
theorem dX9_joinAll_97 : decode cX9_joinAll 97 = .ok (.iload 4, 2) := by decide +kernel
theorem dX9_joinAll_99 : decode cX9_joinAll 99 = .ok (.goto 4, 3) := by decide +kernel
theorem dX9_joinAll_102 : decode cX9_joinAll 102 = .ok (.iload_n 2, 1) := by decide +kernel
theorem dX9_joinAll_103 : decode cX9_joinAll 103 = .ok (.invokevirtual 131, 3) := by decide +kernel
theorem dX9_joinAll_106 : decode cX9_joinAll 106 = .ok (.iinc 3 1, 3) := by decide +kernel
theorem dX9_joinAll_109 : decode cX9_joinAll 109 = .ok (.goto (-107), 3) := by decide +kernel
theorem dX9_joinAll_112 : decode cX9_joinAll 112 = .ok (.return_, 1) := by decide +kernel
theorem dX9_joinTwo_0 : decode cX9_joinTwo 0 = .ok (.aload_n 0, 1) := by decide +kernel
theorem dX9_joinTwo_1 : decode cX9_joinTwo 1 = .ok (.getfield 9, 3) := by decide +kernel
theorem dX9_joinTwo_4 : decode cX9_joinTwo 4 = .ok (.iload_n 2, 1) := by decide +kernel
theorem dX9_joinTwo_5 : decode cX9_joinTwo 5 = .ok (.iaload, 1) := by decide +kernel
theorem dX9_joinTwo_6 : decode cX9_joinTwo 6 = .ok (.aload_n 0, 1) := by decide +kernel
theorem dX9_joinTwo_7 : decode cX9_joinTwo 7 = .ok (.getfield 9, 3) := by decide +kernel
theorem dX9_joinTwo_10 : decode cX9_joinTwo 10 = .ok (.iload_n 3, 1) := by decide +kernel
theorem dX9_joinTwo_11 : decode cX9_joinTwo 11 = .ok (.iaload, 1) := by decide +kernel
theorem dX9_joinTwo_12 : decode cX9_joinTwo 12 = .ok (.iadd, 1) := by decide +kernel
theorem dX9_joinTwo_13 : decode cX9_joinTwo 13 = .ok (.istore 4, 2) := by decide +kernel
theorem dX9_joinTwo_15 : decode cX9_joinTwo 15 = .ok (.iload_n 2, 1) := by decide +kernel
theorem dX9_joinTwo_16 : decode cX9_joinTwo 16 = .ok (.bipush 8, 2) := by decide +kernel
theorem dX9_joinTwo_18 : decode cX9_joinTwo 18 = .ok (.ishl, 1) := by decide +kernel
theorem dX9_joinTwo_19 : decode cX9_joinTwo 19 = .ok (.iload_n 3, 1) := by decide +kernel
theorem dX9_joinTwo_20 : decode cX9_joinTwo 20 = .ok (.ior, 1) := by decide +kernel
theorem dX9_joinTwo_21 : decode cX9_joinTwo 21 = .ok (.istore 5, 2) := by decide +kernel
theorem dX9_joinTwo_23 : decode cX9_joinTwo 23 = .ok (.aload_n 0, 1) := by decide +kernel
theorem dX9_joinTwo_24 : decode cX9_joinTwo 24 = .ok (.getfield 42, 3) := by decide +kernel
theorem dX9_joinTwo_27 : decode cX9_joinTwo 27 = .ok (.iconst 5, 1) := by decide +kernel
theorem dX9_joinTwo_28 : decode cX9_joinTwo 28 = .ok (.invokestatic 88, 3) := by decide +kernel
theorem dX9_joinTwo_31 : decode cX9_joinTwo 31 = .ok (.ifCond .eq 21, 3) := by decide +kernel
theorem dX9_joinTwo_34 : decode cX9_joinTwo 34 = .ok (.aload_n 0, 1) := by decide +kernel
theorem dX9_joinTwo_35 : decode cX9_joinTwo 35 = .ok (.iload_n 2, 1) := by decide +kernel
theorem dX9_joinTwo_36 : decode cX9_joinTwo 36 = .ok (.iload_n 3, 1) := by decide +kernel
theorem dX9_joinTwo_37 : decode cX9_joinTwo 37 = .ok (.iand, 1) := by decide +kernel
theorem dX9_joinTwo_38 : decode cX9_joinTwo 38 = .ok (.iload 4, 2) := by decide +kernel
theorem dX9_joinTwo_40 : decode cX9_joinTwo 40 = .ok (.aload_n 1, 1) := by decide +kernel
theorem dX9_joinTwo_41 : decode cX9_joinTwo 41 = .ok (.iconst 5, 1) := by decide +kernel
theorem dX9_joinTwo_42 : decode cX9_joinTwo 42 = .ok (.iaload, 1) := by decide +kernel
theorem dX9_joinTwo_43 : decode cX9_joinTwo 43 = .ok (.iadd, 1) := by decide +kernel
theorem dX9_joinTwo_44 : decode cX9_joinTwo 44 = .ok (.ldc 135, 2) := by decide +kernel
theorem dX9_joinTwo_46 : decode cX9_joinTwo 46 = .ok (.iload 5, 2) := by decide +kernel
theorem dX9_joinTwo_48 : decode cX9_joinTwo 48 = .ok (.ior, 1) := by decide +kernel
theorem dX9_joinTwo_49 : decode cX9_joinTwo 49 = .ok (.invokevirtual 113, 3) := by decide +kernel
theorem dX9_joinTwo_52 : decode cX9_joinTwo 52 = .ok (.aload_n 0, 1) := by decide +kernel
theorem dX9_joinTwo_53 : decode cX9_joinTwo 53 = .ok (.getfield 42, 3) := by decide +kernel
theorem dX9_joinTwo_56 : decode cX9_joinTwo 56 = .ok (.bipush 6, 2) := by decide +kernel
theorem dX9_joinTwo_58 : decode cX9_joinTwo 58 = .ok (.invokestatic 88, 3) := by decide +kernel
theorem dX9_joinTwo_61 : decode cX9_joinTwo 61 = .ok (.ifCond .eq 22, 3) := by decide +kernel
theorem dX9_joinTwo_64 : decode cX9_joinTwo 64 = .ok (.aload_n 0, 1) := by decide +kernel
theorem dX9_joinTwo_65 : decode cX9_joinTwo 65 = .ok (.iload_n 2, 1) := by decide +kernel
theorem dX9_joinTwo_66 : decode cX9_joinTwo 66 = .ok (.iload_n 3, 1) := by decide +kernel
theorem dX9_joinTwo_67 : decode cX9_joinTwo 67 = .ok (.ior, 1) := by decide +kernel
theorem dX9_joinTwo_68 : decode cX9_joinTwo 68 = .ok (.iload 4, 2) := by decide +kernel
theorem dX9_joinTwo_70 : decode cX9_joinTwo 70 = .ok (.aload_n 1, 1) := by decide +kernel
theorem dX9_joinTwo_71 : decode cX9_joinTwo 71 = .ok (.bipush 6, 2) := by decide +kernel
theorem dX9_joinTwo_73 : decode cX9_joinTwo 73 = .ok (.iaload, 1) := by decide +kernel
theorem dX9_joinTwo_74 : decode cX9_joinTwo 74 = .ok (.iadd, 1) := by decide +kernel
theorem dX9_joinTwo_75 : decode cX9_joinTwo 75 = .ok (.ldc 136, 2) := by decide +kernel
theorem dX9_joinTwo_77 : decode cX9_joinTwo 77 = .ok (.iload 5, 2) := by decide +kernel
theorem dX9_joinTwo_79 : decode cX9_joinTwo 79 = .ok (.ior, 1) := by decide +kernel
theorem dX9_joinTwo_80 : decode cX9_joinTwo 80 = .ok (.invokevirtual 113, 3) := by decide +kernel
theorem dX9_joinTwo_83 : decode cX9_joinTwo 83 = .ok (.aload_n 0, 1) := by decide +kernel
theorem dX9_joinTwo_84 : decode cX9_joinTwo 84 = .ok (.getfield 42, 3) := by decide +kernel
theorem dX9_joinTwo_87 : decode cX9_joinTwo 87 = .ok (.bipush 7, 2) := by decide +kernel
theorem dX9_joinTwo_89 : decode cX9_joinTwo 89 = .ok (.invokestatic 88, 3) := by decide +kernel
theorem dX9_joinTwo_92 : decode cX9_joinTwo 92 = .ok (.ifCond .eq 49, 3) := by decide +kernel
theorem dX9_joinTwo_95 : decode cX9_joinTwo 95 = .ok (.aload_n 0, 1) := by decide +kernel
theorem dX9_joinTwo_96 : decode cX9_joinTwo 96 = .ok (.iload_n 2, 1) := by decide +kernel
theorem dX9_joinTwo_97 : decode cX9_joinTwo 97 = .ok (.iload_n 3, 1) := by decide +kernel
theorem dX9_joinTwo_98 : decode cX9_joinTwo 98 = .ok (.iconst (-1), 1) := by decide +kernel
theorem dX9_joinTwo_99 : decode cX9_joinTwo 99 = .ok (.ixor, 1) := by decide +kernel
theorem dX9_joinTwo_100 : decode cX9_joinTwo 100 = .ok (.iand, 1) := by decide +kernel
theorem dX9_joinTwo_101 : decode cX9_joinTwo 101 = .ok (.iload 4, 2) := by decide +kernel
theorem dX9_joinTwo_103 : decode cX9_joinTwo 103 = .ok (.aload_n 1, 1) := by decide +kernel
theorem dX9_joinTwo_104 : decode cX9_joinTwo 104 = .ok (.bipush 7, 2) := by decide +kernel
theorem dX9_joinTwo_106 : decode cX9_joinTwo 106 = .ok (.iaload, 1) := by decide +kernel
theorem dX9_joinTwo_107 : decode cX9_joinTwo 107 = .ok (.iadd, 1) := by decide +kernel
theorem dX9_joinTwo_108 : decode cX9_joinTwo 108 = .ok (.ldc 137, 2) := by decide +kernel
theorem dX9_joinTwo_110 : decode cX9_joinTwo 110 = .ok (.iload 5, 2) := by decide +kernel
theorem dX9_joinTwo_112 : decode cX9_joinTwo 112 = .ok (.ior, 1) := by decide +kernel
theorem dX9_joinTwo_113 : decode cX9_joinTwo 113 = .ok (.invokevirtual 113, 3) := by decide +kernel
theorem dX9_joinTwo_116 : decode cX9_joinTwo 116 = .ok (.aload_n 0, 1) := by decide +kernel
theorem dX9_joinTwo_117 : decode cX9_joinTwo 117 = .ok (.iload_n 3, 1) := by decide +kernel
theorem dX9_joinTwo_118 : decode cX9_joinTwo 118 = .ok (.iload_n 2, 1) := by decide +kernel
theorem dX9_joinTwo_119 : decode cX9_joinTwo 119 = .ok (.iconst (-1), 1) := by decide +kernel
theorem dX9_joinTwo_120 : decode cX9_joinTwo 120 = .ok (.ixor, 1) := by decide +kernel
theorem dX9_joinTwo_121 : decode cX9_joinTwo 121 = .ok (.iand, 1) := by decide +kernel
theorem dX9_joinTwo_122 : decode cX9_joinTwo 122 = .ok (.iload 4, 2) := by decide +kernel
theorem dX9_joinTwo_124 : decode cX9_joinTwo 124 = .ok (.aload_n 1, 1) := by decide +kernel
theorem dX9_joinTwo_125 : decode cX9_joinTwo 125 = .ok (.bipush 7, 2) := by decide +kernel
theorem dX9_joinTwo_127 : decode cX9_joinTwo 127 = .ok (.iaload, 1) := by decide +kernel
theorem dX9_joinTwo_128 : decode cX9_joinTwo 128 = .ok (.iadd, 1) := by decide +kernel
theorem dX9_joinTwo_129 : decode cX9_joinTwo 129 = .ok (.ldc 137, 2) := by decide +kernel
theorem dX9_joinTwo_131 : decode cX9_joinTwo 131 = .ok (.iload_n 3, 1) := by decide +kernel
theorem dX9_joinTwo_132 : decode cX9_joinTwo 132 = .ok (.bipush 8, 2) := by decide +kernel
theorem dX9_joinTwo_134 : decode cX9_joinTwo 134 = .ok (.ishl, 1) := by decide +kernel
theorem dX9_joinTwo_135 : decode cX9_joinTwo 135 = .ok (.ior, 1) := by decide +kernel
theorem dX9_joinTwo_136 : decode cX9_joinTwo 136 = .ok (.iload_n 2, 1) := by decide +kernel
theorem dX9_joinTwo_137 : decode cX9_joinTwo 137 = .ok (.ior, 1) := by decide +kernel
theorem dX9_joinTwo_138 : decode cX9_joinTwo 138 = .ok (.invokevirtual 113, 3) := by decide +kernel
theorem dX9_joinTwo_141 : decode cX9_joinTwo 141 = .ok (.return_, 1) := by decide +kernel
theorem dX9_offer_0 : decode cX9_offer 0 = .ok (.iload_n 1, 1) := by decide +kernel
theorem dX9_offer_1 : decode cX9_offer 1 = .ok (.sipush 255, 3) := by decide +kernel
theorem dX9_offer_4 : decode cX9_offer 4 = .ok (.iand, 1) := by decide +kernel
theorem dX9_offer_5 : decode cX9_offer 5 = .ok (.istore 4, 2) := by decide +kernel
theorem dX9_offer_7 : decode cX9_offer 7 = .ok (.aload_n 0, 1) := by decide +kernel
theorem dX9_offer_8 : decode cX9_offer 8 = .ok (.getfield 21, 3) := by decide +kernel
theorem dX9_offer_11 : decode cX9_offer 11 = .ok (.iload 4, 2) := by decide +kernel
theorem dX9_offer_13 : decode cX9_offer 13 = .ok (.iaload, 1) := by decide +kernel
theorem dX9_offer_14 : decode cX9_offer 14 = .ok (.iconst (-1), 1) := by decide +kernel
theorem dX9_offer_15 : decode cX9_offer 15 = .ok (.if_icmp .ne 21, 3) := by decide +kernel
theorem dX9_offer_18 : decode cX9_offer 18 = .ok (.iload_n 2, 1) := by decide +kernel
theorem dX9_offer_19 : decode cX9_offer 19 = .ok (.aload_n 0, 1) := by decide +kernel
theorem dX9_offer_20 : decode cX9_offer 20 = .ok (.getfield 9, 3) := by decide +kernel
theorem dX9_offer_23 : decode cX9_offer 23 = .ok (.iload 4, 2) := by decide +kernel
theorem dX9_offer_25 : decode cX9_offer 25 = .ok (.iaload, 1) := by decide +kernel
theorem dX9_offer_26 : decode cX9_offer 26 = .ok (.if_icmp .gt 10, 3) := by decide +kernel
theorem dX9_offer_29 : decode cX9_offer 29 = .ok (.iload_n 2, 1) := by decide +kernel
theorem dX9_offer_30 : decode cX9_offer 30 = .ok (.sipush 1000, 3) := by decide +kernel
theorem dX9_offer_33 : decode cX9_offer 33 = .ok (.if_icmp .lt 4, 3) := by decide +kernel
theorem dX9_offer_36 : decode cX9_offer 36 = .ok (.return_, 1) := by decide +kernel
theorem dX9_offer_37 : decode cX9_offer 37 = .ok (.iload_n 2, 1) := by decide +kernel
theorem dX9_offer_38 : decode cX9_offer 38 = .ok (.aload_n 0, 1) := by decide +kernel
theorem dX9_offer_39 : decode cX9_offer 39 = .ok (.getfield 9, 3) := by decide +kernel
theorem dX9_offer_42 : decode cX9_offer 42 = .ok (.iload 4, 2) := by decide +kernel
theorem dX9_offer_44 : decode cX9_offer 44 = .ok (.iaload, 1) := by decide +kernel
theorem dX9_offer_45 : decode cX9_offer 45 = .ok (.if_icmp .lt 18, 3) := by decide +kernel
theorem dX9_offer_48 : decode cX9_offer 48 = .ok (.aload_n 0, 1) := by decide +kernel
theorem dX9_offer_49 : decode cX9_offer 49 = .ok (.iload_n 3, 1) := by decide +kernel
theorem dX9_offer_50 : decode cX9_offer 50 = .ok (.aload_n 0, 1) := by decide +kernel
theorem dX9_offer_51 : decode cX9_offer 51 = .ok (.getfield 18, 3) := by decide +kernel
theorem dX9_offer_54 : decode cX9_offer 54 = .ok (.iload 4, 2) := by decide +kernel
theorem dX9_offer_56 : decode cX9_offer 56 = .ok (.iaload, 1) := by decide +kernel
theorem dX9_offer_57 : decode cX9_offer 57 = .ok (.invokevirtual 125, 3) := by decide +kernel
theorem dX9_offer_60 : decode cX9_offer 60 = .ok (.ifCond .eq 19, 3) := by decide +kernel
theorem dX9_offer_63 : decode cX9_offer 63 = .ok (.aload_n 0, 1) := by decide +kernel
theorem dX9_offer_64 : decode cX9_offer 64 = .ok (.getfield 9, 3) := by decide +kernel
theorem dX9_offer_67 : decode cX9_offer 67 = .ok (.iload 4, 2) := by decide +kernel
theorem dX9_offer_69 : decode cX9_offer 69 = .ok (.iload_n 2, 1) := by decide +kernel
theorem dX9_offer_70 : decode cX9_offer 70 = .ok (.iastore, 1) := by decide +kernel
theorem dX9_offer_71 : decode cX9_offer 71 = .ok (.aload_n 0, 1) := by decide +kernel
theorem dX9_offer_72 : decode cX9_offer 72 = .ok (.getfield 18, 3) := by decide +kernel
theorem dX9_offer_75 : decode cX9_offer 75 = .ok (.iload 4, 2) := by decide +kernel
theorem dX9_offer_77 : decode cX9_offer 77 = .ok (.iload_n 3, 1) := by decide +kernel
theorem dX9_offer_78 : decode cX9_offer 78 = .ok (.iastore, 1) := by decide +kernel
theorem dX9_offer_79 : decode cX9_offer 79 = .ok (.return_, 1) := by decide +kernel
theorem dX9_isAhead_0 : decode cX9_isAhead 0 = .ok (.iload_n 1, 1) := by decide +kernel
theorem dX9_isAhead_1 : decode cX9_isAhead 1 = .ok (.bipush 16, 2) := by decide +kernel
theorem dX9_isAhead_3 : decode cX9_isAhead 3 = .ok (.ishr, 1) := by decide +kernel
theorem dX9_isAhead_4 : decode cX9_isAhead 4 = .ok (.iload_n 2, 1) := by decide +kernel
theorem dX9_isAhead_5 : decode cX9_isAhead 5 = .ok (.bipush 16, 2) := by decide +kernel
theorem dX9_isAhead_7 : decode cX9_isAhead 7 = .ok (.ishr, 1) := by decide +kernel
theorem dX9_isAhead_8 : decode cX9_isAhead 8 = .ok (.if_icmp .eq 20, 3) := by decide +kernel
theorem dX9_isAhead_11 : decode cX9_isAhead 11 = .ok (.iload_n 1, 1) := by decide +kernel
theorem dX9_isAhead_12 : decode cX9_isAhead 12 = .ok (.bipush 16, 2) := by decide +kernel
theorem dX9_isAhead_14 : decode cX9_isAhead 14 = .ok (.ishr, 1) := by decide +kernel
theorem dX9_isAhead_15 : decode cX9_isAhead 15 = .ok (.iload_n 2, 1) := by decide +kernel
theorem dX9_isAhead_16 : decode cX9_isAhead 16 = .ok (.bipush 16, 2) := by decide +kernel
theorem dX9_isAhead_18 : decode cX9_isAhead 18 = .ok (.ishr, 1) := by decide +kernel
theorem dX9_isAhead_19 : decode cX9_isAhead 19 = .ok (.if_icmp .ge 7, 3) := by decide +kernel
theorem dX9_isAhead_22 : decode cX9_isAhead 22 = .ok (.iconst 1, 1) := by decide +kernel
theorem dX9_isAhead_23 : decode cX9_isAhead 23 = .ok (.goto 4, 3) := by decide +kernel
theorem dX9_isAhead_26 : decode cX9_isAhead 26 = .ok (.iconst 0, 1) := by decide +kernel
theorem dX9_isAhead_27 : decode cX9_isAhead 27 = .ok (.ireturn, 1) := by decide +kernel
theorem dX9_isAhead_28 : decode cX9_isAhead 28 = .ok (.aload_n 0, 1) := by decide +kernel
theorem dX9_isAhead_29 : decode cX9_isAhead 29 = .ok (.getfield 21, 3) := by decide +kernel
theorem dX9_isAhead_32 : decode cX9_isAhead 32 = .ok (.iload_n 1, 1) := by decide +kernel
theorem dX9_isAhead_33 : decode cX9_isAhead 33 = .ok (.bipush 8, 2) := by decide +kernel
theorem dX9_isAhead_35 : decode cX9_isAhead 35 = .ok (.ishr, 1) := by decide +kernel
theorem dX9_isAhead_36 : decode cX9_isAhead 36 = .ok (.sipush 255, 3) := by decide +kernel
theorem dX9_isAhead_39 : decode cX9_isAhead 39 = .ok (.iand, 1) := by decide +kernel
theorem dX9_isAhead_40 : decode cX9_isAhead 40 = .ok (.iaload, 1) := by decide +kernel
theorem dX9_isAhead_41 : decode cX9_isAhead 41 = .ok (.istore_n 3, 1) := by decide +kernel
theorem dX9_isAhead_42 : decode cX9_isAhead 42 = .ok (.aload_n 0, 1) := by decide +kernel
theorem dX9_isAhead_43 : decode cX9_isAhead 43 = .ok (.getfield 21, 3) := by decide +kernel
theorem dX9_isAhead_46 : decode cX9_isAhead 46 = .ok (.iload_n 2, 1) := by decide +kernel
theorem dX9_isAhead_47 : decode cX9_isAhead 47 = .ok (.bipush 8, 2) := by decide +kernel
theorem dX9_isAhead_49 : decode cX9_isAhead 49 = .ok (.ishr, 1) := by decide +kernel
theorem dX9_isAhead_50 : decode cX9_isAhead 50 = .ok (.sipush 255, 3) := by decide +kernel
theorem dX9_isAhead_53 : decode cX9_isAhead 53 = .ok (.iand, 1) := by decide +kernel
theorem dX9_isAhead_54 : decode cX9_isAhead 54 = .ok (.iaload, 1) := by decide +kernel
theorem dX9_isAhead_55 : decode cX9_isAhead 55 = .ok (.istore 4, 2) := by decide +kernel
theorem dX9_isAhead_57 : decode cX9_isAhead 57 = .ok (.iload_n 3, 1) := by decide +kernel
theorem dX9_isAhead_58 : decode cX9_isAhead 58 = .ok (.iload 4, 2) := by decide +kernel
theorem dX9_isAhead_60 : decode cX9_isAhead 60 = .ok (.if_icmp .eq 17, 3) := by decide +kernel
theorem dX9_isAhead_63 : decode cX9_isAhead 63 = .ok (.iload_n 3, 1) := by decide +kernel
theorem dX9_isAhead_64 : decode cX9_isAhead 64 = .ok (.iload 4, 2) := by decide +kernel
theorem dX9_isAhead_66 : decode cX9_isAhead 66 = .ok (.if_icmp .ge 7, 3) := by decide +kernel
theorem dX9_isAhead_69 : decode cX9_isAhead 69 = .ok (.iconst 1, 1) := by decide +kernel
theorem dX9_isAhead_70 : decode cX9_isAhead 70 = .ok (.goto 35, 3) := by decide +kernel
theorem dX9_isAhead_73 : decode cX9_isAhead 73 = .ok (.iconst 0, 1) := by decide +kernel
theorem dX9_isAhead_74 : decode cX9_isAhead 74 = .ok (.goto 31, 3) := by decide +kernel
theorem dX9_isAhead_77 : decode cX9_isAhead 77 = .ok (.aload_n 0, 1) := by decide +kernel
theorem dX9_isAhead_78 : decode cX9_isAhead 78 = .ok (.getfield 21, 3) := by decide +kernel
theorem dX9_isAhead_81 : decode cX9_isAhead 81 = .ok (.iload_n 1, 1) := by decide +kernel
theorem dX9_isAhead_82 : decode cX9_isAhead 82 = .ok (.sipush 255, 3) := by decide +kernel
theorem dX9_isAhead_85 : decode cX9_isAhead 85 = .ok (.iand, 1) := by decide +kernel
theorem dX9_isAhead_86 : decode cX9_isAhead 86 = .ok (.iaload, 1) := by decide +kernel
theorem dX9_isAhead_87 : decode cX9_isAhead 87 = .ok (.aload_n 0, 1) := by decide +kernel
theorem dX9_isAhead_88 : decode cX9_isAhead 88 = .ok (.getfield 21, 3) := by decide +kernel
theorem dX9_isAhead_91 : decode cX9_isAhead 91 = .ok (.iload_n 2, 1) := by decide +kernel
theorem dX9_isAhead_92 : decode cX9_isAhead 92 = .ok (.sipush 255, 3) := by decide +kernel
theorem dX9_isAhead_95 : decode cX9_isAhead 95 = .ok (.iand, 1) := by decide +kernel
theorem dX9_isAhead_96 : decode cX9_isAhead 96 = .ok (.iaload, 1) := by decide +kernel
theorem dX9_isAhead_97 : decode cX9_isAhead 97 = .ok (.if_icmp .ge 7, 3) := by decide +kernel
theorem dX9_isAhead_100 : decode cX9_isAhead 100 = .ok (.iconst 1, 1) := by decide +kernel
theorem dX9_isAhead_101 : decode cX9_isAhead 101 = .ok (.goto 4, 3) := by decide +kernel
theorem dX9_isAhead_104 : decode cX9_isAhead 104 = .ok (.iconst 0, 1) := by decide +kernel
theorem dX9_isAhead_105 : decode cX9_isAhead 105 = .ok (.ireturn, 1) := by decide +kernel
theorem dX10_areWords_0 : decode cX10_areWords 0 = .ok (.iload_n 0, 1) := by decide +kernel
theorem dX10_areWords_1 : decode cX10_areWords 1 = .ok (.ldc 11, 2) := by decide +kernel
theorem dX10_areWords_3 : decode cX10_areWords 3 = .ok (.invokestatic 12, 3) := by decide +kernel
theorem dX10_areWords_6 : decode cX10_areWords 6 = .ok (.ireturn, 1) := by decide +kernel
theorem dX10_isKnown_0 : decode cX10_isKnown 0 = .ok (.iload_n 0, 1) := by decide +kernel
theorem dX10_isKnown_1 : decode cX10_isKnown 1 = .ok (.iload_n 1, 1) := by decide +kernel
theorem dX10_isKnown_2 : decode cX10_isKnown 2 = .ok (.ishr, 1) := by decide +kernel
theorem dX10_isKnown_3 : decode cX10_isKnown 3 = .ok (.iconst 1, 1) := by decide +kernel
theorem dX10_isKnown_4 : decode cX10_isKnown 4 = .ok (.iand, 1) := by decide +kernel
theorem dX10_isKnown_5 : decode cX10_isKnown 5 = .ok (.iconst 1, 1) := by decide +kernel
theorem dX10_isKnown_6 : decode cX10_isKnown 6 = .ok (.if_icmp .ne 7, 3) := by decide +kernel
theorem dX10_isKnown_9 : decode cX10_isKnown 9 = .ok (.iconst 1, 1) := by decide +kernel
theorem dX10_isKnown_10 : decode cX10_isKnown 10 = .ok (.goto 4, 3) := by decide +kernel
theorem dX10_isKnown_13 : decode cX10_isKnown 13 = .ok (.iconst 0, 1) := by decide +kernel
theorem dX10_isKnown_14 : decode cX10_isKnown 14 = .ok (.ireturn, 1) := by decide +kernel
theorem dX10_numbers_0 : decode cX10_numbers 0 = .ok (.iload_n 0, 1) := by decide +kernel
theorem dX10_numbers_1 : decode cX10_numbers 1 = .ok (.bipush 15, 2) := by decide +kernel
theorem dX10_numbers_3 : decode cX10_numbers 3 = .ok (.invokestatic 12, 3) := by decide +kernel
theorem dX10_numbers_6 : decode cX10_numbers 6 = .ok (.ifCond .eq 11, 3) := by decide +kernel
theorem dX10_numbers_9 : decode cX10_numbers 9 = .ok (.getstatic 16, 3) := by decide +kernel
theorem dX10_numbers_12 : decode cX10_numbers 12 = .ok (.iload_n 0, 1) := by decide +kernel
theorem dX10_numbers_13 : decode cX10_numbers 13 = .ok (.baload, 1) := by decide +kernel
theorem dX10_numbers_14 : decode cX10_numbers 14 = .ok (.goto 4, 3) := by decide +kernel
theorem dX10_numbers_17 : decode cX10_numbers 17 = .ok (.iconst 0, 1) := by decide +kernel
theorem dX10_numbers_18 : decode cX10_numbers 18 = .ok (.ireturn, 1) := by decide +kernel
theorem dX10_parts_0 : decode cX10_parts 0 = .ok (.iload_n 0, 1) := by decide +kernel
theorem dX10_parts_1 : decode cX10_parts 1 = .ok (.bipush 15, 2) := by decide +kernel
theorem dX10_parts_3 : decode cX10_parts 3 = .ok (.invokestatic 12, 3) := by decide +kernel
theorem dX10_parts_6 : decode cX10_parts 6 = .ok (.ifCond .eq 11, 3) := by decide +kernel
theorem dX10_parts_9 : decode cX10_parts 9 = .ok (.getstatic 20, 3) := by decide +kernel
theorem dX10_parts_12 : decode cX10_parts 12 = .ok (.iload_n 0, 1) := by decide +kernel
theorem dX10_parts_13 : decode cX10_parts 13 = .ok (.baload, 1) := by decide +kernel
theorem dX10_parts_14 : decode cX10_parts 14 = .ok (.goto 4, 3) := by decide +kernel
theorem dX10_parts_17 : decode cX10_parts 17 = .ok (.iconst 0, 1) := by decide +kernel
theorem dX10_parts_18 : decode cX10_parts 18 = .ok (.ireturn, 1) := by decide +kernel
theorem dX10_firstLike_0 : decode cX10_firstLike 0 = .ok (.iload_n 0, 1) := by decide +kernel
theorem dX10_firstLike_1 : decode cX10_firstLike 1 = .ok (.bipush 15, 2) := by decide +kernel
theorem dX10_firstLike_3 : decode cX10_firstLike 3 = .ok (.invokestatic 12, 3) := by decide +kernel
theorem dX10_firstLike_6 : decode cX10_firstLike 6 = .ok (.ifCond .eq 11, 3) := by decide +kernel
theorem dX10_firstLike_9 : decode cX10_firstLike 9 = .ok (.getstatic 23, 3) := by decide +kernel
theorem dX10_firstLike_12 : decode cX10_firstLike 12 = .ok (.iload_n 0, 1) := by decide +kernel
theorem dX10_firstLike_13 : decode cX10_firstLike 13 = .ok (.baload, 1) := by decide +kernel
theorem dX10_firstLike_14 : decode cX10_firstLike 14 = .ok (.goto 4, 3) := by decide +kernel
theorem dX10_firstLike_17 : decode cX10_firstLike 17 = .ok (.iload_n 0, 1) := by decide +kernel
theorem dX10_firstLike_18 : decode cX10_firstLike 18 = .ok (.ireturn, 1) := by decide +kernel
theorem dX10_lastLike_0 : decode cX10_lastLike 0 = .ok (.iload_n 0, 1) := by decide +kernel
theorem dX10_lastLike_1 : decode cX10_lastLike 1 = .ok (.bipush 15, 2) := by decide +kernel
theorem dX10_lastLike_3 : decode cX10_lastLike 3 = .ok (.invokestatic 12, 3) := by decide +kernel
theorem dX10_lastLike_6 : decode cX10_lastLike 6 = .ok (.ifCond .eq 11, 3) := by decide +kernel
theorem dX10_lastLike_9 : decode cX10_lastLike 9 = .ok (.getstatic 26, 3) := by decide +kernel
theorem dX10_lastLike_12 : decode cX10_lastLike 12 = .ok (.iload_n 0, 1) := by decide +kernel
theorem dX10_lastLike_13 : decode cX10_lastLike 13 = .ok (.baload, 1) := by decide +kernel
theorem dX10_lastLike_14 : decode cX10_lastLike 14 = .ok (.goto 4, 3) := by decide +kernel
theorem dX10_lastLike_17 : decode cX10_lastLike 17 = .ok (.iload_n 0, 1) := by decide +kernel
theorem dX10_lastLike_18 : decode cX10_lastLike 18 = .ok (.ireturn, 1) := by decide +kernel
theorem dX10_spelt_0 : decode cX10_spelt 0 = .ok (.iload_n 1, 1) := by decide +kernel
theorem dX10_spelt_1 : decode cX10_spelt 1 = .ok (.ifCond .lt 17, 3) := by decide +kernel
theorem dX10_spelt_4 : decode cX10_spelt 4 = .ok (.iload_n 2, 1) := by decide +kernel
theorem dX10_spelt_5 : decode cX10_spelt 5 = .ok (.aload_n 0, 1) := by decide +kernel
theorem dX10_spelt_6 : decode cX10_spelt 6 = .ok (.arraylength, 1) := by decide +kernel
theorem dX10_spelt_7 : decode cX10_spelt 7 = .ok (.if_icmp .gt 11, 3) := by decide +kernel
theorem dX10_spelt_10 : decode cX10_spelt 10 = .ok (.iload_n 2, 1) := by decide +kernel
theorem dX10_spelt_11 : decode cX10_spelt 11 = .ok (.iload_n 1, 1) := by decide +kernel
theorem dX10_spelt_12 : decode cX10_spelt 12 = .ok (.isub, 1) := by decide +kernel
theorem dX10_spelt_13 : decode cX10_spelt 13 = .ok (.bipush 8, 2) := by decide +kernel
theorem dX10_spelt_15 : decode cX10_spelt 15 = .ok (.if_icmp .le 5, 3) := by decide +kernel
theorem dX10_spelt_18 : decode cX10_spelt 18 = .ok (.iconst (-1), 1) := by decide +kernel
theorem dX10_spelt_19 : decode cX10_spelt 19 = .ok (.ireturn, 1) := by decide +kernel
theorem dX10_spelt_20 : decode cX10_spelt 20 = .ok (.iconst 0, 1) := by decide +kernel
theorem dX10_spelt_21 : decode cX10_spelt 21 = .ok (.istore_n 3, 1) := by decide +kernel
theorem dX10_spelt_22 : decode cX10_spelt 22 = .ok (.iload_n 3, 1) := by decide +kernel
theorem dX10_spelt_23 : decode cX10_spelt 23 = .ok (.bipush 15, 2) := by decide +kernel
theorem dX10_spelt_25 : decode cX10_spelt 25 = .ok (.if_icmp .ge 21, 3) := by decide +kernel
theorem dX10_spelt_28 : decode cX10_spelt 28 = .ok (.iload_n 3, 1) := by decide +kernel
theorem dX10_spelt_29 : decode cX10_spelt 29 = .ok (.aload_n 0, 1) := by decide +kernel
theorem dX10_spelt_30 : decode cX10_spelt 30 = .ok (.iload_n 1, 1) := by decide +kernel
theorem dX10_spelt_31 : decode cX10_spelt 31 = .ok (.iload_n 2, 1) := by decide +kernel
theorem dX10_spelt_32 : decode cX10_spelt 32 = .ok (.invokestatic 29, 3) := by decide +kernel
theorem dX10_spelt_35 : decode cX10_spelt 35 = .ok (.ifCond .eq 5, 3) := by decide +kernel
theorem dX10_spelt_38 : decode cX10_spelt 38 = .ok (.iload_n 3, 1) := by decide +kernel
theorem dX10_spelt_39 : decode cX10_spelt 39 = .ok (.ireturn, 1) := by decide +kernel
theorem dX10_spelt_40 : decode cX10_spelt 40 = .ok (.iinc 3 1, 3) := by decide +kernel
theorem dX10_spelt_43 : decode cX10_spelt 43 = .ok (.goto (-21), 3) := by decide +kernel
theorem dX10_spelt_46 : decode cX10_spelt 46 = .ok (.iconst (-1), 1) := by decide +kernel
theorem dX10_spelt_47 : decode cX10_spelt 47 = .ok (.ireturn, 1) := by decide +kernel
theorem dX10_isSpelt_0 : decode cX10_isSpelt 0 = .ok (.iconst 0, 1) := by decide +kernel
theorem dX10_isSpelt_1 : decode cX10_isSpelt 1 = .ok (.istore 4, 2) := by decide +kernel
theorem dX10_isSpelt_3 : decode cX10_isSpelt 3 = .ok (.iload 4, 2) := by decide +kernel
theorem dX10_isSpelt_5 : decode cX10_isSpelt 5 = .ok (.bipush 8, 2) := by decide +kernel
theorem dX10_isSpelt_7 : decode cX10_isSpelt 7 = .ok (.if_icmp .ge 49, 3) := by decide +kernel
theorem dX10_isSpelt_10 : decode cX10_isSpelt 10 = .ok (.iload_n 2, 1) := by decide +kernel
theorem dX10_isSpelt_11 : decode cX10_isSpelt 11 = .ok (.iload 4, 2) := by decide +kernel
theorem dX10_isSpelt_13 : decode cX10_isSpelt 13 = .ok (.iadd, 1) := by decide +kernel
theorem dX10_isSpelt_14 : decode cX10_isSpelt 14 = .ok (.iload_n 3, 1) := by decide +kernel
theorem dX10_isSpelt_15 : decode cX10_isSpelt 15 = .ok (.if_icmp .ge 12, 3) := by decide +kernel
theorem dX10_isSpelt_18 : decode cX10_isSpelt 18 = .ok (.aload_n 1, 1) := by decide +kernel
theorem dX10_isSpelt_19 : decode cX10_isSpelt 19 = .ok (.iload_n 2, 1) := by decide +kernel
theorem dX10_isSpelt_20 : decode cX10_isSpelt 20 = .ok (.iload 4, 2) := by decide +kernel
theorem dX10_isSpelt_22 : decode cX10_isSpelt 22 = .ok (.iadd, 1) := by decide +kernel
theorem dX10_isSpelt_23 : decode cX10_isSpelt 23 = .ok (.caload, 1) := by decide +kernel
theorem dX10_isSpelt_24 : decode cX10_isSpelt 24 = .ok (.goto 5, 3) := by decide +kernel
theorem dX10_isSpelt_27 : decode cX10_isSpelt 27 = .ok (.bipush 32, 2) := by decide +kernel
theorem dX10_isSpelt_29 : decode cX10_isSpelt 29 = .ok (.istore 5, 2) := by decide +kernel
theorem dX10_isSpelt_31 : decode cX10_isSpelt 31 = .ok (.ldc 33, 2) := by decide +kernel
theorem dX10_isSpelt_33 : decode cX10_isSpelt 33 = .ok (.bipush 8, 2) := by decide +kernel
theorem dX10_isSpelt_35 : decode cX10_isSpelt 35 = .ok (.iload_n 0, 1) := by decide +kernel
theorem dX10_isSpelt_36 : decode cX10_isSpelt 36 = .ok (.imul, 1) := by decide +kernel
theorem dX10_isSpelt_37 : decode cX10_isSpelt 37 = .ok (.iload 4, 2) := by decide +kernel
theorem dX10_isSpelt_39 : decode cX10_isSpelt 39 = .ok (.iadd, 1) := by decide +kernel
theorem dX10_isSpelt_40 : decode cX10_isSpelt 40 = .ok (.invokevirtual 35, 3) := by decide +kernel
theorem dX10_isSpelt_43 : decode cX10_isSpelt 43 = .ok (.iload 5, 2) := by decide +kernel
theorem dX10_isSpelt_45 : decode cX10_isSpelt 45 = .ok (.if_icmp .eq 5, 3) := by decide +kernel
theorem dX10_isSpelt_48 : decode cX10_isSpelt 48 = .ok (.iconst 0, 1) := by decide +kernel
theorem dX10_isSpelt_49 : decode cX10_isSpelt 49 = .ok (.ireturn, 1) := by decide +kernel
theorem dX10_isSpelt_50 : decode cX10_isSpelt 50 = .ok (.iinc 4 1, 3) := by decide +kernel
theorem dX10_isSpelt_53 : decode cX10_isSpelt 53 = .ok (.goto (-50), 3) := by decide +kernel
theorem dX10_isSpelt_56 : decode cX10_isSpelt 56 = .ok (.iconst 1, 1) := by decide +kernel
theorem dX10_isSpelt_57 : decode cX10_isSpelt 57 = .ok (.ireturn, 1) := by decide +kernel
theorem dX10_join_0 : decode cX10_join 0 = .ok (.iload_n 0, 1) := by decide +kernel
theorem dX10_join_1 : decode cX10_join 1 = .ok (.lookupswitch 35 #[(5, 27), (6, 31)], 27) := by decide +kernel
theorem dX10_join_28 : decode cX10_join 28 = .ok (.iload_n 1, 1) := by decide +kernel
theorem dX10_join_29 : decode cX10_join 29 = .ok (.iload_n 2, 1) := by decide +kernel
theorem dX10_join_30 : decode cX10_join 30 = .ok (.iand, 1) := by decide +kernel
theorem dX10_join_31 : decode cX10_join 31 = .ok (.ireturn, 1) := by decide +kernel
theorem dX10_join_32 : decode cX10_join 32 = .ok (.iload_n 1, 1) := by decide +kernel
theorem dX10_join_33 : decode cX10_join 33 = .ok (.iload_n 2, 1) := by decide +kernel
theorem dX10_join_34 : decode cX10_join 34 = .ok (.ior, 1) := by decide +kernel
theorem dX10_join_35 : decode cX10_join 35 = .ok (.ireturn, 1) := by decide +kernel
theorem dX10_join_36 : decode cX10_join 36 = .ok (.iload_n 1, 1) := by decide +kernel
theorem dX10_join_37 : decode cX10_join 37 = .ok (.iload_n 2, 1) := by decide +kernel
theorem dX10_join_38 : decode cX10_join 38 = .ok (.iconst (-1), 1) := by decide +kernel
theorem dX10_join_39 : decode cX10_join 39 = .ok (.ixor, 1) := by decide +kernel
theorem dX10_join_40 : decode cX10_join 40 = .ok (.iand, 1) := by decide +kernel
theorem dX10_join_41 : decode cX10_join 41 = .ok (.ireturn, 1) := by decide +kernel
theorem dX11_init_0 : decode cX11_init 0 = .ok (.aload_n 0, 1) := by decide +kernel
theorem dX11_init_1 : decode cX11_init 1 = .ok (.invokespecial 1, 3) := by decide +kernel
theorem dX11_init_4 : decode cX11_init 4 = .ok (.aload_n 0, 1) := by decide +kernel
theorem dX11_init_5 : decode cX11_init 5 = .ok (.new 7, 3) := by decide +kernel
theorem dX11_init_8 : decode cX11_init 8 = .ok (.dup, 1) := by decide +kernel
theorem dX11_init_9 : decode cX11_init 9 = .ok (.invokespecial 9, 3) := by decide +kernel
theorem dX11_init_12 : decode cX11_init 12 = .ok (.putfield 10, 3) := by decide +kernel
theorem dX11_init_15 : decode cX11_init 15 = .ok (.aload_n 0, 1) := by decide +kernel
theorem dX11_init_16 : decode cX11_init 16 = .ok (.bipush 15, 2) := by decide +kernel
theorem dX11_init_18 : decode cX11_init 18 = .ok (.newarray .int, 2) := by decide +kernel
theorem dX11_init_20 : decode cX11_init 20 = .ok (.putfield 18, 3) := by decide +kernel
theorem dX11_init_23 : decode cX11_init 23 = .ok (.aload_n 0, 1) := by decide +kernel
theorem dX11_init_24 : decode cX11_init 24 = .ok (.new 22, 3) := by decide +kernel
theorem dX11_init_27 : decode cX11_init 27 = .ok (.dup, 1) := by decide +kernel
theorem dX11_init_28 : decode cX11_init 28 = .ok (.invokespecial 24, 3) := by decide +kernel
theorem dX11_init_31 : decode cX11_init 31 = .ok (.putfield 25, 3) := by decide +kernel
theorem dX11_init_34 : decode cX11_init 34 = .ok (.aload_n 0, 1) := by decide +kernel
theorem dX11_init_35 : decode cX11_init 35 = .ok (.bipush 8, 2) := by decide +kernel
theorem dX11_init_37 : decode cX11_init 37 = .ok (.anewarray 29, 3) := by decide +kernel
theorem dX11_init_40 : decode cX11_init 40 = .ok (.putfield 31, 3) := by decide +kernel
theorem dX11_init_43 : decode cX11_init 43 = .ok (.aload_n 0, 1) := by decide +kernel
theorem dX11_init_44 : decode cX11_init 44 = .ok (.new 35, 3) := by decide +kernel
theorem dX11_init_47 : decode cX11_init 47 = .ok (.dup, 1) := by decide +kernel
theorem dX11_init_48 : decode cX11_init 48 = .ok (.invokespecial 37, 3) := by decide +kernel
theorem dX11_init_51 : decode cX11_init 51 = .ok (.putfield 38, 3) := by decide +kernel
theorem dX11_init_54 : decode cX11_init 54 = .ok (.aload_n 0, 1) := by decide +kernel
theorem dX11_init_55 : decode cX11_init 55 = .ok (.new 42, 3) := by decide +kernel
theorem dX11_init_58 : decode cX11_init 58 = .ok (.dup, 1) := by decide +kernel
theorem dX11_init_59 : decode cX11_init 59 = .ok (.invokespecial 44, 3) := by decide +kernel
theorem dX11_init_62 : decode cX11_init 62 = .ok (.putfield 45, 3) := by decide +kernel
theorem dX11_init_65 : decode cX11_init 65 = .ok (.aload_n 0, 1) := by decide +kernel
theorem dX11_init_66 : decode cX11_init 66 = .ok (.new 49, 3) := by decide +kernel
theorem dX11_init_69 : decode cX11_init 69 = .ok (.dup, 1) := by decide +kernel
theorem dX11_init_70 : decode cX11_init 70 = .ok (.invokespecial 51, 3) := by decide +kernel
theorem dX11_init_73 : decode cX11_init 73 = .ok (.putfield 52, 3) := by decide +kernel
theorem dX11_init_76 : decode cX11_init 76 = .ok (.aload_n 0, 1) := by decide +kernel
theorem dX11_init_77 : decode cX11_init 77 = .ok (.new 56, 3) := by decide +kernel
theorem dX11_init_80 : decode cX11_init 80 = .ok (.dup, 1) := by decide +kernel
theorem dX11_init_81 : decode cX11_init 81 = .ok (.invokespecial 58, 3) := by decide +kernel
theorem dX11_init_84 : decode cX11_init 84 = .ok (.putfield 59, 3) := by decide +kernel
theorem dX11_init_87 : decode cX11_init 87 = .ok (.aload_n 0, 1) := by decide +kernel
theorem dX11_init_88 : decode cX11_init 88 = .ok (.new 63, 3) := by decide +kernel
theorem dX11_init_91 : decode cX11_init 91 = .ok (.dup, 1) := by decide +kernel
theorem dX11_init_92 : decode cX11_init 92 = .ok (.invokespecial 65, 3) := by decide +kernel
theorem dX11_init_95 : decode cX11_init 95 = .ok (.putfield 66, 3) := by decide +kernel
theorem dX11_init_98 : decode cX11_init 98 = .ok (.aload_n 0, 1) := by decide +kernel
theorem dX11_init_99 : decode cX11_init 99 = .ok (.new 70, 3) := by decide +kernel
theorem dX11_init_102 : decode cX11_init 102 = .ok (.dup, 1) := by decide +kernel
theorem dX11_init_103 : decode cX11_init 103 = .ok (.invokespecial 72, 3) := by decide +kernel
theorem dX11_init_106 : decode cX11_init 106 = .ok (.putfield 73, 3) := by decide +kernel
theorem dX11_init_109 : decode cX11_init 109 = .ok (.aload_n 0, 1) := by decide +kernel
theorem dX11_init_110 : decode cX11_init 110 = .ok (.getfield 18, 3) := by decide +kernel
theorem dX11_init_113 : decode cX11_init 113 = .ok (.iconst 1, 1) := by decide +kernel
theorem dX11_init_114 : decode cX11_init 114 = .ok (.invokestatic 77, 3) := by decide +kernel
theorem dX11_init_117 : decode cX11_init 117 = .ok (.iconst 0, 1) := by decide +kernel
theorem dX11_init_118 : decode cX11_init 118 = .ok (.istore_n 1, 1) := by decide +kernel
theorem dX11_init_119 : decode cX11_init 119 = .ok (.iload_n 1, 1) := by decide +kernel
theorem dX11_init_120 : decode cX11_init 120 = .ok (.bipush 8, 2) := by decide +kernel
theorem dX11_init_122 : decode cX11_init 122 = .ok (.if_icmp .ge 22, 3) := by decide +kernel
theorem dX11_init_125 : decode cX11_init 125 = .ok (.aload_n 0, 1) := by decide +kernel
theorem dX11_init_126 : decode cX11_init 126 = .ok (.getfield 31, 3) := by decide +kernel
theorem dX11_init_129 : decode cX11_init 129 = .ok (.iload_n 1, 1) := by decide +kernel
theorem dX11_init_130 : decode cX11_init 130 = .ok (.new 29, 3) := by decide +kernel
theorem dX11_init_133 : decode cX11_init 133 = .ok (.dup, 1) := by decide +kernel
theorem dX11_init_134 : decode cX11_init 134 = .ok (.invokespecial 83, 3) := by decide +kernel
theorem dX11_init_137 : decode cX11_init 137 = .ok (.aastore, 1) := by decide +kernel
theorem dX11_init_138 : decode cX11_init 138 = .ok (.iinc 1 1, 3) := by decide +kernel
theorem dX11_init_141 : decode cX11_init 141 = .ok (.goto (-22), 3) := by decide +kernel
theorem dX11_init_144 : decode cX11_init 144 = .ok (.return_, 1) := by decide +kernel
theorem dX11_thing_0 : decode cX11_thing 0 = .ok (.iconst 0, 1) := by decide +kernel
theorem dX11_thing_1 : decode cX11_thing 1 = .ok (.iload_n 1, 1) := by decide +kernel
theorem dX11_thing_2 : decode cX11_thing 2 = .ok (.invokestatic 84, 3) := by decide +kernel
theorem dX11_thing_5 : decode cX11_thing 5 = .ok (.ifCond .eq 29, 3) := by decide +kernel
theorem dX11_thing_8 : decode cX11_thing 8 = .ok (.iconst 1, 1) := by decide +kernel
theorem dX11_thing_9 : decode cX11_thing 9 = .ok (.iload_n 2, 1) := by decide +kernel
theorem dX11_thing_10 : decode cX11_thing 10 = .ok (.invokestatic 84, 3) := by decide +kernel
theorem dX11_thing_13 : decode cX11_thing 13 = .ok (.ifCond .eq 21, 3) := by decide +kernel
theorem dX11_thing_16 : decode cX11_thing 16 = .ok (.iconst 2, 1) := by decide +kernel
theorem dX11_thing_17 : decode cX11_thing 17 = .ok (.iload_n 3, 1) := by decide +kernel
theorem dX11_thing_18 : decode cX11_thing 18 = .ok (.invokestatic 84, 3) := by decide +kernel
theorem dX11_thing_21 : decode cX11_thing 21 = .ok (.ifCond .eq 13, 3) := by decide +kernel
theorem dX11_thing_24 : decode cX11_thing 24 = .ok (.iload 4, 2) := by decide +kernel
theorem dX11_thing_26 : decode cX11_thing 26 = .ok (.bipush 16, 2) := by decide +kernel
theorem dX11_thing_28 : decode cX11_thing 28 = .ok (.invokestatic 88, 3) := by decide +kernel
theorem dX11_thing_31 : decode cX11_thing 31 = .ok (.ifCond .ne 6, 3) := by decide +kernel
theorem dX11_thing_34 : decode cX11_thing 34 = .ok (.bipush (-3), 2) := by decide +kernel
theorem dX11_thing_36 : decode cX11_thing 36 = .ok (.ireturn, 1) := by decide +kernel
theorem dX11_thing_37 : decode cX11_thing 37 = .ok (.aload_n 0, 1) := by decide +kernel
theorem dX11_thing_38 : decode cX11_thing 38 = .ok (.getfield 10, 3) := by decide +kernel
theorem dX11_thing_41 : decode cX11_thing 41 = .ok (.iload 4, 2) := by decide +kernel
theorem dX11_thing_43 : decode cX11_thing 43 = .ok (.invokevirtual 91, 3) := by decide +kernel
theorem dX11_thing_46 : decode cX11_thing 46 = .ok (.ifCond .eq 6, 3) := by decide +kernel
theorem dX11_thing_49 : decode cX11_thing 49 = .ok (.bipush (-4), 2) := by decide +kernel
theorem dX11_thing_51 : decode cX11_thing 51 = .ok (.ireturn, 1) := by decide +kernel
theorem dX11_thing_52 : decode cX11_thing 52 = .ok (.aload_n 0, 1) := by decide +kernel
theorem dX11_thing_53 : decode cX11_thing 53 = .ok (.getfield 10, 3) := by decide +kernel
theorem dX11_thing_56 : decode cX11_thing 56 = .ok (.getfield 95, 3) := by decide +kernel
theorem dX11_thing_59 : decode cX11_thing 59 = .ok (.bipush 8, 2) := by decide +kernel
theorem dX11_thing_61 : decode cX11_thing 61 = .ok (.if_icmp .lt 6, 3) := by decide +kernel
theorem dX11_thing_64 : decode cX11_thing 64 = .ok (.bipush (-5), 2) := by decide +kernel
theorem dX11_thing_66 : decode cX11_thing 66 = .ok (.ireturn, 1) := by decide +kernel
theorem dX11_thing_67 : decode cX11_thing 67 = .ok (.aload_n 0, 1) := by decide +kernel
theorem dX11_thing_68 : decode cX11_thing 68 = .ok (.dup, 1) := by decide +kernel
theorem dX11_thing_69 : decode cX11_thing 69 = .ok (.getfield 99, 3) := by decide +kernel
theorem dX11_thing_72 : decode cX11_thing 72 = .ok (.iconst 1, 1) := by decide +kernel
theorem dX11_thing_73 : decode cX11_thing 73 = .ok (.iadd, 1) := by decide +kernel
theorem dX11_thing_74 : decode cX11_thing 74 = .ok (.putfield 99, 3) := by decide +kernel
theorem dX11_thing_77 : decode cX11_thing 77 = .ok (.aload_n 0, 1) := by decide +kernel
theorem dX11_thing_78 : decode cX11_thing 78 = .ok (.getfield 10, 3) := by decide +kernel
theorem dX11_thing_81 : decode cX11_thing 81 = .ok (.iload_n 1, 1) := by decide +kernel
theorem dX11_thing_82 : decode cX11_thing 82 = .ok (.iload_n 2, 1) := by decide +kernel
theorem dX11_thing_83 : decode cX11_thing 83 = .ok (.iload_n 3, 1) := by decide +kernel
theorem dX11_thing_84 : decode cX11_thing 84 = .ok (.iload 4, 2) := by decide +kernel
theorem dX11_thing_86 : decode cX11_thing 86 = .ok (.invokevirtual 102, 3) := by decide +kernel
theorem dX11_thing_89 : decode cX11_thing 89 = .ok (.ireturn, 1) := by decide +kernel
theorem dX11_paint_0 : decode cX11_paint 0 = .ok (.aload_n 0, 1) := by decide +kernel
theorem dX11_paint_1 : decode cX11_paint 1 = .ok (.getfield 10, 3) := by decide +kernel
theorem dX11_paint_4 : decode cX11_paint 4 = .ok (.iload_n 1, 1) := by decide +kernel
theorem dX11_paint_5 : decode cX11_paint 5 = .ok (.invokevirtual 106, 3) := by decide +kernel
theorem dX11_paint_8 : decode cX11_paint 8 = .ok (.ifCond .ne 6, 3) := by decide +kernel
theorem dX11_paint_11 : decode cX11_paint 11 = .ok (.bipush (-2), 2) := by decide +kernel
theorem dX11_paint_13 : decode cX11_paint 13 = .ok (.ireturn, 1) := by decide +kernel
theorem dX11_paint_14 : decode cX11_paint 14 = .ok (.iload_n 2, 1) := by decide +kernel
theorem dX11_paint_15 : decode cX11_paint 15 = .ok (.iload_n 3, 1) := by decide +kernel
theorem dX11_paint_16 : decode cX11_paint 16 = .ok (.invokestatic 84, 3) := by decide +kernel
theorem dX11_paint_19 : decode cX11_paint 19 = .ok (.ifCond .ne 6, 3) := by decide +kernel
theorem dX11_paint_22 : decode cX11_paint 22 = .ok (.bipush (-3), 2) := by decide +kernel
theorem dX11_paint_24 : decode cX11_paint 24 = .ok (.ireturn, 1) := by decide +kernel
theorem dX11_paint_25 : decode cX11_paint 25 = .ok (.aload_n 0, 1) := by decide +kernel
theorem dX11_paint_26 : decode cX11_paint 26 = .ok (.getfield 10, 3) := by decide +kernel
theorem dX11_paint_29 : decode cX11_paint 29 = .ok (.getfield 109, 3) := by decide +kernel
theorem dX11_paint_32 : decode cX11_paint 32 = .ok (.iload_n 2, 1) := by decide +kernel
theorem dX11_paint_33 : decode cX11_paint 33 = .ok (.aaload, 1) := by decide +kernel
theorem dX11_paint_34 : decode cX11_paint 34 = .ok (.iload_n 1, 1) := by decide +kernel
theorem dX11_paint_35 : decode cX11_paint 35 = .ok (.iaload, 1) := by decide +kernel
theorem dX11_paint_36 : decode cX11_paint 36 = .ok (.istore 4, 2) := by decide +kernel
theorem dX11_paint_38 : decode cX11_paint 38 = .ok (.aload_n 0, 1) := by decide +kernel
theorem dX11_paint_39 : decode cX11_paint 39 = .ok (.getfield 10, 3) := by decide +kernel
theorem dX11_paint_42 : decode cX11_paint 42 = .ok (.getfield 109, 3) := by decide +kernel
theorem dX11_paint_45 : decode cX11_paint 45 = .ok (.iload_n 2, 1) := by decide +kernel
theorem dX11_paint_46 : decode cX11_paint 46 = .ok (.aaload, 1) := by decide +kernel
theorem dX11_paint_47 : decode cX11_paint 47 = .ok (.iload_n 1, 1) := by decide +kernel
theorem dX11_paint_48 : decode cX11_paint 48 = .ok (.iload_n 3, 1) := by decide +kernel
theorem dX11_paint_49 : decode cX11_paint 49 = .ok (.iastore, 1) := by decide +kernel
theorem dX11_paint_50 : decode cX11_paint 50 = .ok (.aload_n 0, 1) := by decide +kernel
theorem dX11_paint_51 : decode cX11_paint 51 = .ok (.dup, 1) := by decide +kernel
theorem dX11_paint_52 : decode cX11_paint 52 = .ok (.getfield 99, 3) := by decide +kernel
theorem dX11_paint_55 : decode cX11_paint 55 = .ok (.iconst 1, 1) := by decide +kernel
theorem dX11_paint_56 : decode cX11_paint 56 = .ok (.iadd, 1) := by decide +kernel
theorem dX11_paint_57 : decode cX11_paint 57 = .ok (.putfield 99, 3) := by decide +kernel
theorem dX11_paint_60 : decode cX11_paint 60 = .ok (.iload 4, 2) := by decide +kernel
theorem dX11_paint_62 : decode cX11_paint 62 = .ok (.ireturn, 1) := by decide +kernel
theorem dX11_tie_0 : decode cX11_tie 0 = .ok (.aload_n 0, 1) := by decide +kernel
theorem dX11_tie_1 : decode cX11_tie 1 = .ok (.getfield 10, 3) := by decide +kernel
theorem dX11_tie_4 : decode cX11_tie 4 = .ok (.iload_n 1, 1) := by decide +kernel
theorem dX11_tie_5 : decode cX11_tie 5 = .ok (.invokevirtual 106, 3) := by decide +kernel
theorem dX11_tie_8 : decode cX11_tie 8 = .ok (.ifCond .eq 19, 3) := by decide +kernel
theorem dX11_tie_11 : decode cX11_tie 11 = .ok (.aload_n 0, 1) := by decide +kernel
theorem dX11_tie_12 : decode cX11_tie 12 = .ok (.getfield 10, 3) := by decide +kernel
theorem dX11_tie_15 : decode cX11_tie 15 = .ok (.iload_n 2, 1) := by decide +kernel
theorem dX11_tie_16 : decode cX11_tie 16 = .ok (.invokevirtual 106, 3) := by decide +kernel
theorem dX11_tie_19 : decode cX11_tie 19 = .ok (.ifCond .eq 8, 3) := by decide +kernel
theorem dX11_tie_22 : decode cX11_tie 22 = .ok (.iload_n 1, 1) := by decide +kernel
theorem dX11_tie_23 : decode cX11_tie 23 = .ok (.iload_n 2, 1) := by decide +kernel
theorem dX11_tie_24 : decode cX11_tie 24 = .ok (.if_icmp .ne 6, 3) := by decide +kernel
theorem dX11_tie_27 : decode cX11_tie 27 = .ok (.bipush (-2), 2) := by decide +kernel
theorem dX11_tie_29 : decode cX11_tie 29 = .ok (.ireturn, 1) := by decide +kernel
theorem dX11_tie_30 : decode cX11_tie 30 = .ok (.aload_n 0, 1) := by decide +kernel
theorem dX11_tie_31 : decode cX11_tie 31 = .ok (.getfield 10, 3) := by decide +kernel
theorem dX11_tie_34 : decode cX11_tie 34 = .ok (.iload_n 1, 1) := by decide +kernel
theorem dX11_tie_35 : decode cX11_tie 35 = .ok (.iload_n 2, 1) := by decide +kernel
theorem dX11_tie_36 : decode cX11_tie 36 = .ok (.invokevirtual 113, 3) := by decide +kernel
theorem dX11_tie_39 : decode cX11_tie 39 = .ok (.ifCond .eq 6, 3) := by decide +kernel
theorem dX11_tie_42 : decode cX11_tie 42 = .ok (.bipush (-4), 2) := by decide +kernel
theorem dX11_tie_44 : decode cX11_tie 44 = .ok (.ireturn, 1) := by decide +kernel
theorem dX11_tie_45 : decode cX11_tie 45 = .ok (.aload_n 0, 1) := by decide +kernel
theorem dX11_tie_46 : decode cX11_tie 46 = .ok (.dup, 1) := by decide +kernel
theorem dX11_tie_47 : decode cX11_tie 47 = .ok (.getfield 99, 3) := by decide +kernel
theorem dX11_tie_50 : decode cX11_tie 50 = .ok (.iconst 1, 1) := by decide +kernel
theorem dX11_tie_51 : decode cX11_tie 51 = .ok (.iadd, 1) := by decide +kernel
theorem dX11_tie_52 : decode cX11_tie 52 = .ok (.putfield 99, 3) := by decide +kernel
theorem dX11_tie_55 : decode cX11_tie 55 = .ok (.aload_n 0, 1) := by decide +kernel
theorem dX11_tie_56 : decode cX11_tie 56 = .ok (.getfield 10, 3) := by decide +kernel
theorem dX11_tie_59 : decode cX11_tie 59 = .ok (.iload_n 1, 1) := by decide +kernel
theorem dX11_tie_60 : decode cX11_tie 60 = .ok (.iload_n 2, 1) := by decide +kernel
theorem dX11_tie_61 : decode cX11_tie 61 = .ok (.invokevirtual 116, 3) := by decide +kernel
theorem dX11_tie_64 : decode cX11_tie 64 = .ok (.ireturn, 1) := by decide +kernel
theorem dX11_of_0 : decode cX11_of 0 = .ok (.aload_n 0, 1) := by decide +kernel
theorem dX11_of_1 : decode cX11_of 1 = .ok (.getfield 10, 3) := by decide +kernel
theorem dX11_of_4 : decode cX11_of 4 = .ok (.iload_n 1, 1) := by decide +kernel
theorem dX11_of_5 : decode cX11_of 5 = .ok (.invokevirtual 106, 3) := by decide +kernel
theorem dX11_of_8 : decode cX11_of 8 = .ok (.ifCond .ne 6, 3) := by decide +kernel
theorem dX11_of_11 : decode cX11_of 11 = .ok (.bipush (-2), 2) := by decide +kernel
theorem dX11_of_13 : decode cX11_of 13 = .ok (.ireturn, 1) := by decide +kernel
theorem dX11_of_14 : decode cX11_of 14 = .ok (.iload_n 2, 1) := by decide +kernel
theorem dX11_of_15 : decode cX11_of 15 = .ok (.bipush 7, 2) := by decide +kernel
theorem dX11_of_17 : decode cX11_of 17 = .ok (.invokestatic 88, 3) := by decide +kernel
theorem dX11_of_20 : decode cX11_of 20 = .ok (.ifCond .eq 17, 3) := by decide +kernel
theorem dX11_of_23 : decode cX11_of 23 = .ok (.aload_n 0, 1) := by decide +kernel
theorem dX11_of_24 : decode cX11_of 24 = .ok (.getfield 10, 3) := by decide +kernel
theorem dX11_of_27 : decode cX11_of 27 = .ok (.getfield 109, 3) := by decide +kernel
theorem dX11_of_30 : decode cX11_of 30 = .ok (.iload_n 2, 1) := by decide +kernel
theorem dX11_of_31 : decode cX11_of 31 = .ok (.aaload, 1) := by decide +kernel
theorem dX11_of_32 : decode cX11_of 32 = .ok (.iload_n 1, 1) := by decide +kernel
theorem dX11_of_33 : decode cX11_of 33 = .ok (.iaload, 1) := by decide +kernel
theorem dX11_of_34 : decode cX11_of 34 = .ok (.goto 5, 3) := by decide +kernel
theorem dX11_of_37 : decode cX11_of 37 = .ok (.bipush (-3), 2) := by decide +kernel
theorem dX11_of_39 : decode cX11_of 39 = .ok (.ireturn, 1) := by decide +kernel
theorem dX11_price_0 : decode cX11_price 0 = .ok (.iload_n 1, 1) := by decide +kernel
theorem dX11_price_1 : decode cX11_price 1 = .ok (.bipush 15, 2) := by decide +kernel
theorem dX11_price_3 : decode cX11_price 3 = .ok (.invokestatic 88, 3) := by decide +kernel
theorem dX11_price_6 : decode cX11_price 6 = .ok (.ifCond .eq 14, 3) := by decide +kernel
theorem dX11_price_9 : decode cX11_price 9 = .ok (.iload_n 2, 1) := by decide +kernel
theorem dX11_price_10 : decode cX11_price 10 = .ok (.iconst 1, 1) := by decide +kernel
theorem dX11_price_11 : decode cX11_price 11 = .ok (.if_icmp .lt 9, 3) := by decide +kernel
theorem dX11_price_14 : decode cX11_price 14 = .ok (.iload_n 2, 1) := by decide +kernel
theorem dX11_price_15 : decode cX11_price 15 = .ok (.bipush 9, 2) := by decide +kernel
theorem dX11_price_17 : decode cX11_price 17 = .ok (.if_icmp .le 6, 3) := by decide +kernel
theorem dX11_price_20 : decode cX11_price 20 = .ok (.bipush (-3), 2) := by decide +kernel
theorem dX11_price_22 : decode cX11_price 22 = .ok (.ireturn, 1) := by decide +kernel
theorem dX11_price_23 : decode cX11_price 23 = .ok (.aload_n 0, 1) := by decide +kernel
theorem dX11_price_24 : decode cX11_price 24 = .ok (.getfield 18, 3) := by decide +kernel
theorem dX11_price_27 : decode cX11_price 27 = .ok (.iload_n 1, 1) := by decide +kernel
theorem dX11_price_28 : decode cX11_price 28 = .ok (.iaload, 1) := by decide +kernel
theorem dX11_price_29 : decode cX11_price 29 = .ok (.istore_n 3, 1) := by decide +kernel
theorem dX11_price_30 : decode cX11_price 30 = .ok (.aload_n 0, 1) := by decide +kernel
theorem dX11_price_31 : decode cX11_price 31 = .ok (.getfield 18, 3) := by decide +kernel
theorem dX11_price_34 : decode cX11_price 34 = .ok (.iload_n 1, 1) := by decide +kernel
theorem dX11_price_35 : decode cX11_price 35 = .ok (.iload_n 2, 1) := by decide +kernel
theorem dX11_price_36 : decode cX11_price 36 = .ok (.iastore, 1) := by decide +kernel
theorem dX11_price_37 : decode cX11_price 37 = .ok (.aload_n 0, 1) := by decide +kernel
theorem dX11_price_38 : decode cX11_price 38 = .ok (.dup, 1) := by decide +kernel
theorem dX11_price_39 : decode cX11_price 39 = .ok (.getfield 99, 3) := by decide +kernel
theorem dX11_price_42 : decode cX11_price 42 = .ok (.iconst 1, 1) := by decide +kernel
theorem dX11_price_43 : decode cX11_price 43 = .ok (.iadd, 1) := by decide +kernel
theorem dX11_price_44 : decode cX11_price 44 = .ok (.putfield 99, 3) := by decide +kernel
theorem dX11_price_47 : decode cX11_price 47 = .ok (.iload_n 3, 1) := by decide +kernel
theorem dX11_price_48 : decode cX11_price 48 = .ok (.ireturn, 1) := by decide +kernel
theorem dX11_write_0 : decode cX11_write 0 = .ok (.iload_n 3, 1) := by decide +kernel
theorem dX11_write_1 : decode cX11_write 1 = .ok (.iconst 1, 1) := by decide +kernel
theorem dX11_write_2 : decode cX11_write 2 = .ok (.if_icmp .lt 9, 3) := by decide +kernel
theorem dX11_write_5 : decode cX11_write 5 = .ok (.iload_n 3, 1) := by decide +kernel
theorem dX11_write_6 : decode cX11_write 6 = .ok (.bipush 8, 2) := by decide +kernel
theorem dX11_write_8 : decode cX11_write 8 = .ok (.if_icmp .le 6, 3) := by decide +kernel
theorem dX11_write_11 : decode cX11_write 11 = .ok (.bipush (-3), 2) := by decide +kernel
theorem dX11_write_13 : decode cX11_write 13 = .ok (.ireturn, 1) := by decide +kernel
theorem dX11_write_14 : decode cX11_write 14 = .ok (.aload_n 0, 1) := by decide +kernel
theorem dX11_write_15 : decode cX11_write 15 = .ok (.getfield 25, 3) := by decide +kernel
theorem dX11_write_18 : decode cX11_write 18 = .ok (.iload_n 3, 1) := by decide +kernel
theorem dX11_write_19 : decode cX11_write 19 = .ok (.invokevirtual 120, 3) := by decide +kernel
theorem dX11_write_22 : decode cX11_write 22 = .ok (.ifCond .eq 15, 3) := by decide +kernel
theorem dX11_write_25 : decode cX11_write 25 = .ok (.aload_n 0, 1) := by decide +kernel
theorem dX11_write_26 : decode cX11_write 26 = .ok (.getfield 25, 3) := by decide +kernel
theorem dX11_write_29 : decode cX11_write 29 = .ok (.lload_n 1, 1) := by decide +kernel
theorem dX11_write_30 : decode cX11_write 30 = .ok (.iload_n 3, 1) := by decide +kernel
theorem dX11_write_31 : decode cX11_write 31 = .ok (.invokevirtual 123, 3) := by decide +kernel
theorem dX11_write_34 : decode cX11_write 34 = .ok (.goto 5, 3) := by decide +kernel
theorem dX11_write_37 : decode cX11_write 37 = .ok (.bipush (-5), 2) := by decide +kernel
theorem dX11_write_39 : decode cX11_write 39 = .ok (.ireturn, 1) := by decide +kernel
theorem dX11_erase_0 : decode cX11_erase 0 = .ok (.aload_n 0, 1) := by decide +kernel
theorem dX11_erase_1 : decode cX11_erase 1 = .ok (.getfield 25, 3) := by decide +kernel
theorem dX11_erase_4 : decode cX11_erase 4 = .ok (.invokevirtual 127, 3) := by decide +kernel
theorem dX11_erase_7 : decode cX11_erase 7 = .ok (.ireturn, 1) := by decide +kernel
theorem dX11_fault_0 : decode cX11_fault 0 = .ok (.aload_n 0, 1) := by decide +kernel
theorem dX11_fault_1 : decode cX11_fault 1 = .ok (.getfield 25, 3) := by decide +kernel
theorem dX11_fault_4 : decode cX11_fault 4 = .ok (.invokevirtual 131, 3) := by decide +kernel
theorem dX11_fault_7 : decode cX11_fault 7 = .ok (.ireturn, 1) := by decide +kernel
theorem dX11_says_0 : decode cX11_says 0 = .ok (.iload_n 1, 1) := by decide +kernel
theorem dX11_says_1 : decode cX11_says 1 = .ok (.iconst 3, 1) := by decide +kernel
theorem dX11_says_2 : decode cX11_says 2 = .ok (.invokestatic 88, 3) := by decide +kernel
theorem dX11_says_5 : decode cX11_says 5 = .ok (.ifCond .ne 6, 3) := by decide +kernel
theorem dX11_says_8 : decode cX11_says 8 = .ok (.bipush (-3), 2) := by decide +kernel
theorem dX11_says_10 : decode cX11_says 10 = .ok (.ireturn, 1) := by decide +kernel
theorem dX11_says_11 : decode cX11_says 11 = .ok (.aload_n 0, 1) := by decide +kernel
theorem dX11_says_12 : decode cX11_says 12 = .ok (.getfield 25, 3) := by decide +kernel
theorem dX11_says_15 : decode cX11_says 15 = .ok (.invokevirtual 131, 3) := by decide +kernel
theorem dX11_says_18 : decode cX11_says 18 = .ok (.iconst (-1), 1) := by decide +kernel
theorem dX11_says_19 : decode cX11_says 19 = .ok (.if_icmp .ne 18, 3) := by decide +kernel
theorem dX11_says_22 : decode cX11_says 22 = .ok (.aload_n 0, 1) := by decide +kernel
theorem dX11_says_23 : decode cX11_says 23 = .ok (.aload_n 0, 1) := by decide +kernel
theorem dX11_says_24 : decode cX11_says 24 = .ok (.getfield 25, 3) := by decide +kernel
theorem dX11_says_27 : decode cX11_says 27 = .ok (.getfield 134, 3) := by decide +kernel
theorem dX11_says_30 : decode cX11_says 30 = .ok (.iload_n 1, 1) := by decide +kernel
theorem dX11_says_31 : decode cX11_says 31 = .ok (.invokevirtual 138, 3) := by decide +kernel
theorem dX11_says_34 : decode cX11_says 34 = .ok (.goto 5, 3) := by decide +kernel
theorem dX11_says_37 : decode cX11_says 37 = .ok (.bipush (-4), 2) := by decide +kernel
theorem dX11_says_39 : decode cX11_says 39 = .ok (.ireturn, 1) := by decide +kernel
theorem dX11_keep_0 : decode cX11_keep 0 = .ok (.aload_n 0, 1) := by decide +kernel
theorem dX11_keep_1 : decode cX11_keep 1 = .ok (.getfield 25, 3) := by decide +kernel
theorem dX11_keep_4 : decode cX11_keep 4 = .ok (.invokevirtual 131, 3) := by decide +kernel
theorem dX11_keep_7 : decode cX11_keep 7 = .ok (.iconst (-1), 1) := by decide +kernel
theorem dX11_keep_8 : decode cX11_keep 8 = .ok (.if_icmp .eq 6, 3) := by decide +kernel
theorem dX11_keep_11 : decode cX11_keep 11 = .ok (.bipush (-4), 2) := by decide +kernel
theorem dX11_keep_13 : decode cX11_keep 13 = .ok (.ireturn, 1) := by decide +kernel
theorem dX11_keep_14 : decode cX11_keep 14 = .ok (.aload_n 0, 1) := by decide +kernel
theorem dX11_keep_15 : decode cX11_keep 15 = .ok (.getfield 142, 3) := by decide +kernel
theorem dX11_keep_18 : decode cX11_keep 18 = .ok (.bipush 8, 2) := by decide +kernel
theorem dX11_keep_20 : decode cX11_keep 20 = .ok (.if_icmp .lt 6, 3) := by decide +kernel
theorem dX11_keep_23 : decode cX11_keep 23 = .ok (.bipush (-5), 2) := by decide +kernel
theorem dX11_keep_25 : decode cX11_keep 25 = .ok (.ireturn, 1) := by decide +kernel
theorem dX11_keep_26 : decode cX11_keep 26 = .ok (.aload_n 0, 1) := by decide +kernel
theorem dX11_keep_27 : decode cX11_keep 27 = .ok (.getfield 31, 3) := by decide +kernel
theorem dX11_keep_30 : decode cX11_keep 30 = .ok (.aload_n 0, 1) := by decide +kernel
theorem dX11_keep_31 : decode cX11_keep 31 = .ok (.getfield 142, 3) := by decide +kernel
theorem dX11_keep_34 : decode cX11_keep 34 = .ok (.aaload, 1) := by decide +kernel
theorem dX11_keep_35 : decode cX11_keep 35 = .ok (.aload_n 0, 1) := by decide +kernel
theorem dX11_keep_36 : decode cX11_keep 36 = .ok (.getfield 25, 3) := by decide +kernel
theorem dX11_keep_39 : decode cX11_keep 39 = .ok (.getfield 134, 3) := by decide +kernel
theorem dX11_keep_42 : decode cX11_keep 42 = .ok (.invokevirtual 145, 3) := by decide +kernel
theorem dX11_keep_45 : decode cX11_keep 45 = .ok (.aload_n 0, 1) := by decide +kernel
theorem dX11_keep_46 : decode cX11_keep 46 = .ok (.getfield 25, 3) := by decide +kernel
theorem dX11_keep_49 : decode cX11_keep 49 = .ok (.invokevirtual 127, 3) := by decide +kernel
theorem dX11_keep_52 : decode cX11_keep 52 = .ok (.pop, 1) := by decide +kernel
theorem dX11_keep_53 : decode cX11_keep 53 = .ok (.aload_n 0, 1) := by decide +kernel
theorem dX11_keep_54 : decode cX11_keep 54 = .ok (.dup, 1) := by decide +kernel
theorem dX11_keep_55 : decode cX11_keep 55 = .ok (.getfield 142, 3) := by decide +kernel
theorem dX11_keep_58 : decode cX11_keep 58 = .ok (.dup_x1, 1) := by decide +kernel
theorem dX11_keep_59 : decode cX11_keep 59 = .ok (.iconst 1, 1) := by decide +kernel
theorem dX11_keep_60 : decode cX11_keep 60 = .ok (.iadd, 1) := by decide +kernel
theorem dX11_keep_61 : decode cX11_keep 61 = .ok (.putfield 142, 3) := by decide +kernel
theorem dX11_keep_64 : decode cX11_keep 64 = .ok (.ireturn, 1) := by decide +kernel
theorem dX11_kept_0 : decode cX11_kept 0 = .ok (.iload_n 1, 1) := by decide +kernel
theorem dX11_kept_1 : decode cX11_kept 1 = .ok (.aload_n 0, 1) := by decide +kernel
theorem dX11_kept_2 : decode cX11_kept 2 = .ok (.getfield 142, 3) := by decide +kernel
theorem dX11_kept_5 : decode cX11_kept 5 = .ok (.invokestatic 88, 3) := by decide +kernel
theorem dX11_kept_8 : decode cX11_kept 8 = .ok (.ifCond .ne 6, 3) := by decide +kernel
theorem dX11_kept_11 : decode cX11_kept 11 = .ok (.bipush (-2), 2) := by decide +kernel
theorem dX11_kept_13 : decode cX11_kept 13 = .ok (.ireturn, 1) := by decide +kernel
theorem dX11_kept_14 : decode cX11_kept 14 = .ok (.iload_n 2, 1) := by decide +kernel
theorem dX11_kept_15 : decode cX11_kept 15 = .ok (.iconst 3, 1) := by decide +kernel
theorem dX11_kept_16 : decode cX11_kept 16 = .ok (.invokestatic 88, 3) := by decide +kernel
theorem dX11_kept_19 : decode cX11_kept 19 = .ok (.ifCond .eq 17, 3) := by decide +kernel
theorem dX11_kept_22 : decode cX11_kept 22 = .ok (.aload_n 0, 1) := by decide +kernel
theorem dX11_kept_23 : decode cX11_kept 23 = .ok (.aload_n 0, 1) := by decide +kernel
theorem dX11_kept_24 : decode cX11_kept 24 = .ok (.getfield 31, 3) := by decide +kernel
theorem dX11_kept_27 : decode cX11_kept 27 = .ok (.iload_n 1, 1) := by decide +kernel
theorem dX11_kept_28 : decode cX11_kept 28 = .ok (.aaload, 1) := by decide +kernel
theorem dX11_kept_29 : decode cX11_kept 29 = .ok (.iload_n 2, 1) := by decide +kernel
theorem dX11_kept_30 : decode cX11_kept 30 = .ok (.invokevirtual 138, 3) := by decide +kernel
theorem dX11_kept_33 : decode cX11_kept 33 = .ok (.goto 5, 3) := by decide +kernel
theorem dX11_kept_36 : decode cX11_kept 36 = .ok (.bipush (-3), 2) := by decide +kernel
theorem dX11_kept_38 : decode cX11_kept 38 = .ok (.ireturn, 1) := by decide +kernel
theorem dX11_told_0 : decode cX11_told 0 = .ok (.iload_n 2, 1) := by decide +kernel
theorem dX11_told_1 : decode cX11_told 1 = .ok (.lookupswitch 45 #[(0, 27), (1, 36)], 27) := by decide +kernel
theorem dX11_told_28 : decode cX11_told 28 = .ok (.aload_n 1, 1) := by decide +kernel
theorem dX11_told_29 : decode cX11_told 29 = .ok (.aload_n 0, 1) := by decide +kernel
theorem dX11_told_30 : decode cX11_told 30 = .ok (.getfield 10, 3) := by decide +kernel
theorem dX11_told_33 : decode cX11_told 33 = .ok (.invokevirtual 149, 3) := by decide +kernel
theorem dX11_told_36 : decode cX11_told 36 = .ok (.ireturn, 1) := by decide +kernel
theorem dX11_told_37 : decode cX11_told 37 = .ok (.aload_n 1, 1) := by decide +kernel
theorem dX11_told_38 : decode cX11_told 38 = .ok (.aload_n 0, 1) := by decide +kernel
theorem dX11_told_39 : decode cX11_told 39 = .ok (.getfield 18, 3) := by decide +kernel
theorem dX11_told_42 : decode cX11_told 42 = .ok (.invokevirtual 153, 3) := by decide +kernel
theorem dX11_told_45 : decode cX11_told 45 = .ok (.ireturn, 1) := by decide +kernel
theorem dX11_told_46 : decode cX11_told 46 = .ok (.aload_n 1, 1) := by decide +kernel
theorem dX11_told_47 : decode cX11_told 47 = .ok (.getfield 157, 3) := by decide +kernel
theorem dX11_told_50 : decode cX11_told 50 = .ok (.ireturn, 1) := by decide +kernel
theorem dX11_cheapest_0 : decode cX11_cheapest 0 = .ok (.iload_n 1, 1) := by decide +kernel
theorem dX11_cheapest_1 : decode cX11_cheapest 1 = .ok (.aload_n 0, 1) := by decide +kernel
theorem dX11_cheapest_2 : decode cX11_cheapest 2 = .ok (.getfield 10, 3) := by decide +kernel
theorem dX11_cheapest_5 : decode cX11_cheapest 5 = .ok (.invokevirtual 160, 3) := by decide +kernel
theorem dX11_cheapest_8 : decode cX11_cheapest 8 = .ok (.iconst 1, 1) := by decide +kernel
theorem dX11_cheapest_9 : decode cX11_cheapest 9 = .ok (.iadd, 1) := by decide +kernel
theorem dX11_cheapest_10 : decode cX11_cheapest 10 = .ok (.invokestatic 88, 3) := by decide +kernel
theorem dX11_cheapest_13 : decode cX11_cheapest 13 = .ok (.ifCond .eq 16, 3) := by decide +kernel
theorem dX11_cheapest_16 : decode cX11_cheapest 16 = .ok (.iload_n 2, 1) := by decide +kernel
theorem dX11_cheapest_17 : decode cX11_cheapest 17 = .ok (.invokestatic 163, 3) := by decide +kernel
theorem dX11_cheapest_20 : decode cX11_cheapest 20 = .ok (.ifCond .eq 9, 3) := by decide +kernel
theorem dX11_cheapest_23 : decode cX11_cheapest 23 = .ok (.iload_n 3, 1) := by decide +kernel
theorem dX11_cheapest_24 : decode cX11_cheapest 24 = .ok (.bipush (-2), 2) := by decide +kernel
theorem dX11_cheapest_26 : decode cX11_cheapest 26 = .ok (.if_icmp .ge 6, 3) := by decide +kernel
theorem dX11_cheapest_29 : decode cX11_cheapest 29 = .ok (.bipush (-3), 2) := by decide +kernel
theorem dX11_cheapest_31 : decode cX11_cheapest 31 = .ok (.ireturn, 1) := by decide +kernel
theorem dX11_cheapest_32 : decode cX11_cheapest 32 = .ok (.aload_n 0, 1) := by decide +kernel
theorem dX11_cheapest_33 : decode cX11_cheapest 33 = .ok (.iload_n 2, 1) := by decide +kernel
theorem dX11_cheapest_34 : decode cX11_cheapest 34 = .ok (.invokevirtual 166, 3) := by decide +kernel
theorem dX11_cheapest_37 : decode cX11_cheapest 37 = .ok (.astore 4, 2) := by decide +kernel
theorem dX11_cheapest_39 : decode cX11_cheapest 39 = .ok (.aload 4, 2) := by decide +kernel
theorem dX11_cheapest_41 : decode cX11_cheapest 41 = .ok (.iload_n 1, 1) := by decide +kernel
theorem dX11_cheapest_42 : decode cX11_cheapest 42 = .ok (.invokevirtual 170, 3) := by decide +kernel
theorem dX11_cheapest_45 : decode cX11_cheapest 45 = .ok (.ifCond .ne 5, 3) := by decide +kernel
theorem dX11_cheapest_48 : decode cX11_cheapest 48 = .ok (.iconst (-1), 1) := by decide +kernel
theorem dX11_cheapest_49 : decode cX11_cheapest 49 = .ok (.ireturn, 1) := by decide +kernel
theorem dX11_cheapest_50 : decode cX11_cheapest 50 = .ok (.iload_n 3, 1) := by decide +kernel
theorem dX11_cheapest_51 : decode cX11_cheapest 51 = .ok (.lookupswitch 41 #[(-2, 33), (-1, 25)], 25) := by decide +kernel
theorem dX11_cheapest_76 : decode cX11_cheapest 76 = .ok (.aload 4, 2) := by decide +kernel
theorem dX11_cheapest_78 : decode cX11_cheapest 78 = .ok (.getfield 173, 3) := by decide +kernel
theorem dX11_cheapest_81 : decode cX11_cheapest 81 = .ok (.iload_n 1, 1) := by decide +kernel
theorem dX11_cheapest_82 : decode cX11_cheapest 82 = .ok (.iaload, 1) := by decide +kernel
theorem dX11_cheapest_83 : decode cX11_cheapest 83 = .ok (.ireturn, 1) := by decide +kernel
theorem dX11_cheapest_84 : decode cX11_cheapest 84 = .ok (.aload 4, 2) := by decide +kernel
theorem dX11_cheapest_86 : decode cX11_cheapest 86 = .ok (.getfield 176, 3) := by decide +kernel
theorem dX11_cheapest_89 : decode cX11_cheapest 89 = .ok (.iload_n 1, 1) := by decide +kernel
theorem dX11_cheapest_90 : decode cX11_cheapest 90 = .ok (.iaload, 1) := by decide +kernel
theorem dX11_cheapest_91 : decode cX11_cheapest 91 = .ok (.ireturn, 1) := by decide +kernel
theorem dX11_cheapest_92 : decode cX11_cheapest 92 = .ok (.iload_n 3, 1) := by decide +kernel
theorem dX11_cheapest_93 : decode cX11_cheapest 93 = .ok (.aload 4, 2) := by decide +kernel
theorem dX11_cheapest_95 : decode cX11_cheapest 95 = .ok (.getfield 176, 3) := by decide +kernel
theorem dX11_cheapest_98 : decode cX11_cheapest 98 = .ok (.iload_n 1, 1) := by decide +kernel
theorem dX11_cheapest_99 : decode cX11_cheapest 99 = .ok (.iaload, 1) := by decide +kernel
theorem dX11_cheapest_100 : decode cX11_cheapest 100 = .ok (.if_icmp .ge 13, 3) := by decide +kernel
theorem dX11_cheapest_103 : decode cX11_cheapest 103 = .ok (.aload 4, 2) := by decide +kernel
theorem dX11_cheapest_105 : decode cX11_cheapest 105 = .ok (.iload_n 1, 1) := by decide +kernel
theorem dX11_cheapest_106 : decode cX11_cheapest 106 = .ok (.iload_n 3, 1) := by decide +kernel
theorem dX11_cheapest_107 : decode cX11_cheapest 107 = .ok (.invokevirtual 179, 3) := by decide +kernel
theorem dX11_cheapest_110 : decode cX11_cheapest 110 = .ok (.goto 4, 3) := by decide +kernel
theorem dX11_cheapest_113 : decode cX11_cheapest 113 = .ok (.iconst (-1), 1) := by decide +kernel
theorem dX11_cheapest_114 : decode cX11_cheapest 114 = .ok (.ireturn, 1) := by decide +kernel
theorem dX11_sets_0 : decode cX11_sets 0 = .ok (.iload_n 1, 1) := by decide +kernel
theorem dX11_sets_1 : decode cX11_sets 1 = .ok (.invokestatic 163, 3) := by decide +kernel
theorem dX11_sets_4 : decode cX11_sets 4 = .ok (.ifCond .eq 14, 3) := by decide +kernel
theorem dX11_sets_7 : decode cX11_sets 7 = .ok (.aload_n 0, 1) := by decide +kernel
theorem dX11_sets_8 : decode cX11_sets 8 = .ok (.iload_n 1, 1) := by decide +kernel
theorem dX11_sets_9 : decode cX11_sets 9 = .ok (.invokevirtual 166, 3) := by decide +kernel
theorem dX11_sets_12 : decode cX11_sets 12 = .ok (.getfield 182, 3) := by decide +kernel
theorem dX11_sets_15 : decode cX11_sets 15 = .ok (.goto 5, 3) := by decide +kernel
theorem dX11_sets_18 : decode cX11_sets 18 = .ok (.bipush (-3), 2) := by decide +kernel
theorem dX11_sets_20 : decode cX11_sets 20 = .ok (.ireturn, 1) := by decide +kernel
theorem dX11_quick_0 : decode cX11_quick 0 = .ok (.aload_n 0, 1) := by decide +kernel
theorem dX11_quick_1 : decode cX11_quick 1 = .ok (.getfield 10, 3) := by decide +kernel
theorem dX11_quick_4 : decode cX11_quick 4 = .ok (.iload_n 1, 1) := by decide +kernel
theorem dX11_quick_5 : decode cX11_quick 5 = .ok (.invokevirtual 106, 3) := by decide +kernel
theorem dX11_quick_8 : decode cX11_quick 8 = .ok (.ifCond .eq 18, 3) := by decide +kernel
theorem dX11_quick_11 : decode cX11_quick 11 = .ok (.aload_n 0, 1) := by decide +kernel
theorem dX11_quick_12 : decode cX11_quick 12 = .ok (.getfield 10, 3) := by decide +kernel
theorem dX11_quick_15 : decode cX11_quick 15 = .ok (.aload_n 0, 1) := by decide +kernel
theorem dX11_quick_16 : decode cX11_quick 16 = .ok (.getfield 18, 3) := by decide +kernel
theorem dX11_quick_19 : decode cX11_quick 19 = .ok (.iload_n 1, 1) := by decide +kernel
theorem dX11_quick_20 : decode cX11_quick 20 = .ok (.invokestatic 185, 3) := by decide +kernel
theorem dX11_quick_23 : decode cX11_quick 23 = .ok (.goto 5, 3) := by decide +kernel
theorem dX11_quick_26 : decode cX11_quick 26 = .ok (.bipush (-2), 2) := by decide +kernel
theorem dX11_quick_28 : decode cX11_quick 28 = .ok (.ireturn, 1) := by decide +kernel
theorem dX11_twin_0 : decode cX11_twin 0 = .ok (.aload_n 0, 1) := by decide +kernel
theorem dX11_twin_1 : decode cX11_twin 1 = .ok (.getfield 10, 3) := by decide +kernel
theorem dX11_twin_4 : decode cX11_twin 4 = .ok (.iload_n 1, 1) := by decide +kernel
theorem dX11_twin_5 : decode cX11_twin 5 = .ok (.invokevirtual 106, 3) := by decide +kernel
theorem dX11_twin_8 : decode cX11_twin 8 = .ok (.ifCond .ne 6, 3) := by decide +kernel
theorem dX11_twin_11 : decode cX11_twin 11 = .ok (.bipush (-2), 2) := by decide +kernel
theorem dX11_twin_13 : decode cX11_twin 13 = .ok (.ireturn, 1) := by decide +kernel
theorem dX11_twin_14 : decode cX11_twin 14 = .ok (.iload_n 2, 1) := by decide +kernel
theorem dX11_twin_15 : decode cX11_twin 15 = .ok (.iconst 3, 1) := by decide +kernel
theorem dX11_twin_16 : decode cX11_twin 16 = .ok (.invokestatic 88, 3) := by decide +kernel
theorem dX11_twin_19 : decode cX11_twin 19 = .ok (.ifCond .ne 6, 3) := by decide +kernel
theorem dX11_twin_22 : decode cX11_twin 22 = .ok (.bipush (-3), 2) := by decide +kernel
theorem dX11_twin_24 : decode cX11_twin 24 = .ok (.ireturn, 1) := by decide +kernel
theorem dX11_twin_25 : decode cX11_twin 25 = .ok (.aload_n 0, 1) := by decide +kernel
theorem dX11_twin_26 : decode cX11_twin 26 = .ok (.getfield 52, 3) := by decide +kernel
theorem dX11_twin_29 : decode cX11_twin 29 = .ok (.aload_n 0, 1) := by decide +kernel
theorem dX11_twin_30 : decode cX11_twin 30 = .ok (.getfield 10, 3) := by decide +kernel
theorem dX11_twin_33 : decode cX11_twin 33 = .ok (.invokevirtual 190, 3) := by decide +kernel
theorem dX11_twin_36 : decode cX11_twin 36 = .ok (.iload_n 2, 1) := by decide +kernel
theorem dX11_twin_37 : decode cX11_twin 37 = .ok (.lookupswitch 50 #[(0, 27), (1, 40)], 27) := by decide +kernel
theorem dX11_twin_64 : decode cX11_twin 64 = .ok (.aload_n 0, 1) := by decide +kernel
theorem dX11_twin_65 : decode cX11_twin 65 = .ok (.getfield 52, 3) := by decide +kernel
theorem dX11_twin_68 : decode cX11_twin 68 = .ok (.getfield 194, 3) := by decide +kernel
theorem dX11_twin_71 : decode cX11_twin 71 = .ok (.iload_n 1, 1) := by decide +kernel
theorem dX11_twin_72 : decode cX11_twin 72 = .ok (.iaload, 1) := by decide +kernel
theorem dX11_twin_73 : decode cX11_twin 73 = .ok (.invokestatic 197, 3) := by decide +kernel
theorem dX11_twin_76 : decode cX11_twin 76 = .ok (.ireturn, 1) := by decide +kernel
theorem dX11_twin_77 : decode cX11_twin 77 = .ok (.aload_n 0, 1) := by decide +kernel
theorem dX11_twin_78 : decode cX11_twin 78 = .ok (.getfield 52, 3) := by decide +kernel
theorem dX11_twin_81 : decode cX11_twin 81 = .ok (.getfield 203, 3) := by decide +kernel
theorem dX11_twin_84 : decode cX11_twin 84 = .ok (.iload_n 1, 1) := by decide +kernel
theorem dX11_twin_85 : decode cX11_twin 85 = .ok (.iaload, 1) := by decide +kernel
theorem dX11_twin_86 : decode cX11_twin 86 = .ok (.ireturn, 1) := by decide +kernel
theorem dX11_twin_87 : decode cX11_twin 87 = .ok (.aload_n 0, 1) := by decide +kernel
theorem dX11_twin_88 : decode cX11_twin 88 = .ok (.getfield 52, 3) := by decide +kernel
theorem dX11_twin_91 : decode cX11_twin 91 = .ok (.aload_n 0, 1) := by decide +kernel
theorem dX11_twin_92 : decode cX11_twin 92 = .ok (.getfield 10, 3) := by decide +kernel
theorem dX11_twin_95 : decode cX11_twin 95 = .ok (.getfield 95, 3) := by decide +kernel
theorem dX11_twin_98 : decode cX11_twin 98 = .ok (.invokevirtual 206, 3) := by decide +kernel
theorem dX11_twin_101 : decode cX11_twin 101 = .ok (.ireturn, 1) := by decide +kernel
theorem dX11_waysWith_0 : decode cX11_waysWith 0 = .ok (.aload_n 0, 1) := by decide +kernel
theorem dX11_waysWith_1 : decode cX11_waysWith 1 = .ok (.getfield 38, 3) := by decide +kernel
theorem dX11_waysWith_4 : decode cX11_waysWith 4 = .ok (.getfield 209, 3) := by decide +kernel
theorem dX11_waysWith_7 : decode cX11_waysWith 7 = .ok (.aload_n 0, 1) := by decide +kernel
theorem dX11_waysWith_8 : decode cX11_waysWith 8 = .ok (.getfield 99, 3) := by decide +kernel
theorem dX11_waysWith_11 : decode cX11_waysWith 11 = .ok (.if_icmp .ne 14, 3) := by decide +kernel
theorem dX11_waysWith_14 : decode cX11_waysWith 14 = .ok (.aload_n 0, 1) := by decide +kernel
theorem dX11_waysWith_15 : decode cX11_waysWith 15 = .ok (.getfield 38, 3) := by decide +kernel
theorem dX11_waysWith_18 : decode cX11_waysWith 18 = .ok (.getfield 212, 3) := by decide +kernel
theorem dX11_waysWith_21 : decode cX11_waysWith 21 = .ok (.iload_n 1, 1) := by decide +kernel
theorem dX11_waysWith_22 : decode cX11_waysWith 22 = .ok (.if_icmp .eq 31, 3) := by decide +kernel
theorem dX11_waysWith_25 : decode cX11_waysWith 25 = .ok (.aload_n 0, 1) := by decide +kernel
theorem dX11_waysWith_26 : decode cX11_waysWith 26 = .ok (.getfield 38, 3) := by decide +kernel
theorem dX11_waysWith_29 : decode cX11_waysWith 29 = .ok (.aload_n 0, 1) := by decide +kernel
theorem dX11_waysWith_30 : decode cX11_waysWith 30 = .ok (.getfield 10, 3) := by decide +kernel
theorem dX11_waysWith_33 : decode cX11_waysWith 33 = .ok (.aload_n 0, 1) := by decide +kernel
theorem dX11_waysWith_34 : decode cX11_waysWith 34 = .ok (.getfield 18, 3) := by decide +kernel
theorem dX11_waysWith_37 : decode cX11_waysWith 37 = .ok (.iload_n 1, 1) := by decide +kernel
theorem dX11_waysWith_38 : decode cX11_waysWith 38 = .ok (.iconst 0, 1) := by decide +kernel
theorem dX11_waysWith_39 : decode cX11_waysWith 39 = .ok (.invokevirtual 215, 3) := by decide +kernel
theorem dX11_waysWith_42 : decode cX11_waysWith 42 = .ok (.aload_n 0, 1) := by decide +kernel
theorem dX11_waysWith_43 : decode cX11_waysWith 43 = .ok (.getfield 38, 3) := by decide +kernel
theorem dX11_waysWith_46 : decode cX11_waysWith 46 = .ok (.aload_n 0, 1) := by decide +kernel
theorem dX11_waysWith_47 : decode cX11_waysWith 47 = .ok (.getfield 99, 3) := by decide +kernel
theorem dX11_waysWith_50 : decode cX11_waysWith 50 = .ok (.putfield 209, 3) := by decide +kernel
theorem dX11_waysWith_53 : decode cX11_waysWith 53 = .ok (.aload_n 0, 1) := by decide +kernel
theorem dX11_waysWith_54 : decode cX11_waysWith 54 = .ok (.getfield 38, 3) := by decide +kernel
theorem dX11_waysWith_57 : decode cX11_waysWith 57 = .ok (.areturn, 1) := by decide +kernel
theorem dX11_breaks_0 : decode cX11_breaks 0 = .ok (.aload_n 0, 1) := by decide +kernel
theorem dX11_breaks_1 : decode cX11_breaks 1 = .ok (.getfield 25, 3) := by decide +kernel
theorem dX11_breaks_4 : decode cX11_breaks 4 = .ok (.invokevirtual 131, 3) := by decide +kernel
theorem dX11_breaks_7 : decode cX11_breaks 7 = .ok (.iconst (-1), 1) := by decide +kernel
theorem dX11_breaks_8 : decode cX11_breaks 8 = .ok (.if_icmp .ne 17, 3) := by decide +kernel
theorem dX11_breaks_11 : decode cX11_breaks 11 = .ok (.aload_n 0, 1) := by decide +kernel
theorem dX11_breaks_12 : decode cX11_breaks 12 = .ok (.aload_n 0, 1) := by decide +kernel
theorem dX11_breaks_13 : decode cX11_breaks 13 = .ok (.getfield 25, 3) := by decide +kernel
theorem dX11_breaks_16 : decode cX11_breaks 16 = .ok (.getfield 134, 3) := by decide +kernel
theorem dX11_breaks_19 : decode cX11_breaks 19 = .ok (.invokevirtual 218, 3) := by decide +kernel
theorem dX11_breaks_22 : decode cX11_breaks 22 = .ok (.goto 5, 3) := by decide +kernel
theorem dX11_breaks_25 : decode cX11_breaks 25 = .ok (.bipush (-4), 2) := by decide +kernel
theorem dX11_breaks_27 : decode cX11_breaks 27 = .ok (.ireturn, 1) := by decide +kernel
theorem dX11_firstBreak_0 : decode cX11_firstBreak 0 = .ok (.aload_n 1, 1) := by decide +kernel
theorem dX11_firstBreak_1 : decode cX11_firstBreak 1 = .ok (.aload_n 0, 1) := by decide +kernel
theorem dX11_firstBreak_2 : decode cX11_firstBreak 2 = .ok (.getfield 10, 3) := by decide +kernel
theorem dX11_firstBreak_5 : decode cX11_firstBreak 5 = .ok (.invokevirtual 149, 3) := by decide +kernel
theorem dX11_firstBreak_8 : decode cX11_firstBreak 8 = .ok (.istore_n 2, 1) := by decide +kernel
theorem dX11_firstBreak_9 : decode cX11_firstBreak 9 = .ok (.aload_n 0, 1) := by decide +kernel
theorem dX11_firstBreak_10 : decode cX11_firstBreak 10 = .ok (.getfield 10, 3) := by decide +kernel
theorem dX11_firstBreak_13 : decode cX11_firstBreak 13 = .ok (.getfield 109, 3) := by decide +kernel
theorem dX11_firstBreak_16 : decode cX11_firstBreak 16 = .ok (.iconst 1, 1) := by decide +kernel
theorem dX11_firstBreak_17 : decode cX11_firstBreak 17 = .ok (.aaload, 1) := by decide +kernel
theorem dX11_firstBreak_18 : decode cX11_firstBreak 18 = .ok (.astore_n 3, 1) := by decide +kernel
theorem dX11_firstBreak_19 : decode cX11_firstBreak 19 = .ok (.iconst 0, 1) := by decide +kernel
theorem dX11_firstBreak_20 : decode cX11_firstBreak 20 = .ok (.istore 4, 2) := by decide +kernel
theorem dX11_firstBreak_22 : decode cX11_firstBreak 22 = .ok (.iload 4, 2) := by decide +kernel
theorem dX11_firstBreak_24 : decode cX11_firstBreak 24 = .ok (.aload_n 0, 1) := by decide +kernel
theorem dX11_firstBreak_25 : decode cX11_firstBreak 25 = .ok (.getfield 10, 3) := by decide +kernel
theorem dX11_firstBreak_28 : decode cX11_firstBreak 28 = .ok (.getfield 95, 3) := by decide +kernel
theorem dX11_firstBreak_31 : decode cX11_firstBreak 31 = .ok (.if_icmp .ge 73, 3) := by decide +kernel
theorem dX11_firstBreak_34 : decode cX11_firstBreak 34 = .ok (.iload 4, 2) := by decide +kernel
theorem dX11_firstBreak_36 : decode cX11_firstBreak 36 = .ok (.bipush 8, 2) := by decide +kernel
theorem dX11_firstBreak_38 : decode cX11_firstBreak 38 = .ok (.if_icmp .ge 66, 3) := by decide +kernel
theorem dX11_firstBreak_41 : decode cX11_firstBreak 41 = .ok (.aload_n 3, 1) := by decide +kernel
theorem dX11_firstBreak_42 : decode cX11_firstBreak 42 = .ok (.iload 4, 2) := by decide +kernel
theorem dX11_firstBreak_44 : decode cX11_firstBreak 44 = .ok (.iaload, 1) := by decide +kernel
theorem dX11_firstBreak_45 : decode cX11_firstBreak 45 = .ok (.istore 5, 2) := by decide +kernel
theorem dX11_firstBreak_47 : decode cX11_firstBreak 47 = .ok (.iconst 0, 1) := by decide +kernel
theorem dX11_firstBreak_48 : decode cX11_firstBreak 48 = .ok (.istore 6, 2) := by decide +kernel
theorem dX11_firstBreak_50 : decode cX11_firstBreak 50 = .ok (.iload 6, 2) := by decide +kernel
theorem dX11_firstBreak_52 : decode cX11_firstBreak 52 = .ok (.iconst 4, 1) := by decide +kernel
theorem dX11_firstBreak_53 : decode cX11_firstBreak 53 = .ok (.if_icmp .ge 45, 3) := by decide +kernel
theorem dX11_firstBreak_56 : decode cX11_firstBreak 56 = .ok (.aload_n 3, 1) := by decide +kernel
theorem dX11_firstBreak_57 : decode cX11_firstBreak 57 = .ok (.iload 4, 2) := by decide +kernel
theorem dX11_firstBreak_59 : decode cX11_firstBreak 59 = .ok (.iload 6, 2) := by decide +kernel
theorem dX11_firstBreak_61 : decode cX11_firstBreak 61 = .ok (.iastore, 1) := by decide +kernel
theorem dX11_firstBreak_62 : decode cX11_firstBreak 62 = .ok (.aload_n 1, 1) := by decide +kernel
theorem dX11_firstBreak_63 : decode cX11_firstBreak 63 = .ok (.aload_n 0, 1) := by decide +kernel
theorem dX11_firstBreak_64 : decode cX11_firstBreak 64 = .ok (.getfield 10, 3) := by decide +kernel
theorem dX11_firstBreak_67 : decode cX11_firstBreak 67 = .ok (.invokevirtual 149, 3) := by decide +kernel
theorem dX11_firstBreak_70 : decode cX11_firstBreak 70 = .ok (.istore 7, 2) := by decide +kernel
theorem dX11_firstBreak_72 : decode cX11_firstBreak 72 = .ok (.aload_n 3, 1) := by decide +kernel
theorem dX11_firstBreak_73 : decode cX11_firstBreak 73 = .ok (.iload 4, 2) := by decide +kernel
theorem dX11_firstBreak_75 : decode cX11_firstBreak 75 = .ok (.iload 5, 2) := by decide +kernel
theorem dX11_firstBreak_77 : decode cX11_firstBreak 77 = .ok (.iastore, 1) := by decide +kernel
theorem dX11_firstBreak_78 : decode cX11_firstBreak 78 = .ok (.iload 7, 2) := by decide +kernel
theorem dX11_firstBreak_80 : decode cX11_firstBreak 80 = .ok (.iload_n 2, 1) := by decide +kernel
theorem dX11_firstBreak_81 : decode cX11_firstBreak 81 = .ok (.if_icmp .eq 11, 3) := by decide +kernel
theorem dX11_firstBreak_84 : decode cX11_firstBreak 84 = .ok (.iconst 4, 1) := by decide +kernel
theorem dX11_firstBreak_85 : decode cX11_firstBreak 85 = .ok (.iload 4, 2) := by decide +kernel
theorem dX11_firstBreak_87 : decode cX11_firstBreak 87 = .ok (.imul, 1) := by decide +kernel
theorem dX11_firstBreak_88 : decode cX11_firstBreak 88 = .ok (.iload 6, 2) := by decide +kernel
theorem dX11_firstBreak_90 : decode cX11_firstBreak 90 = .ok (.iadd, 1) := by decide +kernel
theorem dX11_firstBreak_91 : decode cX11_firstBreak 91 = .ok (.ireturn, 1) := by decide +kernel
theorem dX11_firstBreak_92 : decode cX11_firstBreak 92 = .ok (.iinc 6 1, 3) := by decide +kernel
theorem dX11_firstBreak_95 : decode cX11_firstBreak 95 = .ok (.goto (-45), 3) := by decide +kernel
theorem dX11_firstBreak_98 : decode cX11_firstBreak 98 = .ok (.iinc 4 1, 3) := by decide +kernel
theorem dX11_firstBreak_101 : decode cX11_firstBreak 101 = .ok (.goto (-79), 3) := by decide +kernel
theorem dX11_firstBreak_104 : decode cX11_firstBreak 104 = .ok (.iconst (-1), 1) := by decide +kernel
theorem dX11_firstBreak_105 : decode cX11_firstBreak 105 = .ok (.ireturn, 1) := by decide +kernel
theorem dX11_hears_0 : decode cX11_hears 0 = .ok (.iload_n 1, 1) := by decide +kernel
theorem dX11_hears_1 : decode cX11_hears 1 = .ok (.aload_n 0, 1) := by decide +kernel
theorem dX11_hears_2 : decode cX11_hears 2 = .ok (.getfield 142, 3) := by decide +kernel
theorem dX11_hears_5 : decode cX11_hears 5 = .ok (.invokestatic 88, 3) := by decide +kernel
theorem dX11_hears_8 : decode cX11_hears 8 = .ok (.ifCond .ne 6, 3) := by decide +kernel
theorem dX11_hears_11 : decode cX11_hears 11 = .ok (.bipush (-2), 2) := by decide +kernel
theorem dX11_hears_13 : decode cX11_hears 13 = .ok (.ireturn, 1) := by decide +kernel
theorem dX11_hears_14 : decode cX11_hears 14 = .ok (.iload_n 2, 1) := by decide +kernel
theorem dX11_hears_15 : decode cX11_hears 15 = .ok (.bipush 21, 2) := by decide +kernel
theorem dX11_hears_17 : decode cX11_hears 17 = .ok (.invokestatic 88, 3) := by decide +kernel
theorem dX11_hears_20 : decode cX11_hears 20 = .ok (.ifCond .ne 6, 3) := by decide +kernel
theorem dX11_hears_23 : decode cX11_hears 23 = .ok (.bipush (-3), 2) := by decide +kernel
theorem dX11_hears_25 : decode cX11_hears 25 = .ok (.ireturn, 1) := by decide +kernel
theorem dX11_hears_26 : decode cX11_hears 26 = .ok (.aload_n 0, 1) := by decide +kernel
theorem dX11_hears_27 : decode cX11_hears 27 = .ok (.iload_n 2, 1) := by decide +kernel
theorem dX11_hears_28 : decode cX11_hears 28 = .ok (.invokevirtual 222, 3) := by decide +kernel
theorem dX11_hears_31 : decode cX11_hears 31 = .ok (.aload_n 0, 1) := by decide +kernel
theorem dX11_hears_32 : decode cX11_hears 32 = .ok (.getfield 59, 3) := by decide +kernel
theorem dX11_hears_35 : decode cX11_hears 35 = .ok (.getfield 226, 3) := by decide +kernel
theorem dX11_hears_38 : decode cX11_hears 38 = .ok (.iload_n 1, 1) := by decide +kernel
theorem dX11_hears_39 : decode cX11_hears 39 = .ok (.iaload, 1) := by decide +kernel
theorem dX11_hears_40 : decode cX11_hears 40 = .ok (.ireturn, 1) := by decide +kernel
theorem dX11_tells_0 : decode cX11_tells 0 = .ok (.aload_n 0, 1) := by decide +kernel
theorem dX11_tells_1 : decode cX11_tells 1 = .ok (.getfield 10, 3) := by decide +kernel
theorem dX11_tells_4 : decode cX11_tells 4 = .ok (.iload_n 1, 1) := by decide +kernel
theorem dX11_tells_5 : decode cX11_tells 5 = .ok (.invokevirtual 106, 3) := by decide +kernel
theorem dX11_tells_8 : decode cX11_tells 8 = .ok (.ifCond .ne 6, 3) := by decide +kernel
theorem dX11_tells_11 : decode cX11_tells 11 = .ok (.bipush (-2), 2) := by decide +kernel
theorem dX11_tells_13 : decode cX11_tells 13 = .ok (.ireturn, 1) := by decide +kernel
theorem dX11_tells_14 : decode cX11_tells 14 = .ok (.iload_n 2, 1) := by decide +kernel
theorem dX11_tells_15 : decode cX11_tells 15 = .ok (.bipush 21, 2) := by decide +kernel
theorem dX11_tells_17 : decode cX11_tells 17 = .ok (.invokestatic 88, 3) := by decide +kernel
theorem dX11_tells_20 : decode cX11_tells 20 = .ok (.ifCond .ne 6, 3) := by decide +kernel
theorem dX11_tells_23 : decode cX11_tells 23 = .ok (.bipush (-3), 2) := by decide +kernel
theorem dX11_tells_25 : decode cX11_tells 25 = .ok (.ireturn, 1) := by decide +kernel
theorem dX11_tells_26 : decode cX11_tells 26 = .ok (.aload_n 0, 1) := by decide +kernel
theorem dX11_tells_27 : decode cX11_tells 27 = .ok (.iload_n 2, 1) := by decide +kernel
theorem dX11_tells_28 : decode cX11_tells 28 = .ok (.invokevirtual 222, 3) := by decide +kernel
theorem dX11_tells_31 : decode cX11_tells 31 = .ok (.aload_n 0, 1) := by decide +kernel
theorem dX11_tells_32 : decode cX11_tells 32 = .ok (.getfield 59, 3) := by decide +kernel
theorem dX11_tells_35 : decode cX11_tells 35 = .ok (.iload_n 1, 1) := by decide +kernel
theorem dX11_tells_36 : decode cX11_tells 36 = .ok (.invokevirtual 229, 3) := by decide +kernel
theorem dX11_tells_39 : decode cX11_tells 39 = .ok (.ireturn, 1) := by decide +kernel
theorem dX11_ends_0 : decode cX11_ends 0 = .ok (.aload_n 0, 1) := by decide +kernel
theorem dX11_ends_1 : decode cX11_ends 1 = .ok (.iconst 0, 1) := by decide +kernel
theorem dX11_ends_2 : decode cX11_ends 2 = .ok (.invokevirtual 222, 3) := by decide +kernel
theorem dX11_ends_5 : decode cX11_ends 5 = .ok (.iconst 0, 1) := by decide +kernel
theorem dX11_ends_6 : decode cX11_ends 6 = .ok (.istore_n 1, 1) := by decide +kernel
theorem dX11_ends_7 : decode cX11_ends 7 = .ok (.iload_n 1, 1) := by decide +kernel
theorem dX11_ends_8 : decode cX11_ends 8 = .ok (.bipush 20, 2) := by decide +kernel
theorem dX11_ends_10 : decode cX11_ends 10 = .ok (.if_icmp .gt 28, 3) := by decide +kernel
theorem dX11_ends_13 : decode cX11_ends 13 = .ok (.aload_n 0, 1) := by decide +kernel
theorem dX11_ends_14 : decode cX11_ends 14 = .ok (.getfield 59, 3) := by decide +kernel
theorem dX11_ends_17 : decode cX11_ends 17 = .ok (.aload_n 0, 1) := by decide +kernel
theorem dX11_ends_18 : decode cX11_ends 18 = .ok (.getfield 10, 3) := by decide +kernel
theorem dX11_ends_21 : decode cX11_ends 21 = .ok (.getfield 95, 3) := by decide +kernel
theorem dX11_ends_24 : decode cX11_ends 24 = .ok (.invokevirtual 232, 3) := by decide +kernel
theorem dX11_ends_27 : decode cX11_ends 27 = .ok (.ifCond .ne 5, 3) := by decide +kernel
theorem dX11_ends_30 : decode cX11_ends 30 = .ok (.iload_n 1, 1) := by decide +kernel
theorem dX11_ends_31 : decode cX11_ends 31 = .ok (.ireturn, 1) := by decide +kernel
theorem dX11_ends_32 : decode cX11_ends 32 = .ok (.iinc 1 1, 3) := by decide +kernel
theorem dX11_ends_35 : decode cX11_ends 35 = .ok (.goto (-28), 3) := by decide +kernel
theorem dX11_ends_38 : decode cX11_ends 38 = .ok (.iconst (-1), 1) := by decide +kernel
theorem dX11_ends_39 : decode cX11_ends 39 = .ok (.ireturn, 1) := by decide +kernel
theorem dX11_think_0 : decode cX11_think 0 = .ok (.aload_n 0, 1) := by decide +kernel
theorem dX11_think_1 : decode cX11_think 1 = .ok (.getfield 59, 3) := by decide +kernel
theorem dX11_think_4 : decode cX11_think 4 = .ok (.invokevirtual 235, 3) := by decide +kernel
theorem dX11_think_7 : decode cX11_think 7 = .ok (.iconst 0, 1) := by decide +kernel
theorem dX11_think_8 : decode cX11_think 8 = .ok (.istore_n 2, 1) := by decide +kernel
theorem dX11_think_9 : decode cX11_think 9 = .ok (.iload_n 2, 1) := by decide +kernel
theorem dX11_think_10 : decode cX11_think 10 = .ok (.aload_n 0, 1) := by decide +kernel
theorem dX11_think_11 : decode cX11_think 11 = .ok (.getfield 142, 3) := by decide +kernel
theorem dX11_think_14 : decode cX11_think 14 = .ok (.if_icmp .ge 48, 3) := by decide +kernel
theorem dX11_think_17 : decode cX11_think 17 = .ok (.iload_n 2, 1) := by decide +kernel
theorem dX11_think_18 : decode cX11_think 18 = .ok (.bipush 8, 2) := by decide +kernel
theorem dX11_think_20 : decode cX11_think 20 = .ok (.if_icmp .ge 42, 3) := by decide +kernel
theorem dX11_think_23 : decode cX11_think 23 = .ok (.aload_n 0, 1) := by decide +kernel
theorem dX11_think_24 : decode cX11_think 24 = .ok (.getfield 59, 3) := by decide +kernel
theorem dX11_think_27 : decode cX11_think 27 = .ok (.aload_n 0, 1) := by decide +kernel
theorem dX11_think_28 : decode cX11_think 28 = .ok (.getfield 31, 3) := by decide +kernel
theorem dX11_think_31 : decode cX11_think 31 = .ok (.iload_n 2, 1) := by decide +kernel
theorem dX11_think_32 : decode cX11_think 32 = .ok (.aaload, 1) := by decide +kernel
theorem dX11_think_33 : decode cX11_think 33 = .ok (.aload_n 0, 1) := by decide +kernel
theorem dX11_think_34 : decode cX11_think 34 = .ok (.getfield 10, 3) := by decide +kernel
theorem dX11_think_37 : decode cX11_think 37 = .ok (.invokevirtual 149, 3) := by decide +kernel
theorem dX11_think_40 : decode cX11_think 40 = .ok (.aload_n 0, 1) := by decide +kernel
theorem dX11_think_41 : decode cX11_think 41 = .ok (.getfield 31, 3) := by decide +kernel
theorem dX11_think_44 : decode cX11_think 44 = .ok (.iload_n 2, 1) := by decide +kernel
theorem dX11_think_45 : decode cX11_think 45 = .ok (.aaload, 1) := by decide +kernel
theorem dX11_think_46 : decode cX11_think 46 = .ok (.aload_n 0, 1) := by decide +kernel
theorem dX11_think_47 : decode cX11_think 47 = .ok (.getfield 18, 3) := by decide +kernel
theorem dX11_think_50 : decode cX11_think 50 = .ok (.invokevirtual 153, 3) := by decide +kernel
theorem dX11_think_53 : decode cX11_think 53 = .ok (.invokevirtual 238, 3) := by decide +kernel
theorem dX11_think_56 : decode cX11_think 56 = .ok (.iinc 2 1, 3) := by decide +kernel
theorem dX11_think_59 : decode cX11_think 59 = .ok (.goto (-50), 3) := by decide +kernel
theorem dX11_think_62 : decode cX11_think 62 = .ok (.iconst 0, 1) := by decide +kernel
theorem dX11_think_63 : decode cX11_think 63 = .ok (.istore_n 2, 1) := by decide +kernel
theorem dX11_think_64 : decode cX11_think 64 = .ok (.iload_n 2, 1) := by decide +kernel
theorem dX11_think_65 : decode cX11_think 65 = .ok (.iload_n 1, 1) := by decide +kernel
theorem dX11_think_66 : decode cX11_think 66 = .ok (.if_icmp .ge 24, 3) := by decide +kernel
theorem dX11_think_69 : decode cX11_think 69 = .ok (.aload_n 0, 1) := by decide +kernel
theorem dX11_think_70 : decode cX11_think 70 = .ok (.getfield 59, 3) := by decide +kernel
theorem dX11_think_73 : decode cX11_think 73 = .ok (.aload_n 0, 1) := by decide +kernel
theorem dX11_think_74 : decode cX11_think 74 = .ok (.getfield 10, 3) := by decide +kernel
theorem dX11_think_77 : decode cX11_think 77 = .ok (.getfield 95, 3) := by decide +kernel
theorem dX11_think_80 : decode cX11_think 80 = .ok (.invokevirtual 232, 3) := by decide +kernel
theorem dX11_think_83 : decode cX11_think 83 = .ok (.pop, 1) := by decide +kernel
theorem dX11_think_84 : decode cX11_think 84 = .ok (.iinc 2 1, 3) := by decide +kernel
theorem dX11_think_87 : decode cX11_think 87 = .ok (.goto (-23), 3) := by decide +kernel
theorem dX11_think_90 : decode cX11_think 90 = .ok (.return_, 1) := by decide +kernel
theorem dX11_wrong_0 : decode cX11_wrong 0 = .ok (.iload_n 1, 1) := by decide +kernel
theorem dX11_wrong_1 : decode cX11_wrong 1 = .ok (.iconst 3, 1) := by decide +kernel
theorem dX11_wrong_2 : decode cX11_wrong 2 = .ok (.invokestatic 88, 3) := by decide +kernel
theorem dX11_wrong_5 : decode cX11_wrong 5 = .ok (.ifCond .ne 6, 3) := by decide +kernel
theorem dX11_wrong_8 : decode cX11_wrong 8 = .ok (.bipush (-3), 2) := by decide +kernel
theorem dX11_wrong_10 : decode cX11_wrong 10 = .ok (.ireturn, 1) := by decide +kernel
theorem dX11_wrong_11 : decode cX11_wrong 11 = .ok (.aload_n 0, 1) := by decide +kernel
theorem dX11_wrong_12 : decode cX11_wrong 12 = .ok (.getfield 25, 3) := by decide +kernel
theorem dX11_wrong_15 : decode cX11_wrong 15 = .ok (.invokevirtual 131, 3) := by decide +kernel
theorem dX11_wrong_18 : decode cX11_wrong 18 = .ok (.iconst (-1), 1) := by decide +kernel
theorem dX11_wrong_19 : decode cX11_wrong 19 = .ok (.if_icmp .eq 6, 3) := by decide +kernel
theorem dX11_wrong_22 : decode cX11_wrong 22 = .ok (.bipush (-4), 2) := by decide +kernel
theorem dX11_wrong_24 : decode cX11_wrong 24 = .ok (.ireturn, 1) := by decide +kernel
theorem dX11_wrong_25 : decode cX11_wrong 25 = .ok (.aload_n 0, 1) := by decide +kernel
theorem dX11_wrong_26 : decode cX11_wrong 26 = .ok (.getfield 66, 3) := by decide +kernel
theorem dX11_wrong_29 : decode cX11_wrong 29 = .ok (.aload_n 0, 1) := by decide +kernel
theorem dX11_wrong_30 : decode cX11_wrong 30 = .ok (.getfield 10, 3) := by decide +kernel
theorem dX11_wrong_33 : decode cX11_wrong 33 = .ok (.aload_n 0, 1) := by decide +kernel
theorem dX11_wrong_34 : decode cX11_wrong 34 = .ok (.getfield 25, 3) := by decide +kernel
theorem dX11_wrong_37 : decode cX11_wrong 37 = .ok (.getfield 134, 3) := by decide +kernel
theorem dX11_wrong_40 : decode cX11_wrong 40 = .ok (.invokevirtual 241, 3) := by decide +kernel
theorem dX11_wrong_43 : decode cX11_wrong 43 = .ok (.iload_n 1, 1) := by decide +kernel
theorem dX11_wrong_44 : decode cX11_wrong 44 = .ok (.iconst 2, 1) := by decide +kernel
theorem dX11_wrong_45 : decode cX11_wrong 45 = .ok (.if_icmp .ne 11, 3) := by decide +kernel
theorem dX11_wrong_48 : decode cX11_wrong 48 = .ok (.aload_n 0, 1) := by decide +kernel
theorem dX11_wrong_49 : decode cX11_wrong 49 = .ok (.getfield 66, 3) := by decide +kernel
theorem dX11_wrong_52 : decode cX11_wrong 52 = .ok (.getfield 245, 3) := by decide +kernel
theorem dX11_wrong_55 : decode cX11_wrong 55 = .ok (.ireturn, 1) := by decide +kernel
theorem dX11_wrong_56 : decode cX11_wrong 56 = .ok (.aload_n 0, 1) := by decide +kernel
theorem dX11_wrong_57 : decode cX11_wrong 57 = .ok (.getfield 66, 3) := by decide +kernel
theorem dX11_wrong_60 : decode cX11_wrong 60 = .ok (.getfield 245, 3) := by decide +kernel
theorem dX11_wrong_63 : decode cX11_wrong 63 = .ok (.ifCond .ne 5, 3) := by decide +kernel
theorem dX11_wrong_66 : decode cX11_wrong 66 = .ok (.iconst (-1), 1) := by decide +kernel
theorem dX11_wrong_67 : decode cX11_wrong 67 = .ok (.ireturn, 1) := by decide +kernel
theorem dX11_wrong_68 : decode cX11_wrong 68 = .ok (.iload_n 1, 1) := by decide +kernel
theorem dX11_wrong_69 : decode cX11_wrong 69 = .ok (.ifCond .ne 13, 3) := by decide +kernel
theorem dX11_wrong_72 : decode cX11_wrong 72 = .ok (.aload_n 0, 1) := by decide +kernel
theorem dX11_wrong_73 : decode cX11_wrong 73 = .ok (.getfield 66, 3) := by decide +kernel
theorem dX11_wrong_76 : decode cX11_wrong 76 = .ok (.getfield 248, 3) := by decide +kernel
theorem dX11_wrong_79 : decode cX11_wrong 79 = .ok (.goto 18, 3) := by decide +kernel
theorem dX11_wrong_82 : decode cX11_wrong 82 = .ok (.aload_n 0, 1) := by decide +kernel
theorem dX11_wrong_83 : decode cX11_wrong 83 = .ok (.getfield 66, 3) := by decide +kernel
theorem dX11_wrong_86 : decode cX11_wrong 86 = .ok (.getfield 251, 3) := by decide +kernel
theorem dX11_wrong_89 : decode cX11_wrong 89 = .ok (.aload_n 0, 1) := by decide +kernel
theorem dX11_wrong_90 : decode cX11_wrong 90 = .ok (.getfield 66, 3) := by decide +kernel
theorem dX11_wrong_93 : decode cX11_wrong 93 = .ok (.getfield 248, 3) := by decide +kernel
theorem dX11_wrong_96 : decode cX11_wrong 96 = .ok (.iaload, 1) := by decide +kernel
theorem dX11_wrong_97 : decode cX11_wrong 97 = .ok (.ireturn, 1) := by decide +kernel
theorem dX11_name_0 : decode cX11_name 0 = .ok (.aload_n 0, 1) := by decide +kernel
theorem dX11_name_1 : decode cX11_name 1 = .ok (.getfield 10, 3) := by decide +kernel
theorem dX11_name_4 : decode cX11_name 4 = .ok (.iload_n 1, 1) := by decide +kernel
theorem dX11_name_5 : decode cX11_name 5 = .ok (.invokevirtual 106, 3) := by decide +kernel
theorem dX11_name_8 : decode cX11_name 8 = .ok (.ifCond .ne 6, 3) := by decide +kernel
theorem dX11_name_11 : decode cX11_name 11 = .ok (.bipush (-2), 2) := by decide +kernel
theorem dX11_name_13 : decode cX11_name 13 = .ok (.ireturn, 1) := by decide +kernel
theorem dX11_name_14 : decode cX11_name 14 = .ok (.aload_n 0, 1) := by decide +kernel
theorem dX11_name_15 : decode cX11_name 15 = .ok (.getfield 73, 3) := by decide +kernel
theorem dX11_name_18 : decode cX11_name 18 = .ok (.getfield 254, 3) := by decide +kernel
theorem dX11_name_21 : decode cX11_name 21 = .ok (.bipush 12, 2) := by decide +kernel
theorem dX11_name_23 : decode cX11_name 23 = .ok (.if_icmp .ge 14, 3) := by decide +kernel
theorem dX11_name_26 : decode cX11_name 26 = .ok (.aload_n 0, 1) := by decide +kernel
theorem dX11_name_27 : decode cX11_name 27 = .ok (.getfield 73, 3) := by decide +kernel
theorem dX11_name_30 : decode cX11_name 30 = .ok (.iload_n 1, 1) := by decide +kernel
theorem dX11_name_31 : decode cX11_name 31 = .ok (.invokevirtual 255, 3) := by decide +kernel
theorem dX11_name_34 : decode cX11_name 34 = .ok (.goto 5, 3) := by decide +kernel
theorem dX11_name_37 : decode cX11_name 37 = .ok (.bipush (-5), 2) := by decide +kernel
theorem dX11_name_39 : decode cX11_name 39 = .ok (.ireturn, 1) := by decide +kernel
theorem dX11_hush_0 : decode cX11_hush 0 = .ok (.aload_n 0, 1) := by decide +kernel
theorem dX11_hush_1 : decode cX11_hush 1 = .ok (.getfield 73, 3) := by decide +kernel
theorem dX11_hush_4 : decode cX11_hush 4 = .ok (.getfield 254, 3) := by decide +kernel
theorem dX11_hush_7 : decode cX11_hush 7 = .ok (.istore_n 1, 1) := by decide +kernel
theorem dX11_hush_8 : decode cX11_hush 8 = .ok (.aload_n 0, 1) := by decide +kernel
theorem dX11_hush_9 : decode cX11_hush 9 = .ok (.getfield 73, 3) := by decide +kernel
theorem dX11_hush_12 : decode cX11_hush 12 = .ok (.iconst 0, 1) := by decide +kernel
theorem dX11_hush_13 : decode cX11_hush 13 = .ok (.putfield 254, 3) := by decide +kernel
theorem dX11_hush_16 : decode cX11_hush 16 = .ok (.iload_n 1, 1) := by decide +kernel
theorem dX11_hush_17 : decode cX11_hush 17 = .ok (.ireturn, 1) := by decide +kernel
theorem dX11_talk_0 : decode cX11_talk 0 = .ok (.iload_n 1, 1) := by decide +kernel
theorem dX11_talk_1 : decode cX11_talk 1 = .ok (.invokestatic 163, 3) := by decide +kernel
theorem dX11_talk_4 : decode cX11_talk 4 = .ok (.ifCond .eq 18, 3) := by decide +kernel
theorem dX11_talk_7 : decode cX11_talk 7 = .ok (.aload_n 0, 1) := by decide +kernel
theorem dX11_talk_8 : decode cX11_talk 8 = .ok (.getfield 73, 3) := by decide +kernel
theorem dX11_talk_11 : decode cX11_talk 11 = .ok (.aload_n 0, 1) := by decide +kernel
theorem dX11_talk_12 : decode cX11_talk 12 = .ok (.iload_n 1, 1) := by decide +kernel
theorem dX11_talk_13 : decode cX11_talk 13 = .ok (.invokevirtual 166, 3) := by decide +kernel
theorem dX11_talk_16 : decode cX11_talk 16 = .ok (.invokevirtual 257, 3) := by decide +kernel
theorem dX11_talk_19 : decode cX11_talk 19 = .ok (.goto 5, 3) := by decide +kernel
theorem dX11_talk_22 : decode cX11_talk 22 = .ok (.bipush (-3), 2) := by decide +kernel
theorem dX11_talk_24 : decode cX11_talk 24 = .ok (.ireturn, 1) := by decide +kernel
theorem dX11_worth_0 : decode cX11_worth 0 = .ok (.iload_n 1, 1) := by decide +kernel
theorem dX11_worth_1 : decode cX11_worth 1 = .ok (.invokestatic 163, 3) := by decide +kernel
theorem dX11_worth_4 : decode cX11_worth 4 = .ok (.ifCond .eq 11, 3) := by decide +kernel
theorem dX11_worth_7 : decode cX11_worth 7 = .ok (.iload_n 2, 1) := by decide +kernel
theorem dX11_worth_8 : decode cX11_worth 8 = .ok (.iconst 3, 1) := by decide +kernel
theorem dX11_worth_9 : decode cX11_worth 9 = .ok (.invokestatic 88, 3) := by decide +kernel
theorem dX11_worth_12 : decode cX11_worth 12 = .ok (.ifCond .ne 6, 3) := by decide +kernel
theorem dX11_worth_15 : decode cX11_worth 15 = .ok (.bipush (-3), 2) := by decide +kernel
theorem dX11_worth_17 : decode cX11_worth 17 = .ok (.ireturn, 1) := by decide +kernel
theorem dX11_worth_18 : decode cX11_worth 18 = .ok (.iload_n 2, 1) := by decide +kernel
theorem dX11_worth_19 : decode cX11_worth 19 = .ok (.ifCond .ne 19, 3) := by decide +kernel
theorem dX11_worth_22 : decode cX11_worth 22 = .ok (.aload_n 0, 1) := by decide +kernel
theorem dX11_worth_23 : decode cX11_worth 23 = .ok (.iload_n 1, 1) := by decide +kernel
theorem dX11_worth_24 : decode cX11_worth 24 = .ok (.invokevirtual 166, 3) := by decide +kernel
theorem dX11_worth_27 : decode cX11_worth 27 = .ok (.aload_n 0, 1) := by decide +kernel
theorem dX11_worth_28 : decode cX11_worth 28 = .ok (.getfield 10, 3) := by decide +kernel
theorem dX11_worth_31 : decode cX11_worth 31 = .ok (.getfield 95, 3) := by decide +kernel
theorem dX11_worth_34 : decode cX11_worth 34 = .ok (.invokevirtual 260, 3) := by decide +kernel
theorem dX11_worth_37 : decode cX11_worth 37 = .ok (.ireturn, 1) := by decide +kernel
theorem dX11_worth_38 : decode cX11_worth 38 = .ok (.aload_n 0, 1) := by decide +kernel
theorem dX11_worth_39 : decode cX11_worth 39 = .ok (.getfield 45, 3) := by decide +kernel
theorem dX11_worth_42 : decode cX11_worth 42 = .ok (.getfield 263, 3) := by decide +kernel
theorem dX11_worth_45 : decode cX11_worth 45 = .ok (.aload_n 0, 1) := by decide +kernel
theorem dX11_worth_46 : decode cX11_worth 46 = .ok (.getfield 99, 3) := by decide +kernel
theorem dX11_worth_49 : decode cX11_worth 49 = .ok (.if_icmp .ne 14, 3) := by decide +kernel
theorem dX11_worth_52 : decode cX11_worth 52 = .ok (.aload_n 0, 1) := by decide +kernel
theorem dX11_worth_53 : decode cX11_worth 53 = .ok (.getfield 45, 3) := by decide +kernel
theorem dX11_worth_56 : decode cX11_worth 56 = .ok (.getfield 264, 3) := by decide +kernel
theorem dX11_worth_59 : decode cX11_worth 59 = .ok (.iload_n 1, 1) := by decide +kernel
theorem dX11_worth_60 : decode cX11_worth 60 = .ok (.if_icmp .eq 30, 3) := by decide +kernel
theorem dX11_worth_63 : decode cX11_worth 63 = .ok (.aload_n 0, 1) := by decide +kernel
theorem dX11_worth_64 : decode cX11_worth 64 = .ok (.getfield 45, 3) := by decide +kernel
theorem dX11_worth_67 : decode cX11_worth 67 = .ok (.aload_n 0, 1) := by decide +kernel
theorem dX11_worth_68 : decode cX11_worth 68 = .ok (.getfield 10, 3) := by decide +kernel
theorem dX11_worth_71 : decode cX11_worth 71 = .ok (.aload_n 0, 1) := by decide +kernel
theorem dX11_worth_72 : decode cX11_worth 72 = .ok (.getfield 18, 3) := by decide +kernel
theorem dX11_worth_75 : decode cX11_worth 75 = .ok (.iload_n 1, 1) := by decide +kernel
theorem dX11_worth_76 : decode cX11_worth 76 = .ok (.invokevirtual 265, 3) := by decide +kernel
theorem dX11_worth_79 : decode cX11_worth 79 = .ok (.aload_n 0, 1) := by decide +kernel
theorem dX11_worth_80 : decode cX11_worth 80 = .ok (.getfield 45, 3) := by decide +kernel
theorem dX11_worth_83 : decode cX11_worth 83 = .ok (.aload_n 0, 1) := by decide +kernel
theorem dX11_worth_84 : decode cX11_worth 84 = .ok (.getfield 99, 3) := by decide +kernel
theorem dX11_worth_87 : decode cX11_worth 87 = .ok (.putfield 263, 3) := by decide +kernel
theorem dX11_worth_90 : decode cX11_worth 90 = .ok (.iload_n 2, 1) := by decide +kernel
theorem dX11_worth_91 : decode cX11_worth 91 = .ok (.iconst 1, 1) := by decide +kernel
theorem dX11_worth_92 : decode cX11_worth 92 = .ok (.if_icmp .ne 13, 3) := by decide +kernel
theorem dX11_worth_95 : decode cX11_worth 95 = .ok (.aload_n 0, 1) := by decide +kernel
theorem dX11_worth_96 : decode cX11_worth 96 = .ok (.getfield 45, 3) := by decide +kernel
theorem dX11_worth_99 : decode cX11_worth 99 = .ok (.getfield 268, 3) := by decide +kernel
theorem dX11_worth_102 : decode cX11_worth 102 = .ok (.goto 10, 3) := by decide +kernel
theorem dX11_worth_105 : decode cX11_worth 105 = .ok (.aload_n 0, 1) := by decide +kernel
theorem dX11_worth_106 : decode cX11_worth 106 = .ok (.getfield 45, 3) := by decide +kernel
theorem dX11_worth_109 : decode cX11_worth 109 = .ok (.getfield 271, 3) := by decide +kernel
theorem dX11_worth_112 : decode cX11_worth 112 = .ok (.ireturn, 1) := by decide +kernel
theorem dX11_count_0 : decode cX11_count 0 = .ok (.iload_n 1, 1) := by decide +kernel
theorem dX11_count_1 : decode cX11_count 1 = .ok (.tableswitch 72 0 4 #[35, 43, 51, 59, 64], 35) := by decide +kernel
theorem dX11_count_36 : decode cX11_count 36 = .ok (.aload_n 0, 1) := by decide +kernel
theorem dX11_count_37 : decode cX11_count 37 = .ok (.getfield 10, 3) := by decide +kernel
theorem dX11_count_40 : decode cX11_count 40 = .ok (.getfield 95, 3) := by decide +kernel
theorem dX11_count_43 : decode cX11_count 43 = .ok (.ireturn, 1) := by decide +kernel
theorem dX11_count_44 : decode cX11_count 44 = .ok (.aload_n 0, 1) := by decide +kernel
theorem dX11_count_45 : decode cX11_count 45 = .ok (.getfield 10, 3) := by decide +kernel
theorem dX11_count_48 : decode cX11_count 48 = .ok (.getfield 274, 3) := by decide +kernel
theorem dX11_count_51 : decode cX11_count 51 = .ok (.ireturn, 1) := by decide +kernel
theorem dX11_count_52 : decode cX11_count 52 = .ok (.aload_n 0, 1) := by decide +kernel
theorem dX11_count_53 : decode cX11_count 53 = .ok (.getfield 25, 3) := by decide +kernel
theorem dX11_count_56 : decode cX11_count 56 = .ok (.getfield 277, 3) := by decide +kernel
theorem dX11_count_59 : decode cX11_count 59 = .ok (.ireturn, 1) := by decide +kernel
theorem dX11_count_60 : decode cX11_count 60 = .ok (.aload_n 0, 1) := by decide +kernel
theorem dX11_count_61 : decode cX11_count 61 = .ok (.getfield 142, 3) := by decide +kernel
theorem dX11_count_64 : decode cX11_count 64 = .ok (.ireturn, 1) := by decide +kernel
theorem dX11_count_65 : decode cX11_count 65 = .ok (.aload_n 0, 1) := by decide +kernel
theorem dX11_count_66 : decode cX11_count 66 = .ok (.getfield 73, 3) := by decide +kernel
theorem dX11_count_69 : decode cX11_count 69 = .ok (.getfield 254, 3) := by decide +kernel
theorem dX11_count_72 : decode cX11_count 72 = .ok (.ireturn, 1) := by decide +kernel
theorem dX11_count_73 : decode cX11_count 73 = .ok (.bipush (-3), 2) := by decide +kernel
theorem dX11_count_75 : decode cX11_count 75 = .ok (.ireturn, 1) := by decide +kernel
theorem dX11_isWithin_0 : decode cX11_isWithin 0 = .ok (.iload_n 0, 1) := by decide +kernel
theorem dX11_isWithin_1 : decode cX11_isWithin 1 = .ok (.ifCond .lt 12, 3) := by decide +kernel
theorem dX11_isWithin_4 : decode cX11_isWithin 4 = .ok (.iload_n 0, 1) := by decide +kernel
theorem dX11_isWithin_5 : decode cX11_isWithin 5 = .ok (.iload_n 1, 1) := by decide +kernel
theorem dX11_isWithin_6 : decode cX11_isWithin 6 = .ok (.if_icmp .ge 7, 3) := by decide +kernel
theorem dX11_isWithin_9 : decode cX11_isWithin 9 = .ok (.iconst 1, 1) := by decide +kernel
theorem dX11_isWithin_10 : decode cX11_isWithin 10 = .ok (.goto 4, 3) := by decide +kernel
theorem dX11_isWithin_13 : decode cX11_isWithin 13 = .ok (.iconst 0, 1) := by decide +kernel
theorem dX11_isWithin_14 : decode cX11_isWithin 14 = .ok (.ireturn, 1) := by decide +kernel
theorem dX12_init_0 : decode cX12_init 0 = .ok (.aload_n 0, 1) := by decide +kernel
theorem dX12_init_1 : decode cX12_init 1 = .ok (.invokespecial 1, 3) := by decide +kernel
theorem dX12_init_4 : decode cX12_init 4 = .ok (.aload_n 0, 1) := by decide +kernel
theorem dX12_init_5 : decode cX12_init 5 = .ok (.bipush 8, 2) := by decide +kernel
theorem dX12_init_7 : decode cX12_init 7 = .ok (.newarray .int, 2) := by decide +kernel
theorem dX12_init_9 : decode cX12_init 9 = .ok (.putfield 7, 3) := by decide +kernel
theorem dX12_init_12 : decode cX12_init 12 = .ok (.aload_n 0, 1) := by decide +kernel
theorem dX12_init_13 : decode cX12_init 13 = .ok (.bipush 8, 2) := by decide +kernel
theorem dX12_init_15 : decode cX12_init 15 = .ok (.newarray .int, 2) := by decide +kernel
theorem dX12_init_17 : decode cX12_init 17 = .ok (.putfield 13, 3) := by decide +kernel
theorem dX12_init_20 : decode cX12_init 20 = .ok (.aload_n 0, 1) := by decide +kernel
theorem dX12_init_21 : decode cX12_init 21 = .ok (.bipush 8, 2) := by decide +kernel
theorem dX12_init_23 : decode cX12_init 23 = .ok (.newarray .int, 2) := by decide +kernel
theorem dX12_init_25 : decode cX12_init 25 = .ok (.putfield 16, 3) := by decide +kernel
theorem dX12_init_28 : decode cX12_init 28 = .ok (.aload_n 0, 1) := by decide +kernel
theorem dX12_init_29 : decode cX12_init 29 = .ok (.bipush 8, 2) := by decide +kernel
theorem dX12_init_31 : decode cX12_init 31 = .ok (.newarray .int, 2) := by decide +kernel
theorem dX12_init_33 : decode cX12_init 33 = .ok (.putfield 19, 3) := by decide +kernel
theorem dX12_init_36 : decode cX12_init 36 = .ok (.aload_n 0, 1) := by decide +kernel
theorem dX12_init_37 : decode cX12_init 37 = .ok (.bipush 8, 2) := by decide +kernel
theorem dX12_init_39 : decode cX12_init 39 = .ok (.newarray .int, 2) := by decide +kernel
theorem dX12_init_41 : decode cX12_init 41 = .ok (.putfield 22, 3) := by decide +kernel
theorem dX12_init_44 : decode cX12_init 44 = .ok (.aload_n 0, 1) := by decide +kernel
theorem dX12_init_45 : decode cX12_init 45 = .ok (.bipush 8, 2) := by decide +kernel
theorem dX12_init_47 : decode cX12_init 47 = .ok (.newarray .int, 2) := by decide +kernel
theorem dX12_init_49 : decode cX12_init 49 = .ok (.putfield 25, 3) := by decide +kernel
theorem dX12_init_52 : decode cX12_init 52 = .ok (.aload_n 0, 1) := by decide +kernel
theorem dX12_init_53 : decode cX12_init 53 = .ok (.bipush 15, 2) := by decide +kernel
theorem dX12_init_55 : decode cX12_init 55 = .ok (.newarray .int, 2) := by decide +kernel
theorem dX12_init_57 : decode cX12_init 57 = .ok (.putfield 28, 3) := by decide +kernel
theorem dX12_init_60 : decode cX12_init 60 = .ok (.aload_n 0, 1) := by decide +kernel
theorem dX12_init_61 : decode cX12_init 61 = .ok (.sipush 160, 3) := by decide +kernel
theorem dX12_init_64 : decode cX12_init 64 = .ok (.newarray .int, 2) := by decide +kernel
theorem dX12_init_66 : decode cX12_init 66 = .ok (.putfield 31, 3) := by decide +kernel
theorem dX12_init_69 : decode cX12_init 69 = .ok (.aload_n 0, 1) := by decide +kernel
theorem dX12_init_70 : decode cX12_init 70 = .ok (.bipush 24, 2) := by decide +kernel
theorem dX12_init_72 : decode cX12_init 72 = .ok (.newarray .int, 2) := by decide +kernel
theorem dX12_init_74 : decode cX12_init 74 = .ok (.putfield 34, 3) := by decide +kernel
theorem dX12_init_77 : decode cX12_init 77 = .ok (.aload_n 0, 1) := by decide +kernel
theorem dX12_init_78 : decode cX12_init 78 = .ok (.bipush 24, 2) := by decide +kernel
theorem dX12_init_80 : decode cX12_init 80 = .ok (.newarray .int, 2) := by decide +kernel
theorem dX12_init_82 : decode cX12_init 82 = .ok (.putfield 37, 3) := by decide +kernel
theorem dX12_init_85 : decode cX12_init 85 = .ok (.aload_n 0, 1) := by decide +kernel
theorem dX12_init_86 : decode cX12_init 86 = .ok (.bipush 26, 2) := by decide +kernel
theorem dX12_init_88 : decode cX12_init 88 = .ok (.newarray .int, 2) := by decide +kernel
theorem dX12_init_90 : decode cX12_init 90 = .ok (.putfield 40, 3) := by decide +kernel
theorem dX12_init_93 : decode cX12_init 93 = .ok (.aload_n 0, 1) := by decide +kernel
theorem dX12_init_94 : decode cX12_init 94 = .ok (.bipush 8, 2) := by decide +kernel
theorem dX12_init_96 : decode cX12_init 96 = .ok (.newarray .int, 2) := by decide +kernel
theorem dX12_init_98 : decode cX12_init 98 = .ok (.putfield 43, 3) := by decide +kernel
theorem dX12_init_101 : decode cX12_init 101 = .ok (.aload_n 0, 1) := by decide +kernel
theorem dX12_init_102 : decode cX12_init 102 = .ok (.sipush 192, 3) := by decide +kernel
theorem dX12_init_105 : decode cX12_init 105 = .ok (.newarray .int, 2) := by decide +kernel
theorem dX12_init_107 : decode cX12_init 107 = .ok (.putfield 46, 3) := by decide +kernel
theorem dX12_init_110 : decode cX12_init 110 = .ok (.aload_n 0, 1) := by decide +kernel
theorem dX12_init_111 : decode cX12_init 111 = .ok (.sipush 192, 3) := by decide +kernel
theorem dX12_init_114 : decode cX12_init 114 = .ok (.newarray .int, 2) := by decide +kernel
theorem dX12_init_116 : decode cX12_init 116 = .ok (.putfield 49, 3) := by decide +kernel
theorem dX12_init_119 : decode cX12_init 119 = .ok (.aload_n 0, 1) := by decide +kernel
theorem dX12_init_120 : decode cX12_init 120 = .ok (.sipush 256, 3) := by decide +kernel
theorem dX12_init_123 : decode cX12_init 123 = .ok (.newarray .int, 2) := by decide +kernel
theorem dX12_init_125 : decode cX12_init 125 = .ok (.putfield 52, 3) := by decide +kernel
theorem dX12_init_128 : decode cX12_init 128 = .ok (.aload_n 0, 1) := by decide +kernel
theorem dX12_init_129 : decode cX12_init 129 = .ok (.sipush 256, 3) := by decide +kernel
theorem dX12_init_132 : decode cX12_init 132 = .ok (.newarray .int, 2) := by decide +kernel
theorem dX12_init_134 : decode cX12_init 134 = .ok (.putfield 55, 3) := by decide +kernel
theorem dX12_init_137 : decode cX12_init 137 = .ok (.aload_n 0, 1) := by decide +kernel
theorem dX12_init_138 : decode cX12_init 138 = .ok (.sipush 256, 3) := by decide +kernel
theorem dX12_init_141 : decode cX12_init 141 = .ok (.newarray .int, 2) := by decide +kernel
theorem dX12_init_143 : decode cX12_init 143 = .ok (.putfield 58, 3) := by decide +kernel
theorem dX12_init_146 : decode cX12_init 146 = .ok (.aload_n 0, 1) := by decide +kernel
theorem dX12_init_147 : decode cX12_init 147 = .ok (.sipush 256, 3) := by decide +kernel
theorem dX12_init_150 : decode cX12_init 150 = .ok (.newarray .int, 2) := by decide +kernel
theorem dX12_init_152 : decode cX12_init 152 = .ok (.putfield 61, 3) := by decide +kernel
theorem dX12_init_155 : decode cX12_init 155 = .ok (.aload_n 0, 1) := by decide +kernel
theorem dX12_init_156 : decode cX12_init 156 = .ok (.sipush 256, 3) := by decide +kernel
theorem dX12_init_159 : decode cX12_init 159 = .ok (.newarray .int, 2) := by decide +kernel
theorem dX12_init_161 : decode cX12_init 161 = .ok (.putfield 64, 3) := by decide +kernel
theorem dX12_init_164 : decode cX12_init 164 = .ok (.aload_n 0, 1) := by decide +kernel
theorem dX12_init_165 : decode cX12_init 165 = .ok (.sipush 256, 3) := by decide +kernel
theorem dX12_init_168 : decode cX12_init 168 = .ok (.newarray .int, 2) := by decide +kernel
theorem dX12_init_170 : decode cX12_init 170 = .ok (.putfield 67, 3) := by decide +kernel
theorem dX12_init_173 : decode cX12_init 173 = .ok (.aload_n 0, 1) := by decide +kernel
theorem dX12_init_174 : decode cX12_init 174 = .ok (.sipush 256, 3) := by decide +kernel
theorem dX12_init_177 : decode cX12_init 177 = .ok (.newarray .boolean, 2) := by decide +kernel
theorem dX12_init_179 : decode cX12_init 179 = .ok (.putfield 70, 3) := by decide +kernel
theorem dX12_init_182 : decode cX12_init 182 = .ok (.aload_n 0, 1) := by decide +kernel
theorem dX12_init_183 : decode cX12_init 183 = .ok (.bipush 8, 2) := by decide +kernel
theorem dX12_init_185 : decode cX12_init 185 = .ok (.newarray .int, 2) := by decide +kernel
theorem dX12_init_187 : decode cX12_init 187 = .ok (.putfield 74, 3) := by decide +kernel
theorem dX12_init_190 : decode cX12_init 190 = .ok (.aload_n 0, 1) := by decide +kernel
theorem dX12_init_191 : decode cX12_init 191 = .ok (.bipush 8, 2) := by decide +kernel
theorem dX12_init_193 : decode cX12_init 193 = .ok (.newarray .int, 2) := by decide +kernel
theorem dX12_init_195 : decode cX12_init 195 = .ok (.putfield 77, 3) := by decide +kernel
theorem dX12_init_198 : decode cX12_init 198 = .ok (.aload_n 0, 1) := by decide +kernel
theorem dX12_init_199 : decode cX12_init 199 = .ok (.bipush 8, 2) := by decide +kernel
theorem dX12_init_201 : decode cX12_init 201 = .ok (.newarray .int, 2) := by decide +kernel
theorem dX12_init_203 : decode cX12_init 203 = .ok (.putfield 80, 3) := by decide +kernel
theorem dX12_init_206 : decode cX12_init 206 = .ok (.aload_n 0, 1) := by decide +kernel
theorem dX12_init_207 : decode cX12_init 207 = .ok (.bipush 8, 2) := by decide +kernel
theorem dX12_init_209 : decode cX12_init 209 = .ok (.newarray .int, 2) := by decide +kernel
theorem dX12_init_211 : decode cX12_init 211 = .ok (.putfield 83, 3) := by decide +kernel
theorem dX12_init_214 : decode cX12_init 214 = .ok (.aload_n 0, 1) := by decide +kernel
theorem dX12_init_215 : decode cX12_init 215 = .ok (.bipush 8, 2) := by decide +kernel
theorem dX12_init_217 : decode cX12_init 217 = .ok (.newarray .int, 2) := by decide +kernel
theorem dX12_init_219 : decode cX12_init 219 = .ok (.putfield 86, 3) := by decide +kernel
theorem dX12_init_222 : decode cX12_init 222 = .ok (.aload_n 0, 1) := by decide +kernel
theorem dX12_init_223 : decode cX12_init 223 = .ok (.bipush 8, 2) := by decide +kernel
theorem dX12_init_225 : decode cX12_init 225 = .ok (.newarray .int, 2) := by decide +kernel
theorem dX12_init_227 : decode cX12_init 227 = .ok (.putfield 89, 3) := by decide +kernel
theorem dX12_init_230 : decode cX12_init 230 = .ok (.aload_n 0, 1) := by decide +kernel
theorem dX12_init_231 : decode cX12_init 231 = .ok (.sipush 256, 3) := by decide +kernel
theorem dX12_init_234 : decode cX12_init 234 = .ok (.newarray .int, 2) := by decide +kernel
theorem dX12_init_236 : decode cX12_init 236 = .ok (.putfield 92, 3) := by decide +kernel
theorem dX12_init_239 : decode cX12_init 239 = .ok (.aload_n 0, 1) := by decide +kernel
theorem dX12_init_240 : decode cX12_init 240 = .ok (.bipush 12, 2) := by decide +kernel
theorem dX12_init_242 : decode cX12_init 242 = .ok (.newarray .int, 2) := by decide +kernel
theorem dX12_init_244 : decode cX12_init 244 = .ok (.putfield 95, 3) := by decide +kernel
theorem dX12_init_247 : decode cX12_init 247 = .ok (.iconst 0, 1) := by decide +kernel
theorem dX12_init_248 : decode cX12_init 248 = .ok (.istore_n 1, 1) := by decide +kernel
theorem dX12_init_249 : decode cX12_init 249 = .ok (.iload_n 1, 1) := by decide +kernel
theorem dX12_init_250 : decode cX12_init 250 = .ok (.bipush 15, 2) := by decide +kernel
theorem dX12_init_252 : decode cX12_init 252 = .ok (.if_icmp .ge 16, 3) := by decide +kernel
theorem dX12_init_255 : decode cX12_init 255 = .ok (.aload_n 0, 1) := by decide +kernel
theorem dX12_init_256 : decode cX12_init 256 = .ok (.getfield 28, 3) := by decide +kernel
theorem dX12_init_259 : decode cX12_init 259 = .ok (.iload_n 1, 1) := by decide +kernel
theorem dX12_init_260 : decode cX12_init 260 = .ok (.iconst 1, 1) := by decide +kernel
theorem dX12_init_261 : decode cX12_init 261 = .ok (.iastore, 1) := by decide +kernel
theorem dX12_init_262 : decode cX12_init 262 = .ok (.iinc 1 1, 3) := by decide +kernel
theorem dX12_init_265 : decode cX12_init 265 = .ok (.goto (-16), 3) := by decide +kernel
theorem dX12_init_268 : decode cX12_init 268 = .ok (.return_, 1) := by decide +kernel
theorem dX12_in_0 : decode cX12_in 0 = .ok (.iload_n 0, 1) := by decide +kernel
theorem dX12_in_1 : decode cX12_in 1 = .ok (.iload_n 1, 1) := by decide +kernel
theorem dX12_in_2 : decode cX12_in 2 = .ok (.if_icmp .lt 12, 3) := by decide +kernel
theorem dX12_in_5 : decode cX12_in 5 = .ok (.iload_n 0, 1) := by decide +kernel
theorem dX12_in_6 : decode cX12_in 6 = .ok (.iload_n 2, 1) := by decide +kernel
theorem dX12_in_7 : decode cX12_in 7 = .ok (.if_icmp .gt 7, 3) := by decide +kernel
theorem dX12_in_10 : decode cX12_in 10 = .ok (.iconst 1, 1) := by decide +kernel
theorem dX12_in_11 : decode cX12_in 11 = .ok (.goto 4, 3) := by decide +kernel
theorem dX12_in_14 : decode cX12_in 14 = .ok (.iconst 0, 1) := by decide +kernel
theorem dX12_in_15 : decode cX12_in 15 = .ok (.ireturn, 1) := by decide +kernel
theorem dX12_isThing_0 : decode cX12_isThing 0 = .ok (.iload_n 1, 1) := by decide +kernel
theorem dX12_isThing_1 : decode cX12_isThing 1 = .ok (.iconst 0, 1) := by decide +kernel
theorem dX12_isThing_2 : decode cX12_isThing 2 = .ok (.aload_n 0, 1) := by decide +kernel
theorem dX12_isThing_3 : decode cX12_isThing 3 = .ok (.getfield 98, 3) := by decide +kernel
theorem dX12_isThing_6 : decode cX12_isThing 6 = .ok (.iconst 1, 1) := by decide +kernel
theorem dX12_isThing_7 : decode cX12_isThing 7 = .ok (.isub, 1) := by decide +kernel
theorem dX12_isThing_8 : decode cX12_isThing 8 = .ok (.invokestatic 102, 3) := by decide +kernel
theorem dX12_isThing_11 : decode cX12_isThing 11 = .ok (.ireturn, 1) := by decide +kernel
theorem dX12_bits_0 : decode cX12_bits 0 = .ok (.iconst 0, 1) := by decide +kernel
theorem dX12_bits_1 : decode cX12_bits 1 = .ok (.istore_n 1, 1) := by decide +kernel
theorem dX12_bits_2 : decode cX12_bits 2 = .ok (.iconst 0, 1) := by decide +kernel
theorem dX12_bits_3 : decode cX12_bits 3 = .ok (.istore_n 2, 1) := by decide +kernel
theorem dX12_bits_4 : decode cX12_bits 4 = .ok (.iload_n 2, 1) := by decide +kernel
theorem dX12_bits_5 : decode cX12_bits 5 = .ok (.bipush 8, 2) := by decide +kernel
theorem dX12_bits_7 : decode cX12_bits 7 = .ok (.if_icmp .ge 17, 3) := by decide +kernel
theorem dX12_bits_10 : decode cX12_bits 10 = .ok (.iload_n 1, 1) := by decide +kernel
theorem dX12_bits_11 : decode cX12_bits 11 = .ok (.iload_n 0, 1) := by decide +kernel
theorem dX12_bits_12 : decode cX12_bits 12 = .ok (.iload_n 2, 1) := by decide +kernel
theorem dX12_bits_13 : decode cX12_bits 13 = .ok (.ishr, 1) := by decide +kernel
theorem dX12_bits_14 : decode cX12_bits 14 = .ok (.iconst 1, 1) := by decide +kernel
theorem dX12_bits_15 : decode cX12_bits 15 = .ok (.iand, 1) := by decide +kernel
theorem dX12_bits_16 : decode cX12_bits 16 = .ok (.iadd, 1) := by decide +kernel
theorem dX12_bits_17 : decode cX12_bits 17 = .ok (.istore_n 1, 1) := by decide +kernel
theorem dX12_bits_18 : decode cX12_bits 18 = .ok (.iinc 2 1, 3) := by decide +kernel
theorem dX12_bits_21 : decode cX12_bits 21 = .ok (.goto (-17), 3) := by decide +kernel
theorem dX12_bits_24 : decode cX12_bits 24 = .ok (.iload_n 1, 1) := by decide +kernel
theorem dX12_bits_25 : decode cX12_bits 25 = .ok (.ireturn, 1) := by decide +kernel
theorem dX12_every_0 : decode cX12_every 0 = .ok (.iconst 1, 1) := by decide +kernel
theorem dX12_every_1 : decode cX12_every 1 = .ok (.aload_n 0, 1) := by decide +kernel
theorem dX12_every_2 : decode cX12_every 2 = .ok (.getfield 98, 3) := by decide +kernel
theorem dX12_every_5 : decode cX12_every 5 = .ok (.ishl, 1) := by decide +kernel
theorem dX12_every_6 : decode cX12_every 6 = .ok (.iconst 1, 1) := by decide +kernel
theorem dX12_every_7 : decode cX12_every 7 = .ok (.isub, 1) := by decide +kernel
theorem dX12_every_8 : decode cX12_every 8 = .ok (.ireturn, 1) := by decide +kernel
theorem dX12_thing_0 : decode cX12_thing 0 = .ok (.iload_n 1, 1) := by decide +kernel
theorem dX12_thing_1 : decode cX12_thing 1 = .ok (.iconst 0, 1) := by decide +kernel
theorem dX12_thing_2 : decode cX12_thing 2 = .ok (.iconst 3, 1) := by decide +kernel
theorem dX12_thing_3 : decode cX12_thing 3 = .ok (.invokestatic 102, 3) := by decide +kernel
theorem dX12_thing_6 : decode cX12_thing 6 = .ok (.ifCond .eq 33, 3) := by decide +kernel
theorem dX12_thing_9 : decode cX12_thing 9 = .ok (.iload_n 2, 1) := by decide +kernel
theorem dX12_thing_10 : decode cX12_thing 10 = .ok (.iconst 0, 1) := by decide +kernel
theorem dX12_thing_11 : decode cX12_thing 11 = .ok (.iconst 3, 1) := by decide +kernel
theorem dX12_thing_12 : decode cX12_thing 12 = .ok (.invokestatic 102, 3) := by decide +kernel
theorem dX12_thing_15 : decode cX12_thing 15 = .ok (.ifCond .eq 24, 3) := by decide +kernel
theorem dX12_thing_18 : decode cX12_thing 18 = .ok (.iload_n 3, 1) := by decide +kernel
theorem dX12_thing_19 : decode cX12_thing 19 = .ok (.iconst 1, 1) := by decide +kernel
theorem dX12_thing_20 : decode cX12_thing 20 = .ok (.bipush 9, 2) := by decide +kernel
theorem dX12_thing_22 : decode cX12_thing 22 = .ok (.invokestatic 102, 3) := by decide +kernel
theorem dX12_thing_25 : decode cX12_thing 25 = .ok (.ifCond .eq 14, 3) := by decide +kernel
theorem dX12_thing_28 : decode cX12_thing 28 = .ok (.iload 4, 2) := by decide +kernel
theorem dX12_thing_30 : decode cX12_thing 30 = .ok (.iconst 0, 1) := by decide +kernel
theorem dX12_thing_31 : decode cX12_thing 31 = .ok (.bipush 15, 2) := by decide +kernel
theorem dX12_thing_33 : decode cX12_thing 33 = .ok (.invokestatic 102, 3) := by decide +kernel
theorem dX12_thing_36 : decode cX12_thing 36 = .ok (.ifCond .ne 6, 3) := by decide +kernel
theorem dX12_thing_39 : decode cX12_thing 39 = .ok (.bipush (-3), 2) := by decide +kernel
theorem dX12_thing_41 : decode cX12_thing 41 = .ok (.ireturn, 1) := by decide +kernel
theorem dX12_thing_42 : decode cX12_thing 42 = .ok (.iconst 0, 1) := by decide +kernel
theorem dX12_thing_43 : decode cX12_thing 43 = .ok (.istore 5, 2) := by decide +kernel
theorem dX12_thing_45 : decode cX12_thing 45 = .ok (.iload 5, 2) := by decide +kernel
theorem dX12_thing_47 : decode cX12_thing 47 = .ok (.aload_n 0, 1) := by decide +kernel
theorem dX12_thing_48 : decode cX12_thing 48 = .ok (.getfield 98, 3) := by decide +kernel
theorem dX12_thing_51 : decode cX12_thing 51 = .ok (.if_icmp .ge 24, 3) := by decide +kernel
theorem dX12_thing_54 : decode cX12_thing 54 = .ok (.aload_n 0, 1) := by decide +kernel
theorem dX12_thing_55 : decode cX12_thing 55 = .ok (.getfield 22, 3) := by decide +kernel
theorem dX12_thing_58 : decode cX12_thing 58 = .ok (.iload 5, 2) := by decide +kernel
theorem dX12_thing_60 : decode cX12_thing 60 = .ok (.iaload, 1) := by decide +kernel
theorem dX12_thing_61 : decode cX12_thing 61 = .ok (.iload 4, 2) := by decide +kernel
theorem dX12_thing_63 : decode cX12_thing 63 = .ok (.if_icmp .ne 6, 3) := by decide +kernel
theorem dX12_thing_66 : decode cX12_thing 66 = .ok (.bipush (-4), 2) := by decide +kernel
theorem dX12_thing_68 : decode cX12_thing 68 = .ok (.ireturn, 1) := by decide +kernel
theorem dX12_thing_69 : decode cX12_thing 69 = .ok (.iinc 5 1, 3) := by decide +kernel
theorem dX12_thing_72 : decode cX12_thing 72 = .ok (.goto (-27), 3) := by decide +kernel
theorem dX12_thing_75 : decode cX12_thing 75 = .ok (.aload_n 0, 1) := by decide +kernel
theorem dX12_thing_76 : decode cX12_thing 76 = .ok (.getfield 98, 3) := by decide +kernel
theorem dX12_thing_79 : decode cX12_thing 79 = .ok (.bipush 8, 2) := by decide +kernel
theorem dX12_thing_81 : decode cX12_thing 81 = .ok (.if_icmp .ne 6, 3) := by decide +kernel
theorem dX12_thing_84 : decode cX12_thing 84 = .ok (.bipush (-5), 2) := by decide +kernel
theorem dX12_thing_86 : decode cX12_thing 86 = .ok (.ireturn, 1) := by decide +kernel
theorem dX12_thing_87 : decode cX12_thing 87 = .ok (.aload_n 0, 1) := by decide +kernel
theorem dX12_thing_88 : decode cX12_thing 88 = .ok (.getfield 7, 3) := by decide +kernel
theorem dX12_thing_91 : decode cX12_thing 91 = .ok (.aload_n 0, 1) := by decide +kernel
theorem dX12_thing_92 : decode cX12_thing 92 = .ok (.getfield 98, 3) := by decide +kernel
theorem dX12_thing_95 : decode cX12_thing 95 = .ok (.iload_n 1, 1) := by decide +kernel
theorem dX12_thing_96 : decode cX12_thing 96 = .ok (.iastore, 1) := by decide +kernel
theorem dX12_thing_97 : decode cX12_thing 97 = .ok (.aload_n 0, 1) := by decide +kernel
theorem dX12_thing_98 : decode cX12_thing 98 = .ok (.getfield 13, 3) := by decide +kernel
theorem dX12_thing_101 : decode cX12_thing 101 = .ok (.aload_n 0, 1) := by decide +kernel
theorem dX12_thing_102 : decode cX12_thing 102 = .ok (.getfield 98, 3) := by decide +kernel
theorem dX12_thing_105 : decode cX12_thing 105 = .ok (.iload_n 2, 1) := by decide +kernel
theorem dX12_thing_106 : decode cX12_thing 106 = .ok (.iastore, 1) := by decide +kernel
theorem dX12_thing_107 : decode cX12_thing 107 = .ok (.aload_n 0, 1) := by decide +kernel
theorem dX12_thing_108 : decode cX12_thing 108 = .ok (.getfield 16, 3) := by decide +kernel
theorem dX12_thing_111 : decode cX12_thing 111 = .ok (.aload_n 0, 1) := by decide +kernel
theorem dX12_thing_112 : decode cX12_thing 112 = .ok (.getfield 98, 3) := by decide +kernel
theorem dX12_thing_115 : decode cX12_thing 115 = .ok (.iload_n 3, 1) := by decide +kernel
theorem dX12_thing_116 : decode cX12_thing 116 = .ok (.iastore, 1) := by decide +kernel
theorem dX12_thing_117 : decode cX12_thing 117 = .ok (.aload_n 0, 1) := by decide +kernel
theorem dX12_thing_118 : decode cX12_thing 118 = .ok (.getfield 22, 3) := by decide +kernel
theorem dX12_thing_121 : decode cX12_thing 121 = .ok (.aload_n 0, 1) := by decide +kernel
theorem dX12_thing_122 : decode cX12_thing 122 = .ok (.getfield 98, 3) := by decide +kernel
theorem dX12_thing_125 : decode cX12_thing 125 = .ok (.iload 4, 2) := by decide +kernel
theorem dX12_thing_127 : decode cX12_thing 127 = .ok (.iastore, 1) := by decide +kernel
theorem dX12_thing_128 : decode cX12_thing 128 = .ok (.aload_n 0, 1) := by decide +kernel
theorem dX12_thing_129 : decode cX12_thing 129 = .ok (.dup, 1) := by decide +kernel
theorem dX12_thing_130 : decode cX12_thing 130 = .ok (.getfield 98, 3) := by decide +kernel
theorem dX12_thing_133 : decode cX12_thing 133 = .ok (.iconst 1, 1) := by decide +kernel
theorem dX12_thing_134 : decode cX12_thing 134 = .ok (.iadd, 1) := by decide +kernel
theorem dX12_thing_135 : decode cX12_thing 135 = .ok (.putfield 98, 3) := by decide +kernel
theorem dX12_thing_138 : decode cX12_thing 138 = .ok (.aload_n 0, 1) := by decide +kernel
theorem dX12_thing_139 : decode cX12_thing 139 = .ok (.getfield 98, 3) := by decide +kernel
theorem dX12_thing_142 : decode cX12_thing 142 = .ok (.iconst 1, 1) := by decide +kernel
theorem dX12_thing_143 : decode cX12_thing 143 = .ok (.isub, 1) := by decide +kernel
theorem dX12_thing_144 : decode cX12_thing 144 = .ok (.ireturn, 1) := by decide +kernel
theorem dX12_paint_0 : decode cX12_paint 0 = .ok (.aload_n 0, 1) := by decide +kernel
theorem dX12_paint_1 : decode cX12_paint 1 = .ok (.iload_n 1, 1) := by decide +kernel
theorem dX12_paint_2 : decode cX12_paint 2 = .ok (.invokevirtual 106, 3) := by decide +kernel
theorem dX12_paint_5 : decode cX12_paint 5 = .ok (.ifCond .ne 6, 3) := by decide +kernel
theorem dX12_paint_8 : decode cX12_paint 8 = .ok (.bipush (-2), 2) := by decide +kernel
theorem dX12_paint_10 : decode cX12_paint 10 = .ok (.ireturn, 1) := by decide +kernel
theorem dX12_paint_11 : decode cX12_paint 11 = .ok (.iload_n 2, 1) := by decide +kernel
theorem dX12_paint_12 : decode cX12_paint 12 = .ok (.iconst 0, 1) := by decide +kernel
theorem dX12_paint_13 : decode cX12_paint 13 = .ok (.iconst 3, 1) := by decide +kernel
theorem dX12_paint_14 : decode cX12_paint 14 = .ok (.invokestatic 102, 3) := by decide +kernel
theorem dX12_paint_17 : decode cX12_paint 17 = .ok (.ifCond .eq 41, 3) := by decide +kernel
theorem dX12_paint_20 : decode cX12_paint 20 = .ok (.iload_n 3, 1) := by decide +kernel
theorem dX12_paint_21 : decode cX12_paint 21 = .ok (.iload_n 2, 1) := by decide +kernel
theorem dX12_paint_22 : decode cX12_paint 22 = .ok (.iconst 2, 1) := by decide +kernel
theorem dX12_paint_23 : decode cX12_paint 23 = .ok (.if_icmp .ne 7, 3) := by decide +kernel
theorem dX12_paint_26 : decode cX12_paint 26 = .ok (.iconst 1, 1) := by decide +kernel
theorem dX12_paint_27 : decode cX12_paint 27 = .ok (.goto 4, 3) := by decide +kernel
theorem dX12_paint_30 : decode cX12_paint 30 = .ok (.iconst 0, 1) := by decide +kernel
theorem dX12_paint_31 : decode cX12_paint 31 = .ok (.iload_n 2, 1) := by decide +kernel
theorem dX12_paint_32 : decode cX12_paint 32 = .ok (.iconst 2, 1) := by decide +kernel
theorem dX12_paint_33 : decode cX12_paint 33 = .ok (.if_icmp .ge 7, 3) := by decide +kernel
theorem dX12_paint_36 : decode cX12_paint 36 = .ok (.iconst 3, 1) := by decide +kernel
theorem dX12_paint_37 : decode cX12_paint 37 = .ok (.goto 15, 3) := by decide +kernel
theorem dX12_paint_40 : decode cX12_paint 40 = .ok (.iload_n 2, 1) := by decide +kernel
theorem dX12_paint_41 : decode cX12_paint 41 = .ok (.iconst 2, 1) := by decide +kernel
theorem dX12_paint_42 : decode cX12_paint 42 = .ok (.if_icmp .ne 8, 3) := by decide +kernel
theorem dX12_paint_45 : decode cX12_paint 45 = .ok (.bipush 9, 2) := by decide +kernel
theorem dX12_paint_47 : decode cX12_paint 47 = .ok (.goto 5, 3) := by decide +kernel
theorem dX12_paint_50 : decode cX12_paint 50 = .ok (.bipush 7, 2) := by decide +kernel
theorem dX12_paint_52 : decode cX12_paint 52 = .ok (.invokestatic 102, 3) := by decide +kernel
theorem dX12_paint_55 : decode cX12_paint 55 = .ok (.ifCond .ne 6, 3) := by decide +kernel
theorem dX12_paint_58 : decode cX12_paint 58 = .ok (.bipush (-3), 2) := by decide +kernel
theorem dX12_paint_60 : decode cX12_paint 60 = .ok (.ireturn, 1) := by decide +kernel
theorem dX12_paint_61 : decode cX12_paint 61 = .ok (.iload_n 2, 1) := by decide +kernel
theorem dX12_paint_62 : decode cX12_paint 62 = .ok (.ifCond .ne 12, 3) := by decide +kernel
theorem dX12_paint_65 : decode cX12_paint 65 = .ok (.aload_n 0, 1) := by decide +kernel
theorem dX12_paint_66 : decode cX12_paint 66 = .ok (.getfield 7, 3) := by decide +kernel
theorem dX12_paint_69 : decode cX12_paint 69 = .ok (.iload_n 1, 1) := by decide +kernel
theorem dX12_paint_70 : decode cX12_paint 70 = .ok (.iaload, 1) := by decide +kernel
theorem dX12_paint_71 : decode cX12_paint 71 = .ok (.goto 37, 3) := by decide +kernel
theorem dX12_paint_74 : decode cX12_paint 74 = .ok (.iload_n 2, 1) := by decide +kernel
theorem dX12_paint_75 : decode cX12_paint 75 = .ok (.iconst 1, 1) := by decide +kernel
theorem dX12_paint_76 : decode cX12_paint 76 = .ok (.if_icmp .ne 12, 3) := by decide +kernel
theorem dX12_paint_79 : decode cX12_paint 79 = .ok (.aload_n 0, 1) := by decide +kernel
theorem dX12_paint_80 : decode cX12_paint 80 = .ok (.getfield 13, 3) := by decide +kernel
theorem dX12_paint_83 : decode cX12_paint 83 = .ok (.iload_n 1, 1) := by decide +kernel
theorem dX12_paint_84 : decode cX12_paint 84 = .ok (.iaload, 1) := by decide +kernel
theorem dX12_paint_85 : decode cX12_paint 85 = .ok (.goto 23, 3) := by decide +kernel
theorem dX12_paint_88 : decode cX12_paint 88 = .ok (.iload_n 2, 1) := by decide +kernel
theorem dX12_paint_89 : decode cX12_paint 89 = .ok (.iconst 2, 1) := by decide +kernel
theorem dX12_paint_90 : decode cX12_paint 90 = .ok (.if_icmp .ne 12, 3) := by decide +kernel
theorem dX12_paint_93 : decode cX12_paint 93 = .ok (.aload_n 0, 1) := by decide +kernel
theorem dX12_paint_94 : decode cX12_paint 94 = .ok (.getfield 16, 3) := by decide +kernel
theorem dX12_paint_97 : decode cX12_paint 97 = .ok (.iload_n 1, 1) := by decide +kernel
theorem dX12_paint_98 : decode cX12_paint 98 = .ok (.iaload, 1) := by decide +kernel
theorem dX12_paint_99 : decode cX12_paint 99 = .ok (.goto 9, 3) := by decide +kernel
theorem dX12_paint_102 : decode cX12_paint 102 = .ok (.aload_n 0, 1) := by decide +kernel
theorem dX12_paint_103 : decode cX12_paint 103 = .ok (.getfield 19, 3) := by decide +kernel
theorem dX12_paint_106 : decode cX12_paint 106 = .ok (.iload_n 1, 1) := by decide +kernel
theorem dX12_paint_107 : decode cX12_paint 107 = .ok (.iaload, 1) := by decide +kernel
theorem dX12_paint_108 : decode cX12_paint 108 = .ok (.istore 4, 2) := by decide +kernel
theorem dX12_paint_110 : decode cX12_paint 110 = .ok (.aload_n 0, 1) := by decide +kernel
theorem dX12_paint_111 : decode cX12_paint 111 = .ok (.getfield 7, 3) := by decide +kernel
theorem dX12_paint_114 : decode cX12_paint 114 = .ok (.iload_n 1, 1) := by decide +kernel
theorem dX12_paint_115 : decode cX12_paint 115 = .ok (.iload_n 2, 1) := by decide +kernel
theorem dX12_paint_116 : decode cX12_paint 116 = .ok (.ifCond .ne 7, 3) := by decide +kernel
theorem dX12_paint_119 : decode cX12_paint 119 = .ok (.iload_n 3, 1) := by decide +kernel
theorem dX12_paint_120 : decode cX12_paint 120 = .ok (.goto 9, 3) := by decide +kernel
theorem dX12_paint_123 : decode cX12_paint 123 = .ok (.aload_n 0, 1) := by decide +kernel
theorem dX12_paint_124 : decode cX12_paint 124 = .ok (.getfield 7, 3) := by decide +kernel
theorem dX12_paint_127 : decode cX12_paint 127 = .ok (.iload_n 1, 1) := by decide +kernel
theorem dX12_paint_128 : decode cX12_paint 128 = .ok (.iaload, 1) := by decide +kernel
theorem dX12_paint_129 : decode cX12_paint 129 = .ok (.iastore, 1) := by decide +kernel
theorem dX12_paint_130 : decode cX12_paint 130 = .ok (.aload_n 0, 1) := by decide +kernel
theorem dX12_paint_131 : decode cX12_paint 131 = .ok (.getfield 13, 3) := by decide +kernel
theorem dX12_paint_134 : decode cX12_paint 134 = .ok (.iload_n 1, 1) := by decide +kernel
theorem dX12_paint_135 : decode cX12_paint 135 = .ok (.iload_n 2, 1) := by decide +kernel
theorem dX12_paint_136 : decode cX12_paint 136 = .ok (.iconst 1, 1) := by decide +kernel
theorem dX12_paint_137 : decode cX12_paint 137 = .ok (.if_icmp .ne 7, 3) := by decide +kernel
theorem dX12_paint_140 : decode cX12_paint 140 = .ok (.iload_n 3, 1) := by decide +kernel
theorem dX12_paint_141 : decode cX12_paint 141 = .ok (.goto 9, 3) := by decide +kernel
theorem dX12_paint_144 : decode cX12_paint 144 = .ok (.aload_n 0, 1) := by decide +kernel
theorem dX12_paint_145 : decode cX12_paint 145 = .ok (.getfield 13, 3) := by decide +kernel
theorem dX12_paint_148 : decode cX12_paint 148 = .ok (.iload_n 1, 1) := by decide +kernel
theorem dX12_paint_149 : decode cX12_paint 149 = .ok (.iaload, 1) := by decide +kernel
theorem dX12_paint_150 : decode cX12_paint 150 = .ok (.iastore, 1) := by decide +kernel
theorem dX12_paint_151 : decode cX12_paint 151 = .ok (.aload_n 0, 1) := by decide +kernel
theorem dX12_paint_152 : decode cX12_paint 152 = .ok (.getfield 16, 3) := by decide +kernel
theorem dX12_paint_155 : decode cX12_paint 155 = .ok (.iload_n 1, 1) := by decide +kernel
theorem dX12_paint_156 : decode cX12_paint 156 = .ok (.iload_n 2, 1) := by decide +kernel
theorem dX12_paint_157 : decode cX12_paint 157 = .ok (.iconst 2, 1) := by decide +kernel
theorem dX12_paint_158 : decode cX12_paint 158 = .ok (.if_icmp .ne 7, 3) := by decide +kernel
theorem dX12_paint_161 : decode cX12_paint 161 = .ok (.iload_n 3, 1) := by decide +kernel
theorem dX12_paint_162 : decode cX12_paint 162 = .ok (.goto 9, 3) := by decide +kernel
theorem dX12_paint_165 : decode cX12_paint 165 = .ok (.aload_n 0, 1) := by decide +kernel
theorem dX12_paint_166 : decode cX12_paint 166 = .ok (.getfield 16, 3) := by decide +kernel
theorem dX12_paint_169 : decode cX12_paint 169 = .ok (.iload_n 1, 1) := by decide +kernel
theorem dX12_paint_170 : decode cX12_paint 170 = .ok (.iaload, 1) := by decide +kernel
theorem dX12_paint_171 : decode cX12_paint 171 = .ok (.iastore, 1) := by decide +kernel
theorem dX12_paint_172 : decode cX12_paint 172 = .ok (.aload_n 0, 1) := by decide +kernel
theorem dX12_paint_173 : decode cX12_paint 173 = .ok (.getfield 19, 3) := by decide +kernel
theorem dX12_paint_176 : decode cX12_paint 176 = .ok (.iload_n 1, 1) := by decide +kernel
theorem dX12_paint_177 : decode cX12_paint 177 = .ok (.iload_n 2, 1) := by decide +kernel
theorem dX12_paint_178 : decode cX12_paint 178 = .ok (.iconst 3, 1) := by decide +kernel
theorem dX12_paint_179 : decode cX12_paint 179 = .ok (.if_icmp .ne 7, 3) := by decide +kernel
theorem dX12_paint_182 : decode cX12_paint 182 = .ok (.iload_n 3, 1) := by decide +kernel
theorem dX12_paint_183 : decode cX12_paint 183 = .ok (.goto 9, 3) := by decide +kernel
theorem dX12_paint_186 : decode cX12_paint 186 = .ok (.aload_n 0, 1) := by decide +kernel
theorem dX12_paint_187 : decode cX12_paint 187 = .ok (.getfield 19, 3) := by decide +kernel
theorem dX12_paint_190 : decode cX12_paint 190 = .ok (.iload_n 1, 1) := by decide +kernel
theorem dX12_paint_191 : decode cX12_paint 191 = .ok (.iaload, 1) := by decide +kernel
theorem dX12_paint_192 : decode cX12_paint 192 = .ok (.iastore, 1) := by decide +kernel
theorem dX12_paint_193 : decode cX12_paint 193 = .ok (.iload 4, 2) := by decide +kernel
theorem dX12_paint_195 : decode cX12_paint 195 = .ok (.ireturn, 1) := by decide +kernel
theorem dX12_tieMany_0 : decode cX12_tieMany 0 = .ok (.iconst 0, 1) := by decide +kernel
theorem dX12_tieMany_1 : decode cX12_tieMany 1 = .ok (.istore_n 1, 1) := by decide +kernel
theorem dX12_tieMany_2 : decode cX12_tieMany 2 = .ok (.iconst 0, 1) := by decide +kernel
theorem dX12_tieMany_3 : decode cX12_tieMany 3 = .ok (.istore_n 2, 1) := by decide +kernel
theorem dX12_tieMany_4 : decode cX12_tieMany 4 = .ok (.iload_n 2, 1) := by decide +kernel
theorem dX12_tieMany_5 : decode cX12_tieMany 5 = .ok (.aload_n 0, 1) := by decide +kernel
theorem dX12_tieMany_6 : decode cX12_tieMany 6 = .ok (.getfield 98, 3) := by decide +kernel
theorem dX12_tieMany_9 : decode cX12_tieMany 9 = .ok (.if_icmp .ge 21, 3) := by decide +kernel
theorem dX12_tieMany_12 : decode cX12_tieMany 12 = .ok (.iload_n 1, 1) := by decide +kernel
theorem dX12_tieMany_13 : decode cX12_tieMany 13 = .ok (.aload_n 0, 1) := by decide +kernel
