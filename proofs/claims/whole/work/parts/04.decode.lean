theorem dX12_tieMany_14 : decode cX12_tieMany 14 = .ok (.getfield 25, 3) := by decide +kernel
theorem dX12_tieMany_17 : decode cX12_tieMany 17 = .ok (.iload_n 2, 1) := by decide +kernel
theorem dX12_tieMany_18 : decode cX12_tieMany 18 = .ok (.iaload, 1) := by decide +kernel
theorem dX12_tieMany_19 : decode cX12_tieMany 19 = .ok (.invokestatic 110, 3) := by decide +kernel
theorem dX12_tieMany_22 : decode cX12_tieMany 22 = .ok (.iadd, 1) := by decide +kernel
theorem dX12_tieMany_23 : decode cX12_tieMany 23 = .ok (.istore_n 1, 1) := by decide +kernel
theorem dX12_tieMany_24 : decode cX12_tieMany 24 = .ok (.iinc 2 1, 3) := by decide +kernel
theorem dX12_tieMany_27 : decode cX12_tieMany 27 = .ok (.goto (-23), 3) := by decide +kernel
theorem dX12_tieMany_30 : decode cX12_tieMany 30 = .ok (.iload_n 1, 1) := by decide +kernel
theorem dX12_tieMany_31 : decode cX12_tieMany 31 = .ok (.ireturn, 1) := by decide +kernel
theorem dX12_tie_0 : decode cX12_tie 0 = .ok (.aload_n 0, 1) := by decide +kernel
theorem dX12_tie_1 : decode cX12_tie 1 = .ok (.iload_n 1, 1) := by decide +kernel
theorem dX12_tie_2 : decode cX12_tie 2 = .ok (.invokevirtual 106, 3) := by decide +kernel
theorem dX12_tie_5 : decode cX12_tie 5 = .ok (.ifCond .eq 16, 3) := by decide +kernel
theorem dX12_tie_8 : decode cX12_tie 8 = .ok (.aload_n 0, 1) := by decide +kernel
theorem dX12_tie_9 : decode cX12_tie 9 = .ok (.iload_n 2, 1) := by decide +kernel
theorem dX12_tie_10 : decode cX12_tie 10 = .ok (.invokevirtual 106, 3) := by decide +kernel
theorem dX12_tie_13 : decode cX12_tie 13 = .ok (.ifCond .eq 8, 3) := by decide +kernel
theorem dX12_tie_16 : decode cX12_tie 16 = .ok (.iload_n 1, 1) := by decide +kernel
theorem dX12_tie_17 : decode cX12_tie 17 = .ok (.iload_n 2, 1) := by decide +kernel
theorem dX12_tie_18 : decode cX12_tie 18 = .ok (.if_icmp .ne 6, 3) := by decide +kernel
theorem dX12_tie_21 : decode cX12_tie 21 = .ok (.bipush (-2), 2) := by decide +kernel
theorem dX12_tie_23 : decode cX12_tie 23 = .ok (.ireturn, 1) := by decide +kernel
theorem dX12_tie_24 : decode cX12_tie 24 = .ok (.aload_n 0, 1) := by decide +kernel
theorem dX12_tie_25 : decode cX12_tie 25 = .ok (.getfield 25, 3) := by decide +kernel
theorem dX12_tie_28 : decode cX12_tie 28 = .ok (.iload_n 1, 1) := by decide +kernel
theorem dX12_tie_29 : decode cX12_tie 29 = .ok (.iaload, 1) := by decide +kernel
theorem dX12_tie_30 : decode cX12_tie 30 = .ok (.iload_n 2, 1) := by decide +kernel
theorem dX12_tie_31 : decode cX12_tie 31 = .ok (.ishr, 1) := by decide +kernel
theorem dX12_tie_32 : decode cX12_tie 32 = .ok (.iconst 1, 1) := by decide +kernel
theorem dX12_tie_33 : decode cX12_tie 33 = .ok (.iand, 1) := by decide +kernel
theorem dX12_tie_34 : decode cX12_tie 34 = .ok (.iconst 1, 1) := by decide +kernel
theorem dX12_tie_35 : decode cX12_tie 35 = .ok (.if_icmp .ne 6, 3) := by decide +kernel
theorem dX12_tie_38 : decode cX12_tie 38 = .ok (.bipush (-4), 2) := by decide +kernel
theorem dX12_tie_40 : decode cX12_tie 40 = .ok (.ireturn, 1) := by decide +kernel
theorem dX12_tie_41 : decode cX12_tie 41 = .ok (.aload_n 0, 1) := by decide +kernel
theorem dX12_tie_42 : decode cX12_tie 42 = .ok (.getfield 25, 3) := by decide +kernel
theorem dX12_tie_45 : decode cX12_tie 45 = .ok (.iload_n 1, 1) := by decide +kernel
theorem dX12_tie_46 : decode cX12_tie 46 = .ok (.aload_n 0, 1) := by decide +kernel
theorem dX12_tie_47 : decode cX12_tie 47 = .ok (.getfield 25, 3) := by decide +kernel
theorem dX12_tie_50 : decode cX12_tie 50 = .ok (.iload_n 1, 1) := by decide +kernel
theorem dX12_tie_51 : decode cX12_tie 51 = .ok (.iaload, 1) := by decide +kernel
theorem dX12_tie_52 : decode cX12_tie 52 = .ok (.iconst 1, 1) := by decide +kernel
theorem dX12_tie_53 : decode cX12_tie 53 = .ok (.iload_n 2, 1) := by decide +kernel
theorem dX12_tie_54 : decode cX12_tie 54 = .ok (.ishl, 1) := by decide +kernel
theorem dX12_tie_55 : decode cX12_tie 55 = .ok (.ior, 1) := by decide +kernel
theorem dX12_tie_56 : decode cX12_tie 56 = .ok (.iastore, 1) := by decide +kernel
theorem dX12_tie_57 : decode cX12_tie 57 = .ok (.aload_n 0, 1) := by decide +kernel
theorem dX12_tie_58 : decode cX12_tie 58 = .ok (.invokevirtual 114, 3) := by decide +kernel
theorem dX12_tie_61 : decode cX12_tie 61 = .ok (.ireturn, 1) := by decide +kernel
theorem dX12_besides_0 : decode cX12_besides 0 = .ok (.iconst 0, 1) := by decide +kernel
theorem dX12_besides_1 : decode cX12_besides 1 = .ok (.istore_n 2, 1) := by decide +kernel
theorem dX12_besides_2 : decode cX12_besides 2 = .ok (.iconst 0, 1) := by decide +kernel
theorem dX12_besides_3 : decode cX12_besides 3 = .ok (.istore_n 3, 1) := by decide +kernel
theorem dX12_besides_4 : decode cX12_besides 4 = .ok (.iload_n 3, 1) := by decide +kernel
theorem dX12_besides_5 : decode cX12_besides 5 = .ok (.aload_n 0, 1) := by decide +kernel
theorem dX12_besides_6 : decode cX12_besides 6 = .ok (.getfield 98, 3) := by decide +kernel
theorem dX12_besides_9 : decode cX12_besides 9 = .ok (.if_icmp .ge 53, 3) := by decide +kernel
theorem dX12_besides_12 : decode cX12_besides 12 = .ok (.iload_n 2, 1) := by decide +kernel
theorem dX12_besides_13 : decode cX12_besides 13 = .ok (.aload_n 0, 1) := by decide +kernel
theorem dX12_besides_14 : decode cX12_besides 14 = .ok (.getfield 22, 3) := by decide +kernel
theorem dX12_besides_17 : decode cX12_besides 17 = .ok (.iload_n 3, 1) := by decide +kernel
theorem dX12_besides_18 : decode cX12_besides 18 = .ok (.iaload, 1) := by decide +kernel
theorem dX12_besides_19 : decode cX12_besides 19 = .ok (.aload_n 0, 1) := by decide +kernel
theorem dX12_besides_20 : decode cX12_besides 20 = .ok (.getfield 22, 3) := by decide +kernel
theorem dX12_besides_23 : decode cX12_besides 23 = .ok (.iload_n 1, 1) := by decide +kernel
theorem dX12_besides_24 : decode cX12_besides 24 = .ok (.iaload, 1) := by decide +kernel
theorem dX12_besides_25 : decode cX12_besides 25 = .ok (.isub, 1) := by decide +kernel
theorem dX12_besides_26 : decode cX12_besides 26 = .ok (.iconst 1, 1) := by decide +kernel
theorem dX12_besides_27 : decode cX12_besides 27 = .ok (.if_icmp .eq 20, 3) := by decide +kernel
theorem dX12_besides_30 : decode cX12_besides 30 = .ok (.aload_n 0, 1) := by decide +kernel
theorem dX12_besides_31 : decode cX12_besides 31 = .ok (.getfield 22, 3) := by decide +kernel
theorem dX12_besides_34 : decode cX12_besides 34 = .ok (.iload_n 1, 1) := by decide +kernel
theorem dX12_besides_35 : decode cX12_besides 35 = .ok (.iaload, 1) := by decide +kernel
theorem dX12_besides_36 : decode cX12_besides 36 = .ok (.aload_n 0, 1) := by decide +kernel
theorem dX12_besides_37 : decode cX12_besides 37 = .ok (.getfield 22, 3) := by decide +kernel
theorem dX12_besides_40 : decode cX12_besides 40 = .ok (.iload_n 3, 1) := by decide +kernel
theorem dX12_besides_41 : decode cX12_besides 41 = .ok (.iaload, 1) := by decide +kernel
theorem dX12_besides_42 : decode cX12_besides 42 = .ok (.isub, 1) := by decide +kernel
theorem dX12_besides_43 : decode cX12_besides 43 = .ok (.iconst 1, 1) := by decide +kernel
theorem dX12_besides_44 : decode cX12_besides 44 = .ok (.if_icmp .ne 9, 3) := by decide +kernel
theorem dX12_besides_47 : decode cX12_besides 47 = .ok (.iconst 1, 1) := by decide +kernel
theorem dX12_besides_48 : decode cX12_besides 48 = .ok (.iload_n 3, 1) := by decide +kernel
theorem dX12_besides_49 : decode cX12_besides 49 = .ok (.ishl, 1) := by decide +kernel
theorem dX12_besides_50 : decode cX12_besides 50 = .ok (.goto 4, 3) := by decide +kernel
theorem dX12_besides_53 : decode cX12_besides 53 = .ok (.iconst 0, 1) := by decide +kernel
theorem dX12_besides_54 : decode cX12_besides 54 = .ok (.ior, 1) := by decide +kernel
theorem dX12_besides_55 : decode cX12_besides 55 = .ok (.istore_n 2, 1) := by decide +kernel
theorem dX12_besides_56 : decode cX12_besides 56 = .ok (.iinc 3 1, 3) := by decide +kernel
theorem dX12_besides_59 : decode cX12_besides 59 = .ok (.goto (-55), 3) := by decide +kernel
theorem dX12_besides_62 : decode cX12_besides 62 = .ok (.iload_n 2, 1) := by decide +kernel
theorem dX12_besides_63 : decode cX12_besides 63 = .ok (.ireturn, 1) := by decide +kernel
theorem dX12_of_0 : decode cX12_of 0 = .ok (.aload_n 0, 1) := by decide +kernel
theorem dX12_of_1 : decode cX12_of 1 = .ok (.iload_n 1, 1) := by decide +kernel
theorem dX12_of_2 : decode cX12_of 2 = .ok (.invokevirtual 106, 3) := by decide +kernel
theorem dX12_of_5 : decode cX12_of 5 = .ok (.ifCond .ne 6, 3) := by decide +kernel
theorem dX12_of_8 : decode cX12_of 8 = .ok (.bipush (-2), 2) := by decide +kernel
theorem dX12_of_10 : decode cX12_of 10 = .ok (.ireturn, 1) := by decide +kernel
theorem dX12_of_11 : decode cX12_of 11 = .ok (.iload_n 2, 1) := by decide +kernel
theorem dX12_of_12 : decode cX12_of 12 = .ok (.tableswitch 92 0 6 #[44, 51, 58, 65, 72, 79, 85], 44) := by decide +kernel
theorem dX12_of_56 : decode cX12_of 56 = .ok (.aload_n 0, 1) := by decide +kernel
theorem dX12_of_57 : decode cX12_of 57 = .ok (.getfield 7, 3) := by decide +kernel
theorem dX12_of_60 : decode cX12_of 60 = .ok (.iload_n 1, 1) := by decide +kernel
theorem dX12_of_61 : decode cX12_of 61 = .ok (.iaload, 1) := by decide +kernel
theorem dX12_of_62 : decode cX12_of 62 = .ok (.ireturn, 1) := by decide +kernel
theorem dX12_of_63 : decode cX12_of 63 = .ok (.aload_n 0, 1) := by decide +kernel
theorem dX12_of_64 : decode cX12_of 64 = .ok (.getfield 13, 3) := by decide +kernel
theorem dX12_of_67 : decode cX12_of 67 = .ok (.iload_n 1, 1) := by decide +kernel
theorem dX12_of_68 : decode cX12_of 68 = .ok (.iaload, 1) := by decide +kernel
theorem dX12_of_69 : decode cX12_of 69 = .ok (.ireturn, 1) := by decide +kernel
theorem dX12_of_70 : decode cX12_of 70 = .ok (.aload_n 0, 1) := by decide +kernel
theorem dX12_of_71 : decode cX12_of 71 = .ok (.getfield 16, 3) := by decide +kernel
theorem dX12_of_74 : decode cX12_of 74 = .ok (.iload_n 1, 1) := by decide +kernel
theorem dX12_of_75 : decode cX12_of 75 = .ok (.iaload, 1) := by decide +kernel
theorem dX12_of_76 : decode cX12_of 76 = .ok (.ireturn, 1) := by decide +kernel
theorem dX12_of_77 : decode cX12_of 77 = .ok (.aload_n 0, 1) := by decide +kernel
theorem dX12_of_78 : decode cX12_of 78 = .ok (.getfield 19, 3) := by decide +kernel
theorem dX12_of_81 : decode cX12_of 81 = .ok (.iload_n 1, 1) := by decide +kernel
theorem dX12_of_82 : decode cX12_of 82 = .ok (.iaload, 1) := by decide +kernel
theorem dX12_of_83 : decode cX12_of 83 = .ok (.ireturn, 1) := by decide +kernel
theorem dX12_of_84 : decode cX12_of 84 = .ok (.aload_n 0, 1) := by decide +kernel
theorem dX12_of_85 : decode cX12_of 85 = .ok (.getfield 22, 3) := by decide +kernel
theorem dX12_of_88 : decode cX12_of 88 = .ok (.iload_n 1, 1) := by decide +kernel
theorem dX12_of_89 : decode cX12_of 89 = .ok (.iaload, 1) := by decide +kernel
theorem dX12_of_90 : decode cX12_of 90 = .ok (.ireturn, 1) := by decide +kernel
theorem dX12_of_91 : decode cX12_of 91 = .ok (.aload_n 0, 1) := by decide +kernel
theorem dX12_of_92 : decode cX12_of 92 = .ok (.iload_n 1, 1) := by decide +kernel
theorem dX12_of_93 : decode cX12_of 93 = .ok (.invokevirtual 118, 3) := by decide +kernel
theorem dX12_of_96 : decode cX12_of 96 = .ok (.ireturn, 1) := by decide +kernel
theorem dX12_of_97 : decode cX12_of 97 = .ok (.aload_n 0, 1) := by decide +kernel
theorem dX12_of_98 : decode cX12_of 98 = .ok (.getfield 25, 3) := by decide +kernel
theorem dX12_of_101 : decode cX12_of 101 = .ok (.iload_n 1, 1) := by decide +kernel
theorem dX12_of_102 : decode cX12_of 102 = .ok (.iaload, 1) := by decide +kernel
theorem dX12_of_103 : decode cX12_of 103 = .ok (.ireturn, 1) := by decide +kernel
theorem dX12_of_104 : decode cX12_of 104 = .ok (.bipush (-3), 2) := by decide +kernel
theorem dX12_of_106 : decode cX12_of 106 = .ok (.ireturn, 1) := by decide +kernel
theorem dX12_price_0 : decode cX12_price 0 = .ok (.iload_n 1, 1) := by decide +kernel
theorem dX12_price_1 : decode cX12_price 1 = .ok (.iconst 0, 1) := by decide +kernel
theorem dX12_price_2 : decode cX12_price 2 = .ok (.bipush 14, 2) := by decide +kernel
theorem dX12_price_4 : decode cX12_price 4 = .ok (.invokestatic 102, 3) := by decide +kernel
theorem dX12_price_7 : decode cX12_price 7 = .ok (.ifCond .eq 13, 3) := by decide +kernel
theorem dX12_price_10 : decode cX12_price 10 = .ok (.iload_n 2, 1) := by decide +kernel
theorem dX12_price_11 : decode cX12_price 11 = .ok (.iconst 1, 1) := by decide +kernel
theorem dX12_price_12 : decode cX12_price 12 = .ok (.bipush 9, 2) := by decide +kernel
theorem dX12_price_14 : decode cX12_price 14 = .ok (.invokestatic 102, 3) := by decide +kernel
theorem dX12_price_17 : decode cX12_price 17 = .ok (.ifCond .ne 6, 3) := by decide +kernel
theorem dX12_price_20 : decode cX12_price 20 = .ok (.bipush (-3), 2) := by decide +kernel
theorem dX12_price_22 : decode cX12_price 22 = .ok (.ireturn, 1) := by decide +kernel
theorem dX12_price_23 : decode cX12_price 23 = .ok (.aload_n 0, 1) := by decide +kernel
theorem dX12_price_24 : decode cX12_price 24 = .ok (.getfield 28, 3) := by decide +kernel
theorem dX12_price_27 : decode cX12_price 27 = .ok (.iload_n 1, 1) := by decide +kernel
theorem dX12_price_28 : decode cX12_price 28 = .ok (.iaload, 1) := by decide +kernel
theorem dX12_price_29 : decode cX12_price 29 = .ok (.istore_n 3, 1) := by decide +kernel
theorem dX12_price_30 : decode cX12_price 30 = .ok (.aload_n 0, 1) := by decide +kernel
theorem dX12_price_31 : decode cX12_price 31 = .ok (.getfield 28, 3) := by decide +kernel
theorem dX12_price_34 : decode cX12_price 34 = .ok (.iload_n 1, 1) := by decide +kernel
theorem dX12_price_35 : decode cX12_price 35 = .ok (.iload_n 2, 1) := by decide +kernel
theorem dX12_price_36 : decode cX12_price 36 = .ok (.iastore, 1) := by decide +kernel
theorem dX12_price_37 : decode cX12_price 37 = .ok (.iload_n 3, 1) := by decide +kernel
theorem dX12_price_38 : decode cX12_price 38 = .ok (.ireturn, 1) := by decide +kernel
theorem dX12_write_0 : decode cX12_write 0 = .ok (.iload_n 3, 1) := by decide +kernel
theorem dX12_write_1 : decode cX12_write 1 = .ok (.iconst 1, 1) := by decide +kernel
theorem dX12_write_2 : decode cX12_write 2 = .ok (.bipush 8, 2) := by decide +kernel
theorem dX12_write_4 : decode cX12_write 4 = .ok (.invokestatic 102, 3) := by decide +kernel
theorem dX12_write_7 : decode cX12_write 7 = .ok (.ifCond .ne 6, 3) := by decide +kernel
theorem dX12_write_10 : decode cX12_write 10 = .ok (.bipush (-3), 2) := by decide +kernel
theorem dX12_write_12 : decode cX12_write 12 = .ok (.ireturn, 1) := by decide +kernel
theorem dX12_write_13 : decode cX12_write 13 = .ok (.aload_n 0, 1) := by decide +kernel
theorem dX12_write_14 : decode cX12_write 14 = .ok (.getfield 121, 3) := by decide +kernel
theorem dX12_write_17 : decode cX12_write 17 = .ok (.iload_n 3, 1) := by decide +kernel
theorem dX12_write_18 : decode cX12_write 18 = .ok (.iadd, 1) := by decide +kernel
theorem dX12_write_19 : decode cX12_write 19 = .ok (.sipush 160, 3) := by decide +kernel
theorem dX12_write_22 : decode cX12_write 22 = .ok (.if_icmp .le 6, 3) := by decide +kernel
theorem dX12_write_25 : decode cX12_write 25 = .ok (.bipush (-5), 2) := by decide +kernel
theorem dX12_write_27 : decode cX12_write 27 = .ok (.ireturn, 1) := by decide +kernel
theorem dX12_write_28 : decode cX12_write 28 = .ok (.iconst 0, 1) := by decide +kernel
theorem dX12_write_29 : decode cX12_write 29 = .ok (.istore 4, 2) := by decide +kernel
theorem dX12_write_31 : decode cX12_write 31 = .ok (.iload 4, 2) := by decide +kernel
theorem dX12_write_33 : decode cX12_write 33 = .ok (.iload_n 3, 1) := by decide +kernel
theorem dX12_write_34 : decode cX12_write 34 = .ok (.if_icmp .ge 33, 3) := by decide +kernel
theorem dX12_write_37 : decode cX12_write 37 = .ok (.aload_n 0, 1) := by decide +kernel
theorem dX12_write_38 : decode cX12_write 38 = .ok (.getfield 31, 3) := by decide +kernel
theorem dX12_write_41 : decode cX12_write 41 = .ok (.aload_n 0, 1) := by decide +kernel
theorem dX12_write_42 : decode cX12_write 42 = .ok (.getfield 121, 3) := by decide +kernel
theorem dX12_write_45 : decode cX12_write 45 = .ok (.iload 4, 2) := by decide +kernel
theorem dX12_write_47 : decode cX12_write 47 = .ok (.iadd, 1) := by decide +kernel
theorem dX12_write_48 : decode cX12_write 48 = .ok (.lload_n 1, 1) := by decide +kernel
theorem dX12_write_49 : decode cX12_write 49 = .ok (.bipush 8, 2) := by decide +kernel
theorem dX12_write_51 : decode cX12_write 51 = .ok (.iload 4, 2) := by decide +kernel
theorem dX12_write_53 : decode cX12_write 53 = .ok (.imul, 1) := by decide +kernel
theorem dX12_write_54 : decode cX12_write 54 = .ok (.lshr, 1) := by decide +kernel
theorem dX12_write_55 : decode cX12_write 55 = .ok (.ldc2_w 124, 3) := by decide +kernel
theorem dX12_write_58 : decode cX12_write 58 = .ok (.land, 1) := by decide +kernel
theorem dX12_write_59 : decode cX12_write 59 = .ok (.l2i, 1) := by decide +kernel
theorem dX12_write_60 : decode cX12_write 60 = .ok (.iastore, 1) := by decide +kernel
theorem dX12_write_61 : decode cX12_write 61 = .ok (.iinc 4 1, 3) := by decide +kernel
theorem dX12_write_64 : decode cX12_write 64 = .ok (.goto (-33), 3) := by decide +kernel
theorem dX12_write_67 : decode cX12_write 67 = .ok (.aload_n 0, 1) := by decide +kernel
theorem dX12_write_68 : decode cX12_write 68 = .ok (.dup, 1) := by decide +kernel
theorem dX12_write_69 : decode cX12_write 69 = .ok (.getfield 121, 3) := by decide +kernel
theorem dX12_write_72 : decode cX12_write 72 = .ok (.iload_n 3, 1) := by decide +kernel
theorem dX12_write_73 : decode cX12_write 73 = .ok (.iadd, 1) := by decide +kernel
theorem dX12_write_74 : decode cX12_write 74 = .ok (.putfield 121, 3) := by decide +kernel
theorem dX12_write_77 : decode cX12_write 77 = .ok (.aload_n 0, 1) := by decide +kernel
theorem dX12_write_78 : decode cX12_write 78 = .ok (.getfield 121, 3) := by decide +kernel
theorem dX12_write_81 : decode cX12_write 81 = .ok (.ireturn, 1) := by decide +kernel
theorem dX12_erase_0 : decode cX12_erase 0 = .ok (.aload_n 0, 1) := by decide +kernel
theorem dX12_erase_1 : decode cX12_erase 1 = .ok (.getfield 121, 3) := by decide +kernel
theorem dX12_erase_4 : decode cX12_erase 4 = .ok (.istore_n 1, 1) := by decide +kernel
theorem dX12_erase_5 : decode cX12_erase 5 = .ok (.aload_n 0, 1) := by decide +kernel
theorem dX12_erase_6 : decode cX12_erase 6 = .ok (.iconst 0, 1) := by decide +kernel
theorem dX12_erase_7 : decode cX12_erase 7 = .ok (.putfield 121, 3) := by decide +kernel
theorem dX12_erase_10 : decode cX12_erase 10 = .ok (.iload_n 1, 1) := by decide +kernel
theorem dX12_erase_11 : decode cX12_erase 11 = .ok (.ireturn, 1) := by decide +kernel
theorem dX12_nextToken_0 : decode cX12_nextToken 0 = .ok (.aload_n 0, 1) := by decide +kernel
theorem dX12_nextToken_1 : decode cX12_nextToken 1 = .ok (.getfield 126, 3) := by decide +kernel
theorem dX12_nextToken_4 : decode cX12_nextToken 4 = .ok (.aload_n 0, 1) := by decide +kernel
theorem dX12_nextToken_5 : decode cX12_nextToken 5 = .ok (.getfield 121, 3) := by decide +kernel
theorem dX12_nextToken_8 : decode cX12_nextToken 8 = .ok (.if_icmp .ge 30, 3) := by decide +kernel
theorem dX12_nextToken_11 : decode cX12_nextToken 11 = .ok (.aload_n 0, 1) := by decide +kernel
theorem dX12_nextToken_12 : decode cX12_nextToken 12 = .ok (.getfield 31, 3) := by decide +kernel
theorem dX12_nextToken_15 : decode cX12_nextToken 15 = .ok (.aload_n 0, 1) := by decide +kernel
theorem dX12_nextToken_16 : decode cX12_nextToken 16 = .ok (.getfield 126, 3) := by decide +kernel
theorem dX12_nextToken_19 : decode cX12_nextToken 19 = .ok (.iaload, 1) := by decide +kernel
theorem dX12_nextToken_20 : decode cX12_nextToken 20 = .ok (.bipush 32, 2) := by decide +kernel
theorem dX12_nextToken_22 : decode cX12_nextToken 22 = .ok (.if_icmp .ne 16, 3) := by decide +kernel
theorem dX12_nextToken_25 : decode cX12_nextToken 25 = .ok (.aload_n 0, 1) := by decide +kernel
theorem dX12_nextToken_26 : decode cX12_nextToken 26 = .ok (.dup, 1) := by decide +kernel
theorem dX12_nextToken_27 : decode cX12_nextToken 27 = .ok (.getfield 126, 3) := by decide +kernel
theorem dX12_nextToken_30 : decode cX12_nextToken 30 = .ok (.iconst 1, 1) := by decide +kernel
theorem dX12_nextToken_31 : decode cX12_nextToken 31 = .ok (.iadd, 1) := by decide +kernel
theorem dX12_nextToken_32 : decode cX12_nextToken 32 = .ok (.putfield 126, 3) := by decide +kernel
theorem dX12_nextToken_35 : decode cX12_nextToken 35 = .ok (.goto (-35), 3) := by decide +kernel
theorem dX12_nextToken_38 : decode cX12_nextToken 38 = .ok (.aload_n 0, 1) := by decide +kernel
theorem dX12_nextToken_39 : decode cX12_nextToken 39 = .ok (.aload_n 0, 1) := by decide +kernel
theorem dX12_nextToken_40 : decode cX12_nextToken 40 = .ok (.getfield 126, 3) := by decide +kernel
theorem dX12_nextToken_43 : decode cX12_nextToken 43 = .ok (.putfield 129, 3) := by decide +kernel
theorem dX12_nextToken_46 : decode cX12_nextToken 46 = .ok (.aload_n 0, 1) := by decide +kernel
theorem dX12_nextToken_47 : decode cX12_nextToken 47 = .ok (.iconst 0, 1) := by decide +kernel
theorem dX12_nextToken_48 : decode cX12_nextToken 48 = .ok (.putfield 132, 3) := by decide +kernel
theorem dX12_nextToken_51 : decode cX12_nextToken 51 = .ok (.aload_n 0, 1) := by decide +kernel
theorem dX12_nextToken_52 : decode cX12_nextToken 52 = .ok (.iconst 0, 1) := by decide +kernel
theorem dX12_nextToken_53 : decode cX12_nextToken 53 = .ok (.putfield 135, 3) := by decide +kernel
theorem dX12_nextToken_56 : decode cX12_nextToken 56 = .ok (.aload_n 0, 1) := by decide +kernel
theorem dX12_nextToken_57 : decode cX12_nextToken 57 = .ok (.getfield 126, 3) := by decide +kernel
theorem dX12_nextToken_60 : decode cX12_nextToken 60 = .ok (.aload_n 0, 1) := by decide +kernel
theorem dX12_nextToken_61 : decode cX12_nextToken 61 = .ok (.getfield 121, 3) := by decide +kernel
theorem dX12_nextToken_64 : decode cX12_nextToken 64 = .ok (.if_icmp .ne 13, 3) := by decide +kernel
theorem dX12_nextToken_67 : decode cX12_nextToken 67 = .ok (.aload_n 0, 1) := by decide +kernel
theorem dX12_nextToken_68 : decode cX12_nextToken 68 = .ok (.ldc2_w 138, 3) := by decide +kernel
theorem dX12_nextToken_71 : decode cX12_nextToken 71 = .ok (.putfield 140, 3) := by decide +kernel
theorem dX12_nextToken_74 : decode cX12_nextToken 74 = .ok (.goto 277, 3) := by decide +kernel
theorem dX12_nextToken_77 : decode cX12_nextToken 77 = .ok (.aload_n 0, 1) := by decide +kernel
theorem dX12_nextToken_78 : decode cX12_nextToken 78 = .ok (.getfield 31, 3) := by decide +kernel
theorem dX12_nextToken_81 : decode cX12_nextToken 81 = .ok (.aload_n 0, 1) := by decide +kernel
theorem dX12_nextToken_82 : decode cX12_nextToken 82 = .ok (.getfield 126, 3) := by decide +kernel
theorem dX12_nextToken_85 : decode cX12_nextToken 85 = .ok (.iaload, 1) := by decide +kernel
theorem dX12_nextToken_86 : decode cX12_nextToken 86 = .ok (.bipush 97, 2) := by decide +kernel
theorem dX12_nextToken_88 : decode cX12_nextToken 88 = .ok (.bipush 122, 2) := by decide +kernel
theorem dX12_nextToken_90 : decode cX12_nextToken 90 = .ok (.invokestatic 102, 3) := by decide +kernel
theorem dX12_nextToken_93 : decode cX12_nextToken 93 = .ok (.ifCond .eq 129, 3) := by decide +kernel
theorem dX12_nextToken_96 : decode cX12_nextToken 96 = .ok (.aload_n 0, 1) := by decide +kernel
theorem dX12_nextToken_97 : decode cX12_nextToken 97 = .ok (.lconst 0, 1) := by decide +kernel
theorem dX12_nextToken_98 : decode cX12_nextToken 98 = .ok (.putfield 140, 3) := by decide +kernel
theorem dX12_nextToken_101 : decode cX12_nextToken 101 = .ok (.aload_n 0, 1) := by decide +kernel
theorem dX12_nextToken_102 : decode cX12_nextToken 102 = .ok (.getfield 126, 3) := by decide +kernel
theorem dX12_nextToken_105 : decode cX12_nextToken 105 = .ok (.aload_n 0, 1) := by decide +kernel
theorem dX12_nextToken_106 : decode cX12_nextToken 106 = .ok (.getfield 121, 3) := by decide +kernel
theorem dX12_nextToken_109 : decode cX12_nextToken 109 = .ok (.if_icmp .ge 82, 3) := by decide +kernel
theorem dX12_nextToken_112 : decode cX12_nextToken 112 = .ok (.aload_n 0, 1) := by decide +kernel
theorem dX12_nextToken_113 : decode cX12_nextToken 113 = .ok (.getfield 31, 3) := by decide +kernel
theorem dX12_nextToken_116 : decode cX12_nextToken 116 = .ok (.aload_n 0, 1) := by decide +kernel
theorem dX12_nextToken_117 : decode cX12_nextToken 117 = .ok (.getfield 126, 3) := by decide +kernel
theorem dX12_nextToken_120 : decode cX12_nextToken 120 = .ok (.iaload, 1) := by decide +kernel
theorem dX12_nextToken_121 : decode cX12_nextToken 121 = .ok (.bipush 97, 2) := by decide +kernel
theorem dX12_nextToken_123 : decode cX12_nextToken 123 = .ok (.bipush 122, 2) := by decide +kernel
theorem dX12_nextToken_125 : decode cX12_nextToken 125 = .ok (.invokestatic 102, 3) := by decide +kernel
theorem dX12_nextToken_128 : decode cX12_nextToken 128 = .ok (.ifCond .eq 63, 3) := by decide +kernel
theorem dX12_nextToken_131 : decode cX12_nextToken 131 = .ok (.aload_n 0, 1) := by decide +kernel
theorem dX12_nextToken_132 : decode cX12_nextToken 132 = .ok (.aload_n 0, 1) := by decide +kernel
theorem dX12_nextToken_133 : decode cX12_nextToken 133 = .ok (.getfield 126, 3) := by decide +kernel
theorem dX12_nextToken_136 : decode cX12_nextToken 136 = .ok (.aload_n 0, 1) := by decide +kernel
theorem dX12_nextToken_137 : decode cX12_nextToken 137 = .ok (.getfield 129, 3) := by decide +kernel
theorem dX12_nextToken_140 : decode cX12_nextToken 140 = .ok (.isub, 1) := by decide +kernel
theorem dX12_nextToken_141 : decode cX12_nextToken 141 = .ok (.bipush 9, 2) := by decide +kernel
theorem dX12_nextToken_143 : decode cX12_nextToken 143 = .ok (.if_icmp .ge 29, 3) := by decide +kernel
theorem dX12_nextToken_146 : decode cX12_nextToken 146 = .ok (.ldc2_w 144, 3) := by decide +kernel
theorem dX12_nextToken_149 : decode cX12_nextToken 149 = .ok (.aload_n 0, 1) := by decide +kernel
theorem dX12_nextToken_150 : decode cX12_nextToken 150 = .ok (.getfield 140, 3) := by decide +kernel
theorem dX12_nextToken_153 : decode cX12_nextToken 153 = .ok (.lmul, 1) := by decide +kernel
theorem dX12_nextToken_154 : decode cX12_nextToken 154 = .ok (.aload_n 0, 1) := by decide +kernel
theorem dX12_nextToken_155 : decode cX12_nextToken 155 = .ok (.getfield 31, 3) := by decide +kernel
theorem dX12_nextToken_158 : decode cX12_nextToken 158 = .ok (.aload_n 0, 1) := by decide +kernel
theorem dX12_nextToken_159 : decode cX12_nextToken 159 = .ok (.getfield 126, 3) := by decide +kernel
theorem dX12_nextToken_162 : decode cX12_nextToken 162 = .ok (.iaload, 1) := by decide +kernel
theorem dX12_nextToken_163 : decode cX12_nextToken 163 = .ok (.i2l, 1) := by decide +kernel
theorem dX12_nextToken_164 : decode cX12_nextToken 164 = .ok (.ladd, 1) := by decide +kernel
theorem dX12_nextToken_165 : decode cX12_nextToken 165 = .ok (.ldc2_w 146, 3) := by decide +kernel
theorem dX12_nextToken_168 : decode cX12_nextToken 168 = .ok (.lsub, 1) := by decide +kernel
theorem dX12_nextToken_169 : decode cX12_nextToken 169 = .ok (.goto 6, 3) := by decide +kernel
theorem dX12_nextToken_172 : decode cX12_nextToken 172 = .ok (.ldc2_w 148, 3) := by decide +kernel
theorem dX12_nextToken_175 : decode cX12_nextToken 175 = .ok (.putfield 140, 3) := by decide +kernel
theorem dX12_nextToken_178 : decode cX12_nextToken 178 = .ok (.aload_n 0, 1) := by decide +kernel
theorem dX12_nextToken_179 : decode cX12_nextToken 179 = .ok (.dup, 1) := by decide +kernel
theorem dX12_nextToken_180 : decode cX12_nextToken 180 = .ok (.getfield 126, 3) := by decide +kernel
theorem dX12_nextToken_183 : decode cX12_nextToken 183 = .ok (.iconst 1, 1) := by decide +kernel
theorem dX12_nextToken_184 : decode cX12_nextToken 184 = .ok (.iadd, 1) := by decide +kernel
theorem dX12_nextToken_185 : decode cX12_nextToken 185 = .ok (.putfield 126, 3) := by decide +kernel
theorem dX12_nextToken_188 : decode cX12_nextToken 188 = .ok (.goto (-87), 3) := by decide +kernel
theorem dX12_nextToken_191 : decode cX12_nextToken 191 = .ok (.aload_n 0, 1) := by decide +kernel
theorem dX12_nextToken_192 : decode cX12_nextToken 192 = .ok (.aload_n 0, 1) := by decide +kernel
theorem dX12_nextToken_193 : decode cX12_nextToken 193 = .ok (.getfield 126, 3) := by decide +kernel
theorem dX12_nextToken_196 : decode cX12_nextToken 196 = .ok (.aload_n 0, 1) := by decide +kernel
theorem dX12_nextToken_197 : decode cX12_nextToken 197 = .ok (.getfield 129, 3) := by decide +kernel
theorem dX12_nextToken_200 : decode cX12_nextToken 200 = .ok (.isub, 1) := by decide +kernel
theorem dX12_nextToken_201 : decode cX12_nextToken 201 = .ok (.bipush 9, 2) := by decide +kernel
theorem dX12_nextToken_203 : decode cX12_nextToken 203 = .ok (.if_icmp .le 9, 3) := by decide +kernel
theorem dX12_nextToken_206 : decode cX12_nextToken 206 = .ok (.ldc2_w 148, 3) := by decide +kernel
theorem dX12_nextToken_209 : decode cX12_nextToken 209 = .ok (.goto 7, 3) := by decide +kernel
theorem dX12_nextToken_212 : decode cX12_nextToken 212 = .ok (.aload_n 0, 1) := by decide +kernel
theorem dX12_nextToken_213 : decode cX12_nextToken 213 = .ok (.getfield 140, 3) := by decide +kernel
theorem dX12_nextToken_216 : decode cX12_nextToken 216 = .ok (.putfield 140, 3) := by decide +kernel
theorem dX12_nextToken_219 : decode cX12_nextToken 219 = .ok (.goto 132, 3) := by decide +kernel
theorem dX12_nextToken_222 : decode cX12_nextToken 222 = .ok (.aload_n 0, 1) := by decide +kernel
theorem dX12_nextToken_223 : decode cX12_nextToken 223 = .ok (.getfield 31, 3) := by decide +kernel
theorem dX12_nextToken_226 : decode cX12_nextToken 226 = .ok (.aload_n 0, 1) := by decide +kernel
theorem dX12_nextToken_227 : decode cX12_nextToken 227 = .ok (.getfield 126, 3) := by decide +kernel
theorem dX12_nextToken_230 : decode cX12_nextToken 230 = .ok (.iaload, 1) := by decide +kernel
theorem dX12_nextToken_231 : decode cX12_nextToken 231 = .ok (.bipush 48, 2) := by decide +kernel
theorem dX12_nextToken_233 : decode cX12_nextToken 233 = .ok (.bipush 57, 2) := by decide +kernel
theorem dX12_nextToken_235 : decode cX12_nextToken 235 = .ok (.invokestatic 102, 3) := by decide +kernel
theorem dX12_nextToken_238 : decode cX12_nextToken 238 = .ok (.ifCond .eq 96, 3) := by decide +kernel
theorem dX12_nextToken_241 : decode cX12_nextToken 241 = .ok (.aload_n 0, 1) := by decide +kernel
theorem dX12_nextToken_242 : decode cX12_nextToken 242 = .ok (.getfield 126, 3) := by decide +kernel
theorem dX12_nextToken_245 : decode cX12_nextToken 245 = .ok (.aload_n 0, 1) := by decide +kernel
theorem dX12_nextToken_246 : decode cX12_nextToken 246 = .ok (.getfield 121, 3) := by decide +kernel
theorem dX12_nextToken_249 : decode cX12_nextToken 249 = .ok (.if_icmp .ge 61, 3) := by decide +kernel
theorem dX12_nextToken_252 : decode cX12_nextToken 252 = .ok (.aload_n 0, 1) := by decide +kernel
theorem dX12_nextToken_253 : decode cX12_nextToken 253 = .ok (.getfield 31, 3) := by decide +kernel
theorem dX12_nextToken_256 : decode cX12_nextToken 256 = .ok (.aload_n 0, 1) := by decide +kernel
theorem dX12_nextToken_257 : decode cX12_nextToken 257 = .ok (.getfield 126, 3) := by decide +kernel
theorem dX12_nextToken_260 : decode cX12_nextToken 260 = .ok (.iaload, 1) := by decide +kernel
theorem dX12_nextToken_261 : decode cX12_nextToken 261 = .ok (.bipush 48, 2) := by decide +kernel
theorem dX12_nextToken_263 : decode cX12_nextToken 263 = .ok (.bipush 57, 2) := by decide +kernel
theorem dX12_nextToken_265 : decode cX12_nextToken 265 = .ok (.invokestatic 102, 3) := by decide +kernel
theorem dX12_nextToken_268 : decode cX12_nextToken 268 = .ok (.ifCond .eq 42, 3) := by decide +kernel
theorem dX12_nextToken_271 : decode cX12_nextToken 271 = .ok (.aload_n 0, 1) := by decide +kernel
theorem dX12_nextToken_272 : decode cX12_nextToken 272 = .ok (.aload_n 0, 1) := by decide +kernel
theorem dX12_nextToken_273 : decode cX12_nextToken 273 = .ok (.getfield 31, 3) := by decide +kernel
theorem dX12_nextToken_276 : decode cX12_nextToken 276 = .ok (.aload_n 0, 1) := by decide +kernel
theorem dX12_nextToken_277 : decode cX12_nextToken 277 = .ok (.getfield 126, 3) := by decide +kernel
theorem dX12_nextToken_280 : decode cX12_nextToken 280 = .ok (.iaload, 1) := by decide +kernel
theorem dX12_nextToken_281 : decode cX12_nextToken 281 = .ok (.bipush 48, 2) := by decide +kernel
theorem dX12_nextToken_283 : decode cX12_nextToken 283 = .ok (.isub, 1) := by decide +kernel
theorem dX12_nextToken_284 : decode cX12_nextToken 284 = .ok (.putfield 135, 3) := by decide +kernel
theorem dX12_nextToken_287 : decode cX12_nextToken 287 = .ok (.aload_n 0, 1) := by decide +kernel
theorem dX12_nextToken_288 : decode cX12_nextToken 288 = .ok (.dup, 1) := by decide +kernel
theorem dX12_nextToken_289 : decode cX12_nextToken 289 = .ok (.getfield 132, 3) := by decide +kernel
theorem dX12_nextToken_292 : decode cX12_nextToken 292 = .ok (.iconst 1, 1) := by decide +kernel
theorem dX12_nextToken_293 : decode cX12_nextToken 293 = .ok (.iadd, 1) := by decide +kernel
theorem dX12_nextToken_294 : decode cX12_nextToken 294 = .ok (.putfield 132, 3) := by decide +kernel
theorem dX12_nextToken_297 : decode cX12_nextToken 297 = .ok (.aload_n 0, 1) := by decide +kernel
theorem dX12_nextToken_298 : decode cX12_nextToken 298 = .ok (.dup, 1) := by decide +kernel
theorem dX12_nextToken_299 : decode cX12_nextToken 299 = .ok (.getfield 126, 3) := by decide +kernel
theorem dX12_nextToken_302 : decode cX12_nextToken 302 = .ok (.iconst 1, 1) := by decide +kernel
theorem dX12_nextToken_303 : decode cX12_nextToken 303 = .ok (.iadd, 1) := by decide +kernel
theorem dX12_nextToken_304 : decode cX12_nextToken 304 = .ok (.putfield 126, 3) := by decide +kernel
theorem dX12_nextToken_307 : decode cX12_nextToken 307 = .ok (.goto (-66), 3) := by decide +kernel
theorem dX12_nextToken_310 : decode cX12_nextToken 310 = .ok (.aload_n 0, 1) := by decide +kernel
theorem dX12_nextToken_311 : decode cX12_nextToken 311 = .ok (.aload_n 0, 1) := by decide +kernel
theorem dX12_nextToken_312 : decode cX12_nextToken 312 = .ok (.getfield 132, 3) := by decide +kernel
theorem dX12_nextToken_315 : decode cX12_nextToken 315 = .ok (.iconst 1, 1) := by decide +kernel
theorem dX12_nextToken_316 : decode cX12_nextToken 316 = .ok (.if_icmp .le 9, 3) := by decide +kernel
theorem dX12_nextToken_319 : decode cX12_nextToken 319 = .ok (.ldc2_w 148, 3) := by decide +kernel
theorem dX12_nextToken_322 : decode cX12_nextToken 322 = .ok (.goto 6, 3) := by decide +kernel
theorem dX12_nextToken_325 : decode cX12_nextToken 325 = .ok (.ldc2_w 150, 3) := by decide +kernel
theorem dX12_nextToken_328 : decode cX12_nextToken 328 = .ok (.putfield 140, 3) := by decide +kernel
theorem dX12_nextToken_331 : decode cX12_nextToken 331 = .ok (.goto 20, 3) := by decide +kernel
theorem dX12_nextToken_334 : decode cX12_nextToken 334 = .ok (.aload_n 0, 1) := by decide +kernel
theorem dX12_nextToken_335 : decode cX12_nextToken 335 = .ok (.ldc2_w 148, 3) := by decide +kernel
theorem dX12_nextToken_338 : decode cX12_nextToken 338 = .ok (.putfield 140, 3) := by decide +kernel
theorem dX12_nextToken_341 : decode cX12_nextToken 341 = .ok (.aload_n 0, 1) := by decide +kernel
theorem dX12_nextToken_342 : decode cX12_nextToken 342 = .ok (.dup, 1) := by decide +kernel
theorem dX12_nextToken_343 : decode cX12_nextToken 343 = .ok (.getfield 126, 3) := by decide +kernel
theorem dX12_nextToken_346 : decode cX12_nextToken 346 = .ok (.iconst 1, 1) := by decide +kernel
theorem dX12_nextToken_347 : decode cX12_nextToken 347 = .ok (.iadd, 1) := by decide +kernel
theorem dX12_nextToken_348 : decode cX12_nextToken 348 = .ok (.putfield 126, 3) := by decide +kernel
theorem dX12_nextToken_351 : decode cX12_nextToken 351 = .ok (.return_, 1) := by decide +kernel
theorem dX12_fails_0 : decode cX12_fails 0 = .ok (.aload_n 0, 1) := by decide +kernel
theorem dX12_fails_1 : decode cX12_fails 1 = .ok (.aload_n 0, 1) := by decide +kernel
theorem dX12_fails_2 : decode cX12_fails 2 = .ok (.getfield 129, 3) := by decide +kernel
theorem dX12_fails_5 : decode cX12_fails 5 = .ok (.putfield 152, 3) := by decide +kernel
theorem dX12_fails_8 : decode cX12_fails 8 = .ok (.iconst 0, 1) := by decide +kernel
theorem dX12_fails_9 : decode cX12_fails 9 = .ok (.ireturn, 1) := by decide +kernel
theorem dX12_wordTold_0 : decode cX12_wordTold 0 = .ok (.aload_n 0, 1) := by decide +kernel
theorem dX12_wordTold_1 : decode cX12_wordTold 1 = .ok (.getfield 140, 3) := by decide +kernel
theorem dX12_wordTold_4 : decode cX12_wordTold 4 = .ok (.lstore_n 1, 1) := by decide +kernel
theorem dX12_wordTold_5 : decode cX12_wordTold 5 = .ok (.lload_n 1, 1) := by decide +kernel
theorem dX12_wordTold_6 : decode cX12_wordTold 6 = .ok (.ldc2_w 155, 3) := by decide +kernel
theorem dX12_wordTold_9 : decode cX12_wordTold 9 = .ok (.lcmp, 1) := by decide +kernel
theorem dX12_wordTold_10 : decode cX12_wordTold 10 = .ok (.ifCond .ne 7, 3) := by decide +kernel
theorem dX12_wordTold_13 : decode cX12_wordTold 13 = .ok (.iconst 0, 1) := by decide +kernel
theorem dX12_wordTold_14 : decode cX12_wordTold 14 = .ok (.goto 90, 3) := by decide +kernel
theorem dX12_wordTold_17 : decode cX12_wordTold 17 = .ok (.lload_n 1, 1) := by decide +kernel
theorem dX12_wordTold_18 : decode cX12_wordTold 18 = .ok (.ldc2_w 157, 3) := by decide +kernel
theorem dX12_wordTold_21 : decode cX12_wordTold 21 = .ok (.lcmp, 1) := by decide +kernel
theorem dX12_wordTold_22 : decode cX12_wordTold 22 = .ok (.ifCond .ne 7, 3) := by decide +kernel
theorem dX12_wordTold_25 : decode cX12_wordTold 25 = .ok (.iconst 1, 1) := by decide +kernel
theorem dX12_wordTold_26 : decode cX12_wordTold 26 = .ok (.goto 78, 3) := by decide +kernel
theorem dX12_wordTold_29 : decode cX12_wordTold 29 = .ok (.lload_n 1, 1) := by decide +kernel
theorem dX12_wordTold_30 : decode cX12_wordTold 30 = .ok (.ldc2_w 159, 3) := by decide +kernel
theorem dX12_wordTold_33 : decode cX12_wordTold 33 = .ok (.lcmp, 1) := by decide +kernel
theorem dX12_wordTold_34 : decode cX12_wordTold 34 = .ok (.ifCond .ne 7, 3) := by decide +kernel
theorem dX12_wordTold_37 : decode cX12_wordTold 37 = .ok (.iconst 2, 1) := by decide +kernel
theorem dX12_wordTold_38 : decode cX12_wordTold 38 = .ok (.goto 66, 3) := by decide +kernel
theorem dX12_wordTold_41 : decode cX12_wordTold 41 = .ok (.lload_n 1, 1) := by decide +kernel
theorem dX12_wordTold_42 : decode cX12_wordTold 42 = .ok (.ldc2_w 161, 3) := by decide +kernel
theorem dX12_wordTold_45 : decode cX12_wordTold 45 = .ok (.lcmp, 1) := by decide +kernel
theorem dX12_wordTold_46 : decode cX12_wordTold 46 = .ok (.ifCond .ne 7, 3) := by decide +kernel
theorem dX12_wordTold_49 : decode cX12_wordTold 49 = .ok (.iconst 3, 1) := by decide +kernel
theorem dX12_wordTold_50 : decode cX12_wordTold 50 = .ok (.goto 54, 3) := by decide +kernel
theorem dX12_wordTold_53 : decode cX12_wordTold 53 = .ok (.lload_n 1, 1) := by decide +kernel
theorem dX12_wordTold_54 : decode cX12_wordTold 54 = .ok (.ldc2_w 163, 3) := by decide +kernel
theorem dX12_wordTold_57 : decode cX12_wordTold 57 = .ok (.lcmp, 1) := by decide +kernel
theorem dX12_wordTold_58 : decode cX12_wordTold 58 = .ok (.ifCond .ne 7, 3) := by decide +kernel
theorem dX12_wordTold_61 : decode cX12_wordTold 61 = .ok (.iconst 4, 1) := by decide +kernel
theorem dX12_wordTold_62 : decode cX12_wordTold 62 = .ok (.goto 42, 3) := by decide +kernel
theorem dX12_wordTold_65 : decode cX12_wordTold 65 = .ok (.lload_n 1, 1) := by decide +kernel
theorem dX12_wordTold_66 : decode cX12_wordTold 66 = .ok (.ldc2_w 165, 3) := by decide +kernel
theorem dX12_wordTold_69 : decode cX12_wordTold 69 = .ok (.lcmp, 1) := by decide +kernel
theorem dX12_wordTold_70 : decode cX12_wordTold 70 = .ok (.ifCond .ne 7, 3) := by decide +kernel
theorem dX12_wordTold_73 : decode cX12_wordTold 73 = .ok (.iconst 5, 1) := by decide +kernel
theorem dX12_wordTold_74 : decode cX12_wordTold 74 = .ok (.goto 30, 3) := by decide +kernel
theorem dX12_wordTold_77 : decode cX12_wordTold 77 = .ok (.lload_n 1, 1) := by decide +kernel
theorem dX12_wordTold_78 : decode cX12_wordTold 78 = .ok (.ldc2_w 167, 3) := by decide +kernel
theorem dX12_wordTold_81 : decode cX12_wordTold 81 = .ok (.lcmp, 1) := by decide +kernel
theorem dX12_wordTold_82 : decode cX12_wordTold 82 = .ok (.ifCond .ne 8, 3) := by decide +kernel
theorem dX12_wordTold_85 : decode cX12_wordTold 85 = .ok (.bipush 6, 2) := by decide +kernel
theorem dX12_wordTold_87 : decode cX12_wordTold 87 = .ok (.goto 17, 3) := by decide +kernel
theorem dX12_wordTold_90 : decode cX12_wordTold 90 = .ok (.lload_n 1, 1) := by decide +kernel
theorem dX12_wordTold_91 : decode cX12_wordTold 91 = .ok (.ldc2_w 169, 3) := by decide +kernel
theorem dX12_wordTold_94 : decode cX12_wordTold 94 = .ok (.lcmp, 1) := by decide +kernel
theorem dX12_wordTold_95 : decode cX12_wordTold 95 = .ok (.ifCond .ne 8, 3) := by decide +kernel
theorem dX12_wordTold_98 : decode cX12_wordTold 98 = .ok (.bipush 7, 2) := by decide +kernel
theorem dX12_wordTold_100 : decode cX12_wordTold 100 = .ok (.goto 4, 3) := by decide +kernel
theorem dX12_wordTold_103 : decode cX12_wordTold 103 = .ok (.iconst (-1), 1) := by decide +kernel
theorem dX12_wordTold_104 : decode cX12_wordTold 104 = .ok (.istore_n 3, 1) := by decide +kernel
theorem dX12_wordTold_105 : decode cX12_wordTold 105 = .ok (.lload_n 1, 1) := by decide +kernel
theorem dX12_wordTold_106 : decode cX12_wordTold 106 = .ok (.ldc2_w 171, 3) := by decide +kernel
theorem dX12_wordTold_109 : decode cX12_wordTold 109 = .ok (.lcmp, 1) := by decide +kernel
theorem dX12_wordTold_110 : decode cX12_wordTold 110 = .ok (.ifCond .ne 8, 3) := by decide +kernel
theorem dX12_wordTold_113 : decode cX12_wordTold 113 = .ok (.bipush 8, 2) := by decide +kernel
theorem dX12_wordTold_115 : decode cX12_wordTold 115 = .ok (.goto 82, 3) := by decide +kernel
theorem dX12_wordTold_118 : decode cX12_wordTold 118 = .ok (.lload_n 1, 1) := by decide +kernel
theorem dX12_wordTold_119 : decode cX12_wordTold 119 = .ok (.ldc2_w 173, 3) := by decide +kernel
theorem dX12_wordTold_122 : decode cX12_wordTold 122 = .ok (.lcmp, 1) := by decide +kernel
theorem dX12_wordTold_123 : decode cX12_wordTold 123 = .ok (.ifCond .ne 8, 3) := by decide +kernel
theorem dX12_wordTold_126 : decode cX12_wordTold 126 = .ok (.bipush 9, 2) := by decide +kernel
theorem dX12_wordTold_128 : decode cX12_wordTold 128 = .ok (.goto 69, 3) := by decide +kernel
theorem dX12_wordTold_131 : decode cX12_wordTold 131 = .ok (.lload_n 1, 1) := by decide +kernel
theorem dX12_wordTold_132 : decode cX12_wordTold 132 = .ok (.ldc2_w 175, 3) := by decide +kernel
theorem dX12_wordTold_135 : decode cX12_wordTold 135 = .ok (.lcmp, 1) := by decide +kernel
theorem dX12_wordTold_136 : decode cX12_wordTold 136 = .ok (.ifCond .ne 8, 3) := by decide +kernel
theorem dX12_wordTold_139 : decode cX12_wordTold 139 = .ok (.bipush 10, 2) := by decide +kernel
theorem dX12_wordTold_141 : decode cX12_wordTold 141 = .ok (.goto 56, 3) := by decide +kernel
theorem dX12_wordTold_144 : decode cX12_wordTold 144 = .ok (.lload_n 1, 1) := by decide +kernel
theorem dX12_wordTold_145 : decode cX12_wordTold 145 = .ok (.ldc2_w 177, 3) := by decide +kernel
theorem dX12_wordTold_148 : decode cX12_wordTold 148 = .ok (.lcmp, 1) := by decide +kernel
theorem dX12_wordTold_149 : decode cX12_wordTold 149 = .ok (.ifCond .ne 8, 3) := by decide +kernel
theorem dX12_wordTold_152 : decode cX12_wordTold 152 = .ok (.bipush 11, 2) := by decide +kernel
theorem dX12_wordTold_154 : decode cX12_wordTold 154 = .ok (.goto 43, 3) := by decide +kernel
theorem dX12_wordTold_157 : decode cX12_wordTold 157 = .ok (.lload_n 1, 1) := by decide +kernel
theorem dX12_wordTold_158 : decode cX12_wordTold 158 = .ok (.ldc2_w 179, 3) := by decide +kernel
theorem dX12_wordTold_161 : decode cX12_wordTold 161 = .ok (.lcmp, 1) := by decide +kernel
theorem dX12_wordTold_162 : decode cX12_wordTold 162 = .ok (.ifCond .ne 8, 3) := by decide +kernel
theorem dX12_wordTold_165 : decode cX12_wordTold 165 = .ok (.bipush 12, 2) := by decide +kernel
theorem dX12_wordTold_167 : decode cX12_wordTold 167 = .ok (.goto 30, 3) := by decide +kernel
theorem dX12_wordTold_170 : decode cX12_wordTold 170 = .ok (.lload_n 1, 1) := by decide +kernel
theorem dX12_wordTold_171 : decode cX12_wordTold 171 = .ok (.ldc2_w 181, 3) := by decide +kernel
theorem dX12_wordTold_174 : decode cX12_wordTold 174 = .ok (.lcmp, 1) := by decide +kernel
theorem dX12_wordTold_175 : decode cX12_wordTold 175 = .ok (.ifCond .ne 8, 3) := by decide +kernel
theorem dX12_wordTold_178 : decode cX12_wordTold 178 = .ok (.bipush 13, 2) := by decide +kernel
theorem dX12_wordTold_180 : decode cX12_wordTold 180 = .ok (.goto 17, 3) := by decide +kernel
theorem dX12_wordTold_183 : decode cX12_wordTold 183 = .ok (.lload_n 1, 1) := by decide +kernel
theorem dX12_wordTold_184 : decode cX12_wordTold 184 = .ok (.ldc2_w 183, 3) := by decide +kernel
theorem dX12_wordTold_187 : decode cX12_wordTold 187 = .ok (.lcmp, 1) := by decide +kernel
theorem dX12_wordTold_188 : decode cX12_wordTold 188 = .ok (.ifCond .ne 8, 3) := by decide +kernel
theorem dX12_wordTold_191 : decode cX12_wordTold 191 = .ok (.bipush 14, 2) := by decide +kernel
theorem dX12_wordTold_193 : decode cX12_wordTold 193 = .ok (.goto 4, 3) := by decide +kernel
theorem dX12_wordTold_196 : decode cX12_wordTold 196 = .ok (.iconst (-1), 1) := by decide +kernel
theorem dX12_wordTold_197 : decode cX12_wordTold 197 = .ok (.istore 4, 2) := by decide +kernel
theorem dX12_wordTold_199 : decode cX12_wordTold 199 = .ok (.iload_n 3, 1) := by decide +kernel
theorem dX12_wordTold_200 : decode cX12_wordTold 200 = .ok (.iconst (-1), 1) := by decide +kernel
theorem dX12_wordTold_201 : decode cX12_wordTold 201 = .ok (.if_icmp .ne 8, 3) := by decide +kernel
theorem dX12_wordTold_204 : decode cX12_wordTold 204 = .ok (.iload 4, 2) := by decide +kernel
theorem dX12_wordTold_206 : decode cX12_wordTold 206 = .ok (.goto 4, 3) := by decide +kernel
theorem dX12_wordTold_209 : decode cX12_wordTold 209 = .ok (.iload_n 3, 1) := by decide +kernel
theorem dX12_wordTold_210 : decode cX12_wordTold 210 = .ok (.ireturn, 1) := by decide +kernel
theorem dX12_needs_0 : decode cX12_needs 0 = .ok (.iload_n 0, 1) := by decide +kernel
theorem dX12_needs_1 : decode cX12_needs 1 = .ok (.iconst 4, 1) := by decide +kernel
theorem dX12_needs_2 : decode cX12_needs 2 = .ok (.if_icmp .ge 7, 3) := by decide +kernel
theorem dX12_needs_5 : decode cX12_needs 5 = .ok (.iconst 0, 1) := by decide +kernel
theorem dX12_needs_6 : decode cX12_needs 6 = .ok (.goto 19, 3) := by decide +kernel
theorem dX12_needs_9 : decode cX12_needs 9 = .ok (.iload_n 0, 1) := by decide +kernel
theorem dX12_needs_10 : decode cX12_needs 10 = .ok (.iconst 4, 1) := by decide +kernel
theorem dX12_needs_11 : decode cX12_needs 11 = .ok (.if_icmp .le 13, 3) := by decide +kernel
theorem dX12_needs_14 : decode cX12_needs 14 = .ok (.iload_n 0, 1) := by decide +kernel
theorem dX12_needs_15 : decode cX12_needs 15 = .ok (.bipush 8, 2) := by decide +kernel
theorem dX12_needs_17 : decode cX12_needs 17 = .ok (.if_icmp .ge 7, 3) := by decide +kernel
theorem dX12_needs_20 : decode cX12_needs 20 = .ok (.iconst 2, 1) := by decide +kernel
theorem dX12_needs_21 : decode cX12_needs 21 = .ok (.goto 4, 3) := by decide +kernel
theorem dX12_needs_24 : decode cX12_needs 24 = .ok (.iconst 1, 1) := by decide +kernel
theorem dX12_needs_25 : decode cX12_needs 25 = .ok (.ireturn, 1) := by decide +kernel
theorem dX12_isRead_0 : decode cX12_isRead 0 = .ok (.aload_n 0, 1) := by decide +kernel
theorem dX12_isRead_1 : decode cX12_isRead 1 = .ok (.iconst 0, 1) := by decide +kernel
theorem dX12_isRead_2 : decode cX12_isRead 2 = .ok (.putfield 126, 3) := by decide +kernel
theorem dX12_isRead_5 : decode cX12_isRead 5 = .ok (.aload_n 0, 1) := by decide +kernel
theorem dX12_isRead_6 : decode cX12_isRead 6 = .ok (.iconst 0, 1) := by decide +kernel
theorem dX12_isRead_7 : decode cX12_isRead 7 = .ok (.putfield 185, 3) := by decide +kernel
theorem dX12_isRead_10 : decode cX12_isRead 10 = .ok (.iconst 1, 1) := by decide +kernel
theorem dX12_isRead_11 : decode cX12_isRead 11 = .ok (.istore_n 1, 1) := by decide +kernel
theorem dX12_isRead_12 : decode cX12_isRead 12 = .ok (.iload_n 1, 1) := by decide +kernel
theorem dX12_isRead_13 : decode cX12_isRead 13 = .ok (.ifCond .le 138, 3) := by decide +kernel
theorem dX12_isRead_16 : decode cX12_isRead 16 = .ok (.aload_n 0, 1) := by decide +kernel
theorem dX12_isRead_17 : decode cX12_isRead 17 = .ok (.invokevirtual 188, 3) := by decide +kernel
theorem dX12_isRead_20 : decode cX12_isRead 20 = .ok (.aload_n 0, 1) := by decide +kernel
theorem dX12_isRead_21 : decode cX12_isRead 21 = .ok (.invokevirtual 191, 3) := by decide +kernel
theorem dX12_isRead_24 : decode cX12_isRead 24 = .ok (.istore_n 2, 1) := by decide +kernel
theorem dX12_isRead_25 : decode cX12_isRead 25 = .ok (.iload_n 2, 1) := by decide +kernel
theorem dX12_isRead_26 : decode cX12_isRead 26 = .ok (.iconst (-1), 1) := by decide +kernel
theorem dX12_isRead_27 : decode cX12_isRead 27 = .ok (.if_icmp .eq 12, 3) := by decide +kernel
theorem dX12_isRead_30 : decode cX12_isRead 30 = .ok (.aload_n 0, 1) := by decide +kernel
theorem dX12_isRead_31 : decode cX12_isRead 31 = .ok (.getfield 185, 3) := by decide +kernel
theorem dX12_isRead_34 : decode cX12_isRead 34 = .ok (.bipush 24, 2) := by decide +kernel
theorem dX12_isRead_36 : decode cX12_isRead 36 = .ok (.if_icmp .ne 8, 3) := by decide +kernel
theorem dX12_isRead_39 : decode cX12_isRead 39 = .ok (.aload_n 0, 1) := by decide +kernel
theorem dX12_isRead_40 : decode cX12_isRead 40 = .ok (.invokevirtual 194, 3) := by decide +kernel
theorem dX12_isRead_43 : decode cX12_isRead 43 = .ok (.ireturn, 1) := by decide +kernel
theorem dX12_isRead_44 : decode cX12_isRead 44 = .ok (.aload_n 0, 1) := by decide +kernel
theorem dX12_isRead_45 : decode cX12_isRead 45 = .ok (.getfield 34, 3) := by decide +kernel
theorem dX12_isRead_48 : decode cX12_isRead 48 = .ok (.aload_n 0, 1) := by decide +kernel
theorem dX12_isRead_49 : decode cX12_isRead 49 = .ok (.getfield 185, 3) := by decide +kernel
theorem dX12_isRead_52 : decode cX12_isRead 52 = .ok (.iload_n 2, 1) := by decide +kernel
theorem dX12_isRead_53 : decode cX12_isRead 53 = .ok (.iastore, 1) := by decide +kernel
theorem dX12_isRead_54 : decode cX12_isRead 54 = .ok (.aload_n 0, 1) := by decide +kernel
theorem dX12_isRead_55 : decode cX12_isRead 55 = .ok (.getfield 37, 3) := by decide +kernel
theorem dX12_isRead_58 : decode cX12_isRead 58 = .ok (.aload_n 0, 1) := by decide +kernel
theorem dX12_isRead_59 : decode cX12_isRead 59 = .ok (.getfield 185, 3) := by decide +kernel
theorem dX12_isRead_62 : decode cX12_isRead 62 = .ok (.iconst 0, 1) := by decide +kernel
theorem dX12_isRead_63 : decode cX12_isRead 63 = .ok (.iastore, 1) := by decide +kernel
theorem dX12_isRead_64 : decode cX12_isRead 64 = .ok (.iload_n 2, 1) := by decide +kernel
theorem dX12_isRead_65 : decode cX12_isRead 65 = .ok (.iconst 1, 1) := by decide +kernel
theorem dX12_isRead_66 : decode cX12_isRead 66 = .ok (.if_icmp .eq 13, 3) := by decide +kernel
theorem dX12_isRead_69 : decode cX12_isRead 69 = .ok (.iload_n 2, 1) := by decide +kernel
theorem dX12_isRead_70 : decode cX12_isRead 70 = .ok (.iconst 2, 1) := by decide +kernel
theorem dX12_isRead_71 : decode cX12_isRead 71 = .ok (.if_icmp .eq 8, 3) := by decide +kernel
theorem dX12_isRead_74 : decode cX12_isRead 74 = .ok (.iload_n 2, 1) := by decide +kernel
theorem dX12_isRead_75 : decode cX12_isRead 75 = .ok (.iconst 3, 1) := by decide +kernel
theorem dX12_isRead_76 : decode cX12_isRead 76 = .ok (.if_icmp .ne 53, 3) := by decide +kernel
theorem dX12_isRead_79 : decode cX12_isRead 79 = .ok (.aload_n 0, 1) := by decide +kernel
theorem dX12_isRead_80 : decode cX12_isRead 80 = .ok (.invokevirtual 188, 3) := by decide +kernel
theorem dX12_isRead_83 : decode cX12_isRead 83 = .ok (.aload_n 0, 1) := by decide +kernel
theorem dX12_isRead_84 : decode cX12_isRead 84 = .ok (.getfield 140, 3) := by decide +kernel
theorem dX12_isRead_87 : decode cX12_isRead 87 = .ok (.ldc2_w 150, 3) := by decide +kernel
theorem dX12_isRead_90 : decode cX12_isRead 90 = .ok (.lcmp, 1) := by decide +kernel
theorem dX12_isRead_91 : decode cX12_isRead 91 = .ok (.ifCond .ne 20, 3) := by decide +kernel
theorem dX12_isRead_94 : decode cX12_isRead 94 = .ok (.aload_n 0, 1) := by decide +kernel
theorem dX12_isRead_95 : decode cX12_isRead 95 = .ok (.getfield 135, 3) := by decide +kernel
theorem dX12_isRead_98 : decode cX12_isRead 98 = .ok (.iload_n 2, 1) := by decide +kernel
theorem dX12_isRead_99 : decode cX12_isRead 99 = .ok (.iconst 3, 1) := by decide +kernel
theorem dX12_isRead_100 : decode cX12_isRead 100 = .ok (.if_icmp .ne 7, 3) := by decide +kernel
theorem dX12_isRead_103 : decode cX12_isRead 103 = .ok (.iconst 2, 1) := by decide +kernel
theorem dX12_isRead_104 : decode cX12_isRead 104 = .ok (.goto 4, 3) := by decide +kernel
theorem dX12_isRead_107 : decode cX12_isRead 107 = .ok (.iconst 3, 1) := by decide +kernel
theorem dX12_isRead_108 : decode cX12_isRead 108 = .ok (.if_icmp .le 8, 3) := by decide +kernel
theorem dX12_isRead_111 : decode cX12_isRead 111 = .ok (.aload_n 0, 1) := by decide +kernel
theorem dX12_isRead_112 : decode cX12_isRead 112 = .ok (.invokevirtual 194, 3) := by decide +kernel
theorem dX12_isRead_115 : decode cX12_isRead 115 = .ok (.ireturn, 1) := by decide +kernel
theorem dX12_isRead_116 : decode cX12_isRead 116 = .ok (.aload_n 0, 1) := by decide +kernel
theorem dX12_isRead_117 : decode cX12_isRead 117 = .ok (.getfield 37, 3) := by decide +kernel
theorem dX12_isRead_120 : decode cX12_isRead 120 = .ok (.aload_n 0, 1) := by decide +kernel
theorem dX12_isRead_121 : decode cX12_isRead 121 = .ok (.getfield 185, 3) := by decide +kernel
theorem dX12_isRead_124 : decode cX12_isRead 124 = .ok (.aload_n 0, 1) := by decide +kernel
theorem dX12_isRead_125 : decode cX12_isRead 125 = .ok (.getfield 135, 3) := by decide +kernel
theorem dX12_isRead_128 : decode cX12_isRead 128 = .ok (.iastore, 1) := by decide +kernel
theorem dX12_isRead_129 : decode cX12_isRead 129 = .ok (.aload_n 0, 1) := by decide +kernel
theorem dX12_isRead_130 : decode cX12_isRead 130 = .ok (.dup, 1) := by decide +kernel
theorem dX12_isRead_131 : decode cX12_isRead 131 = .ok (.getfield 185, 3) := by decide +kernel
theorem dX12_isRead_134 : decode cX12_isRead 134 = .ok (.iconst 1, 1) := by decide +kernel
theorem dX12_isRead_135 : decode cX12_isRead 135 = .ok (.iadd, 1) := by decide +kernel
theorem dX12_isRead_136 : decode cX12_isRead 136 = .ok (.putfield 185, 3) := by decide +kernel
theorem dX12_isRead_139 : decode cX12_isRead 139 = .ok (.iload_n 1, 1) := by decide +kernel
theorem dX12_isRead_140 : decode cX12_isRead 140 = .ok (.iload_n 2, 1) := by decide +kernel
theorem dX12_isRead_141 : decode cX12_isRead 141 = .ok (.invokestatic 198, 3) := by decide +kernel
theorem dX12_isRead_144 : decode cX12_isRead 144 = .ok (.iconst 1, 1) := by decide +kernel
theorem dX12_isRead_145 : decode cX12_isRead 145 = .ok (.isub, 1) := by decide +kernel
theorem dX12_isRead_146 : decode cX12_isRead 146 = .ok (.iadd, 1) := by decide +kernel
theorem dX12_isRead_147 : decode cX12_isRead 147 = .ok (.istore_n 1, 1) := by decide +kernel
theorem dX12_isRead_148 : decode cX12_isRead 148 = .ok (.goto (-136), 3) := by decide +kernel
theorem dX12_isRead_151 : decode cX12_isRead 151 = .ok (.aload_n 0, 1) := by decide +kernel
theorem dX12_isRead_152 : decode cX12_isRead 152 = .ok (.invokevirtual 188, 3) := by decide +kernel
theorem dX12_isRead_155 : decode cX12_isRead 155 = .ok (.aload_n 0, 1) := by decide +kernel
theorem dX12_isRead_156 : decode cX12_isRead 156 = .ok (.getfield 140, 3) := by decide +kernel
theorem dX12_isRead_159 : decode cX12_isRead 159 = .ok (.ldc2_w 138, 3) := by decide +kernel
theorem dX12_isRead_162 : decode cX12_isRead 162 = .ok (.lcmp, 1) := by decide +kernel
theorem dX12_isRead_163 : decode cX12_isRead 163 = .ok (.ifCond .eq 10, 3) := by decide +kernel
theorem dX12_isRead_166 : decode cX12_isRead 166 = .ok (.aload_n 0, 1) := by decide +kernel
theorem dX12_isRead_167 : decode cX12_isRead 167 = .ok (.invokevirtual 194, 3) := by decide +kernel
theorem dX12_isRead_170 : decode cX12_isRead 170 = .ok (.ifCond .eq 7, 3) := by decide +kernel
theorem dX12_isRead_173 : decode cX12_isRead 173 = .ok (.iconst 1, 1) := by decide +kernel
theorem dX12_isRead_174 : decode cX12_isRead 174 = .ok (.goto 4, 3) := by decide +kernel
theorem dX12_isRead_177 : decode cX12_isRead 177 = .ok (.iconst 0, 1) := by decide +kernel
theorem dX12_isRead_178 : decode cX12_isRead 178 = .ok (.ireturn, 1) := by decide +kernel
theorem dX12_fault_0 : decode cX12_fault 0 = .ok (.aload_n 0, 1) := by decide +kernel
theorem dX12_fault_1 : decode cX12_fault 1 = .ok (.invokevirtual 201, 3) := by decide +kernel
theorem dX12_fault_4 : decode cX12_fault 4 = .ok (.ifCond .eq 7, 3) := by decide +kernel
theorem dX12_fault_7 : decode cX12_fault 7 = .ok (.iconst (-1), 1) := by decide +kernel
theorem dX12_fault_8 : decode cX12_fault 8 = .ok (.goto 7, 3) := by decide +kernel
theorem dX12_fault_11 : decode cX12_fault 11 = .ok (.aload_n 0, 1) := by decide +kernel
theorem dX12_fault_12 : decode cX12_fault 12 = .ok (.getfield 152, 3) := by decide +kernel
theorem dX12_fault_15 : decode cX12_fault 15 = .ok (.ireturn, 1) := by decide +kernel
theorem dX12_allOf_0 : decode cX12_allOf 0 = .ok (.iconst 0, 1) := by decide +kernel
theorem dX12_allOf_1 : decode cX12_allOf 1 = .ok (.istore_n 3, 1) := by decide +kernel
theorem dX12_allOf_2 : decode cX12_allOf 2 = .ok (.iconst 0, 1) := by decide +kernel
theorem dX12_allOf_3 : decode cX12_allOf 3 = .ok (.istore 4, 2) := by decide +kernel
theorem dX12_allOf_5 : decode cX12_allOf 5 = .ok (.iload 4, 2) := by decide +kernel
theorem dX12_allOf_7 : decode cX12_allOf 7 = .ok (.aload_n 0, 1) := by decide +kernel
theorem dX12_allOf_8 : decode cX12_allOf 8 = .ok (.getfield 98, 3) := by decide +kernel
theorem dX12_allOf_11 : decode cX12_allOf 11 = .ok (.if_icmp .ge 88, 3) := by decide +kernel
theorem dX12_allOf_14 : decode cX12_allOf 14 = .ok (.iload_n 1, 1) := by decide +kernel
theorem dX12_allOf_15 : decode cX12_allOf 15 = .ok (.ifCond .eq 55, 3) := by decide +kernel
theorem dX12_allOf_18 : decode cX12_allOf 18 = .ok (.iload_n 1, 1) := by decide +kernel
theorem dX12_allOf_19 : decode cX12_allOf 19 = .ok (.iconst 1, 1) := by decide +kernel
theorem dX12_allOf_20 : decode cX12_allOf 20 = .ok (.if_icmp .ne 14, 3) := by decide +kernel
theorem dX12_allOf_23 : decode cX12_allOf 23 = .ok (.aload_n 0, 1) := by decide +kernel
theorem dX12_allOf_24 : decode cX12_allOf 24 = .ok (.getfield 7, 3) := by decide +kernel
theorem dX12_allOf_27 : decode cX12_allOf 27 = .ok (.iload 4, 2) := by decide +kernel
theorem dX12_allOf_29 : decode cX12_allOf 29 = .ok (.iaload, 1) := by decide +kernel
theorem dX12_allOf_30 : decode cX12_allOf 30 = .ok (.iload_n 2, 1) := by decide +kernel
theorem dX12_allOf_31 : decode cX12_allOf 31 = .ok (.if_icmp .eq 39, 3) := by decide +kernel
theorem dX12_allOf_34 : decode cX12_allOf 34 = .ok (.iload_n 1, 1) := by decide +kernel
theorem dX12_allOf_35 : decode cX12_allOf 35 = .ok (.iconst 2, 1) := by decide +kernel
theorem dX12_allOf_36 : decode cX12_allOf 36 = .ok (.if_icmp .ne 14, 3) := by decide +kernel
theorem dX12_allOf_39 : decode cX12_allOf 39 = .ok (.aload_n 0, 1) := by decide +kernel
theorem dX12_allOf_40 : decode cX12_allOf 40 = .ok (.getfield 13, 3) := by decide +kernel
theorem dX12_allOf_43 : decode cX12_allOf 43 = .ok (.iload 4, 2) := by decide +kernel
theorem dX12_allOf_45 : decode cX12_allOf 45 = .ok (.iaload, 1) := by decide +kernel
theorem dX12_allOf_46 : decode cX12_allOf 46 = .ok (.iload_n 2, 1) := by decide +kernel
theorem dX12_allOf_47 : decode cX12_allOf 47 = .ok (.if_icmp .eq 23, 3) := by decide +kernel
theorem dX12_allOf_50 : decode cX12_allOf 50 = .ok (.iload_n 1, 1) := by decide +kernel
theorem dX12_allOf_51 : decode cX12_allOf 51 = .ok (.iconst 3, 1) := by decide +kernel
theorem dX12_allOf_52 : decode cX12_allOf 52 = .ok (.if_icmp .ne 22, 3) := by decide +kernel
theorem dX12_allOf_55 : decode cX12_allOf 55 = .ok (.aload_n 0, 1) := by decide +kernel
theorem dX12_allOf_56 : decode cX12_allOf 56 = .ok (.getfield 19, 3) := by decide +kernel
theorem dX12_allOf_59 : decode cX12_allOf 59 = .ok (.iload 4, 2) := by decide +kernel
theorem dX12_allOf_61 : decode cX12_allOf 61 = .ok (.iaload, 1) := by decide +kernel
theorem dX12_allOf_62 : decode cX12_allOf 62 = .ok (.iload_n 2, 1) := by decide +kernel
theorem dX12_allOf_63 : decode cX12_allOf 63 = .ok (.ishr, 1) := by decide +kernel
theorem dX12_allOf_64 : decode cX12_allOf 64 = .ok (.iconst 1, 1) := by decide +kernel
theorem dX12_allOf_65 : decode cX12_allOf 65 = .ok (.iand, 1) := by decide +kernel
theorem dX12_allOf_66 : decode cX12_allOf 66 = .ok (.iconst 1, 1) := by decide +kernel
theorem dX12_allOf_67 : decode cX12_allOf 67 = .ok (.if_icmp .ne 7, 3) := by decide +kernel
theorem dX12_allOf_70 : decode cX12_allOf 70 = .ok (.iconst 1, 1) := by decide +kernel
theorem dX12_allOf_71 : decode cX12_allOf 71 = .ok (.goto 4, 3) := by decide +kernel
theorem dX12_allOf_74 : decode cX12_allOf 74 = .ok (.iconst 0, 1) := by decide +kernel
theorem dX12_allOf_75 : decode cX12_allOf 75 = .ok (.istore 5, 2) := by decide +kernel
theorem dX12_allOf_77 : decode cX12_allOf 77 = .ok (.iload_n 3, 1) := by decide +kernel
theorem dX12_allOf_78 : decode cX12_allOf 78 = .ok (.iload 5, 2) := by decide +kernel
theorem dX12_allOf_80 : decode cX12_allOf 80 = .ok (.ifCond .eq 10, 3) := by decide +kernel
theorem dX12_allOf_83 : decode cX12_allOf 83 = .ok (.iconst 1, 1) := by decide +kernel
theorem dX12_allOf_84 : decode cX12_allOf 84 = .ok (.iload 4, 2) := by decide +kernel
theorem dX12_allOf_86 : decode cX12_allOf 86 = .ok (.ishl, 1) := by decide +kernel
theorem dX12_allOf_87 : decode cX12_allOf 87 = .ok (.goto 4, 3) := by decide +kernel
theorem dX12_allOf_90 : decode cX12_allOf 90 = .ok (.iconst 0, 1) := by decide +kernel
theorem dX12_allOf_91 : decode cX12_allOf 91 = .ok (.ior, 1) := by decide +kernel
theorem dX12_allOf_92 : decode cX12_allOf 92 = .ok (.istore_n 3, 1) := by decide +kernel
theorem dX12_allOf_93 : decode cX12_allOf 93 = .ok (.iinc 4 1, 3) := by decide +kernel
theorem dX12_allOf_96 : decode cX12_allOf 96 = .ok (.goto (-91), 3) := by decide +kernel
theorem dX12_allOf_99 : decode cX12_allOf 99 = .ok (.iload_n 3, 1) := by decide +kernel
theorem dX12_allOf_100 : decode cX12_allOf 100 = .ok (.ireturn, 1) := by decide +kernel
theorem dX12_bySize_0 : decode cX12_bySize 0 = .ok (.iconst 0, 1) := by decide +kernel
theorem dX12_bySize_1 : decode cX12_bySize 1 = .ok (.istore_n 3, 1) := by decide +kernel
theorem dX12_bySize_2 : decode cX12_bySize 2 = .ok (.iconst 0, 1) := by decide +kernel
theorem dX12_bySize_3 : decode cX12_bySize 3 = .ok (.istore 4, 2) := by decide +kernel
theorem dX12_bySize_5 : decode cX12_bySize 5 = .ok (.iconst 0, 1) := by decide +kernel
theorem dX12_bySize_6 : decode cX12_bySize 6 = .ok (.istore 5, 2) := by decide +kernel
theorem dX12_bySize_8 : decode cX12_bySize 8 = .ok (.iload 5, 2) := by decide +kernel
theorem dX12_bySize_10 : decode cX12_bySize 10 = .ok (.aload_n 0, 1) := by decide +kernel
theorem dX12_bySize_11 : decode cX12_bySize 11 = .ok (.getfield 98, 3) := by decide +kernel
theorem dX12_bySize_14 : decode cX12_bySize 14 = .ok (.if_icmp .ge 115, 3) := by decide +kernel
theorem dX12_bySize_17 : decode cX12_bySize 17 = .ok (.iload_n 1, 1) := by decide +kernel
theorem dX12_bySize_18 : decode cX12_bySize 18 = .ok (.iload 5, 2) := by decide +kernel
theorem dX12_bySize_20 : decode cX12_bySize 20 = .ok (.ishr, 1) := by decide +kernel
theorem dX12_bySize_21 : decode cX12_bySize 21 = .ok (.iconst 1, 1) := by decide +kernel
theorem dX12_bySize_22 : decode cX12_bySize 22 = .ok (.iand, 1) := by decide +kernel
theorem dX12_bySize_23 : decode cX12_bySize 23 = .ok (.iconst 1, 1) := by decide +kernel
theorem dX12_bySize_24 : decode cX12_bySize 24 = .ok (.if_icmp .ne 99, 3) := by decide +kernel
theorem dX12_bySize_27 : decode cX12_bySize 27 = .ok (.iload_n 3, 1) := by decide +kernel
theorem dX12_bySize_28 : decode cX12_bySize 28 = .ok (.ifCond .eq 34, 3) := by decide +kernel
theorem dX12_bySize_31 : decode cX12_bySize 31 = .ok (.iload_n 2, 1) := by decide +kernel
theorem dX12_bySize_32 : decode cX12_bySize 32 = .ok (.ifCond .eq 18, 3) := by decide +kernel
theorem dX12_bySize_35 : decode cX12_bySize 35 = .ok (.aload_n 0, 1) := by decide +kernel
theorem dX12_bySize_36 : decode cX12_bySize 36 = .ok (.getfield 16, 3) := by decide +kernel
theorem dX12_bySize_39 : decode cX12_bySize 39 = .ok (.iload 5, 2) := by decide +kernel
theorem dX12_bySize_41 : decode cX12_bySize 41 = .ok (.iaload, 1) := by decide +kernel
theorem dX12_bySize_42 : decode cX12_bySize 42 = .ok (.iload 4, 2) := by decide +kernel
theorem dX12_bySize_44 : decode cX12_bySize 44 = .ok (.if_icmp .le 22, 3) := by decide +kernel
theorem dX12_bySize_47 : decode cX12_bySize 47 = .ok (.goto 15, 3) := by decide +kernel
theorem dX12_bySize_50 : decode cX12_bySize 50 = .ok (.aload_n 0, 1) := by decide +kernel
theorem dX12_bySize_51 : decode cX12_bySize 51 = .ok (.getfield 16, 3) := by decide +kernel
theorem dX12_bySize_54 : decode cX12_bySize 54 = .ok (.iload 5, 2) := by decide +kernel
theorem dX12_bySize_56 : decode cX12_bySize 56 = .ok (.iaload, 1) := by decide +kernel
theorem dX12_bySize_57 : decode cX12_bySize 57 = .ok (.iload 4, 2) := by decide +kernel
theorem dX12_bySize_59 : decode cX12_bySize 59 = .ok (.if_icmp .ge 7, 3) := by decide +kernel
theorem dX12_bySize_62 : decode cX12_bySize 62 = .ok (.iconst 1, 1) := by decide +kernel
theorem dX12_bySize_63 : decode cX12_bySize 63 = .ok (.goto 4, 3) := by decide +kernel
theorem dX12_bySize_66 : decode cX12_bySize 66 = .ok (.iconst 0, 1) := by decide +kernel
theorem dX12_bySize_67 : decode cX12_bySize 67 = .ok (.istore 6, 2) := by decide +kernel
theorem dX12_bySize_69 : decode cX12_bySize 69 = .ok (.iload 6, 2) := by decide +kernel
theorem dX12_bySize_71 : decode cX12_bySize 71 = .ok (.ifCond .eq 10, 3) := by decide +kernel
theorem dX12_bySize_74 : decode cX12_bySize 74 = .ok (.iconst 1, 1) := by decide +kernel
theorem dX12_bySize_75 : decode cX12_bySize 75 = .ok (.iload 5, 2) := by decide +kernel
theorem dX12_bySize_77 : decode cX12_bySize 77 = .ok (.ishl, 1) := by decide +kernel
theorem dX12_bySize_78 : decode cX12_bySize 78 = .ok (.goto 25, 3) := by decide +kernel
theorem dX12_bySize_81 : decode cX12_bySize 81 = .ok (.aload_n 0, 1) := by decide +kernel
theorem dX12_bySize_82 : decode cX12_bySize 82 = .ok (.getfield 16, 3) := by decide +kernel
theorem dX12_bySize_85 : decode cX12_bySize 85 = .ok (.iload 5, 2) := by decide +kernel
theorem dX12_bySize_87 : decode cX12_bySize 87 = .ok (.iaload, 1) := by decide +kernel
theorem dX12_bySize_88 : decode cX12_bySize 88 = .ok (.iload 4, 2) := by decide +kernel
theorem dX12_bySize_90 : decode cX12_bySize 90 = .ok (.if_icmp .ne 12, 3) := by decide +kernel
theorem dX12_bySize_93 : decode cX12_bySize 93 = .ok (.iload_n 3, 1) := by decide +kernel
theorem dX12_bySize_94 : decode cX12_bySize 94 = .ok (.iconst 1, 1) := by decide +kernel
theorem dX12_bySize_95 : decode cX12_bySize 95 = .ok (.iload 5, 2) := by decide +kernel
theorem dX12_bySize_97 : decode cX12_bySize 97 = .ok (.ishl, 1) := by decide +kernel
theorem dX12_bySize_98 : decode cX12_bySize 98 = .ok (.ior, 1) := by decide +kernel
theorem dX12_bySize_99 : decode cX12_bySize 99 = .ok (.goto 4, 3) := by decide +kernel
theorem dX12_bySize_102 : decode cX12_bySize 102 = .ok (.iload_n 3, 1) := by decide +kernel
theorem dX12_bySize_103 : decode cX12_bySize 103 = .ok (.istore_n 3, 1) := by decide +kernel
theorem dX12_bySize_104 : decode cX12_bySize 104 = .ok (.iload 6, 2) := by decide +kernel
theorem dX12_bySize_106 : decode cX12_bySize 106 = .ok (.ifCond .eq 13, 3) := by decide +kernel
theorem dX12_bySize_109 : decode cX12_bySize 109 = .ok (.aload_n 0, 1) := by decide +kernel
theorem dX12_bySize_110 : decode cX12_bySize 110 = .ok (.getfield 16, 3) := by decide +kernel
theorem dX12_bySize_113 : decode cX12_bySize 113 = .ok (.iload 5, 2) := by decide +kernel
theorem dX12_bySize_115 : decode cX12_bySize 115 = .ok (.iaload, 1) := by decide +kernel
theorem dX12_bySize_116 : decode cX12_bySize 116 = .ok (.goto 5, 3) := by decide +kernel
theorem dX12_bySize_119 : decode cX12_bySize 119 = .ok (.iload 4, 2) := by decide +kernel
theorem dX12_bySize_121 : decode cX12_bySize 121 = .ok (.istore 4, 2) := by decide +kernel
theorem dX12_bySize_123 : decode cX12_bySize 123 = .ok (.iinc 5 1, 3) := by decide +kernel
theorem dX12_bySize_126 : decode cX12_bySize 126 = .ok (.goto (-118), 3) := by decide +kernel
theorem dX12_bySize_129 : decode cX12_bySize 129 = .ok (.iload_n 3, 1) := by decide +kernel
theorem dX12_bySize_130 : decode cX12_bySize 130 = .ok (.ireturn, 1) := by decide +kernel
theorem dX12_leftmost_0 : decode cX12_leftmost 0 = .ok (.iconst (-1), 1) := by decide +kernel
theorem dX12_leftmost_1 : decode cX12_leftmost 1 = .ok (.istore_n 2, 1) := by decide +kernel
theorem dX12_leftmost_2 : decode cX12_leftmost 2 = .ok (.iconst 0, 1) := by decide +kernel
theorem dX12_leftmost_3 : decode cX12_leftmost 3 = .ok (.istore_n 3, 1) := by decide +kernel
theorem dX12_leftmost_4 : decode cX12_leftmost 4 = .ok (.iload_n 3, 1) := by decide +kernel
theorem dX12_leftmost_5 : decode cX12_leftmost 5 = .ok (.aload_n 0, 1) := by decide +kernel
theorem dX12_leftmost_6 : decode cX12_leftmost 6 = .ok (.getfield 98, 3) := by decide +kernel
theorem dX12_leftmost_9 : decode cX12_leftmost 9 = .ok (.if_icmp .ge 44, 3) := by decide +kernel
theorem dX12_leftmost_12 : decode cX12_leftmost 12 = .ok (.iload_n 1, 1) := by decide +kernel
theorem dX12_leftmost_13 : decode cX12_leftmost 13 = .ok (.iload_n 3, 1) := by decide +kernel
theorem dX12_leftmost_14 : decode cX12_leftmost 14 = .ok (.ishr, 1) := by decide +kernel
theorem dX12_leftmost_15 : decode cX12_leftmost 15 = .ok (.iconst 1, 1) := by decide +kernel
theorem dX12_leftmost_16 : decode cX12_leftmost 16 = .ok (.iand, 1) := by decide +kernel
theorem dX12_leftmost_17 : decode cX12_leftmost 17 = .ok (.iconst 1, 1) := by decide +kernel
theorem dX12_leftmost_18 : decode cX12_leftmost 18 = .ok (.if_icmp .ne 27, 3) := by decide +kernel
theorem dX12_leftmost_21 : decode cX12_leftmost 21 = .ok (.iload_n 2, 1) := by decide +kernel
theorem dX12_leftmost_22 : decode cX12_leftmost 22 = .ok (.iconst (-1), 1) := by decide +kernel
theorem dX12_leftmost_23 : decode cX12_leftmost 23 = .ok (.if_icmp .eq 18, 3) := by decide +kernel
theorem dX12_leftmost_26 : decode cX12_leftmost 26 = .ok (.aload_n 0, 1) := by decide +kernel
theorem dX12_leftmost_27 : decode cX12_leftmost 27 = .ok (.getfield 22, 3) := by decide +kernel
theorem dX12_leftmost_30 : decode cX12_leftmost 30 = .ok (.iload_n 3, 1) := by decide +kernel
theorem dX12_leftmost_31 : decode cX12_leftmost 31 = .ok (.iaload, 1) := by decide +kernel
theorem dX12_leftmost_32 : decode cX12_leftmost 32 = .ok (.aload_n 0, 1) := by decide +kernel
theorem dX12_leftmost_33 : decode cX12_leftmost 33 = .ok (.getfield 22, 3) := by decide +kernel
theorem dX12_leftmost_36 : decode cX12_leftmost 36 = .ok (.iload_n 2, 1) := by decide +kernel
theorem dX12_leftmost_37 : decode cX12_leftmost 37 = .ok (.iaload, 1) := by decide +kernel
theorem dX12_leftmost_38 : decode cX12_leftmost 38 = .ok (.if_icmp .ge 7, 3) := by decide +kernel
theorem dX12_leftmost_41 : decode cX12_leftmost 41 = .ok (.iload_n 3, 1) := by decide +kernel
theorem dX12_leftmost_42 : decode cX12_leftmost 42 = .ok (.goto 4, 3) := by decide +kernel
theorem dX12_leftmost_45 : decode cX12_leftmost 45 = .ok (.iload_n 2, 1) := by decide +kernel
theorem dX12_leftmost_46 : decode cX12_leftmost 46 = .ok (.istore_n 2, 1) := by decide +kernel
theorem dX12_leftmost_47 : decode cX12_leftmost 47 = .ok (.iinc 3 1, 3) := by decide +kernel
theorem dX12_leftmost_50 : decode cX12_leftmost 50 = .ok (.goto (-46), 3) := by decide +kernel
theorem dX12_leftmost_53 : decode cX12_leftmost 53 = .ok (.iload_n 2, 1) := by decide +kernel
theorem dX12_leftmost_54 : decode cX12_leftmost 54 = .ok (.iconst (-1), 1) := by decide +kernel
theorem dX12_leftmost_55 : decode cX12_leftmost 55 = .ok (.if_icmp .ne 7, 3) := by decide +kernel
theorem dX12_leftmost_58 : decode cX12_leftmost 58 = .ok (.iconst 0, 1) := by decide +kernel
theorem dX12_leftmost_59 : decode cX12_leftmost 59 = .ok (.goto 6, 3) := by decide +kernel
theorem dX12_leftmost_62 : decode cX12_leftmost 62 = .ok (.iconst 1, 1) := by decide +kernel
theorem dX12_leftmost_63 : decode cX12_leftmost 63 = .ok (.iload_n 2, 1) := by decide +kernel
theorem dX12_leftmost_64 : decode cX12_leftmost 64 = .ok (.ishl, 1) := by decide +kernel
theorem dX12_leftmost_65 : decode cX12_leftmost 65 = .ok (.ireturn, 1) := by decide +kernel
theorem dX12_made_0 : decode cX12_made 0 = .ok (.iconst 0, 1) := by decide +kernel
theorem dX12_made_1 : decode cX12_made 1 = .ok (.istore 4, 2) := by decide +kernel
theorem dX12_made_3 : decode cX12_made 3 = .ok (.iload_n 1, 1) := by decide +kernel
theorem dX12_made_4 : decode cX12_made 4 = .ok (.tableswitch 204 4 13 #[56, 65, 69, 73, 79, 124, 170, 177, 184, 190], 56) := by decide +kernel
theorem dX12_made_60 : decode cX12_made 60 = .ok (.aload_n 0, 1) := by decide +kernel
theorem dX12_made_61 : decode cX12_made 61 = .ok (.invokevirtual 204, 3) := by decide +kernel
theorem dX12_made_64 : decode cX12_made 64 = .ok (.iload_n 2, 1) := by decide +kernel
theorem dX12_made_65 : decode cX12_made 65 = .ok (.iconst (-1), 1) := by decide +kernel
theorem dX12_made_66 : decode cX12_made 66 = .ok (.ixor, 1) := by decide +kernel
theorem dX12_made_67 : decode cX12_made 67 = .ok (.iand, 1) := by decide +kernel
theorem dX12_made_68 : decode cX12_made 68 = .ok (.ireturn, 1) := by decide +kernel
theorem dX12_made_69 : decode cX12_made 69 = .ok (.iload_n 2, 1) := by decide +kernel
theorem dX12_made_70 : decode cX12_made 70 = .ok (.iload_n 3, 1) := by decide +kernel
theorem dX12_made_71 : decode cX12_made 71 = .ok (.iand, 1) := by decide +kernel
theorem dX12_made_72 : decode cX12_made 72 = .ok (.ireturn, 1) := by decide +kernel
theorem dX12_made_73 : decode cX12_made 73 = .ok (.iload_n 2, 1) := by decide +kernel
theorem dX12_made_74 : decode cX12_made 74 = .ok (.iload_n 3, 1) := by decide +kernel
theorem dX12_made_75 : decode cX12_made 75 = .ok (.ior, 1) := by decide +kernel
theorem dX12_made_76 : decode cX12_made 76 = .ok (.ireturn, 1) := by decide +kernel
theorem dX12_made_77 : decode cX12_made 77 = .ok (.iload_n 2, 1) := by decide +kernel
theorem dX12_made_78 : decode cX12_made 78 = .ok (.iload_n 3, 1) := by decide +kernel
theorem dX12_made_79 : decode cX12_made 79 = .ok (.iconst (-1), 1) := by decide +kernel
theorem dX12_made_80 : decode cX12_made 80 = .ok (.ixor, 1) := by decide +kernel
theorem dX12_made_81 : decode cX12_made 81 = .ok (.iand, 1) := by decide +kernel
theorem dX12_made_82 : decode cX12_made 82 = .ok (.ireturn, 1) := by decide +kernel
theorem dX12_made_83 : decode cX12_made 83 = .ok (.iconst 0, 1) := by decide +kernel
theorem dX12_made_84 : decode cX12_made 84 = .ok (.istore 5, 2) := by decide +kernel
theorem dX12_made_86 : decode cX12_made 86 = .ok (.iload 5, 2) := by decide +kernel
theorem dX12_made_88 : decode cX12_made 88 = .ok (.aload_n 0, 1) := by decide +kernel
theorem dX12_made_89 : decode cX12_made 89 = .ok (.getfield 98, 3) := by decide +kernel
theorem dX12_made_92 : decode cX12_made 92 = .ok (.if_icmp .ge 33, 3) := by decide +kernel
theorem dX12_made_95 : decode cX12_made 95 = .ok (.iload 4, 2) := by decide +kernel
theorem dX12_made_97 : decode cX12_made 97 = .ok (.aload_n 0, 1) := by decide +kernel
theorem dX12_made_98 : decode cX12_made 98 = .ok (.iload 5, 2) := by decide +kernel
theorem dX12_made_100 : decode cX12_made 100 = .ok (.invokevirtual 118, 3) := by decide +kernel
theorem dX12_made_103 : decode cX12_made 103 = .ok (.iload_n 2, 1) := by decide +kernel
theorem dX12_made_104 : decode cX12_made 104 = .ok (.iand, 1) := by decide +kernel
theorem dX12_made_105 : decode cX12_made 105 = .ok (.ifCond .eq 10, 3) := by decide +kernel
theorem dX12_made_108 : decode cX12_made 108 = .ok (.iconst 1, 1) := by decide +kernel
theorem dX12_made_109 : decode cX12_made 109 = .ok (.iload 5, 2) := by decide +kernel
theorem dX12_made_111 : decode cX12_made 111 = .ok (.ishl, 1) := by decide +kernel
theorem dX12_made_112 : decode cX12_made 112 = .ok (.goto 4, 3) := by decide +kernel
theorem dX12_made_115 : decode cX12_made 115 = .ok (.iconst 0, 1) := by decide +kernel
theorem dX12_made_116 : decode cX12_made 116 = .ok (.ior, 1) := by decide +kernel
theorem dX12_made_117 : decode cX12_made 117 = .ok (.istore 4, 2) := by decide +kernel
theorem dX12_made_119 : decode cX12_made 119 = .ok (.iinc 5 1, 3) := by decide +kernel
theorem dX12_made_122 : decode cX12_made 122 = .ok (.goto (-36), 3) := by decide +kernel
theorem dX12_made_125 : decode cX12_made 125 = .ok (.iload 4, 2) := by decide +kernel
theorem dX12_made_127 : decode cX12_made 127 = .ok (.ireturn, 1) := by decide +kernel
theorem dX12_made_128 : decode cX12_made 128 = .ok (.iconst 0, 1) := by decide +kernel
theorem dX12_made_129 : decode cX12_made 129 = .ok (.istore 5, 2) := by decide +kernel
theorem dX12_made_131 : decode cX12_made 131 = .ok (.iload 5, 2) := by decide +kernel
theorem dX12_made_133 : decode cX12_made 133 = .ok (.aload_n 0, 1) := by decide +kernel
theorem dX12_made_134 : decode cX12_made 134 = .ok (.getfield 98, 3) := by decide +kernel
theorem dX12_made_137 : decode cX12_made 137 = .ok (.if_icmp .ge 34, 3) := by decide +kernel
theorem dX12_made_140 : decode cX12_made 140 = .ok (.iload 4, 2) := by decide +kernel
theorem dX12_made_142 : decode cX12_made 142 = .ok (.aload_n 0, 1) := by decide +kernel
theorem dX12_made_143 : decode cX12_made 143 = .ok (.getfield 25, 3) := by decide +kernel
theorem dX12_made_146 : decode cX12_made 146 = .ok (.iload 5, 2) := by decide +kernel
theorem dX12_made_148 : decode cX12_made 148 = .ok (.iaload, 1) := by decide +kernel
theorem dX12_made_149 : decode cX12_made 149 = .ok (.iload_n 2, 1) := by decide +kernel
theorem dX12_made_150 : decode cX12_made 150 = .ok (.iand, 1) := by decide +kernel
theorem dX12_made_151 : decode cX12_made 151 = .ok (.ifCond .eq 10, 3) := by decide +kernel
theorem dX12_made_154 : decode cX12_made 154 = .ok (.iconst 1, 1) := by decide +kernel
theorem dX12_made_155 : decode cX12_made 155 = .ok (.iload 5, 2) := by decide +kernel
theorem dX12_made_157 : decode cX12_made 157 = .ok (.ishl, 1) := by decide +kernel
theorem dX12_made_158 : decode cX12_made 158 = .ok (.goto 4, 3) := by decide +kernel
theorem dX12_made_161 : decode cX12_made 161 = .ok (.iconst 0, 1) := by decide +kernel
theorem dX12_made_162 : decode cX12_made 162 = .ok (.ior, 1) := by decide +kernel
theorem dX12_made_163 : decode cX12_made 163 = .ok (.istore 4, 2) := by decide +kernel
theorem dX12_made_165 : decode cX12_made 165 = .ok (.iinc 5 1, 3) := by decide +kernel
theorem dX12_made_168 : decode cX12_made 168 = .ok (.goto (-37), 3) := by decide +kernel
theorem dX12_made_171 : decode cX12_made 171 = .ok (.iload 4, 2) := by decide +kernel
theorem dX12_made_173 : decode cX12_made 173 = .ok (.ireturn, 1) := by decide +kernel
theorem dX12_made_174 : decode cX12_made 174 = .ok (.aload_n 0, 1) := by decide +kernel
theorem dX12_made_175 : decode cX12_made 175 = .ok (.iload_n 2, 1) := by decide +kernel
theorem dX12_made_176 : decode cX12_made 176 = .ok (.iconst 1, 1) := by decide +kernel
theorem dX12_made_177 : decode cX12_made 177 = .ok (.invokevirtual 207, 3) := by decide +kernel
theorem dX12_made_180 : decode cX12_made 180 = .ok (.ireturn, 1) := by decide +kernel
theorem dX12_made_181 : decode cX12_made 181 = .ok (.aload_n 0, 1) := by decide +kernel
theorem dX12_made_182 : decode cX12_made 182 = .ok (.iload_n 2, 1) := by decide +kernel
theorem dX12_made_183 : decode cX12_made 183 = .ok (.iconst 0, 1) := by decide +kernel
theorem dX12_made_184 : decode cX12_made 184 = .ok (.invokevirtual 207, 3) := by decide +kernel
theorem dX12_made_187 : decode cX12_made 187 = .ok (.ireturn, 1) := by decide +kernel
theorem dX12_made_188 : decode cX12_made 188 = .ok (.aload_n 0, 1) := by decide +kernel
theorem dX12_made_189 : decode cX12_made 189 = .ok (.iload_n 2, 1) := by decide +kernel
theorem dX12_made_190 : decode cX12_made 190 = .ok (.invokevirtual 211, 3) := by decide +kernel
theorem dX12_made_193 : decode cX12_made 193 = .ok (.ireturn, 1) := by decide +kernel
theorem dX12_made_194 : decode cX12_made 194 = .ok (.aload_n 0, 1) := by decide +kernel
theorem dX12_made_195 : decode cX12_made 195 = .ok (.iload_n 2, 1) := by decide +kernel
theorem dX12_made_196 : decode cX12_made 196 = .ok (.aload_n 0, 1) := by decide +kernel
theorem dX12_made_197 : decode cX12_made 197 = .ok (.iload_n 2, 1) := by decide +kernel
theorem dX12_made_198 : decode cX12_made 198 = .ok (.invokevirtual 211, 3) := by decide +kernel
theorem dX12_made_201 : decode cX12_made 201 = .ok (.iconst (-1), 1) := by decide +kernel
theorem dX12_made_202 : decode cX12_made 202 = .ok (.ixor, 1) := by decide +kernel
theorem dX12_made_203 : decode cX12_made 203 = .ok (.iand, 1) := by decide +kernel
theorem dX12_made_204 : decode cX12_made 204 = .ok (.invokevirtual 211, 3) := by decide +kernel
theorem dX12_made_207 : decode cX12_made 207 = .ok (.ireturn, 1) := by decide +kernel
theorem dX12_made_208 : decode cX12_made 208 = .ok (.iload_n 2, 1) := by decide +kernel
theorem dX12_made_209 : decode cX12_made 209 = .ok (.invokestatic 110, 3) := by decide +kernel
theorem dX12_made_212 : decode cX12_made 212 = .ok (.iconst 1, 1) := by decide +kernel
theorem dX12_made_213 : decode cX12_made 213 = .ok (.if_icmp .ne 7, 3) := by decide +kernel
theorem dX12_made_216 : decode cX12_made 216 = .ok (.iload_n 2, 1) := by decide +kernel
theorem dX12_made_217 : decode cX12_made 217 = .ok (.goto 4, 3) := by decide +kernel
theorem dX12_made_220 : decode cX12_made 220 = .ok (.iconst 0, 1) := by decide +kernel
theorem dX12_made_221 : decode cX12_made 221 = .ok (.ireturn, 1) := by decide +kernel
theorem dX12_meaning_0 : decode cX12_meaning 0 = .ok (.iconst 0, 1) := by decide +kernel
theorem dX12_meaning_1 : decode cX12_meaning 1 = .ok (.istore_n 1, 1) := by decide +kernel
theorem dX12_meaning_2 : decode cX12_meaning 2 = .ok (.aload_n 0, 1) := by decide +kernel
theorem dX12_meaning_3 : decode cX12_meaning 3 = .ok (.getfield 185, 3) := by decide +kernel
theorem dX12_meaning_6 : decode cX12_meaning 6 = .ok (.iconst 1, 1) := by decide +kernel
theorem dX12_meaning_7 : decode cX12_meaning 7 = .ok (.isub, 1) := by decide +kernel
theorem dX12_meaning_8 : decode cX12_meaning 8 = .ok (.istore_n 2, 1) := by decide +kernel
theorem dX12_meaning_9 : decode cX12_meaning 9 = .ok (.iload_n 2, 1) := by decide +kernel
theorem dX12_meaning_10 : decode cX12_meaning 10 = .ok (.ifCond .lt 106, 3) := by decide +kernel
theorem dX12_meaning_13 : decode cX12_meaning 13 = .ok (.aload_n 0, 1) := by decide +kernel
theorem dX12_meaning_14 : decode cX12_meaning 14 = .ok (.getfield 34, 3) := by decide +kernel
theorem dX12_meaning_17 : decode cX12_meaning 17 = .ok (.iload_n 2, 1) := by decide +kernel
theorem dX12_meaning_18 : decode cX12_meaning 18 = .ok (.iaload, 1) := by decide +kernel
theorem dX12_meaning_19 : decode cX12_meaning 19 = .ok (.invokestatic 198, 3) := by decide +kernel
theorem dX12_meaning_22 : decode cX12_meaning 22 = .ok (.istore_n 3, 1) := by decide +kernel
theorem dX12_meaning_23 : decode cX12_meaning 23 = .ok (.iload_n 3, 1) := by decide +kernel
theorem dX12_meaning_24 : decode cX12_meaning 24 = .ok (.ifCond .le 14, 3) := by decide +kernel
theorem dX12_meaning_27 : decode cX12_meaning 27 = .ok (.aload_n 0, 1) := by decide +kernel
theorem dX12_meaning_28 : decode cX12_meaning 28 = .ok (.getfield 40, 3) := by decide +kernel
theorem dX12_meaning_31 : decode cX12_meaning 31 = .ok (.iload_n 1, 1) := by decide +kernel
theorem dX12_meaning_32 : decode cX12_meaning 32 = .ok (.iconst 1, 1) := by decide +kernel
theorem dX12_meaning_33 : decode cX12_meaning 33 = .ok (.isub, 1) := by decide +kernel
theorem dX12_meaning_34 : decode cX12_meaning 34 = .ok (.iaload, 1) := by decide +kernel
theorem dX12_meaning_35 : decode cX12_meaning 35 = .ok (.goto 4, 3) := by decide +kernel
theorem dX12_meaning_38 : decode cX12_meaning 38 = .ok (.iconst 0, 1) := by decide +kernel
theorem dX12_meaning_39 : decode cX12_meaning 39 = .ok (.istore 4, 2) := by decide +kernel
theorem dX12_meaning_41 : decode cX12_meaning 41 = .ok (.iload_n 3, 1) := by decide +kernel
theorem dX12_meaning_42 : decode cX12_meaning 42 = .ok (.iconst 1, 1) := by decide +kernel
theorem dX12_meaning_43 : decode cX12_meaning 43 = .ok (.if_icmp .le 14, 3) := by decide +kernel
theorem dX12_meaning_46 : decode cX12_meaning 46 = .ok (.aload_n 0, 1) := by decide +kernel
theorem dX12_meaning_47 : decode cX12_meaning 47 = .ok (.getfield 40, 3) := by decide +kernel
theorem dX12_meaning_50 : decode cX12_meaning 50 = .ok (.iload_n 1, 1) := by decide +kernel
theorem dX12_meaning_51 : decode cX12_meaning 51 = .ok (.iconst 2, 1) := by decide +kernel
theorem dX12_meaning_52 : decode cX12_meaning 52 = .ok (.isub, 1) := by decide +kernel
theorem dX12_meaning_53 : decode cX12_meaning 53 = .ok (.iaload, 1) := by decide +kernel
theorem dX12_meaning_54 : decode cX12_meaning 54 = .ok (.goto 4, 3) := by decide +kernel
theorem dX12_meaning_57 : decode cX12_meaning 57 = .ok (.iconst 0, 1) := by decide +kernel
theorem dX12_meaning_58 : decode cX12_meaning 58 = .ok (.istore 5, 2) := by decide +kernel
theorem dX12_meaning_60 : decode cX12_meaning 60 = .ok (.iload_n 1, 1) := by decide +kernel
theorem dX12_meaning_61 : decode cX12_meaning 61 = .ok (.iload_n 3, 1) := by decide +kernel
theorem dX12_meaning_62 : decode cX12_meaning 62 = .ok (.isub, 1) := by decide +kernel
theorem dX12_meaning_63 : decode cX12_meaning 63 = .ok (.istore_n 1, 1) := by decide +kernel
theorem dX12_meaning_64 : decode cX12_meaning 64 = .ok (.aload_n 0, 1) := by decide +kernel
theorem dX12_meaning_65 : decode cX12_meaning 65 = .ok (.getfield 40, 3) := by decide +kernel
theorem dX12_meaning_68 : decode cX12_meaning 68 = .ok (.iload_n 1, 1) := by decide +kernel
theorem dX12_meaning_69 : decode cX12_meaning 69 = .ok (.iload_n 3, 1) := by decide +kernel
theorem dX12_meaning_70 : decode cX12_meaning 70 = .ok (.ifCond .ne 22, 3) := by decide +kernel
theorem dX12_meaning_73 : decode cX12_meaning 73 = .ok (.aload_n 0, 1) := by decide +kernel
theorem dX12_meaning_74 : decode cX12_meaning 74 = .ok (.aload_n 0, 1) := by decide +kernel
theorem dX12_meaning_75 : decode cX12_meaning 75 = .ok (.getfield 34, 3) := by decide +kernel
theorem dX12_meaning_78 : decode cX12_meaning 78 = .ok (.iload_n 2, 1) := by decide +kernel
theorem dX12_meaning_79 : decode cX12_meaning 79 = .ok (.iaload, 1) := by decide +kernel
theorem dX12_meaning_80 : decode cX12_meaning 80 = .ok (.aload_n 0, 1) := by decide +kernel
theorem dX12_meaning_81 : decode cX12_meaning 81 = .ok (.getfield 37, 3) := by decide +kernel
theorem dX12_meaning_84 : decode cX12_meaning 84 = .ok (.iload_n 2, 1) := by decide +kernel
theorem dX12_meaning_85 : decode cX12_meaning 85 = .ok (.iaload, 1) := by decide +kernel
theorem dX12_meaning_86 : decode cX12_meaning 86 = .ok (.invokevirtual 214, 3) := by decide +kernel
theorem dX12_meaning_89 : decode cX12_meaning 89 = .ok (.goto 17, 3) := by decide +kernel
theorem dX12_meaning_92 : decode cX12_meaning 92 = .ok (.aload_n 0, 1) := by decide +kernel
theorem dX12_meaning_93 : decode cX12_meaning 93 = .ok (.aload_n 0, 1) := by decide +kernel
theorem dX12_meaning_94 : decode cX12_meaning 94 = .ok (.getfield 34, 3) := by decide +kernel
theorem dX12_meaning_97 : decode cX12_meaning 97 = .ok (.iload_n 2, 1) := by decide +kernel
theorem dX12_meaning_98 : decode cX12_meaning 98 = .ok (.iaload, 1) := by decide +kernel
theorem dX12_meaning_99 : decode cX12_meaning 99 = .ok (.iload 4, 2) := by decide +kernel
theorem dX12_meaning_101 : decode cX12_meaning 101 = .ok (.iload 5, 2) := by decide +kernel
theorem dX12_meaning_103 : decode cX12_meaning 103 = .ok (.invokevirtual 218, 3) := by decide +kernel
theorem dX12_meaning_106 : decode cX12_meaning 106 = .ok (.iastore, 1) := by decide +kernel
theorem dX12_meaning_107 : decode cX12_meaning 107 = .ok (.iinc 1 1, 3) := by decide +kernel
theorem dX12_meaning_110 : decode cX12_meaning 110 = .ok (.iinc 2 (-1), 3) := by decide +kernel
theorem dX12_meaning_113 : decode cX12_meaning 113 = .ok (.goto (-104), 3) := by decide +kernel
theorem dX12_meaning_116 : decode cX12_meaning 116 = .ok (.aload_n 0, 1) := by decide +kernel
theorem dX12_meaning_117 : decode cX12_meaning 117 = .ok (.getfield 40, 3) := by decide +kernel
theorem dX12_meaning_120 : decode cX12_meaning 120 = .ok (.iconst 0, 1) := by decide +kernel
theorem dX12_meaning_121 : decode cX12_meaning 121 = .ok (.iaload, 1) := by decide +kernel
theorem dX12_meaning_122 : decode cX12_meaning 122 = .ok (.ireturn, 1) := by decide +kernel
theorem dX12_costTold_0 : decode cX12_costTold 0 = .ok (.iconst 0, 1) := by decide +kernel
theorem dX12_costTold_1 : decode cX12_costTold 1 = .ok (.istore_n 1, 1) := by decide +kernel
theorem dX12_costTold_2 : decode cX12_costTold 2 = .ok (.iconst 0, 1) := by decide +kernel
theorem dX12_costTold_3 : decode cX12_costTold 3 = .ok (.istore_n 2, 1) := by decide +kernel
theorem dX12_costTold_4 : decode cX12_costTold 4 = .ok (.iload_n 2, 1) := by decide +kernel
theorem dX12_costTold_5 : decode cX12_costTold 5 = .ok (.aload_n 0, 1) := by decide +kernel
theorem dX12_costTold_6 : decode cX12_costTold 6 = .ok (.getfield 185, 3) := by decide +kernel
theorem dX12_costTold_9 : decode cX12_costTold 9 = .ok (.if_icmp .ge 23, 3) := by decide +kernel
theorem dX12_costTold_12 : decode cX12_costTold 12 = .ok (.iload_n 1, 1) := by decide +kernel
theorem dX12_costTold_13 : decode cX12_costTold 13 = .ok (.aload_n 0, 1) := by decide +kernel
theorem dX12_costTold_14 : decode cX12_costTold 14 = .ok (.getfield 28, 3) := by decide +kernel
theorem dX12_costTold_17 : decode cX12_costTold 17 = .ok (.aload_n 0, 1) := by decide +kernel
theorem dX12_costTold_18 : decode cX12_costTold 18 = .ok (.getfield 34, 3) := by decide +kernel
theorem dX12_costTold_21 : decode cX12_costTold 21 = .ok (.iload_n 2, 1) := by decide +kernel
theorem dX12_costTold_22 : decode cX12_costTold 22 = .ok (.iaload, 1) := by decide +kernel
theorem dX12_costTold_23 : decode cX12_costTold 23 = .ok (.iaload, 1) := by decide +kernel
theorem dX12_costTold_24 : decode cX12_costTold 24 = .ok (.iadd, 1) := by decide +kernel
theorem dX12_costTold_25 : decode cX12_costTold 25 = .ok (.istore_n 1, 1) := by decide +kernel
theorem dX12_costTold_26 : decode cX12_costTold 26 = .ok (.iinc 2 1, 3) := by decide +kernel
theorem dX12_costTold_29 : decode cX12_costTold 29 = .ok (.goto (-25), 3) := by decide +kernel
theorem dX12_costTold_32 : decode cX12_costTold 32 = .ok (.iload_n 1, 1) := by decide +kernel
theorem dX12_costTold_33 : decode cX12_costTold 33 = .ok (.ireturn, 1) := by decide +kernel
theorem dX12_says_0 : decode cX12_says 0 = .ok (.iload_n 1, 1) := by decide +kernel
theorem dX12_says_1 : decode cX12_says 1 = .ok (.iconst 0, 1) := by decide +kernel
theorem dX12_says_2 : decode cX12_says 2 = .ok (.iconst 2, 1) := by decide +kernel
theorem dX12_says_3 : decode cX12_says 3 = .ok (.invokestatic 102, 3) := by decide +kernel
theorem dX12_says_6 : decode cX12_says 6 = .ok (.ifCond .ne 6, 3) := by decide +kernel
theorem dX12_says_9 : decode cX12_says 9 = .ok (.bipush (-3), 2) := by decide +kernel
theorem dX12_says_11 : decode cX12_says 11 = .ok (.ireturn, 1) := by decide +kernel
theorem dX12_says_12 : decode cX12_says 12 = .ok (.aload_n 0, 1) := by decide +kernel
theorem dX12_says_13 : decode cX12_says 13 = .ok (.invokevirtual 201, 3) := by decide +kernel
theorem dX12_says_16 : decode cX12_says 16 = .ok (.ifCond .ne 6, 3) := by decide +kernel
theorem dX12_says_19 : decode cX12_says 19 = .ok (.bipush (-4), 2) := by decide +kernel
theorem dX12_says_21 : decode cX12_says 21 = .ok (.ireturn, 1) := by decide +kernel
theorem dX12_says_22 : decode cX12_says 22 = .ok (.iload_n 1, 1) := by decide +kernel
theorem dX12_says_23 : decode cX12_says 23 = .ok (.ifCond .ne 10, 3) := by decide +kernel
theorem dX12_says_26 : decode cX12_says 26 = .ok (.aload_n 0, 1) := by decide +kernel
theorem dX12_says_27 : decode cX12_says 27 = .ok (.invokevirtual 222, 3) := by decide +kernel
theorem dX12_says_30 : decode cX12_says 30 = .ok (.goto 19, 3) := by decide +kernel
theorem dX12_says_33 : decode cX12_says 33 = .ok (.iload_n 1, 1) := by decide +kernel
theorem dX12_says_34 : decode cX12_says 34 = .ok (.iconst 1, 1) := by decide +kernel
theorem dX12_says_35 : decode cX12_says 35 = .ok (.if_icmp .ne 10, 3) := by decide +kernel
theorem dX12_says_38 : decode cX12_says 38 = .ok (.aload_n 0, 1) := by decide +kernel
theorem dX12_says_39 : decode cX12_says 39 = .ok (.invokevirtual 225, 3) := by decide +kernel
theorem dX12_says_42 : decode cX12_says 42 = .ok (.goto 7, 3) := by decide +kernel
theorem dX12_says_45 : decode cX12_says 45 = .ok (.aload_n 0, 1) := by decide +kernel
theorem dX12_says_46 : decode cX12_says 46 = .ok (.getfield 185, 3) := by decide +kernel
theorem dX12_says_49 : decode cX12_says 49 = .ok (.ireturn, 1) := by decide +kernel
theorem dX12_keep_0 : decode cX12_keep 0 = .ok (.aload_n 0, 1) := by decide +kernel
theorem dX12_keep_1 : decode cX12_keep 1 = .ok (.invokevirtual 201, 3) := by decide +kernel
theorem dX12_keep_4 : decode cX12_keep 4 = .ok (.ifCond .ne 6, 3) := by decide +kernel
theorem dX12_keep_7 : decode cX12_keep 7 = .ok (.bipush (-4), 2) := by decide +kernel
theorem dX12_keep_9 : decode cX12_keep 9 = .ok (.ireturn, 1) := by decide +kernel
theorem dX12_keep_10 : decode cX12_keep 10 = .ok (.aload_n 0, 1) := by decide +kernel
theorem dX12_keep_11 : decode cX12_keep 11 = .ok (.getfield 228, 3) := by decide +kernel
theorem dX12_keep_14 : decode cX12_keep 14 = .ok (.bipush 8, 2) := by decide +kernel
theorem dX12_keep_16 : decode cX12_keep 16 = .ok (.if_icmp .ne 6, 3) := by decide +kernel
theorem dX12_keep_19 : decode cX12_keep 19 = .ok (.bipush (-5), 2) := by decide +kernel
theorem dX12_keep_21 : decode cX12_keep 21 = .ok (.ireturn, 1) := by decide +kernel
theorem dX12_keep_22 : decode cX12_keep 22 = .ok (.aload_n 0, 1) := by decide +kernel
theorem dX12_keep_23 : decode cX12_keep 23 = .ok (.getfield 43, 3) := by decide +kernel
theorem dX12_keep_26 : decode cX12_keep 26 = .ok (.aload_n 0, 1) := by decide +kernel
theorem dX12_keep_27 : decode cX12_keep 27 = .ok (.getfield 228, 3) := by decide +kernel
theorem dX12_keep_30 : decode cX12_keep 30 = .ok (.aload_n 0, 1) := by decide +kernel
theorem dX12_keep_31 : decode cX12_keep 31 = .ok (.getfield 185, 3) := by decide +kernel
theorem dX12_keep_34 : decode cX12_keep 34 = .ok (.iastore, 1) := by decide +kernel
theorem dX12_keep_35 : decode cX12_keep 35 = .ok (.iconst 0, 1) := by decide +kernel
theorem dX12_keep_36 : decode cX12_keep 36 = .ok (.istore_n 1, 1) := by decide +kernel
theorem dX12_keep_37 : decode cX12_keep 37 = .ok (.iload_n 1, 1) := by decide +kernel
theorem dX12_keep_38 : decode cX12_keep 38 = .ok (.aload_n 0, 1) := by decide +kernel
theorem dX12_keep_39 : decode cX12_keep 39 = .ok (.getfield 185, 3) := by decide +kernel
theorem dX12_keep_42 : decode cX12_keep 42 = .ok (.if_icmp .ge 49, 3) := by decide +kernel
theorem dX12_keep_45 : decode cX12_keep 45 = .ok (.aload_n 0, 1) := by decide +kernel
theorem dX12_keep_46 : decode cX12_keep 46 = .ok (.getfield 46, 3) := by decide +kernel
theorem dX12_keep_49 : decode cX12_keep 49 = .ok (.bipush 24, 2) := by decide +kernel
theorem dX12_keep_51 : decode cX12_keep 51 = .ok (.aload_n 0, 1) := by decide +kernel
theorem dX12_keep_52 : decode cX12_keep 52 = .ok (.getfield 228, 3) := by decide +kernel
theorem dX12_keep_55 : decode cX12_keep 55 = .ok (.imul, 1) := by decide +kernel
theorem dX12_keep_56 : decode cX12_keep 56 = .ok (.iload_n 1, 1) := by decide +kernel
theorem dX12_keep_57 : decode cX12_keep 57 = .ok (.iadd, 1) := by decide +kernel
theorem dX12_keep_58 : decode cX12_keep 58 = .ok (.aload_n 0, 1) := by decide +kernel
theorem dX12_keep_59 : decode cX12_keep 59 = .ok (.getfield 34, 3) := by decide +kernel
theorem dX12_keep_62 : decode cX12_keep 62 = .ok (.iload_n 1, 1) := by decide +kernel
theorem dX12_keep_63 : decode cX12_keep 63 = .ok (.iaload, 1) := by decide +kernel
theorem dX12_keep_64 : decode cX12_keep 64 = .ok (.iastore, 1) := by decide +kernel
theorem dX12_keep_65 : decode cX12_keep 65 = .ok (.aload_n 0, 1) := by decide +kernel
theorem dX12_keep_66 : decode cX12_keep 66 = .ok (.getfield 49, 3) := by decide +kernel
theorem dX12_keep_69 : decode cX12_keep 69 = .ok (.bipush 24, 2) := by decide +kernel
theorem dX12_keep_71 : decode cX12_keep 71 = .ok (.aload_n 0, 1) := by decide +kernel
theorem dX12_keep_72 : decode cX12_keep 72 = .ok (.getfield 228, 3) := by decide +kernel
theorem dX12_keep_75 : decode cX12_keep 75 = .ok (.imul, 1) := by decide +kernel
theorem dX12_keep_76 : decode cX12_keep 76 = .ok (.iload_n 1, 1) := by decide +kernel
theorem dX12_keep_77 : decode cX12_keep 77 = .ok (.iadd, 1) := by decide +kernel
theorem dX12_keep_78 : decode cX12_keep 78 = .ok (.aload_n 0, 1) := by decide +kernel
theorem dX12_keep_79 : decode cX12_keep 79 = .ok (.getfield 37, 3) := by decide +kernel
theorem dX12_keep_82 : decode cX12_keep 82 = .ok (.iload_n 1, 1) := by decide +kernel
theorem dX12_keep_83 : decode cX12_keep 83 = .ok (.iaload, 1) := by decide +kernel
theorem dX12_keep_84 : decode cX12_keep 84 = .ok (.iastore, 1) := by decide +kernel
theorem dX12_keep_85 : decode cX12_keep 85 = .ok (.iinc 1 1, 3) := by decide +kernel
theorem dX12_keep_88 : decode cX12_keep 88 = .ok (.goto (-51), 3) := by decide +kernel
theorem dX12_keep_91 : decode cX12_keep 91 = .ok (.aload_n 0, 1) := by decide +kernel
theorem dX12_keep_92 : decode cX12_keep 92 = .ok (.dup, 1) := by decide +kernel
theorem dX12_keep_93 : decode cX12_keep 93 = .ok (.getfield 228, 3) := by decide +kernel
theorem dX12_keep_96 : decode cX12_keep 96 = .ok (.iconst 1, 1) := by decide +kernel
theorem dX12_keep_97 : decode cX12_keep 97 = .ok (.iadd, 1) := by decide +kernel
theorem dX12_keep_98 : decode cX12_keep 98 = .ok (.putfield 228, 3) := by decide +kernel
theorem dX12_keep_101 : decode cX12_keep 101 = .ok (.aload_n 0, 1) := by decide +kernel
theorem dX12_keep_102 : decode cX12_keep 102 = .ok (.iconst 0, 1) := by decide +kernel
theorem dX12_keep_103 : decode cX12_keep 103 = .ok (.putfield 121, 3) := by decide +kernel
theorem dX12_keep_106 : decode cX12_keep 106 = .ok (.aload_n 0, 1) := by decide +kernel
theorem dX12_keep_107 : decode cX12_keep 107 = .ok (.getfield 228, 3) := by decide +kernel
theorem dX12_keep_110 : decode cX12_keep 110 = .ok (.iconst 1, 1) := by decide +kernel
theorem dX12_keep_111 : decode cX12_keep 111 = .ok (.isub, 1) := by decide +kernel
theorem dX12_keep_112 : decode cX12_keep 112 = .ok (.ireturn, 1) := by decide +kernel
theorem dX12_recall_0 : decode cX12_recall 0 = .ok (.aload_n 0, 1) := by decide +kernel
theorem dX12_recall_1 : decode cX12_recall 1 = .ok (.aload_n 0, 1) := by decide +kernel
theorem dX12_recall_2 : decode cX12_recall 2 = .ok (.getfield 43, 3) := by decide +kernel
theorem dX12_recall_5 : decode cX12_recall 5 = .ok (.iload_n 1, 1) := by decide +kernel
theorem dX12_recall_6 : decode cX12_recall 6 = .ok (.iaload, 1) := by decide +kernel
theorem dX12_recall_7 : decode cX12_recall 7 = .ok (.putfield 185, 3) := by decide +kernel
theorem dX12_recall_10 : decode cX12_recall 10 = .ok (.iconst 0, 1) := by decide +kernel
theorem dX12_recall_11 : decode cX12_recall 11 = .ok (.istore_n 2, 1) := by decide +kernel
theorem dX12_recall_12 : decode cX12_recall 12 = .ok (.iload_n 2, 1) := by decide +kernel
theorem dX12_recall_13 : decode cX12_recall 13 = .ok (.aload_n 0, 1) := by decide +kernel
theorem dX12_recall_14 : decode cX12_recall 14 = .ok (.getfield 185, 3) := by decide +kernel
theorem dX12_recall_17 : decode cX12_recall 17 = .ok (.if_icmp .ge 43, 3) := by decide +kernel
theorem dX12_recall_20 : decode cX12_recall 20 = .ok (.aload_n 0, 1) := by decide +kernel
theorem dX12_recall_21 : decode cX12_recall 21 = .ok (.getfield 34, 3) := by decide +kernel
theorem dX12_recall_24 : decode cX12_recall 24 = .ok (.iload_n 2, 1) := by decide +kernel
theorem dX12_recall_25 : decode cX12_recall 25 = .ok (.aload_n 0, 1) := by decide +kernel
theorem dX12_recall_26 : decode cX12_recall 26 = .ok (.getfield 46, 3) := by decide +kernel
theorem dX12_recall_29 : decode cX12_recall 29 = .ok (.bipush 24, 2) := by decide +kernel
theorem dX12_recall_31 : decode cX12_recall 31 = .ok (.iload_n 1, 1) := by decide +kernel
theorem dX12_recall_32 : decode cX12_recall 32 = .ok (.imul, 1) := by decide +kernel
theorem dX12_recall_33 : decode cX12_recall 33 = .ok (.iload_n 2, 1) := by decide +kernel
theorem dX12_recall_34 : decode cX12_recall 34 = .ok (.iadd, 1) := by decide +kernel
theorem dX12_recall_35 : decode cX12_recall 35 = .ok (.iaload, 1) := by decide +kernel
theorem dX12_recall_36 : decode cX12_recall 36 = .ok (.iastore, 1) := by decide +kernel
theorem dX12_recall_37 : decode cX12_recall 37 = .ok (.aload_n 0, 1) := by decide +kernel
theorem dX12_recall_38 : decode cX12_recall 38 = .ok (.getfield 37, 3) := by decide +kernel
theorem dX12_recall_41 : decode cX12_recall 41 = .ok (.iload_n 2, 1) := by decide +kernel
theorem dX12_recall_42 : decode cX12_recall 42 = .ok (.aload_n 0, 1) := by decide +kernel
theorem dX12_recall_43 : decode cX12_recall 43 = .ok (.getfield 49, 3) := by decide +kernel
theorem dX12_recall_46 : decode cX12_recall 46 = .ok (.bipush 24, 2) := by decide +kernel
theorem dX12_recall_48 : decode cX12_recall 48 = .ok (.iload_n 1, 1) := by decide +kernel
theorem dX12_recall_49 : decode cX12_recall 49 = .ok (.imul, 1) := by decide +kernel
theorem dX12_recall_50 : decode cX12_recall 50 = .ok (.iload_n 2, 1) := by decide +kernel
theorem dX12_recall_51 : decode cX12_recall 51 = .ok (.iadd, 1) := by decide +kernel
theorem dX12_recall_52 : decode cX12_recall 52 = .ok (.iaload, 1) := by decide +kernel
theorem dX12_recall_53 : decode cX12_recall 53 = .ok (.iastore, 1) := by decide +kernel
theorem dX12_recall_54 : decode cX12_recall 54 = .ok (.iinc 2 1, 3) := by decide +kernel
theorem dX12_recall_57 : decode cX12_recall 57 = .ok (.goto (-45), 3) := by decide +kernel
theorem dX12_recall_60 : decode cX12_recall 60 = .ok (.return_, 1) := by decide +kernel
theorem dX12_kept_0 : decode cX12_kept 0 = .ok (.iload_n 1, 1) := by decide +kernel
theorem dX12_kept_1 : decode cX12_kept 1 = .ok (.iconst 0, 1) := by decide +kernel
theorem dX12_kept_2 : decode cX12_kept 2 = .ok (.aload_n 0, 1) := by decide +kernel
theorem dX12_kept_3 : decode cX12_kept 3 = .ok (.getfield 228, 3) := by decide +kernel
theorem dX12_kept_6 : decode cX12_kept 6 = .ok (.iconst 1, 1) := by decide +kernel
theorem dX12_kept_7 : decode cX12_kept 7 = .ok (.isub, 1) := by decide +kernel
theorem dX12_kept_8 : decode cX12_kept 8 = .ok (.invokestatic 102, 3) := by decide +kernel
theorem dX12_kept_11 : decode cX12_kept 11 = .ok (.ifCond .ne 6, 3) := by decide +kernel
theorem dX12_kept_14 : decode cX12_kept 14 = .ok (.bipush (-2), 2) := by decide +kernel
theorem dX12_kept_16 : decode cX12_kept 16 = .ok (.ireturn, 1) := by decide +kernel
theorem dX12_kept_17 : decode cX12_kept 17 = .ok (.iload_n 2, 1) := by decide +kernel
theorem dX12_kept_18 : decode cX12_kept 18 = .ok (.iconst 0, 1) := by decide +kernel
theorem dX12_kept_19 : decode cX12_kept 19 = .ok (.iconst 2, 1) := by decide +kernel
theorem dX12_kept_20 : decode cX12_kept 20 = .ok (.invokestatic 102, 3) := by decide +kernel
theorem dX12_kept_23 : decode cX12_kept 23 = .ok (.ifCond .ne 6, 3) := by decide +kernel
theorem dX12_kept_26 : decode cX12_kept 26 = .ok (.bipush (-3), 2) := by decide +kernel
theorem dX12_kept_28 : decode cX12_kept 28 = .ok (.ireturn, 1) := by decide +kernel
theorem dX12_kept_29 : decode cX12_kept 29 = .ok (.aload_n 0, 1) := by decide +kernel
theorem dX12_kept_30 : decode cX12_kept 30 = .ok (.iload_n 1, 1) := by decide +kernel
theorem dX12_kept_31 : decode cX12_kept 31 = .ok (.invokevirtual 231, 3) := by decide +kernel
theorem dX12_kept_34 : decode cX12_kept 34 = .ok (.iload_n 2, 1) := by decide +kernel
theorem dX12_kept_35 : decode cX12_kept 35 = .ok (.ifCond .ne 10, 3) := by decide +kernel
theorem dX12_kept_38 : decode cX12_kept 38 = .ok (.aload_n 0, 1) := by decide +kernel
theorem dX12_kept_39 : decode cX12_kept 39 = .ok (.invokevirtual 222, 3) := by decide +kernel
theorem dX12_kept_42 : decode cX12_kept 42 = .ok (.goto 19, 3) := by decide +kernel
theorem dX12_kept_45 : decode cX12_kept 45 = .ok (.iload_n 2, 1) := by decide +kernel
theorem dX12_kept_46 : decode cX12_kept 46 = .ok (.iconst 1, 1) := by decide +kernel
theorem dX12_kept_47 : decode cX12_kept 47 = .ok (.if_icmp .ne 10, 3) := by decide +kernel
theorem dX12_kept_50 : decode cX12_kept 50 = .ok (.aload_n 0, 1) := by decide +kernel
theorem dX12_kept_51 : decode cX12_kept 51 = .ok (.invokevirtual 225, 3) := by decide +kernel
theorem dX12_kept_54 : decode cX12_kept 54 = .ok (.goto 7, 3) := by decide +kernel
theorem dX12_kept_57 : decode cX12_kept 57 = .ok (.aload_n 0, 1) := by decide +kernel
theorem dX12_kept_58 : decode cX12_kept 58 = .ok (.getfield 185, 3) := by decide +kernel
theorem dX12_kept_61 : decode cX12_kept 61 = .ok (.ireturn, 1) := by decide +kernel
theorem dX12_offer_0 : decode cX12_offer 0 = .ok (.iload_n 2, 1) := by decide +kernel
theorem dX12_offer_1 : decode cX12_offer 1 = .ok (.sipush 1000, 3) := by decide +kernel
theorem dX12_offer_4 : decode cX12_offer 4 = .ok (.if_icmp .ge 27, 3) := by decide +kernel
theorem dX12_offer_7 : decode cX12_offer 7 = .ok (.aload_n 0, 1) := by decide +kernel
theorem dX12_offer_8 : decode cX12_offer 8 = .ok (.getfield 52, 3) := by decide +kernel
theorem dX12_offer_11 : decode cX12_offer 11 = .ok (.iload_n 1, 1) := by decide +kernel
theorem dX12_offer_12 : decode cX12_offer 12 = .ok (.iaload, 1) := by decide +kernel
theorem dX12_offer_13 : decode cX12_offer 13 = .ok (.iconst (-1), 1) := by decide +kernel
theorem dX12_offer_14 : decode cX12_offer 14 = .ok (.if_icmp .eq 13, 3) := by decide +kernel
theorem dX12_offer_17 : decode cX12_offer 17 = .ok (.iload_n 2, 1) := by decide +kernel
theorem dX12_offer_18 : decode cX12_offer 18 = .ok (.aload_n 0, 1) := by decide +kernel
theorem dX12_offer_19 : decode cX12_offer 19 = .ok (.getfield 52, 3) := by decide +kernel
theorem dX12_offer_22 : decode cX12_offer 22 = .ok (.iload_n 1, 1) := by decide +kernel
theorem dX12_offer_23 : decode cX12_offer 23 = .ok (.iaload, 1) := by decide +kernel
theorem dX12_offer_24 : decode cX12_offer 24 = .ok (.if_icmp .ge 7, 3) := by decide +kernel
theorem dX12_offer_27 : decode cX12_offer 27 = .ok (.iconst 1, 1) := by decide +kernel
theorem dX12_offer_28 : decode cX12_offer 28 = .ok (.goto 4, 3) := by decide +kernel
theorem dX12_offer_31 : decode cX12_offer 31 = .ok (.iconst 0, 1) := by decide +kernel
theorem dX12_offer_32 : decode cX12_offer 32 = .ok (.istore 6, 2) := by decide +kernel
theorem dX12_offer_34 : decode cX12_offer 34 = .ok (.iload 6, 2) := by decide +kernel
theorem dX12_offer_36 : decode cX12_offer 36 = .ok (.ifCond .ne 102, 3) := by decide +kernel
theorem dX12_offer_39 : decode cX12_offer 39 = .ok (.iload_n 2, 1) := by decide +kernel
theorem dX12_offer_40 : decode cX12_offer 40 = .ok (.aload_n 0, 1) := by decide +kernel
theorem dX12_offer_41 : decode cX12_offer 41 = .ok (.getfield 52, 3) := by decide +kernel
theorem dX12_offer_44 : decode cX12_offer 44 = .ok (.iload_n 1, 1) := by decide +kernel
theorem dX12_offer_45 : decode cX12_offer 45 = .ok (.iaload, 1) := by decide +kernel
theorem dX12_offer_46 : decode cX12_offer 46 = .ok (.if_icmp .ne 92, 3) := by decide +kernel
theorem dX12_offer_49 : decode cX12_offer 49 = .ok (.aload_n 0, 1) := by decide +kernel
theorem dX12_offer_50 : decode cX12_offer 50 = .ok (.getfield 70, 3) := by decide +kernel
theorem dX12_offer_53 : decode cX12_offer 53 = .ok (.iload_n 1, 1) := by decide +kernel
theorem dX12_offer_54 : decode cX12_offer 54 = .ok (.baload, 1) := by decide +kernel
theorem dX12_offer_55 : decode cX12_offer 55 = .ok (.ifCond .ne 83, 3) := by decide +kernel
theorem dX12_offer_58 : decode cX12_offer 58 = .ok (.iload_n 3, 1) := by decide +kernel
theorem dX12_offer_59 : decode cX12_offer 59 = .ok (.aload_n 0, 1) := by decide +kernel
theorem dX12_offer_60 : decode cX12_offer 60 = .ok (.getfield 55, 3) := by decide +kernel
theorem dX12_offer_63 : decode cX12_offer 63 = .ok (.iload_n 1, 1) := by decide +kernel
theorem dX12_offer_64 : decode cX12_offer 64 = .ok (.iaload, 1) := by decide +kernel
theorem dX12_offer_65 : decode cX12_offer 65 = .ok (.if_icmp .lt 66, 3) := by decide +kernel
theorem dX12_offer_68 : decode cX12_offer 68 = .ok (.iload_n 3, 1) := by decide +kernel
theorem dX12_offer_69 : decode cX12_offer 69 = .ok (.aload_n 0, 1) := by decide +kernel
theorem dX12_offer_70 : decode cX12_offer 70 = .ok (.getfield 55, 3) := by decide +kernel
theorem dX12_offer_73 : decode cX12_offer 73 = .ok (.iload_n 1, 1) := by decide +kernel
theorem dX12_offer_74 : decode cX12_offer 74 = .ok (.iaload, 1) := by decide +kernel
theorem dX12_offer_75 : decode cX12_offer 75 = .ok (.if_icmp .ne 60, 3) := by decide +kernel
theorem dX12_offer_78 : decode cX12_offer 78 = .ok (.aload_n 0, 1) := by decide +kernel
theorem dX12_offer_79 : decode cX12_offer 79 = .ok (.getfield 67, 3) := by decide +kernel
theorem dX12_offer_82 : decode cX12_offer 82 = .ok (.iload 4, 2) := by decide +kernel
theorem dX12_offer_84 : decode cX12_offer 84 = .ok (.iaload, 1) := by decide +kernel
theorem dX12_offer_85 : decode cX12_offer 85 = .ok (.aload_n 0, 1) := by decide +kernel
theorem dX12_offer_86 : decode cX12_offer 86 = .ok (.getfield 67, 3) := by decide +kernel
theorem dX12_offer_89 : decode cX12_offer 89 = .ok (.aload_n 0, 1) := by decide +kernel
theorem dX12_offer_90 : decode cX12_offer 90 = .ok (.getfield 58, 3) := by decide +kernel
theorem dX12_offer_93 : decode cX12_offer 93 = .ok (.iload_n 1, 1) := by decide +kernel
theorem dX12_offer_94 : decode cX12_offer 94 = .ok (.iaload, 1) := by decide +kernel
theorem dX12_offer_95 : decode cX12_offer 95 = .ok (.iaload, 1) := by decide +kernel
theorem dX12_offer_96 : decode cX12_offer 96 = .ok (.if_icmp .lt 35, 3) := by decide +kernel
theorem dX12_offer_99 : decode cX12_offer 99 = .ok (.iload 4, 2) := by decide +kernel
theorem dX12_offer_101 : decode cX12_offer 101 = .ok (.aload_n 0, 1) := by decide +kernel
theorem dX12_offer_102 : decode cX12_offer 102 = .ok (.getfield 58, 3) := by decide +kernel
theorem dX12_offer_105 : decode cX12_offer 105 = .ok (.iload_n 1, 1) := by decide +kernel
theorem dX12_offer_106 : decode cX12_offer 106 = .ok (.iaload, 1) := by decide +kernel
theorem dX12_offer_107 : decode cX12_offer 107 = .ok (.if_icmp .ne 28, 3) := by decide +kernel
theorem dX12_offer_110 : decode cX12_offer 110 = .ok (.aload_n 0, 1) := by decide +kernel
theorem dX12_offer_111 : decode cX12_offer 111 = .ok (.getfield 67, 3) := by decide +kernel
theorem dX12_offer_114 : decode cX12_offer 114 = .ok (.iload 5, 2) := by decide +kernel
theorem dX12_offer_116 : decode cX12_offer 116 = .ok (.iaload, 1) := by decide +kernel
theorem dX12_offer_117 : decode cX12_offer 117 = .ok (.aload_n 0, 1) := by decide +kernel
theorem dX12_offer_118 : decode cX12_offer 118 = .ok (.getfield 67, 3) := by decide +kernel
theorem dX12_offer_121 : decode cX12_offer 121 = .ok (.aload_n 0, 1) := by decide +kernel
theorem dX12_offer_122 : decode cX12_offer 122 = .ok (.getfield 61, 3) := by decide +kernel
theorem dX12_offer_125 : decode cX12_offer 125 = .ok (.iload_n 1, 1) := by decide +kernel
theorem dX12_offer_126 : decode cX12_offer 126 = .ok (.iaload, 1) := by decide +kernel
theorem dX12_offer_127 : decode cX12_offer 127 = .ok (.iaload, 1) := by decide +kernel
theorem dX12_offer_128 : decode cX12_offer 128 = .ok (.if_icmp .ge 7, 3) := by decide +kernel
theorem dX12_offer_131 : decode cX12_offer 131 = .ok (.iconst 1, 1) := by decide +kernel
theorem dX12_offer_132 : decode cX12_offer 132 = .ok (.goto 4, 3) := by decide +kernel
theorem dX12_offer_135 : decode cX12_offer 135 = .ok (.iconst 0, 1) := by decide +kernel
theorem dX12_offer_136 : decode cX12_offer 136 = .ok (.istore 6, 2) := by decide +kernel
theorem dX12_offer_138 : decode cX12_offer 138 = .ok (.iload 6, 2) := by decide +kernel
theorem dX12_offer_140 : decode cX12_offer 140 = .ok (.ifCond .eq 33, 3) := by decide +kernel
theorem dX12_offer_143 : decode cX12_offer 143 = .ok (.aload_n 0, 1) := by decide +kernel
theorem dX12_offer_144 : decode cX12_offer 144 = .ok (.getfield 52, 3) := by decide +kernel
theorem dX12_offer_147 : decode cX12_offer 147 = .ok (.iload_n 1, 1) := by decide +kernel
theorem dX12_offer_148 : decode cX12_offer 148 = .ok (.iload_n 2, 1) := by decide +kernel
theorem dX12_offer_149 : decode cX12_offer 149 = .ok (.iastore, 1) := by decide +kernel
theorem dX12_offer_150 : decode cX12_offer 150 = .ok (.aload_n 0, 1) := by decide +kernel
theorem dX12_offer_151 : decode cX12_offer 151 = .ok (.getfield 55, 3) := by decide +kernel
theorem dX12_offer_154 : decode cX12_offer 154 = .ok (.iload_n 1, 1) := by decide +kernel
theorem dX12_offer_155 : decode cX12_offer 155 = .ok (.iload_n 3, 1) := by decide +kernel
theorem dX12_offer_156 : decode cX12_offer 156 = .ok (.iastore, 1) := by decide +kernel
theorem dX12_offer_157 : decode cX12_offer 157 = .ok (.aload_n 0, 1) := by decide +kernel
theorem dX12_offer_158 : decode cX12_offer 158 = .ok (.getfield 58, 3) := by decide +kernel
theorem dX12_offer_161 : decode cX12_offer 161 = .ok (.iload_n 1, 1) := by decide +kernel
theorem dX12_offer_162 : decode cX12_offer 162 = .ok (.iload 4, 2) := by decide +kernel
theorem dX12_offer_164 : decode cX12_offer 164 = .ok (.iastore, 1) := by decide +kernel
theorem dX12_offer_165 : decode cX12_offer 165 = .ok (.aload_n 0, 1) := by decide +kernel
theorem dX12_offer_166 : decode cX12_offer 166 = .ok (.getfield 61, 3) := by decide +kernel
theorem dX12_offer_169 : decode cX12_offer 169 = .ok (.iload_n 1, 1) := by decide +kernel
theorem dX12_offer_170 : decode cX12_offer 170 = .ok (.iload 5, 2) := by decide +kernel
theorem dX12_offer_172 : decode cX12_offer 172 = .ok (.iastore, 1) := by decide +kernel
theorem dX12_offer_173 : decode cX12_offer 173 = .ok (.return_, 1) := by decide +kernel
theorem dX12_isAhead_0 : decode cX12_isAhead 0 = .ok (.aload_n 0, 1) := by decide +kernel
theorem dX12_isAhead_1 : decode cX12_isAhead 1 = .ok (.getfield 55, 3) := by decide +kernel
theorem dX12_isAhead_4 : decode cX12_isAhead 4 = .ok (.iload_n 1, 1) := by decide +kernel
theorem dX12_isAhead_5 : decode cX12_isAhead 5 = .ok (.iaload, 1) := by decide +kernel
theorem dX12_isAhead_6 : decode cX12_isAhead 6 = .ok (.aload_n 0, 1) := by decide +kernel
theorem dX12_isAhead_7 : decode cX12_isAhead 7 = .ok (.getfield 55, 3) := by decide +kernel
theorem dX12_isAhead_10 : decode cX12_isAhead 10 = .ok (.iload_n 2, 1) := by decide +kernel
theorem dX12_isAhead_11 : decode cX12_isAhead 11 = .ok (.iaload, 1) := by decide +kernel
theorem dX12_isAhead_12 : decode cX12_isAhead 12 = .ok (.if_icmp .lt 83, 3) := by decide +kernel
theorem dX12_isAhead_15 : decode cX12_isAhead 15 = .ok (.aload_n 0, 1) := by decide +kernel
theorem dX12_isAhead_16 : decode cX12_isAhead 16 = .ok (.getfield 55, 3) := by decide +kernel
theorem dX12_isAhead_19 : decode cX12_isAhead 19 = .ok (.iload_n 1, 1) := by decide +kernel
theorem dX12_isAhead_20 : decode cX12_isAhead 20 = .ok (.iaload, 1) := by decide +kernel
theorem dX12_isAhead_21 : decode cX12_isAhead 21 = .ok (.aload_n 0, 1) := by decide +kernel
theorem dX12_isAhead_22 : decode cX12_isAhead 22 = .ok (.getfield 55, 3) := by decide +kernel
theorem dX12_isAhead_25 : decode cX12_isAhead 25 = .ok (.iload_n 2, 1) := by decide +kernel
theorem dX12_isAhead_26 : decode cX12_isAhead 26 = .ok (.iaload, 1) := by decide +kernel
theorem dX12_isAhead_27 : decode cX12_isAhead 27 = .ok (.if_icmp .ne 72, 3) := by decide +kernel
theorem dX12_isAhead_30 : decode cX12_isAhead 30 = .ok (.aload_n 0, 1) := by decide +kernel
theorem dX12_isAhead_31 : decode cX12_isAhead 31 = .ok (.getfield 67, 3) := by decide +kernel
theorem dX12_isAhead_34 : decode cX12_isAhead 34 = .ok (.aload_n 0, 1) := by decide +kernel
theorem dX12_isAhead_35 : decode cX12_isAhead 35 = .ok (.getfield 58, 3) := by decide +kernel
theorem dX12_isAhead_38 : decode cX12_isAhead 38 = .ok (.iload_n 1, 1) := by decide +kernel
theorem dX12_isAhead_39 : decode cX12_isAhead 39 = .ok (.iaload, 1) := by decide +kernel
theorem dX12_isAhead_40 : decode cX12_isAhead 40 = .ok (.iaload, 1) := by decide +kernel
theorem dX12_isAhead_41 : decode cX12_isAhead 41 = .ok (.aload_n 0, 1) := by decide +kernel
theorem dX12_isAhead_42 : decode cX12_isAhead 42 = .ok (.getfield 67, 3) := by decide +kernel
theorem dX12_isAhead_45 : decode cX12_isAhead 45 = .ok (.aload_n 0, 1) := by decide +kernel
theorem dX12_isAhead_46 : decode cX12_isAhead 46 = .ok (.getfield 58, 3) := by decide +kernel
theorem dX12_isAhead_49 : decode cX12_isAhead 49 = .ok (.iload_n 2, 1) := by decide +kernel
theorem dX12_isAhead_50 : decode cX12_isAhead 50 = .ok (.iaload, 1) := by decide +kernel
theorem dX12_isAhead_51 : decode cX12_isAhead 51 = .ok (.iaload, 1) := by decide +kernel
theorem dX12_isAhead_52 : decode cX12_isAhead 52 = .ok (.if_icmp .lt 43, 3) := by decide +kernel
theorem dX12_isAhead_55 : decode cX12_isAhead 55 = .ok (.aload_n 0, 1) := by decide +kernel
theorem dX12_isAhead_56 : decode cX12_isAhead 56 = .ok (.getfield 58, 3) := by decide +kernel
theorem dX12_isAhead_59 : decode cX12_isAhead 59 = .ok (.iload_n 1, 1) := by decide +kernel
theorem dX12_isAhead_60 : decode cX12_isAhead 60 = .ok (.iaload, 1) := by decide +kernel
theorem dX12_isAhead_61 : decode cX12_isAhead 61 = .ok (.aload_n 0, 1) := by decide +kernel
theorem dX12_isAhead_62 : decode cX12_isAhead 62 = .ok (.getfield 58, 3) := by decide +kernel
theorem dX12_isAhead_65 : decode cX12_isAhead 65 = .ok (.iload_n 2, 1) := by decide +kernel
theorem dX12_isAhead_66 : decode cX12_isAhead 66 = .ok (.iaload, 1) := by decide +kernel
theorem dX12_isAhead_67 : decode cX12_isAhead 67 = .ok (.if_icmp .ne 32, 3) := by decide +kernel
theorem dX12_isAhead_70 : decode cX12_isAhead 70 = .ok (.aload_n 0, 1) := by decide +kernel
theorem dX12_isAhead_71 : decode cX12_isAhead 71 = .ok (.getfield 67, 3) := by decide +kernel
theorem dX12_isAhead_74 : decode cX12_isAhead 74 = .ok (.aload_n 0, 1) := by decide +kernel
theorem dX12_isAhead_75 : decode cX12_isAhead 75 = .ok (.getfield 61, 3) := by decide +kernel
theorem dX12_isAhead_78 : decode cX12_isAhead 78 = .ok (.iload_n 1, 1) := by decide +kernel
theorem dX12_isAhead_79 : decode cX12_isAhead 79 = .ok (.iaload, 1) := by decide +kernel
theorem dX12_isAhead_80 : decode cX12_isAhead 80 = .ok (.iaload, 1) := by decide +kernel
theorem dX12_isAhead_81 : decode cX12_isAhead 81 = .ok (.aload_n 0, 1) := by decide +kernel
theorem dX12_isAhead_82 : decode cX12_isAhead 82 = .ok (.getfield 67, 3) := by decide +kernel
theorem dX12_isAhead_85 : decode cX12_isAhead 85 = .ok (.aload_n 0, 1) := by decide +kernel
theorem dX12_isAhead_86 : decode cX12_isAhead 86 = .ok (.getfield 61, 3) := by decide +kernel
theorem dX12_isAhead_89 : decode cX12_isAhead 89 = .ok (.iload_n 2, 1) := by decide +kernel
theorem dX12_isAhead_90 : decode cX12_isAhead 90 = .ok (.iaload, 1) := by decide +kernel
theorem dX12_isAhead_91 : decode cX12_isAhead 91 = .ok (.iaload, 1) := by decide +kernel
theorem dX12_isAhead_92 : decode cX12_isAhead 92 = .ok (.if_icmp .ge 7, 3) := by decide +kernel
theorem dX12_isAhead_95 : decode cX12_isAhead 95 = .ok (.iconst 1, 1) := by decide +kernel
theorem dX12_isAhead_96 : decode cX12_isAhead 96 = .ok (.goto 4, 3) := by decide +kernel
theorem dX12_isAhead_99 : decode cX12_isAhead 99 = .ok (.iconst 0, 1) := by decide +kernel
theorem dX12_isAhead_100 : decode cX12_isAhead 100 = .ok (.ireturn, 1) := by decide +kernel
theorem dX12_settle_0 : decode cX12_settle 0 = .ok (.iconst 0, 1) := by decide +kernel
theorem dX12_settle_1 : decode cX12_settle 1 = .ok (.istore_n 2, 1) := by decide +kernel
theorem dX12_settle_2 : decode cX12_settle 2 = .ok (.iconst 0, 1) := by decide +kernel
theorem dX12_settle_3 : decode cX12_settle 3 = .ok (.istore_n 3, 1) := by decide +kernel
theorem dX12_settle_4 : decode cX12_settle 4 = .ok (.iload_n 3, 1) := by decide +kernel
theorem dX12_settle_5 : decode cX12_settle 5 = .ok (.aload_n 0, 1) := by decide +kernel
theorem dX12_settle_6 : decode cX12_settle 6 = .ok (.invokevirtual 204, 3) := by decide +kernel
theorem dX12_settle_9 : decode cX12_settle 9 = .ok (.if_icmp .gt 35, 3) := by decide +kernel
theorem dX12_settle_12 : decode cX12_settle 12 = .ok (.iload_n 2, 1) := by decide +kernel
theorem dX12_settle_13 : decode cX12_settle 13 = .ok (.aload_n 0, 1) := by decide +kernel
theorem dX12_settle_14 : decode cX12_settle 14 = .ok (.getfield 70, 3) := by decide +kernel
theorem dX12_settle_17 : decode cX12_settle 17 = .ok (.iload_n 3, 1) := by decide +kernel
theorem dX12_settle_18 : decode cX12_settle 18 = .ok (.baload, 1) := by decide +kernel
theorem dX12_settle_19 : decode cX12_settle 19 = .ok (.ifCond .eq 16, 3) := by decide +kernel
theorem dX12_settle_22 : decode cX12_settle 22 = .ok (.aload_n 0, 1) := by decide +kernel
theorem dX12_settle_23 : decode cX12_settle 23 = .ok (.iload_n 3, 1) := by decide +kernel
theorem dX12_settle_24 : decode cX12_settle 24 = .ok (.iload_n 1, 1) := by decide +kernel
theorem dX12_settle_25 : decode cX12_settle 25 = .ok (.invokevirtual 235, 3) := by decide +kernel
theorem dX12_settle_28 : decode cX12_settle 28 = .ok (.ifCond .eq 7, 3) := by decide +kernel
theorem dX12_settle_31 : decode cX12_settle 31 = .ok (.iconst 1, 1) := by decide +kernel
theorem dX12_settle_32 : decode cX12_settle 32 = .ok (.goto 4, 3) := by decide +kernel
theorem dX12_settle_35 : decode cX12_settle 35 = .ok (.iconst 0, 1) := by decide +kernel
theorem dX12_settle_36 : decode cX12_settle 36 = .ok (.iadd, 1) := by decide +kernel
theorem dX12_settle_37 : decode cX12_settle 37 = .ok (.istore_n 2, 1) := by decide +kernel
theorem dX12_settle_38 : decode cX12_settle 38 = .ok (.iinc 3 1, 3) := by decide +kernel
theorem dX12_settle_41 : decode cX12_settle 41 = .ok (.goto (-37), 3) := by decide +kernel
theorem dX12_settle_44 : decode cX12_settle 44 = .ok (.iconst 0, 1) := by decide +kernel
theorem dX12_settle_45 : decode cX12_settle 45 = .ok (.istore_n 3, 1) := by decide +kernel
theorem dX12_settle_46 : decode cX12_settle 46 = .ok (.iload_n 3, 1) := by decide +kernel
theorem dX12_settle_47 : decode cX12_settle 47 = .ok (.aload_n 0, 1) := by decide +kernel
theorem dX12_settle_48 : decode cX12_settle 48 = .ok (.invokevirtual 204, 3) := by decide +kernel
theorem dX12_settle_51 : decode cX12_settle 51 = .ok (.if_icmp .gt 42, 3) := by decide +kernel
theorem dX12_settle_54 : decode cX12_settle 54 = .ok (.aload_n 0, 1) := by decide +kernel
theorem dX12_settle_55 : decode cX12_settle 55 = .ok (.getfield 67, 3) := by decide +kernel
theorem dX12_settle_58 : decode cX12_settle 58 = .ok (.iload_n 3, 1) := by decide +kernel
theorem dX12_settle_59 : decode cX12_settle 59 = .ok (.dup2, 1) := by decide +kernel
theorem dX12_settle_60 : decode cX12_settle 60 = .ok (.iaload, 1) := by decide +kernel
theorem dX12_settle_61 : decode cX12_settle 61 = .ok (.aload_n 0, 1) := by decide +kernel
theorem dX12_settle_62 : decode cX12_settle 62 = .ok (.getfield 70, 3) := by decide +kernel
theorem dX12_settle_65 : decode cX12_settle 65 = .ok (.iload_n 3, 1) := by decide +kernel
theorem dX12_settle_66 : decode cX12_settle 66 = .ok (.baload, 1) := by decide +kernel
theorem dX12_settle_67 : decode cX12_settle 67 = .ok (.ifCond .eq 17, 3) := by decide +kernel
theorem dX12_settle_70 : decode cX12_settle 70 = .ok (.aload_n 0, 1) := by decide +kernel
theorem dX12_settle_71 : decode cX12_settle 71 = .ok (.getfield 67, 3) := by decide +kernel
theorem dX12_settle_74 : decode cX12_settle 74 = .ok (.iload_n 3, 1) := by decide +kernel
theorem dX12_settle_75 : decode cX12_settle 75 = .ok (.iaload, 1) := by decide +kernel
theorem dX12_settle_76 : decode cX12_settle 76 = .ok (.iload_n 2, 1) := by decide +kernel
theorem dX12_settle_77 : decode cX12_settle 77 = .ok (.if_icmp .lt 7, 3) := by decide +kernel
theorem dX12_settle_80 : decode cX12_settle 80 = .ok (.iconst 1, 1) := by decide +kernel
theorem dX12_settle_81 : decode cX12_settle 81 = .ok (.goto 4, 3) := by decide +kernel
theorem dX12_settle_84 : decode cX12_settle 84 = .ok (.iconst 0, 1) := by decide +kernel
theorem dX12_settle_85 : decode cX12_settle 85 = .ok (.iadd, 1) := by decide +kernel
theorem dX12_settle_86 : decode cX12_settle 86 = .ok (.iastore, 1) := by decide +kernel
theorem dX12_settle_87 : decode cX12_settle 87 = .ok (.iinc 3 1, 3) := by decide +kernel
theorem dX12_settle_90 : decode cX12_settle 90 = .ok (.goto (-44), 3) := by decide +kernel
theorem dX12_settle_93 : decode cX12_settle 93 = .ok (.aload_n 0, 1) := by decide +kernel
theorem dX12_settle_94 : decode cX12_settle 94 = .ok (.getfield 67, 3) := by decide +kernel
theorem dX12_settle_97 : decode cX12_settle 97 = .ok (.iload_n 1, 1) := by decide +kernel
theorem dX12_settle_98 : decode cX12_settle 98 = .ok (.iload_n 2, 1) := by decide +kernel
theorem dX12_settle_99 : decode cX12_settle 99 = .ok (.iastore, 1) := by decide +kernel
theorem dX12_settle_100 : decode cX12_settle 100 = .ok (.aload_n 0, 1) := by decide +kernel
theorem dX12_settle_101 : decode cX12_settle 101 = .ok (.getfield 70, 3) := by decide +kernel
theorem dX12_settle_104 : decode cX12_settle 104 = .ok (.iload_n 1, 1) := by decide +kernel
theorem dX12_settle_105 : decode cX12_settle 105 = .ok (.iconst 1, 1) := by decide +kernel
theorem dX12_settle_106 : decode cX12_settle 106 = .ok (.bastore, 1) := by decide +kernel
theorem dX12_settle_107 : decode cX12_settle 107 = .ok (.aload_n 0, 1) := by decide +kernel
theorem dX12_settle_108 : decode cX12_settle 108 = .ok (.getfield 55, 3) := by decide +kernel
theorem dX12_settle_111 : decode cX12_settle 111 = .ok (.iload_n 1, 1) := by decide +kernel
theorem dX12_settle_112 : decode cX12_settle 112 = .ok (.iaload, 1) := by decide +kernel
theorem dX12_settle_113 : decode cX12_settle 113 = .ok (.bipush 8, 2) := by decide +kernel
theorem dX12_settle_115 : decode cX12_settle 115 = .ok (.idiv, 1) := by decide +kernel
theorem dX12_settle_116 : decode cX12_settle 116 = .ok (.istore_n 3, 1) := by decide +kernel
theorem dX12_settle_117 : decode cX12_settle 117 = .ok (.aload_n 0, 1) := by decide +kernel
theorem dX12_settle_118 : decode cX12_settle 118 = .ok (.getfield 64, 3) := by decide +kernel
theorem dX12_settle_121 : decode cX12_settle 121 = .ok (.iload_n 1, 1) := by decide +kernel
theorem dX12_settle_122 : decode cX12_settle 122 = .ok (.iconst 1, 1) := by decide +kernel
theorem dX12_settle_123 : decode cX12_settle 123 = .ok (.iload_n 3, 1) := by decide +kernel
theorem dX12_settle_124 : decode cX12_settle 124 = .ok (.invokestatic 198, 3) := by decide +kernel
theorem dX12_settle_127 : decode cX12_settle 127 = .ok (.ifCond .le 17, 3) := by decide +kernel
theorem dX12_settle_130 : decode cX12_settle 130 = .ok (.aload_n 0, 1) := by decide +kernel
theorem dX12_settle_131 : decode cX12_settle 131 = .ok (.getfield 64, 3) := by decide +kernel
theorem dX12_settle_134 : decode cX12_settle 134 = .ok (.aload_n 0, 1) := by decide +kernel
theorem dX12_settle_135 : decode cX12_settle 135 = .ok (.getfield 58, 3) := by decide +kernel
theorem dX12_settle_138 : decode cX12_settle 138 = .ok (.iload_n 1, 1) := by decide +kernel
theorem dX12_settle_139 : decode cX12_settle 139 = .ok (.iaload, 1) := by decide +kernel
theorem dX12_settle_140 : decode cX12_settle 140 = .ok (.iaload, 1) := by decide +kernel
theorem dX12_settle_141 : decode cX12_settle 141 = .ok (.goto 4, 3) := by decide +kernel
theorem dX12_settle_144 : decode cX12_settle 144 = .ok (.iconst 0, 1) := by decide +kernel
theorem dX12_settle_145 : decode cX12_settle 145 = .ok (.iadd, 1) := by decide +kernel
theorem dX12_settle_146 : decode cX12_settle 146 = .ok (.iload_n 3, 1) := by decide +kernel
theorem dX12_settle_147 : decode cX12_settle 147 = .ok (.invokestatic 198, 3) := by decide +kernel
theorem dX12_settle_150 : decode cX12_settle 150 = .ok (.iconst 1, 1) := by decide +kernel
theorem dX12_settle_151 : decode cX12_settle 151 = .ok (.if_icmp .le 17, 3) := by decide +kernel
theorem dX12_settle_154 : decode cX12_settle 154 = .ok (.aload_n 0, 1) := by decide +kernel
theorem dX12_settle_155 : decode cX12_settle 155 = .ok (.getfield 64, 3) := by decide +kernel
theorem dX12_settle_158 : decode cX12_settle 158 = .ok (.aload_n 0, 1) := by decide +kernel
theorem dX12_settle_159 : decode cX12_settle 159 = .ok (.getfield 61, 3) := by decide +kernel
theorem dX12_settle_162 : decode cX12_settle 162 = .ok (.iload_n 1, 1) := by decide +kernel
theorem dX12_settle_163 : decode cX12_settle 163 = .ok (.iaload, 1) := by decide +kernel
theorem dX12_settle_164 : decode cX12_settle 164 = .ok (.iaload, 1) := by decide +kernel
theorem dX12_settle_165 : decode cX12_settle 165 = .ok (.goto 4, 3) := by decide +kernel
theorem dX12_settle_168 : decode cX12_settle 168 = .ok (.iconst 0, 1) := by decide +kernel
theorem dX12_settle_169 : decode cX12_settle 169 = .ok (.iadd, 1) := by decide +kernel
theorem dX12_settle_170 : decode cX12_settle 170 = .ok (.iastore, 1) := by decide +kernel
theorem dX12_settle_171 : decode cX12_settle 171 = .ok (.return_, 1) := by decide +kernel
theorem dX12_search_0 : decode cX12_search 0 = .ok (.iconst 0, 1) := by decide +kernel
theorem dX12_search_1 : decode cX12_search 1 = .ok (.istore_n 2, 1) := by decide +kernel
theorem dX12_search_2 : decode cX12_search 2 = .ok (.iload_n 2, 1) := by decide +kernel
theorem dX12_search_3 : decode cX12_search 3 = .ok (.sipush 256, 3) := by decide +kernel
theorem dX12_search_6 : decode cX12_search 6 = .ok (.if_icmp .ge 30, 3) := by decide +kernel
theorem dX12_search_9 : decode cX12_search 9 = .ok (.aload_n 0, 1) := by decide +kernel
theorem dX12_search_10 : decode cX12_search 10 = .ok (.getfield 52, 3) := by decide +kernel
theorem dX12_search_13 : decode cX12_search 13 = .ok (.iload_n 2, 1) := by decide +kernel
theorem dX12_search_14 : decode cX12_search 14 = .ok (.iconst (-1), 1) := by decide +kernel
theorem dX12_search_15 : decode cX12_search 15 = .ok (.iastore, 1) := by decide +kernel
theorem dX12_search_16 : decode cX12_search 16 = .ok (.aload_n 0, 1) := by decide +kernel
theorem dX12_search_17 : decode cX12_search 17 = .ok (.getfield 70, 3) := by decide +kernel
theorem dX12_search_20 : decode cX12_search 20 = .ok (.iload_n 2, 1) := by decide +kernel
theorem dX12_search_21 : decode cX12_search 21 = .ok (.iconst 0, 1) := by decide +kernel
theorem dX12_search_22 : decode cX12_search 22 = .ok (.bastore, 1) := by decide +kernel
theorem dX12_search_23 : decode cX12_search 23 = .ok (.aload_n 0, 1) := by decide +kernel
theorem dX12_search_24 : decode cX12_search 24 = .ok (.getfield 67, 3) := by decide +kernel
theorem dX12_search_27 : decode cX12_search 27 = .ok (.iload_n 2, 1) := by decide +kernel
theorem dX12_search_28 : decode cX12_search 28 = .ok (.iconst 0, 1) := by decide +kernel
theorem dX12_search_29 : decode cX12_search 29 = .ok (.iastore, 1) := by decide +kernel
theorem dX12_search_30 : decode cX12_search 30 = .ok (.iinc 2 1, 3) := by decide +kernel
theorem dX12_search_33 : decode cX12_search 33 = .ok (.goto (-31), 3) := by decide +kernel
theorem dX12_search_36 : decode cX12_search 36 = .ok (.iconst 0, 1) := by decide +kernel
theorem dX12_search_37 : decode cX12_search 37 = .ok (.istore_n 2, 1) := by decide +kernel
theorem dX12_search_38 : decode cX12_search 38 = .ok (.iload_n 2, 1) := by decide +kernel
theorem dX12_search_39 : decode cX12_search 39 = .ok (.iconst 4, 1) := by decide +kernel
theorem dX12_search_40 : decode cX12_search 40 = .ok (.if_icmp .ge 72, 3) := by decide +kernel
theorem dX12_search_43 : decode cX12_search 43 = .ok (.iconst 0, 1) := by decide +kernel
theorem dX12_search_44 : decode cX12_search 44 = .ok (.istore_n 3, 1) := by decide +kernel
theorem dX12_search_45 : decode cX12_search 45 = .ok (.iload_n 3, 1) := by decide +kernel
theorem dX12_search_46 : decode cX12_search 46 = .ok (.iload_n 2, 1) := by decide +kernel
theorem dX12_search_47 : decode cX12_search 47 = .ok (.ifCond .ne 7, 3) := by decide +kernel
theorem dX12_search_50 : decode cX12_search 50 = .ok (.iconst 1, 1) := by decide +kernel
theorem dX12_search_51 : decode cX12_search 51 = .ok (.goto 13, 3) := by decide +kernel
theorem dX12_search_54 : decode cX12_search 54 = .ok (.iload_n 2, 1) := by decide +kernel
theorem dX12_search_55 : decode cX12_search 55 = .ok (.iconst 3, 1) := by decide +kernel
theorem dX12_search_56 : decode cX12_search 56 = .ok (.if_icmp .ne 7, 3) := by decide +kernel
theorem dX12_search_59 : decode cX12_search 59 = .ok (.iconst 3, 1) := by decide +kernel
theorem dX12_search_60 : decode cX12_search 60 = .ok (.goto 4, 3) := by decide +kernel
theorem dX12_search_63 : decode cX12_search 63 = .ok (.iconst 4, 1) := by decide +kernel
theorem dX12_search_64 : decode cX12_search 64 = .ok (.if_icmp .ge 42, 3) := by decide +kernel
theorem dX12_search_67 : decode cX12_search 67 = .ok (.iload_n 1, 1) := by decide +kernel
theorem dX12_search_68 : decode cX12_search 68 = .ok (.iload_n 2, 1) := by decide +kernel
theorem dX12_search_69 : decode cX12_search 69 = .ok (.ishr, 1) := by decide +kernel
theorem dX12_search_70 : decode cX12_search 70 = .ok (.iconst 1, 1) := by decide +kernel
theorem dX12_search_71 : decode cX12_search 71 = .ok (.iand, 1) := by decide +kernel
theorem dX12_search_72 : decode cX12_search 72 = .ok (.iconst 1, 1) := by decide +kernel
theorem dX12_search_73 : decode cX12_search 73 = .ok (.if_icmp .ne 33, 3) := by decide +kernel
theorem dX12_search_76 : decode cX12_search 76 = .ok (.aload_n 0, 1) := by decide +kernel
theorem dX12_search_77 : decode cX12_search 77 = .ok (.aload_n 0, 1) := by decide +kernel
theorem dX12_search_78 : decode cX12_search 78 = .ok (.iload_n 2, 1) := by decide +kernel
theorem dX12_search_79 : decode cX12_search 79 = .ok (.iload_n 3, 1) := by decide +kernel
theorem dX12_search_80 : decode cX12_search 80 = .ok (.invokevirtual 214, 3) := by decide +kernel
theorem dX12_search_83 : decode cX12_search 83 = .ok (.aload_n 0, 1) := by decide +kernel
theorem dX12_search_84 : decode cX12_search 84 = .ok (.getfield 28, 3) := by decide +kernel
theorem dX12_search_87 : decode cX12_search 87 = .ok (.iload_n 2, 1) := by decide +kernel
theorem dX12_search_88 : decode cX12_search 88 = .ok (.iaload, 1) := by decide +kernel
theorem dX12_search_89 : decode cX12_search 89 = .ok (.bipush 8, 2) := by decide +kernel
theorem dX12_search_91 : decode cX12_search 91 = .ok (.iload_n 2, 1) := by decide +kernel
theorem dX12_search_92 : decode cX12_search 92 = .ok (.imul, 1) := by decide +kernel
theorem dX12_search_93 : decode cX12_search 93 = .ok (.iload_n 3, 1) := by decide +kernel
theorem dX12_search_94 : decode cX12_search 94 = .ok (.iadd, 1) := by decide +kernel
theorem dX12_search_95 : decode cX12_search 95 = .ok (.iconst 0, 1) := by decide +kernel
theorem dX12_search_96 : decode cX12_search 96 = .ok (.iconst 0, 1) := by decide +kernel
theorem dX12_search_97 : decode cX12_search 97 = .ok (.invokevirtual 239, 3) := by decide +kernel
theorem dX12_search_100 : decode cX12_search 100 = .ok (.iinc 3 1, 3) := by decide +kernel
theorem dX12_search_103 : decode cX12_search 103 = .ok (.goto (-58), 3) := by decide +kernel
theorem dX12_search_106 : decode cX12_search 106 = .ok (.iinc 2 1, 3) := by decide +kernel
theorem dX12_search_109 : decode cX12_search 109 = .ok (.goto (-71), 3) := by decide +kernel
theorem dX12_search_112 : decode cX12_search 112 = .ok (.aload_n 0, 1) := by decide +kernel
theorem dX12_search_113 : decode cX12_search 113 = .ok (.invokevirtual 243, 3) := by decide +kernel
theorem dX12_search_116 : decode cX12_search 116 = .ok (.istore_n 2, 1) := by decide +kernel
theorem dX12_search_117 : decode cX12_search 117 = .ok (.iload_n 2, 1) := by decide +kernel
theorem dX12_search_118 : decode cX12_search 118 = .ok (.iconst (-1), 1) := by decide +kernel
theorem dX12_search_119 : decode cX12_search 119 = .ok (.if_icmp .eq 202, 3) := by decide +kernel
theorem dX12_search_122 : decode cX12_search 122 = .ok (.aload_n 0, 1) := by decide +kernel
theorem dX12_search_123 : decode cX12_search 123 = .ok (.iload_n 2, 1) := by decide +kernel
theorem dX12_search_124 : decode cX12_search 124 = .ok (.invokevirtual 246, 3) := by decide +kernel
theorem dX12_search_127 : decode cX12_search 127 = .ok (.iconst 4, 1) := by decide +kernel
theorem dX12_search_128 : decode cX12_search 128 = .ok (.istore_n 3, 1) := by decide +kernel
theorem dX12_search_129 : decode cX12_search 129 = .ok (.iload_n 3, 1) := by decide +kernel
theorem dX12_search_130 : decode cX12_search 130 = .ok (.bipush 15, 2) := by decide +kernel
theorem dX12_search_132 : decode cX12_search 132 = .ok (.if_icmp .ge 181, 3) := by decide +kernel
theorem dX12_search_135 : decode cX12_search 135 = .ok (.iload_n 1, 1) := by decide +kernel
theorem dX12_search_136 : decode cX12_search 136 = .ok (.iload_n 3, 1) := by decide +kernel
theorem dX12_search_137 : decode cX12_search 137 = .ok (.ishr, 1) := by decide +kernel
theorem dX12_search_138 : decode cX12_search 138 = .ok (.iconst 1, 1) := by decide +kernel
theorem dX12_search_139 : decode cX12_search 139 = .ok (.iand, 1) := by decide +kernel
theorem dX12_search_140 : decode cX12_search 140 = .ok (.iconst 1, 1) := by decide +kernel
theorem dX12_search_141 : decode cX12_search 141 = .ok (.if_icmp .ne 41, 3) := by decide +kernel
theorem dX12_search_144 : decode cX12_search 144 = .ok (.iload_n 3, 1) := by decide +kernel
theorem dX12_search_145 : decode cX12_search 145 = .ok (.invokestatic 198, 3) := by decide +kernel
theorem dX12_search_148 : decode cX12_search 148 = .ok (.iconst 1, 1) := by decide +kernel
theorem dX12_search_149 : decode cX12_search 149 = .ok (.if_icmp .ne 33, 3) := by decide +kernel
theorem dX12_search_152 : decode cX12_search 152 = .ok (.aload_n 0, 1) := by decide +kernel
theorem dX12_search_153 : decode cX12_search 153 = .ok (.aload_n 0, 1) := by decide +kernel
theorem dX12_search_154 : decode cX12_search 154 = .ok (.iload_n 3, 1) := by decide +kernel
theorem dX12_search_155 : decode cX12_search 155 = .ok (.iload_n 2, 1) := by decide +kernel
theorem dX12_search_156 : decode cX12_search 156 = .ok (.iconst 0, 1) := by decide +kernel
theorem dX12_search_157 : decode cX12_search 157 = .ok (.invokevirtual 218, 3) := by decide +kernel
theorem dX12_search_160 : decode cX12_search 160 = .ok (.aload_n 0, 1) := by decide +kernel
theorem dX12_search_161 : decode cX12_search 161 = .ok (.getfield 52, 3) := by decide +kernel
theorem dX12_search_164 : decode cX12_search 164 = .ok (.iload_n 2, 1) := by decide +kernel
theorem dX12_search_165 : decode cX12_search 165 = .ok (.iaload, 1) := by decide +kernel
theorem dX12_search_166 : decode cX12_search 166 = .ok (.aload_n 0, 1) := by decide +kernel
theorem dX12_search_167 : decode cX12_search 167 = .ok (.getfield 28, 3) := by decide +kernel
theorem dX12_search_170 : decode cX12_search 170 = .ok (.iload_n 3, 1) := by decide +kernel
theorem dX12_search_171 : decode cX12_search 171 = .ok (.iaload, 1) := by decide +kernel
theorem dX12_search_172 : decode cX12_search 172 = .ok (.iadd, 1) := by decide +kernel
theorem dX12_search_173 : decode cX12_search 173 = .ok (.bipush 8, 2) := by decide +kernel
theorem dX12_search_175 : decode cX12_search 175 = .ok (.iload_n 3, 1) := by decide +kernel
theorem dX12_search_176 : decode cX12_search 176 = .ok (.imul, 1) := by decide +kernel
theorem dX12_search_177 : decode cX12_search 177 = .ok (.iload_n 2, 1) := by decide +kernel
theorem dX12_search_178 : decode cX12_search 178 = .ok (.iconst 0, 1) := by decide +kernel
theorem dX12_search_179 : decode cX12_search 179 = .ok (.invokevirtual 239, 3) := by decide +kernel
theorem dX12_search_182 : decode cX12_search 182 = .ok (.iconst 0, 1) := by decide +kernel
theorem dX12_search_183 : decode cX12_search 183 = .ok (.istore 4, 2) := by decide +kernel
theorem dX12_search_185 : decode cX12_search 185 = .ok (.iload 4, 2) := by decide +kernel
theorem dX12_search_187 : decode cX12_search 187 = .ok (.aload_n 0, 1) := by decide +kernel
theorem dX12_search_188 : decode cX12_search 188 = .ok (.invokevirtual 204, 3) := by decide +kernel
theorem dX12_search_191 : decode cX12_search 191 = .ok (.if_icmp .gt 116, 3) := by decide +kernel
theorem dX12_search_194 : decode cX12_search 194 = .ok (.iload_n 3, 1) := by decide +kernel
theorem dX12_search_195 : decode cX12_search 195 = .ok (.invokestatic 198, 3) := by decide +kernel
theorem dX12_search_198 : decode cX12_search 198 = .ok (.iconst 2, 1) := by decide +kernel
theorem dX12_search_199 : decode cX12_search 199 = .ok (.if_icmp .ne 108, 3) := by decide +kernel
theorem dX12_search_202 : decode cX12_search 202 = .ok (.iload_n 1, 1) := by decide +kernel
theorem dX12_search_203 : decode cX12_search 203 = .ok (.iload_n 3, 1) := by decide +kernel
theorem dX12_search_204 : decode cX12_search 204 = .ok (.ishr, 1) := by decide +kernel
theorem dX12_search_205 : decode cX12_search 205 = .ok (.iconst 1, 1) := by decide +kernel
theorem dX12_search_206 : decode cX12_search 206 = .ok (.iand, 1) := by decide +kernel
theorem dX12_search_207 : decode cX12_search 207 = .ok (.iconst 1, 1) := by decide +kernel
theorem dX12_search_208 : decode cX12_search 208 = .ok (.if_icmp .ne 99, 3) := by decide +kernel
theorem dX12_search_211 : decode cX12_search 211 = .ok (.aload_n 0, 1) := by decide +kernel
theorem dX12_search_212 : decode cX12_search 212 = .ok (.getfield 70, 3) := by decide +kernel
theorem dX12_search_215 : decode cX12_search 215 = .ok (.iload 4, 2) := by decide +kernel
theorem dX12_search_217 : decode cX12_search 217 = .ok (.baload, 1) := by decide +kernel
theorem dX12_search_218 : decode cX12_search 218 = .ok (.ifCond .eq 83, 3) := by decide +kernel
theorem dX12_search_221 : decode cX12_search 221 = .ok (.aload_n 0, 1) := by decide +kernel
theorem dX12_search_222 : decode cX12_search 222 = .ok (.aload_n 0, 1) := by decide +kernel
theorem dX12_search_223 : decode cX12_search 223 = .ok (.iload_n 3, 1) := by decide +kernel
theorem dX12_search_224 : decode cX12_search 224 = .ok (.iload_n 2, 1) := by decide +kernel
theorem dX12_search_225 : decode cX12_search 225 = .ok (.iload 4, 2) := by decide +kernel
theorem dX12_search_227 : decode cX12_search 227 = .ok (.invokevirtual 218, 3) := by decide +kernel
theorem dX12_search_230 : decode cX12_search 230 = .ok (.aload_n 0, 1) := by decide +kernel
theorem dX12_search_231 : decode cX12_search 231 = .ok (.getfield 52, 3) := by decide +kernel
theorem dX12_search_234 : decode cX12_search 234 = .ok (.iload_n 2, 1) := by decide +kernel
theorem dX12_search_235 : decode cX12_search 235 = .ok (.iaload, 1) := by decide +kernel
theorem dX12_search_236 : decode cX12_search 236 = .ok (.aload_n 0, 1) := by decide +kernel
theorem dX12_search_237 : decode cX12_search 237 = .ok (.getfield 52, 3) := by decide +kernel
theorem dX12_search_240 : decode cX12_search 240 = .ok (.iload 4, 2) := by decide +kernel
theorem dX12_search_242 : decode cX12_search 242 = .ok (.iaload, 1) := by decide +kernel
theorem dX12_search_243 : decode cX12_search 243 = .ok (.iadd, 1) := by decide +kernel
theorem dX12_search_244 : decode cX12_search 244 = .ok (.aload_n 0, 1) := by decide +kernel
theorem dX12_search_245 : decode cX12_search 245 = .ok (.getfield 28, 3) := by decide +kernel
theorem dX12_search_248 : decode cX12_search 248 = .ok (.iload_n 3, 1) := by decide +kernel
theorem dX12_search_249 : decode cX12_search 249 = .ok (.iaload, 1) := by decide +kernel
theorem dX12_search_250 : decode cX12_search 250 = .ok (.iadd, 1) := by decide +kernel
theorem dX12_search_251 : decode cX12_search 251 = .ok (.bipush 8, 2) := by decide +kernel
theorem dX12_search_253 : decode cX12_search 253 = .ok (.iload_n 3, 1) := by decide +kernel
theorem dX12_search_254 : decode cX12_search 254 = .ok (.imul, 1) := by decide +kernel
theorem dX12_search_255 : decode cX12_search 255 = .ok (.iload_n 2, 1) := by decide +kernel
theorem dX12_search_256 : decode cX12_search 256 = .ok (.iload 4, 2) := by decide +kernel
theorem dX12_search_258 : decode cX12_search 258 = .ok (.invokevirtual 239, 3) := by decide +kernel
theorem dX12_search_261 : decode cX12_search 261 = .ok (.aload_n 0, 1) := by decide +kernel
theorem dX12_search_262 : decode cX12_search 262 = .ok (.aload_n 0, 1) := by decide +kernel
theorem dX12_search_263 : decode cX12_search 263 = .ok (.iload_n 3, 1) := by decide +kernel
theorem dX12_search_264 : decode cX12_search 264 = .ok (.iload 4, 2) := by decide +kernel
theorem dX12_search_266 : decode cX12_search 266 = .ok (.iload_n 2, 1) := by decide +kernel
theorem dX12_search_267 : decode cX12_search 267 = .ok (.invokevirtual 218, 3) := by decide +kernel
theorem dX12_search_270 : decode cX12_search 270 = .ok (.aload_n 0, 1) := by decide +kernel
theorem dX12_search_271 : decode cX12_search 271 = .ok (.getfield 52, 3) := by decide +kernel
theorem dX12_search_274 : decode cX12_search 274 = .ok (.iload_n 2, 1) := by decide +kernel
theorem dX12_search_275 : decode cX12_search 275 = .ok (.iaload, 1) := by decide +kernel
theorem dX12_search_276 : decode cX12_search 276 = .ok (.aload_n 0, 1) := by decide +kernel
theorem dX12_search_277 : decode cX12_search 277 = .ok (.getfield 52, 3) := by decide +kernel
theorem dX12_search_280 : decode cX12_search 280 = .ok (.iload 4, 2) := by decide +kernel
theorem dX12_search_282 : decode cX12_search 282 = .ok (.iaload, 1) := by decide +kernel
theorem dX12_search_283 : decode cX12_search 283 = .ok (.iadd, 1) := by decide +kernel
theorem dX12_search_284 : decode cX12_search 284 = .ok (.aload_n 0, 1) := by decide +kernel
theorem dX12_search_285 : decode cX12_search 285 = .ok (.getfield 28, 3) := by decide +kernel
theorem dX12_search_288 : decode cX12_search 288 = .ok (.iload_n 3, 1) := by decide +kernel
theorem dX12_search_289 : decode cX12_search 289 = .ok (.iaload, 1) := by decide +kernel
theorem dX12_search_290 : decode cX12_search 290 = .ok (.iadd, 1) := by decide +kernel
theorem dX12_search_291 : decode cX12_search 291 = .ok (.bipush 8, 2) := by decide +kernel
theorem dX12_search_293 : decode cX12_search 293 = .ok (.iload_n 3, 1) := by decide +kernel
theorem dX12_search_294 : decode cX12_search 294 = .ok (.imul, 1) := by decide +kernel
theorem dX12_search_295 : decode cX12_search 295 = .ok (.iload 4, 2) := by decide +kernel
theorem dX12_search_297 : decode cX12_search 297 = .ok (.iload_n 2, 1) := by decide +kernel
theorem dX12_search_298 : decode cX12_search 298 = .ok (.invokevirtual 239, 3) := by decide +kernel
theorem dX12_search_301 : decode cX12_search 301 = .ok (.iinc 4 1, 3) := by decide +kernel
theorem dX12_search_304 : decode cX12_search 304 = .ok (.goto (-119), 3) := by decide +kernel
theorem dX12_search_307 : decode cX12_search 307 = .ok (.iinc 3 1, 3) := by decide +kernel
theorem dX12_search_310 : decode cX12_search 310 = .ok (.goto (-181), 3) := by decide +kernel
theorem dX12_search_313 : decode cX12_search 313 = .ok (.aload_n 0, 1) := by decide +kernel
theorem dX12_search_314 : decode cX12_search 314 = .ok (.invokevirtual 243, 3) := by decide +kernel
theorem dX12_search_317 : decode cX12_search 317 = .ok (.istore_n 2, 1) := by decide +kernel
theorem dX12_search_318 : decode cX12_search 318 = .ok (.goto (-201), 3) := by decide +kernel
theorem dX12_search_321 : decode cX12_search 321 = .ok (.return_, 1) := by decide +kernel
theorem dX12_cheapestLeft_0 : decode cX12_cheapestLeft 0 = .ok (.iconst (-1), 1) := by decide +kernel
theorem dX12_cheapestLeft_1 : decode cX12_cheapestLeft 1 = .ok (.istore_n 1, 1) := by decide +kernel
theorem dX12_cheapestLeft_2 : decode cX12_cheapestLeft 2 = .ok (.iconst 0, 1) := by decide +kernel
theorem dX12_cheapestLeft_3 : decode cX12_cheapestLeft 3 = .ok (.istore_n 2, 1) := by decide +kernel
theorem dX12_cheapestLeft_4 : decode cX12_cheapestLeft 4 = .ok (.iload_n 2, 1) := by decide +kernel
theorem dX12_cheapestLeft_5 : decode cX12_cheapestLeft 5 = .ok (.aload_n 0, 1) := by decide +kernel
theorem dX12_cheapestLeft_6 : decode cX12_cheapestLeft 6 = .ok (.invokevirtual 204, 3) := by decide +kernel
theorem dX12_cheapestLeft_9 : decode cX12_cheapestLeft 9 = .ok (.if_icmp .gt 54, 3) := by decide +kernel
theorem dX12_cheapestLeft_12 : decode cX12_cheapestLeft 12 = .ok (.aload_n 0, 1) := by decide +kernel
theorem dX12_cheapestLeft_13 : decode cX12_cheapestLeft 13 = .ok (.getfield 70, 3) := by decide +kernel
theorem dX12_cheapestLeft_16 : decode cX12_cheapestLeft 16 = .ok (.iload_n 2, 1) := by decide +kernel
theorem dX12_cheapestLeft_17 : decode cX12_cheapestLeft 17 = .ok (.baload, 1) := by decide +kernel
theorem dX12_cheapestLeft_18 : decode cX12_cheapestLeft 18 = .ok (.ifCond .ne 37, 3) := by decide +kernel
theorem dX12_cheapestLeft_21 : decode cX12_cheapestLeft 21 = .ok (.aload_n 0, 1) := by decide +kernel
theorem dX12_cheapestLeft_22 : decode cX12_cheapestLeft 22 = .ok (.getfield 52, 3) := by decide +kernel
theorem dX12_cheapestLeft_25 : decode cX12_cheapestLeft 25 = .ok (.iload_n 2, 1) := by decide +kernel
theorem dX12_cheapestLeft_26 : decode cX12_cheapestLeft 26 = .ok (.iaload, 1) := by decide +kernel
theorem dX12_cheapestLeft_27 : decode cX12_cheapestLeft 27 = .ok (.iconst (-1), 1) := by decide +kernel
theorem dX12_cheapestLeft_28 : decode cX12_cheapestLeft 28 = .ok (.if_icmp .eq 27, 3) := by decide +kernel
theorem dX12_cheapestLeft_31 : decode cX12_cheapestLeft 31 = .ok (.iload_n 1, 1) := by decide +kernel
theorem dX12_cheapestLeft_32 : decode cX12_cheapestLeft 32 = .ok (.iconst (-1), 1) := by decide +kernel
theorem dX12_cheapestLeft_33 : decode cX12_cheapestLeft 33 = .ok (.if_icmp .eq 18, 3) := by decide +kernel
theorem dX12_cheapestLeft_36 : decode cX12_cheapestLeft 36 = .ok (.aload_n 0, 1) := by decide +kernel
theorem dX12_cheapestLeft_37 : decode cX12_cheapestLeft 37 = .ok (.getfield 52, 3) := by decide +kernel
theorem dX12_cheapestLeft_40 : decode cX12_cheapestLeft 40 = .ok (.iload_n 2, 1) := by decide +kernel
theorem dX12_cheapestLeft_41 : decode cX12_cheapestLeft 41 = .ok (.iaload, 1) := by decide +kernel
theorem dX12_cheapestLeft_42 : decode cX12_cheapestLeft 42 = .ok (.aload_n 0, 1) := by decide +kernel
theorem dX12_cheapestLeft_43 : decode cX12_cheapestLeft 43 = .ok (.getfield 52, 3) := by decide +kernel
theorem dX12_cheapestLeft_46 : decode cX12_cheapestLeft 46 = .ok (.iload_n 1, 1) := by decide +kernel
theorem dX12_cheapestLeft_47 : decode cX12_cheapestLeft 47 = .ok (.iaload, 1) := by decide +kernel
theorem dX12_cheapestLeft_48 : decode cX12_cheapestLeft 48 = .ok (.if_icmp .ge 7, 3) := by decide +kernel
theorem dX12_cheapestLeft_51 : decode cX12_cheapestLeft 51 = .ok (.iload_n 2, 1) := by decide +kernel
theorem dX12_cheapestLeft_52 : decode cX12_cheapestLeft 52 = .ok (.goto 4, 3) := by decide +kernel
theorem dX12_cheapestLeft_55 : decode cX12_cheapestLeft 55 = .ok (.iload_n 1, 1) := by decide +kernel
theorem dX12_cheapestLeft_56 : decode cX12_cheapestLeft 56 = .ok (.istore_n 1, 1) := by decide +kernel
theorem dX12_cheapestLeft_57 : decode cX12_cheapestLeft 57 = .ok (.iinc 2 1, 3) := by decide +kernel
theorem dX12_cheapestLeft_60 : decode cX12_cheapestLeft 60 = .ok (.goto (-56), 3) := by decide +kernel
theorem dX12_cheapestLeft_63 : decode cX12_cheapestLeft 63 = .ok (.iload_n 1, 1) := by decide +kernel
theorem dX12_cheapestLeft_64 : decode cX12_cheapestLeft 64 = .ok (.ireturn, 1) := by decide +kernel
theorem dX12_areWords_0 : decode cX12_areWords 0 = .ok (.iload_n 0, 1) := by decide +kernel
theorem dX12_areWords_1 : decode cX12_areWords 1 = .ok (.iconst 0, 1) := by decide +kernel
theorem dX12_areWords_2 : decode cX12_areWords 2 = .ok (.sipush 32767, 3) := by decide +kernel
theorem dX12_areWords_5 : decode cX12_areWords 5 = .ok (.invokestatic 102, 3) := by decide +kernel
theorem dX12_areWords_8 : decode cX12_areWords 8 = .ok (.ireturn, 1) := by decide +kernel
theorem dX12_cheapest_0 : decode cX12_cheapest 0 = .ok (.iload_n 1, 1) := by decide +kernel
theorem dX12_cheapest_1 : decode cX12_cheapest 1 = .ok (.iconst 0, 1) := by decide +kernel
theorem dX12_cheapest_2 : decode cX12_cheapest 2 = .ok (.aload_n 0, 1) := by decide +kernel
theorem dX12_cheapest_3 : decode cX12_cheapest 3 = .ok (.invokevirtual 204, 3) := by decide +kernel
theorem dX12_cheapest_6 : decode cX12_cheapest 6 = .ok (.invokestatic 102, 3) := by decide +kernel
theorem dX12_cheapest_9 : decode cX12_cheapest 9 = .ok (.ifCond .eq 16, 3) := by decide +kernel
theorem dX12_cheapest_12 : decode cX12_cheapest 12 = .ok (.iload_n 2, 1) := by decide +kernel
theorem dX12_cheapest_13 : decode cX12_cheapest 13 = .ok (.invokestatic 249, 3) := by decide +kernel
theorem dX12_cheapest_16 : decode cX12_cheapest 16 = .ok (.ifCond .eq 9, 3) := by decide +kernel
theorem dX12_cheapest_19 : decode cX12_cheapest 19 = .ok (.iload_n 3, 1) := by decide +kernel
theorem dX12_cheapest_20 : decode cX12_cheapest 20 = .ok (.bipush (-2), 2) := by decide +kernel
theorem dX12_cheapest_22 : decode cX12_cheapest 22 = .ok (.if_icmp .ge 6, 3) := by decide +kernel
theorem dX12_cheapest_25 : decode cX12_cheapest 25 = .ok (.bipush (-3), 2) := by decide +kernel
theorem dX12_cheapest_27 : decode cX12_cheapest 27 = .ok (.ireturn, 1) := by decide +kernel
theorem dX12_cheapest_28 : decode cX12_cheapest 28 = .ok (.aload_n 0, 1) := by decide +kernel
theorem dX12_cheapest_29 : decode cX12_cheapest 29 = .ok (.iload_n 2, 1) := by decide +kernel
theorem dX12_cheapest_30 : decode cX12_cheapest 30 = .ok (.invokevirtual 252, 3) := by decide +kernel
theorem dX12_cheapest_33 : decode cX12_cheapest 33 = .ok (.aload_n 0, 1) := by decide +kernel
theorem dX12_cheapest_34 : decode cX12_cheapest 34 = .ok (.getfield 52, 3) := by decide +kernel
theorem dX12_cheapest_37 : decode cX12_cheapest 37 = .ok (.iload_n 1, 1) := by decide +kernel
theorem dX12_cheapest_38 : decode cX12_cheapest 38 = .ok (.iaload, 1) := by decide +kernel
theorem dX12_cheapest_39 : decode cX12_cheapest 39 = .ok (.iconst (-1), 1) := by decide +kernel
theorem dX12_cheapest_40 : decode cX12_cheapest 40 = .ok (.if_icmp .eq 13, 3) := by decide +kernel
theorem dX12_cheapest_43 : decode cX12_cheapest 43 = .ok (.iload_n 3, 1) := by decide +kernel
theorem dX12_cheapest_44 : decode cX12_cheapest 44 = .ok (.aload_n 0, 1) := by decide +kernel
theorem dX12_cheapest_45 : decode cX12_cheapest 45 = .ok (.getfield 64, 3) := by decide +kernel
theorem dX12_cheapest_48 : decode cX12_cheapest 48 = .ok (.iload_n 1, 1) := by decide +kernel
theorem dX12_cheapest_49 : decode cX12_cheapest 49 = .ok (.iaload, 1) := by decide +kernel
theorem dX12_cheapest_50 : decode cX12_cheapest 50 = .ok (.if_icmp .lt 5, 3) := by decide +kernel
theorem dX12_cheapest_53 : decode cX12_cheapest 53 = .ok (.iconst (-1), 1) := by decide +kernel
theorem dX12_cheapest_54 : decode cX12_cheapest 54 = .ok (.ireturn, 1) := by decide +kernel
theorem dX12_cheapest_55 : decode cX12_cheapest 55 = .ok (.iload_n 3, 1) := by decide +kernel
theorem dX12_cheapest_56 : decode cX12_cheapest 56 = .ok (.ifCond .ge 24, 3) := by decide +kernel
theorem dX12_cheapest_59 : decode cX12_cheapest 59 = .ok (.iload_n 3, 1) := by decide +kernel
theorem dX12_cheapest_60 : decode cX12_cheapest 60 = .ok (.iconst (-1), 1) := by decide +kernel
theorem dX12_cheapest_61 : decode cX12_cheapest 61 = .ok (.if_icmp .ne 12, 3) := by decide +kernel
theorem dX12_cheapest_64 : decode cX12_cheapest 64 = .ok (.aload_n 0, 1) := by decide +kernel
theorem dX12_cheapest_65 : decode cX12_cheapest 65 = .ok (.getfield 52, 3) := by decide +kernel
theorem dX12_cheapest_68 : decode cX12_cheapest 68 = .ok (.iload_n 1, 1) := by decide +kernel
theorem dX12_cheapest_69 : decode cX12_cheapest 69 = .ok (.iaload, 1) := by decide +kernel
theorem dX12_cheapest_70 : decode cX12_cheapest 70 = .ok (.goto 9, 3) := by decide +kernel
theorem dX12_cheapest_73 : decode cX12_cheapest 73 = .ok (.aload_n 0, 1) := by decide +kernel
theorem dX12_cheapest_74 : decode cX12_cheapest 74 = .ok (.getfield 64, 3) := by decide +kernel
theorem dX12_cheapest_77 : decode cX12_cheapest 77 = .ok (.iload_n 1, 1) := by decide +kernel
theorem dX12_cheapest_78 : decode cX12_cheapest 78 = .ok (.iaload, 1) := by decide +kernel
theorem dX12_cheapest_79 : decode cX12_cheapest 79 = .ok (.ireturn, 1) := by decide +kernel
theorem dX12_cheapest_80 : decode cX12_cheapest 80 = .ok (.iload_n 1, 1) := by decide +kernel
theorem dX12_cheapest_81 : decode cX12_cheapest 81 = .ok (.istore 4, 2) := by decide +kernel
theorem dX12_cheapest_83 : decode cX12_cheapest 83 = .ok (.iload_n 3, 1) := by decide +kernel
theorem dX12_cheapest_84 : decode cX12_cheapest 84 = .ok (.istore 5, 2) := by decide +kernel
theorem dX12_cheapest_86 : decode cX12_cheapest 86 = .ok (.iload 5, 2) := by decide +kernel
theorem dX12_cheapest_88 : decode cX12_cheapest 88 = .ok (.ifCond .le 85, 3) := by decide +kernel
theorem dX12_cheapest_91 : decode cX12_cheapest 91 = .ok (.iload 5, 2) := by decide +kernel
theorem dX12_cheapest_93 : decode cX12_cheapest 93 = .ok (.aload_n 0, 1) := by decide +kernel
theorem dX12_cheapest_94 : decode cX12_cheapest 94 = .ok (.getfield 64, 3) := by decide +kernel
theorem dX12_cheapest_97 : decode cX12_cheapest 97 = .ok (.aload_n 0, 1) := by decide +kernel
theorem dX12_cheapest_98 : decode cX12_cheapest 98 = .ok (.getfield 58, 3) := by decide +kernel
theorem dX12_cheapest_101 : decode cX12_cheapest 101 = .ok (.iload 4, 2) := by decide +kernel
theorem dX12_cheapest_103 : decode cX12_cheapest 103 = .ok (.iaload, 1) := by decide +kernel
theorem dX12_cheapest_104 : decode cX12_cheapest 104 = .ok (.iaload, 1) := by decide +kernel
theorem dX12_cheapest_105 : decode cX12_cheapest 105 = .ok (.if_icmp .gt 7, 3) := by decide +kernel
theorem dX12_cheapest_108 : decode cX12_cheapest 108 = .ok (.iconst 1, 1) := by decide +kernel
theorem dX12_cheapest_109 : decode cX12_cheapest 109 = .ok (.goto 4, 3) := by decide +kernel
theorem dX12_cheapest_112 : decode cX12_cheapest 112 = .ok (.iconst 0, 1) := by decide +kernel
theorem dX12_cheapest_113 : decode cX12_cheapest 113 = .ok (.istore 6, 2) := by decide +kernel
theorem dX12_cheapest_115 : decode cX12_cheapest 115 = .ok (.iload 6, 2) := by decide +kernel
theorem dX12_cheapest_117 : decode cX12_cheapest 117 = .ok (.ifCond .eq 10, 3) := by decide +kernel
theorem dX12_cheapest_120 : decode cX12_cheapest 120 = .ok (.iload 5, 2) := by decide +kernel
theorem dX12_cheapest_122 : decode cX12_cheapest 122 = .ok (.iconst 1, 1) := by decide +kernel
theorem dX12_cheapest_123 : decode cX12_cheapest 123 = .ok (.isub, 1) := by decide +kernel
theorem dX12_cheapest_124 : decode cX12_cheapest 124 = .ok (.goto 20, 3) := by decide +kernel
theorem dX12_cheapest_127 : decode cX12_cheapest 127 = .ok (.iload 5, 2) := by decide +kernel
theorem dX12_cheapest_129 : decode cX12_cheapest 129 = .ok (.iconst 1, 1) := by decide +kernel
theorem dX12_cheapest_130 : decode cX12_cheapest 130 = .ok (.isub, 1) := by decide +kernel
theorem dX12_cheapest_131 : decode cX12_cheapest 131 = .ok (.aload_n 0, 1) := by decide +kernel
theorem dX12_cheapest_132 : decode cX12_cheapest 132 = .ok (.getfield 64, 3) := by decide +kernel
theorem dX12_cheapest_135 : decode cX12_cheapest 135 = .ok (.aload_n 0, 1) := by decide +kernel
theorem dX12_cheapest_136 : decode cX12_cheapest 136 = .ok (.getfield 58, 3) := by decide +kernel
theorem dX12_cheapest_139 : decode cX12_cheapest 139 = .ok (.iload 4, 2) := by decide +kernel
theorem dX12_cheapest_141 : decode cX12_cheapest 141 = .ok (.iaload, 1) := by decide +kernel
theorem dX12_cheapest_142 : decode cX12_cheapest 142 = .ok (.iaload, 1) := by decide +kernel
theorem dX12_cheapest_143 : decode cX12_cheapest 143 = .ok (.isub, 1) := by decide +kernel
theorem dX12_cheapest_144 : decode cX12_cheapest 144 = .ok (.istore 5, 2) := by decide +kernel
theorem dX12_cheapest_146 : decode cX12_cheapest 146 = .ok (.iload 6, 2) := by decide +kernel
theorem dX12_cheapest_148 : decode cX12_cheapest 148 = .ok (.ifCond .eq 13, 3) := by decide +kernel
theorem dX12_cheapest_151 : decode cX12_cheapest 151 = .ok (.aload_n 0, 1) := by decide +kernel
theorem dX12_cheapest_152 : decode cX12_cheapest 152 = .ok (.getfield 58, 3) := by decide +kernel
theorem dX12_cheapest_155 : decode cX12_cheapest 155 = .ok (.iload 4, 2) := by decide +kernel
theorem dX12_cheapest_157 : decode cX12_cheapest 157 = .ok (.iaload, 1) := by decide +kernel
theorem dX12_cheapest_158 : decode cX12_cheapest 158 = .ok (.goto 10, 3) := by decide +kernel
theorem dX12_cheapest_161 : decode cX12_cheapest 161 = .ok (.aload_n 0, 1) := by decide +kernel
theorem dX12_cheapest_162 : decode cX12_cheapest 162 = .ok (.getfield 61, 3) := by decide +kernel
theorem dX12_cheapest_165 : decode cX12_cheapest 165 = .ok (.iload 4, 2) := by decide +kernel
theorem dX12_cheapest_167 : decode cX12_cheapest 167 = .ok (.iaload, 1) := by decide +kernel
theorem dX12_cheapest_168 : decode cX12_cheapest 168 = .ok (.istore 4, 2) := by decide +kernel
theorem dX12_cheapest_170 : decode cX12_cheapest 170 = .ok (.goto (-84), 3) := by decide +kernel
theorem dX12_cheapest_173 : decode cX12_cheapest 173 = .ok (.aload_n 0, 1) := by decide +kernel
theorem dX12_cheapest_174 : decode cX12_cheapest 174 = .ok (.getfield 55, 3) := by decide +kernel
theorem dX12_cheapest_177 : decode cX12_cheapest 177 = .ok (.iload 4, 2) := by decide +kernel
theorem dX12_cheapest_179 : decode cX12_cheapest 179 = .ok (.iaload, 1) := by decide +kernel
theorem dX12_cheapest_180 : decode cX12_cheapest 180 = .ok (.ireturn, 1) := by decide +kernel
theorem dX12_sets_0 : decode cX12_sets 0 = .ok (.iload_n 1, 1) := by decide +kernel
theorem dX12_sets_1 : decode cX12_sets 1 = .ok (.invokestatic 249, 3) := by decide +kernel
theorem dX12_sets_4 : decode cX12_sets 4 = .ok (.ifCond .ne 6, 3) := by decide +kernel
theorem dX12_sets_7 : decode cX12_sets 7 = .ok (.bipush (-3), 2) := by decide +kernel
theorem dX12_sets_9 : decode cX12_sets 9 = .ok (.ireturn, 1) := by decide +kernel
theorem dX12_sets_10 : decode cX12_sets 10 = .ok (.aload_n 0, 1) := by decide +kernel
theorem dX12_sets_11 : decode cX12_sets 11 = .ok (.iload_n 1, 1) := by decide +kernel
theorem dX12_sets_12 : decode cX12_sets 12 = .ok (.invokevirtual 252, 3) := by decide +kernel
theorem dX12_sets_15 : decode cX12_sets 15 = .ok (.iconst 0, 1) := by decide +kernel
theorem dX12_sets_16 : decode cX12_sets 16 = .ok (.istore_n 2, 1) := by decide +kernel
theorem dX12_sets_17 : decode cX12_sets 17 = .ok (.iconst 0, 1) := by decide +kernel
theorem dX12_sets_18 : decode cX12_sets 18 = .ok (.istore_n 3, 1) := by decide +kernel
theorem dX12_sets_19 : decode cX12_sets 19 = .ok (.iload_n 3, 1) := by decide +kernel
theorem dX12_sets_20 : decode cX12_sets 20 = .ok (.aload_n 0, 1) := by decide +kernel
theorem dX12_sets_21 : decode cX12_sets 21 = .ok (.invokevirtual 204, 3) := by decide +kernel
theorem dX12_sets_24 : decode cX12_sets 24 = .ok (.if_icmp .gt 27, 3) := by decide +kernel
theorem dX12_sets_27 : decode cX12_sets 27 = .ok (.iload_n 2, 1) := by decide +kernel
theorem dX12_sets_28 : decode cX12_sets 28 = .ok (.aload_n 0, 1) := by decide +kernel
theorem dX12_sets_29 : decode cX12_sets 29 = .ok (.getfield 52, 3) := by decide +kernel
theorem dX12_sets_32 : decode cX12_sets 32 = .ok (.iload_n 3, 1) := by decide +kernel
theorem dX12_sets_33 : decode cX12_sets 33 = .ok (.iaload, 1) := by decide +kernel
theorem dX12_sets_34 : decode cX12_sets 34 = .ok (.iconst (-1), 1) := by decide +kernel
theorem dX12_sets_35 : decode cX12_sets 35 = .ok (.if_icmp .ne 7, 3) := by decide +kernel
theorem dX12_sets_38 : decode cX12_sets 38 = .ok (.iconst 0, 1) := by decide +kernel
theorem dX12_sets_39 : decode cX12_sets 39 = .ok (.goto 4, 3) := by decide +kernel
theorem dX12_sets_42 : decode cX12_sets 42 = .ok (.iconst 1, 1) := by decide +kernel
theorem dX12_sets_43 : decode cX12_sets 43 = .ok (.iadd, 1) := by decide +kernel
theorem dX12_sets_44 : decode cX12_sets 44 = .ok (.istore_n 2, 1) := by decide +kernel
theorem dX12_sets_45 : decode cX12_sets 45 = .ok (.iinc 3 1, 3) := by decide +kernel
theorem dX12_sets_48 : decode cX12_sets 48 = .ok (.goto (-29), 3) := by decide +kernel
theorem dX12_sets_51 : decode cX12_sets 51 = .ok (.iload_n 2, 1) := by decide +kernel
theorem dX12_sets_52 : decode cX12_sets 52 = .ok (.ireturn, 1) := by decide +kernel
theorem dX12_quick_0 : decode cX12_quick 0 = .ok (.aload_n 0, 1) := by decide +kernel
theorem dX12_quick_1 : decode cX12_quick 1 = .ok (.iload_n 1, 1) := by decide +kernel
theorem dX12_quick_2 : decode cX12_quick 2 = .ok (.invokevirtual 106, 3) := by decide +kernel
theorem dX12_quick_5 : decode cX12_quick 5 = .ok (.ifCond .ne 6, 3) := by decide +kernel
theorem dX12_quick_8 : decode cX12_quick 8 = .ok (.bipush (-2), 2) := by decide +kernel
theorem dX12_quick_10 : decode cX12_quick 10 = .ok (.ireturn, 1) := by decide +kernel
theorem dX12_quick_11 : decode cX12_quick 11 = .ok (.aload_n 0, 1) := by decide +kernel
theorem dX12_quick_12 : decode cX12_quick 12 = .ok (.invokevirtual 204, 3) := by decide +kernel
theorem dX12_quick_15 : decode cX12_quick 15 = .ok (.istore_n 2, 1) := by decide +kernel
theorem dX12_quick_16 : decode cX12_quick 16 = .ok (.iconst 0, 1) := by decide +kernel
theorem dX12_quick_17 : decode cX12_quick 17 = .ok (.istore_n 3, 1) := by decide +kernel
theorem dX12_quick_18 : decode cX12_quick 18 = .ok (.iconst 0, 1) := by decide +kernel
theorem dX12_quick_19 : decode cX12_quick 19 = .ok (.istore 4, 2) := by decide +kernel
theorem dX12_quick_21 : decode cX12_quick 21 = .ok (.iconst 0, 1) := by decide +kernel
theorem dX12_quick_22 : decode cX12_quick 22 = .ok (.istore 5, 2) := by decide +kernel
theorem dX12_quick_24 : decode cX12_quick 24 = .ok (.iload 5, 2) := by decide +kernel
theorem dX12_quick_26 : decode cX12_quick 26 = .ok (.bipush 8, 2) := by decide +kernel
theorem dX12_quick_28 : decode cX12_quick 28 = .ok (.if_icmp .ge 177, 3) := by decide +kernel
theorem dX12_quick_31 : decode cX12_quick 31 = .ok (.iload_n 2, 1) := by decide +kernel
theorem dX12_quick_32 : decode cX12_quick 32 = .ok (.iconst 1, 1) := by decide +kernel
theorem dX12_quick_33 : decode cX12_quick 33 = .ok (.iload_n 1, 1) := by decide +kernel
theorem dX12_quick_34 : decode cX12_quick 34 = .ok (.ishl, 1) := by decide +kernel
theorem dX12_quick_35 : decode cX12_quick 35 = .ok (.if_icmp .eq 170, 3) := by decide +kernel
theorem dX12_quick_38 : decode cX12_quick 38 = .ok (.iload 5, 2) := by decide +kernel
theorem dX12_quick_40 : decode cX12_quick 40 = .ok (.ifCond .ne 17, 3) := by decide +kernel
theorem dX12_quick_43 : decode cX12_quick 43 = .ok (.aload_n 0, 1) := by decide +kernel
theorem dX12_quick_44 : decode cX12_quick 44 = .ok (.iconst 1, 1) := by decide +kernel
theorem dX12_quick_45 : decode cX12_quick 45 = .ok (.aload_n 0, 1) := by decide +kernel
theorem dX12_quick_46 : decode cX12_quick 46 = .ok (.getfield 7, 3) := by decide +kernel
theorem dX12_quick_49 : decode cX12_quick 49 = .ok (.iload_n 1, 1) := by decide +kernel
theorem dX12_quick_50 : decode cX12_quick 50 = .ok (.iaload, 1) := by decide +kernel
theorem dX12_quick_51 : decode cX12_quick 51 = .ok (.invokevirtual 214, 3) := by decide +kernel
theorem dX12_quick_54 : decode cX12_quick 54 = .ok (.goto 57, 3) := by decide +kernel
theorem dX12_quick_57 : decode cX12_quick 57 = .ok (.iload 5, 2) := by decide +kernel
theorem dX12_quick_59 : decode cX12_quick 59 = .ok (.iconst 1, 1) := by decide +kernel
theorem dX12_quick_60 : decode cX12_quick 60 = .ok (.if_icmp .ne 17, 3) := by decide +kernel
theorem dX12_quick_63 : decode cX12_quick 63 = .ok (.aload_n 0, 1) := by decide +kernel
theorem dX12_quick_64 : decode cX12_quick 64 = .ok (.iconst 2, 1) := by decide +kernel
theorem dX12_quick_65 : decode cX12_quick 65 = .ok (.aload_n 0, 1) := by decide +kernel
theorem dX12_quick_66 : decode cX12_quick 66 = .ok (.getfield 13, 3) := by decide +kernel
theorem dX12_quick_69 : decode cX12_quick 69 = .ok (.iload_n 1, 1) := by decide +kernel
theorem dX12_quick_70 : decode cX12_quick 70 = .ok (.iaload, 1) := by decide +kernel
theorem dX12_quick_71 : decode cX12_quick 71 = .ok (.invokevirtual 214, 3) := by decide +kernel
theorem dX12_quick_74 : decode cX12_quick 74 = .ok (.goto 37, 3) := by decide +kernel
theorem dX12_quick_77 : decode cX12_quick 77 = .ok (.iload 5, 2) := by decide +kernel
theorem dX12_quick_79 : decode cX12_quick 79 = .ok (.iconst 5, 1) := by decide +kernel
theorem dX12_quick_80 : decode cX12_quick 80 = .ok (.if_icmp .ge 15, 3) := by decide +kernel
theorem dX12_quick_83 : decode cX12_quick 83 = .ok (.aload_n 0, 1) := by decide +kernel
theorem dX12_quick_84 : decode cX12_quick 84 = .ok (.iconst 3, 1) := by decide +kernel
theorem dX12_quick_85 : decode cX12_quick 85 = .ok (.iload 5, 2) := by decide +kernel
theorem dX12_quick_87 : decode cX12_quick 87 = .ok (.iconst 2, 1) := by decide +kernel
theorem dX12_quick_88 : decode cX12_quick 88 = .ok (.isub, 1) := by decide +kernel
theorem dX12_quick_89 : decode cX12_quick 89 = .ok (.invokevirtual 214, 3) := by decide +kernel
theorem dX12_quick_92 : decode cX12_quick 92 = .ok (.goto 19, 3) := by decide +kernel
theorem dX12_quick_95 : decode cX12_quick 95 = .ok (.aload_n 0, 1) := by decide +kernel
theorem dX12_quick_96 : decode cX12_quick 96 = .ok (.invokevirtual 204, 3) := by decide +kernel
theorem dX12_quick_99 : decode cX12_quick 99 = .ok (.aload_n 0, 1) := by decide +kernel
theorem dX12_quick_100 : decode cX12_quick 100 = .ok (.iconst 3, 1) := by decide +kernel
theorem dX12_quick_101 : decode cX12_quick 101 = .ok (.iload 5, 2) := by decide +kernel
theorem dX12_quick_103 : decode cX12_quick 103 = .ok (.iconst 5, 1) := by decide +kernel
theorem dX12_quick_104 : decode cX12_quick 104 = .ok (.isub, 1) := by decide +kernel
theorem dX12_quick_105 : decode cX12_quick 105 = .ok (.invokevirtual 214, 3) := by decide +kernel
theorem dX12_quick_108 : decode cX12_quick 108 = .ok (.iconst (-1), 1) := by decide +kernel
theorem dX12_quick_109 : decode cX12_quick 109 = .ok (.ixor, 1) := by decide +kernel
theorem dX12_quick_110 : decode cX12_quick 110 = .ok (.iand, 1) := by decide +kernel
theorem dX12_quick_111 : decode cX12_quick 111 = .ok (.istore 6, 2) := by decide +kernel
theorem dX12_quick_113 : decode cX12_quick 113 = .ok (.iload 6, 2) := by decide +kernel
theorem dX12_quick_115 : decode cX12_quick 115 = .ok (.iload_n 1, 1) := by decide +kernel
theorem dX12_quick_116 : decode cX12_quick 116 = .ok (.ishr, 1) := by decide +kernel
theorem dX12_quick_117 : decode cX12_quick 117 = .ok (.iconst 1, 1) := by decide +kernel
theorem dX12_quick_118 : decode cX12_quick 118 = .ok (.iand, 1) := by decide +kernel
theorem dX12_quick_119 : decode cX12_quick 119 = .ok (.iconst 1, 1) := by decide +kernel
theorem dX12_quick_120 : decode cX12_quick 120 = .ok (.if_icmp .ne 79, 3) := by decide +kernel
theorem dX12_quick_123 : decode cX12_quick 123 = .ok (.iload_n 2, 1) := by decide +kernel
theorem dX12_quick_124 : decode cX12_quick 124 = .ok (.iload 6, 2) := by decide +kernel
theorem dX12_quick_126 : decode cX12_quick 126 = .ok (.iand, 1) := by decide +kernel
theorem dX12_quick_127 : decode cX12_quick 127 = .ok (.iload_n 2, 1) := by decide +kernel
theorem dX12_quick_128 : decode cX12_quick 128 = .ok (.if_icmp .eq 71, 3) := by decide +kernel
theorem dX12_quick_131 : decode cX12_quick 131 = .ok (.iload_n 2, 1) := by decide +kernel
theorem dX12_quick_132 : decode cX12_quick 132 = .ok (.iload 6, 2) := by decide +kernel
theorem dX12_quick_134 : decode cX12_quick 134 = .ok (.iand, 1) := by decide +kernel
theorem dX12_quick_135 : decode cX12_quick 135 = .ok (.istore_n 2, 1) := by decide +kernel
theorem dX12_quick_136 : decode cX12_quick 136 = .ok (.iload_n 3, 1) := by decide +kernel
theorem dX12_quick_137 : decode cX12_quick 137 = .ok (.iload 5, 2) := by decide +kernel
theorem dX12_quick_139 : decode cX12_quick 139 = .ok (.ifCond .ne 12, 3) := by decide +kernel
theorem dX12_quick_142 : decode cX12_quick 142 = .ok (.aload_n 0, 1) := by decide +kernel
theorem dX12_quick_143 : decode cX12_quick 143 = .ok (.getfield 28, 3) := by decide +kernel
theorem dX12_quick_146 : decode cX12_quick 146 = .ok (.iconst 1, 1) := by decide +kernel
theorem dX12_quick_147 : decode cX12_quick 147 = .ok (.iaload, 1) := by decide +kernel
theorem dX12_quick_148 : decode cX12_quick 148 = .ok (.goto 46, 3) := by decide +kernel
theorem dX12_quick_151 : decode cX12_quick 151 = .ok (.iload 5, 2) := by decide +kernel
theorem dX12_quick_153 : decode cX12_quick 153 = .ok (.iconst 1, 1) := by decide +kernel
theorem dX12_quick_154 : decode cX12_quick 154 = .ok (.if_icmp .ne 12, 3) := by decide +kernel
theorem dX12_quick_157 : decode cX12_quick 157 = .ok (.aload_n 0, 1) := by decide +kernel
theorem dX12_quick_158 : decode cX12_quick 158 = .ok (.getfield 28, 3) := by decide +kernel
theorem dX12_quick_161 : decode cX12_quick 161 = .ok (.iconst 2, 1) := by decide +kernel
theorem dX12_quick_162 : decode cX12_quick 162 = .ok (.iaload, 1) := by decide +kernel
theorem dX12_quick_163 : decode cX12_quick 163 = .ok (.goto 31, 3) := by decide +kernel
theorem dX12_quick_166 : decode cX12_quick 166 = .ok (.iload 5, 2) := by decide +kernel
theorem dX12_quick_168 : decode cX12_quick 168 = .ok (.iconst 5, 1) := by decide +kernel
theorem dX12_quick_169 : decode cX12_quick 169 = .ok (.if_icmp .ge 12, 3) := by decide +kernel
theorem dX12_quick_172 : decode cX12_quick 172 = .ok (.aload_n 0, 1) := by decide +kernel
theorem dX12_quick_173 : decode cX12_quick 173 = .ok (.getfield 28, 3) := by decide +kernel
theorem dX12_quick_176 : decode cX12_quick 176 = .ok (.iconst 3, 1) := by decide +kernel
theorem dX12_quick_177 : decode cX12_quick 177 = .ok (.iaload, 1) := by decide +kernel
theorem dX12_quick_178 : decode cX12_quick 178 = .ok (.goto 16, 3) := by decide +kernel
theorem dX12_quick_181 : decode cX12_quick 181 = .ok (.aload_n 0, 1) := by decide +kernel
theorem dX12_quick_182 : decode cX12_quick 182 = .ok (.getfield 28, 3) := by decide +kernel
theorem dX12_quick_185 : decode cX12_quick 185 = .ok (.iconst 4, 1) := by decide +kernel
theorem dX12_quick_186 : decode cX12_quick 186 = .ok (.iaload, 1) := by decide +kernel
theorem dX12_quick_187 : decode cX12_quick 187 = .ok (.aload_n 0, 1) := by decide +kernel
theorem dX12_quick_188 : decode cX12_quick 188 = .ok (.getfield 28, 3) := by decide +kernel
theorem dX12_quick_191 : decode cX12_quick 191 = .ok (.iconst 3, 1) := by decide +kernel
theorem dX12_quick_192 : decode cX12_quick 192 = .ok (.iaload, 1) := by decide +kernel
theorem dX12_quick_193 : decode cX12_quick 193 = .ok (.iadd, 1) := by decide +kernel
theorem dX12_quick_194 : decode cX12_quick 194 = .ok (.iadd, 1) := by decide +kernel
theorem dX12_quick_195 : decode cX12_quick 195 = .ok (.istore_n 3, 1) := by decide +kernel
theorem dX12_quick_196 : decode cX12_quick 196 = .ok (.iinc 4 1, 3) := by decide +kernel
theorem dX12_quick_199 : decode cX12_quick 199 = .ok (.iinc 5 1, 3) := by decide +kernel
theorem dX12_quick_202 : decode cX12_quick 202 = .ok (.goto (-178), 3) := by decide +kernel
theorem dX12_quick_205 : decode cX12_quick 205 = .ok (.iload_n 2, 1) := by decide +kernel
theorem dX12_quick_206 : decode cX12_quick 206 = .ok (.iconst 1, 1) := by decide +kernel
theorem dX12_quick_207 : decode cX12_quick 207 = .ok (.iload_n 1, 1) := by decide +kernel
theorem dX12_quick_208 : decode cX12_quick 208 = .ok (.ishl, 1) := by decide +kernel
theorem dX12_quick_209 : decode cX12_quick 209 = .ok (.if_icmp .eq 5, 3) := by decide +kernel
theorem dX12_quick_212 : decode cX12_quick 212 = .ok (.iconst (-1), 1) := by decide +kernel
theorem dX12_quick_213 : decode cX12_quick 213 = .ok (.ireturn, 1) := by decide +kernel
theorem dX12_quick_214 : decode cX12_quick 214 = .ok (.iload 4, 2) := by decide +kernel
theorem dX12_quick_216 : decode cX12_quick 216 = .ok (.ifCond .ne 12, 3) := by decide +kernel
theorem dX12_quick_219 : decode cX12_quick 219 = .ok (.aload_n 0, 1) := by decide +kernel
theorem dX12_quick_220 : decode cX12_quick 220 = .ok (.getfield 28, 3) := by decide +kernel
theorem dX12_quick_223 : decode cX12_quick 223 = .ok (.iconst 0, 1) := by decide +kernel
theorem dX12_quick_224 : decode cX12_quick 224 = .ok (.iaload, 1) := by decide +kernel
theorem dX12_quick_225 : decode cX12_quick 225 = .ok (.goto 16, 3) := by decide +kernel
theorem dX12_quick_228 : decode cX12_quick 228 = .ok (.iload_n 3, 1) := by decide +kernel
theorem dX12_quick_229 : decode cX12_quick 229 = .ok (.iload 4, 2) := by decide +kernel
theorem dX12_quick_231 : decode cX12_quick 231 = .ok (.iconst 1, 1) := by decide +kernel
theorem dX12_quick_232 : decode cX12_quick 232 = .ok (.isub, 1) := by decide +kernel
theorem dX12_quick_233 : decode cX12_quick 233 = .ok (.aload_n 0, 1) := by decide +kernel
theorem dX12_quick_234 : decode cX12_quick 234 = .ok (.getfield 28, 3) := by decide +kernel
theorem dX12_quick_237 : decode cX12_quick 237 = .ok (.iconst 5, 1) := by decide +kernel
theorem dX12_quick_238 : decode cX12_quick 238 = .ok (.iaload, 1) := by decide +kernel
theorem dX12_quick_239 : decode cX12_quick 239 = .ok (.imul, 1) := by decide +kernel
theorem dX12_quick_240 : decode cX12_quick 240 = .ok (.iadd, 1) := by decide +kernel
theorem dX12_quick_241 : decode cX12_quick 241 = .ok (.ireturn, 1) := by decide +kernel
theorem dX12_howMany_0 : decode cX12_howMany 0 = .ok (.iconst 0, 1) := by decide +kernel
theorem dX12_howMany_1 : decode cX12_howMany 1 = .ok (.istore_n 3, 1) := by decide +kernel
theorem dX12_howMany_2 : decode cX12_howMany 2 = .ok (.iconst 0, 1) := by decide +kernel
theorem dX12_howMany_3 : decode cX12_howMany 3 = .ok (.istore 4, 2) := by decide +kernel
theorem dX12_howMany_5 : decode cX12_howMany 5 = .ok (.iload 4, 2) := by decide +kernel
theorem dX12_howMany_7 : decode cX12_howMany 7 = .ok (.aload_n 0, 1) := by decide +kernel
theorem dX12_howMany_8 : decode cX12_howMany 8 = .ok (.getfield 98, 3) := by decide +kernel
theorem dX12_howMany_11 : decode cX12_howMany 11 = .ok (.if_icmp .ge 38, 3) := by decide +kernel
theorem dX12_howMany_14 : decode cX12_howMany 14 = .ok (.iload_n 3, 1) := by decide +kernel
theorem dX12_howMany_15 : decode cX12_howMany 15 = .ok (.iload_n 1, 1) := by decide +kernel
theorem dX12_howMany_16 : decode cX12_howMany 16 = .ok (.iload 4, 2) := by decide +kernel
theorem dX12_howMany_18 : decode cX12_howMany 18 = .ok (.ishr, 1) := by decide +kernel
theorem dX12_howMany_19 : decode cX12_howMany 19 = .ok (.iconst 1, 1) := by decide +kernel
theorem dX12_howMany_20 : decode cX12_howMany 20 = .ok (.iand, 1) := by decide +kernel
theorem dX12_howMany_21 : decode cX12_howMany 21 = .ok (.iconst 1, 1) := by decide +kernel
theorem dX12_howMany_22 : decode cX12_howMany 22 = .ok (.if_icmp .ne 18, 3) := by decide +kernel
theorem dX12_howMany_25 : decode cX12_howMany 25 = .ok (.aload_n 0, 1) := by decide +kernel
theorem dX12_howMany_26 : decode cX12_howMany 26 = .ok (.getfield 74, 3) := by decide +kernel
theorem dX12_howMany_29 : decode cX12_howMany 29 = .ok (.iload 4, 2) := by decide +kernel
theorem dX12_howMany_31 : decode cX12_howMany 31 = .ok (.iaload, 1) := by decide +kernel
theorem dX12_howMany_32 : decode cX12_howMany 32 = .ok (.iload_n 2, 1) := by decide +kernel
theorem dX12_howMany_33 : decode cX12_howMany 33 = .ok (.if_icmp .ne 7, 3) := by decide +kernel
theorem dX12_howMany_36 : decode cX12_howMany 36 = .ok (.iconst 1, 1) := by decide +kernel
theorem dX12_howMany_37 : decode cX12_howMany 37 = .ok (.goto 4, 3) := by decide +kernel
theorem dX12_howMany_40 : decode cX12_howMany 40 = .ok (.iconst 0, 1) := by decide +kernel
theorem dX12_howMany_41 : decode cX12_howMany 41 = .ok (.iadd, 1) := by decide +kernel
theorem dX12_howMany_42 : decode cX12_howMany 42 = .ok (.istore_n 3, 1) := by decide +kernel
theorem dX12_howMany_43 : decode cX12_howMany 43 = .ok (.iinc 4 1, 3) := by decide +kernel
theorem dX12_howMany_46 : decode cX12_howMany 46 = .ok (.goto (-41), 3) := by decide +kernel
theorem dX12_howMany_49 : decode cX12_howMany 49 = .ok (.iload_n 3, 1) := by decide +kernel
theorem dX12_howMany_50 : decode cX12_howMany 50 = .ok (.ireturn, 1) := by decide +kernel
theorem dX12_tiesTo_0 : decode cX12_tiesTo 0 = .ok (.iconst 0, 1) := by decide +kernel
theorem dX12_tiesTo_1 : decode cX12_tiesTo 1 = .ok (.istore_n 2, 1) := by decide +kernel
theorem dX12_tiesTo_2 : decode cX12_tiesTo 2 = .ok (.iconst 0, 1) := by decide +kernel
theorem dX12_tiesTo_3 : decode cX12_tiesTo 3 = .ok (.istore_n 3, 1) := by decide +kernel
theorem dX12_tiesTo_4 : decode cX12_tiesTo 4 = .ok (.iload_n 3, 1) := by decide +kernel
theorem dX12_tiesTo_5 : decode cX12_tiesTo 5 = .ok (.aload_n 0, 1) := by decide +kernel
theorem dX12_tiesTo_6 : decode cX12_tiesTo 6 = .ok (.getfield 98, 3) := by decide +kernel
theorem dX12_tiesTo_9 : decode cX12_tiesTo 9 = .ok (.if_icmp .ge 24, 3) := by decide +kernel
theorem dX12_tiesTo_12 : decode cX12_tiesTo 12 = .ok (.iload_n 2, 1) := by decide +kernel
theorem dX12_tiesTo_13 : decode cX12_tiesTo 13 = .ok (.aload_n 0, 1) := by decide +kernel
theorem dX12_tiesTo_14 : decode cX12_tiesTo 14 = .ok (.getfield 25, 3) := by decide +kernel
theorem dX12_tiesTo_17 : decode cX12_tiesTo 17 = .ok (.iload_n 3, 1) := by decide +kernel
theorem dX12_tiesTo_18 : decode cX12_tiesTo 18 = .ok (.iaload, 1) := by decide +kernel
theorem dX12_tiesTo_19 : decode cX12_tiesTo 19 = .ok (.iload_n 1, 1) := by decide +kernel
theorem dX12_tiesTo_20 : decode cX12_tiesTo 20 = .ok (.ishr, 1) := by decide +kernel
theorem dX12_tiesTo_21 : decode cX12_tiesTo 21 = .ok (.iconst 1, 1) := by decide +kernel
theorem dX12_tiesTo_22 : decode cX12_tiesTo 22 = .ok (.iand, 1) := by decide +kernel
theorem dX12_tiesTo_23 : decode cX12_tiesTo 23 = .ok (.iload_n 3, 1) := by decide +kernel
theorem dX12_tiesTo_24 : decode cX12_tiesTo 24 = .ok (.ishl, 1) := by decide +kernel
theorem dX12_tiesTo_25 : decode cX12_tiesTo 25 = .ok (.ior, 1) := by decide +kernel
theorem dX12_tiesTo_26 : decode cX12_tiesTo 26 = .ok (.istore_n 2, 1) := by decide +kernel
