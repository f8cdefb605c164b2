theorem dX12_tiesTo_27 : decode cX12_tiesTo 27 = .ok (.iinc 3 1, 3) := by decide +kernel
theorem dX12_tiesTo_30 : decode cX12_tiesTo 30 = .ok (.goto (-26), 3) := by decide +kernel
theorem dX12_tiesTo_33 : decode cX12_tiesTo 33 = .ok (.iload_n 2, 1) := by decide +kernel
theorem dX12_tiesTo_34 : decode cX12_tiesTo 34 = .ok (.ireturn, 1) := by decide +kernel
theorem dX12_areAlike_0 : decode cX12_areAlike 0 = .ok (.aload_n 0, 1) := by decide +kernel
theorem dX12_areAlike_1 : decode cX12_areAlike 1 = .ok (.getfield 74, 3) := by decide +kernel
theorem dX12_areAlike_4 : decode cX12_areAlike 4 = .ok (.iload_n 1, 1) := by decide +kernel
theorem dX12_areAlike_5 : decode cX12_areAlike 5 = .ok (.iaload, 1) := by decide +kernel
theorem dX12_areAlike_6 : decode cX12_areAlike 6 = .ok (.aload_n 0, 1) := by decide +kernel
theorem dX12_areAlike_7 : decode cX12_areAlike 7 = .ok (.getfield 74, 3) := by decide +kernel
theorem dX12_areAlike_10 : decode cX12_areAlike 10 = .ok (.iload_n 2, 1) := by decide +kernel
theorem dX12_areAlike_11 : decode cX12_areAlike 11 = .ok (.iaload, 1) := by decide +kernel
theorem dX12_areAlike_12 : decode cX12_areAlike 12 = .ok (.if_icmp .ne 7, 3) := by decide +kernel
theorem dX12_areAlike_15 : decode cX12_areAlike 15 = .ok (.iconst 1, 1) := by decide +kernel
theorem dX12_areAlike_16 : decode cX12_areAlike 16 = .ok (.goto 4, 3) := by decide +kernel
theorem dX12_areAlike_19 : decode cX12_areAlike 19 = .ok (.iconst 0, 1) := by decide +kernel
theorem dX12_areAlike_20 : decode cX12_areAlike 20 = .ok (.istore_n 3, 1) := by decide +kernel
theorem dX12_areAlike_21 : decode cX12_areAlike 21 = .ok (.iconst 0, 1) := by decide +kernel
theorem dX12_areAlike_22 : decode cX12_areAlike 22 = .ok (.istore 4, 2) := by decide +kernel
theorem dX12_areAlike_24 : decode cX12_areAlike 24 = .ok (.iload 4, 2) := by decide +kernel
theorem dX12_areAlike_26 : decode cX12_areAlike 26 = .ok (.aload_n 0, 1) := by decide +kernel
theorem dX12_areAlike_27 : decode cX12_areAlike 27 = .ok (.getfield 98, 3) := by decide +kernel
theorem dX12_areAlike_30 : decode cX12_areAlike 30 = .ok (.if_icmp .ge 96, 3) := by decide +kernel
theorem dX12_areAlike_33 : decode cX12_areAlike 33 = .ok (.iload_n 3, 1) := by decide +kernel
theorem dX12_areAlike_34 : decode cX12_areAlike 34 = .ok (.ifCond .eq 92, 3) := by decide +kernel
theorem dX12_areAlike_37 : decode cX12_areAlike 37 = .ok (.aload_n 0, 1) := by decide +kernel
theorem dX12_areAlike_38 : decode cX12_areAlike 38 = .ok (.aload_n 0, 1) := by decide +kernel
theorem dX12_areAlike_39 : decode cX12_areAlike 39 = .ok (.iload_n 1, 1) := by decide +kernel
theorem dX12_areAlike_40 : decode cX12_areAlike 40 = .ok (.invokevirtual 118, 3) := by decide +kernel
theorem dX12_areAlike_43 : decode cX12_areAlike 43 = .ok (.iload 4, 2) := by decide +kernel
theorem dX12_areAlike_45 : decode cX12_areAlike 45 = .ok (.invokevirtual 255, 3) := by decide +kernel
theorem dX12_areAlike_48 : decode cX12_areAlike 48 = .ok (.aload_n 0, 1) := by decide +kernel
theorem dX12_areAlike_49 : decode cX12_areAlike 49 = .ok (.aload_n 0, 1) := by decide +kernel
theorem dX12_areAlike_50 : decode cX12_areAlike 50 = .ok (.iload_n 2, 1) := by decide +kernel
theorem dX12_areAlike_51 : decode cX12_areAlike 51 = .ok (.invokevirtual 118, 3) := by decide +kernel
theorem dX12_areAlike_54 : decode cX12_areAlike 54 = .ok (.iload 4, 2) := by decide +kernel
theorem dX12_areAlike_56 : decode cX12_areAlike 56 = .ok (.invokevirtual 255, 3) := by decide +kernel
theorem dX12_areAlike_59 : decode cX12_areAlike 59 = .ok (.if_icmp .ne 59, 3) := by decide +kernel
theorem dX12_areAlike_62 : decode cX12_areAlike 62 = .ok (.aload_n 0, 1) := by decide +kernel
theorem dX12_areAlike_63 : decode cX12_areAlike 63 = .ok (.aload_n 0, 1) := by decide +kernel
theorem dX12_areAlike_64 : decode cX12_areAlike 64 = .ok (.getfield 25, 3) := by decide +kernel
theorem dX12_areAlike_67 : decode cX12_areAlike 67 = .ok (.iload_n 1, 1) := by decide +kernel
theorem dX12_areAlike_68 : decode cX12_areAlike 68 = .ok (.iaload, 1) := by decide +kernel
theorem dX12_areAlike_69 : decode cX12_areAlike 69 = .ok (.iload 4, 2) := by decide +kernel
theorem dX12_areAlike_71 : decode cX12_areAlike 71 = .ok (.invokevirtual 255, 3) := by decide +kernel
theorem dX12_areAlike_74 : decode cX12_areAlike 74 = .ok (.aload_n 0, 1) := by decide +kernel
theorem dX12_areAlike_75 : decode cX12_areAlike 75 = .ok (.aload_n 0, 1) := by decide +kernel
theorem dX12_areAlike_76 : decode cX12_areAlike 76 = .ok (.getfield 25, 3) := by decide +kernel
theorem dX12_areAlike_79 : decode cX12_areAlike 79 = .ok (.iload_n 2, 1) := by decide +kernel
theorem dX12_areAlike_80 : decode cX12_areAlike 80 = .ok (.iaload, 1) := by decide +kernel
theorem dX12_areAlike_81 : decode cX12_areAlike 81 = .ok (.iload 4, 2) := by decide +kernel
theorem dX12_areAlike_83 : decode cX12_areAlike 83 = .ok (.invokevirtual 255, 3) := by decide +kernel
theorem dX12_areAlike_86 : decode cX12_areAlike 86 = .ok (.if_icmp .ne 32, 3) := by decide +kernel
theorem dX12_areAlike_89 : decode cX12_areAlike 89 = .ok (.aload_n 0, 1) := by decide +kernel
theorem dX12_areAlike_90 : decode cX12_areAlike 90 = .ok (.aload_n 0, 1) := by decide +kernel
theorem dX12_areAlike_91 : decode cX12_areAlike 91 = .ok (.iload_n 1, 1) := by decide +kernel
theorem dX12_areAlike_92 : decode cX12_areAlike 92 = .ok (.invokevirtual 258, 3) := by decide +kernel
theorem dX12_areAlike_95 : decode cX12_areAlike 95 = .ok (.iload 4, 2) := by decide +kernel
theorem dX12_areAlike_97 : decode cX12_areAlike 97 = .ok (.invokevirtual 255, 3) := by decide +kernel
theorem dX12_areAlike_100 : decode cX12_areAlike 100 = .ok (.aload_n 0, 1) := by decide +kernel
theorem dX12_areAlike_101 : decode cX12_areAlike 101 = .ok (.aload_n 0, 1) := by decide +kernel
theorem dX12_areAlike_102 : decode cX12_areAlike 102 = .ok (.iload_n 2, 1) := by decide +kernel
theorem dX12_areAlike_103 : decode cX12_areAlike 103 = .ok (.invokevirtual 258, 3) := by decide +kernel
theorem dX12_areAlike_106 : decode cX12_areAlike 106 = .ok (.iload 4, 2) := by decide +kernel
theorem dX12_areAlike_108 : decode cX12_areAlike 108 = .ok (.invokevirtual 255, 3) := by decide +kernel
theorem dX12_areAlike_111 : decode cX12_areAlike 111 = .ok (.if_icmp .ne 7, 3) := by decide +kernel
theorem dX12_areAlike_114 : decode cX12_areAlike 114 = .ok (.iconst 1, 1) := by decide +kernel
theorem dX12_areAlike_115 : decode cX12_areAlike 115 = .ok (.goto 4, 3) := by decide +kernel
theorem dX12_areAlike_118 : decode cX12_areAlike 118 = .ok (.iconst 0, 1) := by decide +kernel
theorem dX12_areAlike_119 : decode cX12_areAlike 119 = .ok (.istore_n 3, 1) := by decide +kernel
theorem dX12_areAlike_120 : decode cX12_areAlike 120 = .ok (.iinc 4 1, 3) := by decide +kernel
theorem dX12_areAlike_123 : decode cX12_areAlike 123 = .ok (.goto (-99), 3) := by decide +kernel
theorem dX12_areAlike_126 : decode cX12_areAlike 126 = .ok (.iload_n 3, 1) := by decide +kernel
theorem dX12_areAlike_127 : decode cX12_areAlike 127 = .ok (.ireturn, 1) := by decide +kernel
theorem dX12_findTwins_0 : decode cX12_findTwins 0 = .ok (.iconst 0, 1) := by decide +kernel
theorem dX12_findTwins_1 : decode cX12_findTwins 1 = .ok (.istore_n 1, 1) := by decide +kernel
theorem dX12_findTwins_2 : decode cX12_findTwins 2 = .ok (.iload_n 1, 1) := by decide +kernel
theorem dX12_findTwins_3 : decode cX12_findTwins 3 = .ok (.aload_n 0, 1) := by decide +kernel
theorem dX12_findTwins_4 : decode cX12_findTwins 4 = .ok (.getfield 98, 3) := by decide +kernel
theorem dX12_findTwins_7 : decode cX12_findTwins 7 = .ok (.if_icmp .ge 98, 3) := by decide +kernel
theorem dX12_findTwins_10 : decode cX12_findTwins 10 = .ok (.aload_n 0, 1) := by decide +kernel
theorem dX12_findTwins_11 : decode cX12_findTwins 11 = .ok (.getfield 74, 3) := by decide +kernel
theorem dX12_findTwins_14 : decode cX12_findTwins 14 = .ok (.iload_n 1, 1) := by decide +kernel
theorem dX12_findTwins_15 : decode cX12_findTwins 15 = .ok (.iload_n 1, 1) := by decide +kernel
theorem dX12_findTwins_16 : decode cX12_findTwins 16 = .ok (.iastore, 1) := by decide +kernel
theorem dX12_findTwins_17 : decode cX12_findTwins 17 = .ok (.aload_n 0, 1) := by decide +kernel
theorem dX12_findTwins_18 : decode cX12_findTwins 18 = .ok (.getfield 80, 3) := by decide +kernel
theorem dX12_findTwins_21 : decode cX12_findTwins 21 = .ok (.iload_n 1, 1) := by decide +kernel
theorem dX12_findTwins_22 : decode cX12_findTwins 22 = .ok (.iconst 0, 1) := by decide +kernel
theorem dX12_findTwins_23 : decode cX12_findTwins 23 = .ok (.iastore, 1) := by decide +kernel
theorem dX12_findTwins_24 : decode cX12_findTwins 24 = .ok (.iload_n 1, 1) := by decide +kernel
theorem dX12_findTwins_25 : decode cX12_findTwins 25 = .ok (.iconst 1, 1) := by decide +kernel
theorem dX12_findTwins_26 : decode cX12_findTwins 26 = .ok (.isub, 1) := by decide +kernel
theorem dX12_findTwins_27 : decode cX12_findTwins 27 = .ok (.istore_n 2, 1) := by decide +kernel
theorem dX12_findTwins_28 : decode cX12_findTwins 28 = .ok (.iload_n 2, 1) := by decide +kernel
theorem dX12_findTwins_29 : decode cX12_findTwins 29 = .ok (.ifCond .lt 70, 3) := by decide +kernel
theorem dX12_findTwins_32 : decode cX12_findTwins 32 = .ok (.aload_n 0, 1) := by decide +kernel
theorem dX12_findTwins_33 : decode cX12_findTwins 33 = .ok (.getfield 74, 3) := by decide +kernel
theorem dX12_findTwins_36 : decode cX12_findTwins 36 = .ok (.iload_n 1, 1) := by decide +kernel
theorem dX12_findTwins_37 : decode cX12_findTwins 37 = .ok (.aload_n 0, 1) := by decide +kernel
theorem dX12_findTwins_38 : decode cX12_findTwins 38 = .ok (.getfield 7, 3) := by decide +kernel
theorem dX12_findTwins_41 : decode cX12_findTwins 41 = .ok (.iload_n 2, 1) := by decide +kernel
theorem dX12_findTwins_42 : decode cX12_findTwins 42 = .ok (.iaload, 1) := by decide +kernel
theorem dX12_findTwins_43 : decode cX12_findTwins 43 = .ok (.aload_n 0, 1) := by decide +kernel
theorem dX12_findTwins_44 : decode cX12_findTwins 44 = .ok (.getfield 7, 3) := by decide +kernel
theorem dX12_findTwins_47 : decode cX12_findTwins 47 = .ok (.iload_n 1, 1) := by decide +kernel
theorem dX12_findTwins_48 : decode cX12_findTwins 48 = .ok (.iaload, 1) := by decide +kernel
theorem dX12_findTwins_49 : decode cX12_findTwins 49 = .ok (.if_icmp .ne 37, 3) := by decide +kernel
theorem dX12_findTwins_52 : decode cX12_findTwins 52 = .ok (.aload_n 0, 1) := by decide +kernel
theorem dX12_findTwins_53 : decode cX12_findTwins 53 = .ok (.getfield 13, 3) := by decide +kernel
theorem dX12_findTwins_56 : decode cX12_findTwins 56 = .ok (.iload_n 2, 1) := by decide +kernel
theorem dX12_findTwins_57 : decode cX12_findTwins 57 = .ok (.iaload, 1) := by decide +kernel
theorem dX12_findTwins_58 : decode cX12_findTwins 58 = .ok (.aload_n 0, 1) := by decide +kernel
theorem dX12_findTwins_59 : decode cX12_findTwins 59 = .ok (.getfield 13, 3) := by decide +kernel
theorem dX12_findTwins_62 : decode cX12_findTwins 62 = .ok (.iload_n 1, 1) := by decide +kernel
theorem dX12_findTwins_63 : decode cX12_findTwins 63 = .ok (.iaload, 1) := by decide +kernel
theorem dX12_findTwins_64 : decode cX12_findTwins 64 = .ok (.if_icmp .ne 22, 3) := by decide +kernel
theorem dX12_findTwins_67 : decode cX12_findTwins 67 = .ok (.aload_n 0, 1) := by decide +kernel
theorem dX12_findTwins_68 : decode cX12_findTwins 68 = .ok (.getfield 19, 3) := by decide +kernel
theorem dX12_findTwins_71 : decode cX12_findTwins 71 = .ok (.iload_n 2, 1) := by decide +kernel
theorem dX12_findTwins_72 : decode cX12_findTwins 72 = .ok (.iaload, 1) := by decide +kernel
theorem dX12_findTwins_73 : decode cX12_findTwins 73 = .ok (.aload_n 0, 1) := by decide +kernel
theorem dX12_findTwins_74 : decode cX12_findTwins 74 = .ok (.getfield 19, 3) := by decide +kernel
theorem dX12_findTwins_77 : decode cX12_findTwins 77 = .ok (.iload_n 1, 1) := by decide +kernel
theorem dX12_findTwins_78 : decode cX12_findTwins 78 = .ok (.iaload, 1) := by decide +kernel
theorem dX12_findTwins_79 : decode cX12_findTwins 79 = .ok (.if_icmp .ne 7, 3) := by decide +kernel
theorem dX12_findTwins_82 : decode cX12_findTwins 82 = .ok (.iload_n 2, 1) := by decide +kernel
theorem dX12_findTwins_83 : decode cX12_findTwins 83 = .ok (.goto 9, 3) := by decide +kernel
theorem dX12_findTwins_86 : decode cX12_findTwins 86 = .ok (.aload_n 0, 1) := by decide +kernel
theorem dX12_findTwins_87 : decode cX12_findTwins 87 = .ok (.getfield 74, 3) := by decide +kernel
theorem dX12_findTwins_90 : decode cX12_findTwins 90 = .ok (.iload_n 1, 1) := by decide +kernel
theorem dX12_findTwins_91 : decode cX12_findTwins 91 = .ok (.iaload, 1) := by decide +kernel
theorem dX12_findTwins_92 : decode cX12_findTwins 92 = .ok (.iastore, 1) := by decide +kernel
theorem dX12_findTwins_93 : decode cX12_findTwins 93 = .ok (.iinc 2 (-1), 3) := by decide +kernel
theorem dX12_findTwins_96 : decode cX12_findTwins 96 = .ok (.goto (-68), 3) := by decide +kernel
theorem dX12_findTwins_99 : decode cX12_findTwins 99 = .ok (.iinc 1 1, 3) := by decide +kernel
theorem dX12_findTwins_102 : decode cX12_findTwins 102 = .ok (.goto (-100), 3) := by decide +kernel
theorem dX12_findTwins_105 : decode cX12_findTwins 105 = .ok (.iconst 1, 1) := by decide +kernel
theorem dX12_findTwins_106 : decode cX12_findTwins 106 = .ok (.istore_n 1, 1) := by decide +kernel
theorem dX12_findTwins_107 : decode cX12_findTwins 107 = .ok (.iconst 1, 1) := by decide +kernel
theorem dX12_findTwins_108 : decode cX12_findTwins 108 = .ok (.istore_n 2, 1) := by decide +kernel
theorem dX12_findTwins_109 : decode cX12_findTwins 109 = .ok (.iload_n 1, 1) := by decide +kernel
theorem dX12_findTwins_110 : decode cX12_findTwins 110 = .ok (.ifCond .eq 222, 3) := by decide +kernel
theorem dX12_findTwins_113 : decode cX12_findTwins 113 = .ok (.iconst 0, 1) := by decide +kernel
theorem dX12_findTwins_114 : decode cX12_findTwins 114 = .ok (.istore_n 1, 1) := by decide +kernel
theorem dX12_findTwins_115 : decode cX12_findTwins 115 = .ok (.iconst 0, 1) := by decide +kernel
theorem dX12_findTwins_116 : decode cX12_findTwins 116 = .ok (.istore_n 3, 1) := by decide +kernel
theorem dX12_findTwins_117 : decode cX12_findTwins 117 = .ok (.iload_n 3, 1) := by decide +kernel
theorem dX12_findTwins_118 : decode cX12_findTwins 118 = .ok (.aload_n 0, 1) := by decide +kernel
theorem dX12_findTwins_119 : decode cX12_findTwins 119 = .ok (.getfield 98, 3) := by decide +kernel
theorem dX12_findTwins_122 : decode cX12_findTwins 122 = .ok (.if_icmp .ge 59, 3) := by decide +kernel
theorem dX12_findTwins_125 : decode cX12_findTwins 125 = .ok (.aload_n 0, 1) := by decide +kernel
theorem dX12_findTwins_126 : decode cX12_findTwins 126 = .ok (.getfield 77, 3) := by decide +kernel
theorem dX12_findTwins_129 : decode cX12_findTwins 129 = .ok (.iload_n 3, 1) := by decide +kernel
theorem dX12_findTwins_130 : decode cX12_findTwins 130 = .ok (.iload_n 3, 1) := by decide +kernel
theorem dX12_findTwins_131 : decode cX12_findTwins 131 = .ok (.iastore, 1) := by decide +kernel
theorem dX12_findTwins_132 : decode cX12_findTwins 132 = .ok (.iload_n 3, 1) := by decide +kernel
theorem dX12_findTwins_133 : decode cX12_findTwins 133 = .ok (.iconst 1, 1) := by decide +kernel
theorem dX12_findTwins_134 : decode cX12_findTwins 134 = .ok (.isub, 1) := by decide +kernel
theorem dX12_findTwins_135 : decode cX12_findTwins 135 = .ok (.istore 4, 2) := by decide +kernel
theorem dX12_findTwins_137 : decode cX12_findTwins 137 = .ok (.iload 4, 2) := by decide +kernel
theorem dX12_findTwins_139 : decode cX12_findTwins 139 = .ok (.ifCond .lt 36, 3) := by decide +kernel
theorem dX12_findTwins_142 : decode cX12_findTwins 142 = .ok (.aload_n 0, 1) := by decide +kernel
theorem dX12_findTwins_143 : decode cX12_findTwins 143 = .ok (.getfield 77, 3) := by decide +kernel
theorem dX12_findTwins_146 : decode cX12_findTwins 146 = .ok (.iload_n 3, 1) := by decide +kernel
theorem dX12_findTwins_147 : decode cX12_findTwins 147 = .ok (.aload_n 0, 1) := by decide +kernel
theorem dX12_findTwins_148 : decode cX12_findTwins 148 = .ok (.iload 4, 2) := by decide +kernel
theorem dX12_findTwins_150 : decode cX12_findTwins 150 = .ok (.iload_n 3, 1) := by decide +kernel
theorem dX12_findTwins_151 : decode cX12_findTwins 151 = .ok (.invokevirtual 261, 3) := by decide +kernel
theorem dX12_findTwins_154 : decode cX12_findTwins 154 = .ok (.ifCond .eq 8, 3) := by decide +kernel
theorem dX12_findTwins_157 : decode cX12_findTwins 157 = .ok (.iload 4, 2) := by decide +kernel
theorem dX12_findTwins_159 : decode cX12_findTwins 159 = .ok (.goto 9, 3) := by decide +kernel
theorem dX12_findTwins_162 : decode cX12_findTwins 162 = .ok (.aload_n 0, 1) := by decide +kernel
theorem dX12_findTwins_163 : decode cX12_findTwins 163 = .ok (.getfield 77, 3) := by decide +kernel
theorem dX12_findTwins_166 : decode cX12_findTwins 166 = .ok (.iload_n 3, 1) := by decide +kernel
theorem dX12_findTwins_167 : decode cX12_findTwins 167 = .ok (.iaload, 1) := by decide +kernel
theorem dX12_findTwins_168 : decode cX12_findTwins 168 = .ok (.iastore, 1) := by decide +kernel
theorem dX12_findTwins_169 : decode cX12_findTwins 169 = .ok (.iinc 4 (-1), 3) := by decide +kernel
theorem dX12_findTwins_172 : decode cX12_findTwins 172 = .ok (.goto (-35), 3) := by decide +kernel
theorem dX12_findTwins_175 : decode cX12_findTwins 175 = .ok (.iinc 3 1, 3) := by decide +kernel
theorem dX12_findTwins_178 : decode cX12_findTwins 178 = .ok (.goto (-61), 3) := by decide +kernel
theorem dX12_findTwins_181 : decode cX12_findTwins 181 = .ok (.iconst 0, 1) := by decide +kernel
theorem dX12_findTwins_182 : decode cX12_findTwins 182 = .ok (.istore_n 3, 1) := by decide +kernel
theorem dX12_findTwins_183 : decode cX12_findTwins 183 = .ok (.iload_n 3, 1) := by decide +kernel
theorem dX12_findTwins_184 : decode cX12_findTwins 184 = .ok (.aload_n 0, 1) := by decide +kernel
theorem dX12_findTwins_185 : decode cX12_findTwins 185 = .ok (.getfield 98, 3) := by decide +kernel
theorem dX12_findTwins_188 : decode cX12_findTwins 188 = .ok (.if_icmp .ge 110, 3) := by decide +kernel
theorem dX12_findTwins_191 : decode cX12_findTwins 191 = .ok (.iconst 0, 1) := by decide +kernel
theorem dX12_findTwins_192 : decode cX12_findTwins 192 = .ok (.istore 4, 2) := by decide +kernel
theorem dX12_findTwins_194 : decode cX12_findTwins 194 = .ok (.iconst 0, 1) := by decide +kernel
theorem dX12_findTwins_195 : decode cX12_findTwins 195 = .ok (.istore 5, 2) := by decide +kernel
theorem dX12_findTwins_197 : decode cX12_findTwins 197 = .ok (.iload 5, 2) := by decide +kernel
theorem dX12_findTwins_199 : decode cX12_findTwins 199 = .ok (.aload_n 0, 1) := by decide +kernel
theorem dX12_findTwins_200 : decode cX12_findTwins 200 = .ok (.getfield 98, 3) := by decide +kernel
theorem dX12_findTwins_203 : decode cX12_findTwins 203 = .ok (.if_icmp .ge 53, 3) := by decide +kernel
theorem dX12_findTwins_206 : decode cX12_findTwins 206 = .ok (.iload 4, 2) := by decide +kernel
theorem dX12_findTwins_208 : decode cX12_findTwins 208 = .ok (.ifCond .ne 35, 3) := by decide +kernel
theorem dX12_findTwins_211 : decode cX12_findTwins 211 = .ok (.aload_n 0, 1) := by decide +kernel
theorem dX12_findTwins_212 : decode cX12_findTwins 212 = .ok (.getfield 74, 3) := by decide +kernel
theorem dX12_findTwins_215 : decode cX12_findTwins 215 = .ok (.iload 5, 2) := by decide +kernel
theorem dX12_findTwins_217 : decode cX12_findTwins 217 = .ok (.iaload, 1) := by decide +kernel
theorem dX12_findTwins_218 : decode cX12_findTwins 218 = .ok (.aload_n 0, 1) := by decide +kernel
theorem dX12_findTwins_219 : decode cX12_findTwins 219 = .ok (.getfield 74, 3) := by decide +kernel
theorem dX12_findTwins_222 : decode cX12_findTwins 222 = .ok (.iload_n 3, 1) := by decide +kernel
theorem dX12_findTwins_223 : decode cX12_findTwins 223 = .ok (.iaload, 1) := by decide +kernel
theorem dX12_findTwins_224 : decode cX12_findTwins 224 = .ok (.if_icmp .ne 23, 3) := by decide +kernel
theorem dX12_findTwins_227 : decode cX12_findTwins 227 = .ok (.aload_n 0, 1) := by decide +kernel
theorem dX12_findTwins_228 : decode cX12_findTwins 228 = .ok (.getfield 77, 3) := by decide +kernel
theorem dX12_findTwins_231 : decode cX12_findTwins 231 = .ok (.iload 5, 2) := by decide +kernel
theorem dX12_findTwins_233 : decode cX12_findTwins 233 = .ok (.iaload, 1) := by decide +kernel
theorem dX12_findTwins_234 : decode cX12_findTwins 234 = .ok (.aload_n 0, 1) := by decide +kernel
theorem dX12_findTwins_235 : decode cX12_findTwins 235 = .ok (.getfield 77, 3) := by decide +kernel
theorem dX12_findTwins_238 : decode cX12_findTwins 238 = .ok (.iload_n 3, 1) := by decide +kernel
theorem dX12_findTwins_239 : decode cX12_findTwins 239 = .ok (.iaload, 1) := by decide +kernel
theorem dX12_findTwins_240 : decode cX12_findTwins 240 = .ok (.if_icmp .eq 7, 3) := by decide +kernel
theorem dX12_findTwins_243 : decode cX12_findTwins 243 = .ok (.iconst 1, 1) := by decide +kernel
theorem dX12_findTwins_244 : decode cX12_findTwins 244 = .ok (.goto 4, 3) := by decide +kernel
theorem dX12_findTwins_247 : decode cX12_findTwins 247 = .ok (.iconst 0, 1) := by decide +kernel
theorem dX12_findTwins_248 : decode cX12_findTwins 248 = .ok (.istore 4, 2) := by decide +kernel
theorem dX12_findTwins_250 : decode cX12_findTwins 250 = .ok (.iinc 5 1, 3) := by decide +kernel
theorem dX12_findTwins_253 : decode cX12_findTwins 253 = .ok (.goto (-56), 3) := by decide +kernel
theorem dX12_findTwins_256 : decode cX12_findTwins 256 = .ok (.aload_n 0, 1) := by decide +kernel
theorem dX12_findTwins_257 : decode cX12_findTwins 257 = .ok (.getfield 80, 3) := by decide +kernel
theorem dX12_findTwins_260 : decode cX12_findTwins 260 = .ok (.iload_n 3, 1) := by decide +kernel
theorem dX12_findTwins_261 : decode cX12_findTwins 261 = .ok (.iload 4, 2) := by decide +kernel
theorem dX12_findTwins_263 : decode cX12_findTwins 263 = .ok (.ifCond .eq 7, 3) := by decide +kernel
theorem dX12_findTwins_266 : decode cX12_findTwins 266 = .ok (.iload_n 2, 1) := by decide +kernel
theorem dX12_findTwins_267 : decode cX12_findTwins 267 = .ok (.goto 9, 3) := by decide +kernel
theorem dX12_findTwins_270 : decode cX12_findTwins 270 = .ok (.aload_n 0, 1) := by decide +kernel
theorem dX12_findTwins_271 : decode cX12_findTwins 271 = .ok (.getfield 80, 3) := by decide +kernel
theorem dX12_findTwins_274 : decode cX12_findTwins 274 = .ok (.iload_n 3, 1) := by decide +kernel
theorem dX12_findTwins_275 : decode cX12_findTwins 275 = .ok (.iaload, 1) := by decide +kernel
theorem dX12_findTwins_276 : decode cX12_findTwins 276 = .ok (.iastore, 1) := by decide +kernel
theorem dX12_findTwins_277 : decode cX12_findTwins 277 = .ok (.iload_n 1, 1) := by decide +kernel
theorem dX12_findTwins_278 : decode cX12_findTwins 278 = .ok (.ifCond .ne 8, 3) := by decide +kernel
theorem dX12_findTwins_281 : decode cX12_findTwins 281 = .ok (.iload 4, 2) := by decide +kernel
theorem dX12_findTwins_283 : decode cX12_findTwins 283 = .ok (.ifCond .eq 7, 3) := by decide +kernel
theorem dX12_findTwins_286 : decode cX12_findTwins 286 = .ok (.iconst 1, 1) := by decide +kernel
theorem dX12_findTwins_287 : decode cX12_findTwins 287 = .ok (.goto 4, 3) := by decide +kernel
theorem dX12_findTwins_290 : decode cX12_findTwins 290 = .ok (.iconst 0, 1) := by decide +kernel
theorem dX12_findTwins_291 : decode cX12_findTwins 291 = .ok (.istore_n 1, 1) := by decide +kernel
theorem dX12_findTwins_292 : decode cX12_findTwins 292 = .ok (.iinc 3 1, 3) := by decide +kernel
theorem dX12_findTwins_295 : decode cX12_findTwins 295 = .ok (.goto (-112), 3) := by decide +kernel
theorem dX12_findTwins_298 : decode cX12_findTwins 298 = .ok (.iconst 0, 1) := by decide +kernel
theorem dX12_findTwins_299 : decode cX12_findTwins 299 = .ok (.istore_n 3, 1) := by decide +kernel
theorem dX12_findTwins_300 : decode cX12_findTwins 300 = .ok (.iload_n 3, 1) := by decide +kernel
theorem dX12_findTwins_301 : decode cX12_findTwins 301 = .ok (.aload_n 0, 1) := by decide +kernel
theorem dX12_findTwins_302 : decode cX12_findTwins 302 = .ok (.getfield 98, 3) := by decide +kernel
theorem dX12_findTwins_305 : decode cX12_findTwins 305 = .ok (.if_icmp .ge 21, 3) := by decide +kernel
theorem dX12_findTwins_308 : decode cX12_findTwins 308 = .ok (.aload_n 0, 1) := by decide +kernel
theorem dX12_findTwins_309 : decode cX12_findTwins 309 = .ok (.getfield 74, 3) := by decide +kernel
theorem dX12_findTwins_312 : decode cX12_findTwins 312 = .ok (.iload_n 3, 1) := by decide +kernel
theorem dX12_findTwins_313 : decode cX12_findTwins 313 = .ok (.aload_n 0, 1) := by decide +kernel
theorem dX12_findTwins_314 : decode cX12_findTwins 314 = .ok (.getfield 77, 3) := by decide +kernel
theorem dX12_findTwins_317 : decode cX12_findTwins 317 = .ok (.iload_n 3, 1) := by decide +kernel
theorem dX12_findTwins_318 : decode cX12_findTwins 318 = .ok (.iaload, 1) := by decide +kernel
theorem dX12_findTwins_319 : decode cX12_findTwins 319 = .ok (.iastore, 1) := by decide +kernel
theorem dX12_findTwins_320 : decode cX12_findTwins 320 = .ok (.iinc 3 1, 3) := by decide +kernel
theorem dX12_findTwins_323 : decode cX12_findTwins 323 = .ok (.goto (-23), 3) := by decide +kernel
theorem dX12_findTwins_326 : decode cX12_findTwins 326 = .ok (.iinc 2 1, 3) := by decide +kernel
theorem dX12_findTwins_329 : decode cX12_findTwins 329 = .ok (.goto (-220), 3) := by decide +kernel
theorem dX12_findTwins_332 : decode cX12_findTwins 332 = .ok (.return_, 1) := by decide +kernel
theorem dX12_twin_0 : decode cX12_twin 0 = .ok (.aload_n 0, 1) := by decide +kernel
theorem dX12_twin_1 : decode cX12_twin 1 = .ok (.iload_n 1, 1) := by decide +kernel
theorem dX12_twin_2 : decode cX12_twin 2 = .ok (.invokevirtual 106, 3) := by decide +kernel
theorem dX12_twin_5 : decode cX12_twin 5 = .ok (.ifCond .ne 6, 3) := by decide +kernel
theorem dX12_twin_8 : decode cX12_twin 8 = .ok (.bipush (-2), 2) := by decide +kernel
theorem dX12_twin_10 : decode cX12_twin 10 = .ok (.ireturn, 1) := by decide +kernel
theorem dX12_twin_11 : decode cX12_twin 11 = .ok (.iload_n 2, 1) := by decide +kernel
theorem dX12_twin_12 : decode cX12_twin 12 = .ok (.iconst 0, 1) := by decide +kernel
theorem dX12_twin_13 : decode cX12_twin 13 = .ok (.iconst 2, 1) := by decide +kernel
theorem dX12_twin_14 : decode cX12_twin 14 = .ok (.invokestatic 102, 3) := by decide +kernel
theorem dX12_twin_17 : decode cX12_twin 17 = .ok (.ifCond .ne 6, 3) := by decide +kernel
theorem dX12_twin_20 : decode cX12_twin 20 = .ok (.bipush (-3), 2) := by decide +kernel
theorem dX12_twin_22 : decode cX12_twin 22 = .ok (.ireturn, 1) := by decide +kernel
theorem dX12_twin_23 : decode cX12_twin 23 = .ok (.aload_n 0, 1) := by decide +kernel
theorem dX12_twin_24 : decode cX12_twin 24 = .ok (.invokevirtual 264, 3) := by decide +kernel
theorem dX12_twin_27 : decode cX12_twin 27 = .ok (.iconst 0, 1) := by decide +kernel
theorem dX12_twin_28 : decode cX12_twin 28 = .ok (.istore_n 3, 1) := by decide +kernel
theorem dX12_twin_29 : decode cX12_twin 29 = .ok (.iconst 0, 1) := by decide +kernel
theorem dX12_twin_30 : decode cX12_twin 30 = .ok (.istore 4, 2) := by decide +kernel
theorem dX12_twin_32 : decode cX12_twin 32 = .ok (.iload 4, 2) := by decide +kernel
theorem dX12_twin_34 : decode cX12_twin 34 = .ok (.aload_n 0, 1) := by decide +kernel
theorem dX12_twin_35 : decode cX12_twin 35 = .ok (.getfield 98, 3) := by decide +kernel
theorem dX12_twin_38 : decode cX12_twin 38 = .ok (.if_icmp .ge 29, 3) := by decide +kernel
theorem dX12_twin_41 : decode cX12_twin 41 = .ok (.iload_n 3, 1) := by decide +kernel
theorem dX12_twin_42 : decode cX12_twin 42 = .ok (.aload_n 0, 1) := by decide +kernel
theorem dX12_twin_43 : decode cX12_twin 43 = .ok (.getfield 74, 3) := by decide +kernel
theorem dX12_twin_46 : decode cX12_twin 46 = .ok (.iload 4, 2) := by decide +kernel
theorem dX12_twin_48 : decode cX12_twin 48 = .ok (.iaload, 1) := by decide +kernel
theorem dX12_twin_49 : decode cX12_twin 49 = .ok (.iload 4, 2) := by decide +kernel
theorem dX12_twin_51 : decode cX12_twin 51 = .ok (.if_icmp .ne 7, 3) := by decide +kernel
theorem dX12_twin_54 : decode cX12_twin 54 = .ok (.iconst 1, 1) := by decide +kernel
theorem dX12_twin_55 : decode cX12_twin 55 = .ok (.goto 4, 3) := by decide +kernel
theorem dX12_twin_58 : decode cX12_twin 58 = .ok (.iconst 0, 1) := by decide +kernel
theorem dX12_twin_59 : decode cX12_twin 59 = .ok (.iadd, 1) := by decide +kernel
theorem dX12_twin_60 : decode cX12_twin 60 = .ok (.istore_n 3, 1) := by decide +kernel
theorem dX12_twin_61 : decode cX12_twin 61 = .ok (.iinc 4 1, 3) := by decide +kernel
theorem dX12_twin_64 : decode cX12_twin 64 = .ok (.goto (-32), 3) := by decide +kernel
theorem dX12_twin_67 : decode cX12_twin 67 = .ok (.iload_n 2, 1) := by decide +kernel
theorem dX12_twin_68 : decode cX12_twin 68 = .ok (.ifCond .ne 12, 3) := by decide +kernel
theorem dX12_twin_71 : decode cX12_twin 71 = .ok (.aload_n 0, 1) := by decide +kernel
theorem dX12_twin_72 : decode cX12_twin 72 = .ok (.getfield 74, 3) := by decide +kernel
theorem dX12_twin_75 : decode cX12_twin 75 = .ok (.iload_n 1, 1) := by decide +kernel
theorem dX12_twin_76 : decode cX12_twin 76 = .ok (.iaload, 1) := by decide +kernel
theorem dX12_twin_77 : decode cX12_twin 77 = .ok (.goto 18, 3) := by decide +kernel
theorem dX12_twin_80 : decode cX12_twin 80 = .ok (.iload_n 2, 1) := by decide +kernel
theorem dX12_twin_81 : decode cX12_twin 81 = .ok (.iconst 1, 1) := by decide +kernel
theorem dX12_twin_82 : decode cX12_twin 82 = .ok (.if_icmp .ne 12, 3) := by decide +kernel
theorem dX12_twin_85 : decode cX12_twin 85 = .ok (.aload_n 0, 1) := by decide +kernel
theorem dX12_twin_86 : decode cX12_twin 86 = .ok (.getfield 80, 3) := by decide +kernel
theorem dX12_twin_89 : decode cX12_twin 89 = .ok (.iload_n 1, 1) := by decide +kernel
theorem dX12_twin_90 : decode cX12_twin 90 = .ok (.iaload, 1) := by decide +kernel
theorem dX12_twin_91 : decode cX12_twin 91 = .ok (.goto 4, 3) := by decide +kernel
theorem dX12_twin_94 : decode cX12_twin 94 = .ok (.iload_n 3, 1) := by decide +kernel
theorem dX12_twin_95 : decode cX12_twin 95 = .ok (.ireturn, 1) := by decide +kernel
theorem dX12_breaks_0 : decode cX12_breaks 0 = .ok (.aload_n 0, 1) := by decide +kernel
theorem dX12_breaks_1 : decode cX12_breaks 1 = .ok (.invokevirtual 201, 3) := by decide +kernel
theorem dX12_breaks_4 : decode cX12_breaks 4 = .ok (.ifCond .ne 6, 3) := by decide +kernel
theorem dX12_breaks_7 : decode cX12_breaks 7 = .ok (.bipush (-4), 2) := by decide +kernel
theorem dX12_breaks_9 : decode cX12_breaks 9 = .ok (.ireturn, 1) := by decide +kernel
theorem dX12_breaks_10 : decode cX12_breaks 10 = .ok (.aload_n 0, 1) := by decide +kernel
theorem dX12_breaks_11 : decode cX12_breaks 11 = .ok (.invokevirtual 222, 3) := by decide +kernel
theorem dX12_breaks_14 : decode cX12_breaks 14 = .ok (.istore_n 1, 1) := by decide +kernel
theorem dX12_breaks_15 : decode cX12_breaks 15 = .ok (.iconst 0, 1) := by decide +kernel
theorem dX12_breaks_16 : decode cX12_breaks 16 = .ok (.istore_n 2, 1) := by decide +kernel
theorem dX12_breaks_17 : decode cX12_breaks 17 = .ok (.iload_n 2, 1) := by decide +kernel
theorem dX12_breaks_18 : decode cX12_breaks 18 = .ok (.aload_n 0, 1) := by decide +kernel
theorem dX12_breaks_19 : decode cX12_breaks 19 = .ok (.getfield 98, 3) := by decide +kernel
theorem dX12_breaks_22 : decode cX12_breaks 22 = .ok (.if_icmp .ge 84, 3) := by decide +kernel
theorem dX12_breaks_25 : decode cX12_breaks 25 = .ok (.aload_n 0, 1) := by decide +kernel
theorem dX12_breaks_26 : decode cX12_breaks 26 = .ok (.getfield 13, 3) := by decide +kernel
theorem dX12_breaks_29 : decode cX12_breaks 29 = .ok (.iload_n 2, 1) := by decide +kernel
theorem dX12_breaks_30 : decode cX12_breaks 30 = .ok (.iaload, 1) := by decide +kernel
theorem dX12_breaks_31 : decode cX12_breaks 31 = .ok (.istore_n 3, 1) := by decide +kernel
theorem dX12_breaks_32 : decode cX12_breaks 32 = .ok (.iconst (-1), 1) := by decide +kernel
theorem dX12_breaks_33 : decode cX12_breaks 33 = .ok (.istore 4, 2) := by decide +kernel
theorem dX12_breaks_35 : decode cX12_breaks 35 = .ok (.iconst 3, 1) := by decide +kernel
theorem dX12_breaks_36 : decode cX12_breaks 36 = .ok (.istore 5, 2) := by decide +kernel
theorem dX12_breaks_38 : decode cX12_breaks 38 = .ok (.iload 5, 2) := by decide +kernel
theorem dX12_breaks_40 : decode cX12_breaks 40 = .ok (.ifCond .lt 40, 3) := by decide +kernel
theorem dX12_breaks_43 : decode cX12_breaks 43 = .ok (.aload_n 0, 1) := by decide +kernel
theorem dX12_breaks_44 : decode cX12_breaks 44 = .ok (.getfield 13, 3) := by decide +kernel
theorem dX12_breaks_47 : decode cX12_breaks 47 = .ok (.iload_n 2, 1) := by decide +kernel
theorem dX12_breaks_48 : decode cX12_breaks 48 = .ok (.iload 5, 2) := by decide +kernel
theorem dX12_breaks_50 : decode cX12_breaks 50 = .ok (.iastore, 1) := by decide +kernel
theorem dX12_breaks_51 : decode cX12_breaks 51 = .ok (.iload 5, 2) := by decide +kernel
theorem dX12_breaks_53 : decode cX12_breaks 53 = .ok (.iload_n 3, 1) := by decide +kernel
theorem dX12_breaks_54 : decode cX12_breaks 54 = .ok (.if_icmp .eq 16, 3) := by decide +kernel
theorem dX12_breaks_57 : decode cX12_breaks 57 = .ok (.aload_n 0, 1) := by decide +kernel
theorem dX12_breaks_58 : decode cX12_breaks 58 = .ok (.invokevirtual 222, 3) := by decide +kernel
theorem dX12_breaks_61 : decode cX12_breaks 61 = .ok (.iload_n 1, 1) := by decide +kernel
theorem dX12_breaks_62 : decode cX12_breaks 62 = .ok (.if_icmp .eq 8, 3) := by decide +kernel
theorem dX12_breaks_65 : decode cX12_breaks 65 = .ok (.iload 5, 2) := by decide +kernel
theorem dX12_breaks_67 : decode cX12_breaks 67 = .ok (.goto 5, 3) := by decide +kernel
theorem dX12_breaks_70 : decode cX12_breaks 70 = .ok (.iload 4, 2) := by decide +kernel
theorem dX12_breaks_72 : decode cX12_breaks 72 = .ok (.istore 4, 2) := by decide +kernel
theorem dX12_breaks_74 : decode cX12_breaks 74 = .ok (.iinc 5 (-1), 3) := by decide +kernel
theorem dX12_breaks_77 : decode cX12_breaks 77 = .ok (.goto (-39), 3) := by decide +kernel
theorem dX12_breaks_80 : decode cX12_breaks 80 = .ok (.aload_n 0, 1) := by decide +kernel
theorem dX12_breaks_81 : decode cX12_breaks 81 = .ok (.getfield 13, 3) := by decide +kernel
theorem dX12_breaks_84 : decode cX12_breaks 84 = .ok (.iload_n 2, 1) := by decide +kernel
theorem dX12_breaks_85 : decode cX12_breaks 85 = .ok (.iload_n 3, 1) := by decide +kernel
theorem dX12_breaks_86 : decode cX12_breaks 86 = .ok (.iastore, 1) := by decide +kernel
theorem dX12_breaks_87 : decode cX12_breaks 87 = .ok (.iload 4, 2) := by decide +kernel
theorem dX12_breaks_89 : decode cX12_breaks 89 = .ok (.iconst (-1), 1) := by decide +kernel
theorem dX12_breaks_90 : decode cX12_breaks 90 = .ok (.if_icmp .eq 10, 3) := by decide +kernel
theorem dX12_breaks_93 : decode cX12_breaks 93 = .ok (.iconst 4, 1) := by decide +kernel
theorem dX12_breaks_94 : decode cX12_breaks 94 = .ok (.iload_n 2, 1) := by decide +kernel
theorem dX12_breaks_95 : decode cX12_breaks 95 = .ok (.imul, 1) := by decide +kernel
theorem dX12_breaks_96 : decode cX12_breaks 96 = .ok (.iload 4, 2) := by decide +kernel
theorem dX12_breaks_98 : decode cX12_breaks 98 = .ok (.iadd, 1) := by decide +kernel
theorem dX12_breaks_99 : decode cX12_breaks 99 = .ok (.ireturn, 1) := by decide +kernel
theorem dX12_breaks_100 : decode cX12_breaks 100 = .ok (.iinc 2 1, 3) := by decide +kernel
theorem dX12_breaks_103 : decode cX12_breaks 103 = .ok (.goto (-86), 3) := by decide +kernel
theorem dX12_breaks_106 : decode cX12_breaks 106 = .ok (.iconst (-1), 1) := by decide +kernel
theorem dX12_breaks_107 : decode cX12_breaks 107 = .ok (.ireturn, 1) := by decide +kernel
theorem dX12_think_0 : decode cX12_think 0 = .ok (.iconst 0, 1) := by decide +kernel
theorem dX12_think_1 : decode cX12_think 1 = .ok (.istore_n 2, 1) := by decide +kernel
theorem dX12_think_2 : decode cX12_think 2 = .ok (.iload_n 2, 1) := by decide +kernel
theorem dX12_think_3 : decode cX12_think 3 = .ok (.aload_n 0, 1) := by decide +kernel
theorem dX12_think_4 : decode cX12_think 4 = .ok (.getfield 228, 3) := by decide +kernel
theorem dX12_think_7 : decode cX12_think 7 = .ok (.if_icmp .ge 24, 3) := by decide +kernel
theorem dX12_think_10 : decode cX12_think 10 = .ok (.aload_n 0, 1) := by decide +kernel
theorem dX12_think_11 : decode cX12_think 11 = .ok (.iload_n 2, 1) := by decide +kernel
theorem dX12_think_12 : decode cX12_think 12 = .ok (.invokevirtual 231, 3) := by decide +kernel
theorem dX12_think_15 : decode cX12_think 15 = .ok (.aload_n 0, 1) := by decide +kernel
theorem dX12_think_16 : decode cX12_think 16 = .ok (.getfield 83, 3) := by decide +kernel
theorem dX12_think_19 : decode cX12_think 19 = .ok (.iload_n 2, 1) := by decide +kernel
theorem dX12_think_20 : decode cX12_think 20 = .ok (.aload_n 0, 1) := by decide +kernel
theorem dX12_think_21 : decode cX12_think 21 = .ok (.invokevirtual 222, 3) := by decide +kernel
theorem dX12_think_24 : decode cX12_think 24 = .ok (.iastore, 1) := by decide +kernel
theorem dX12_think_25 : decode cX12_think 25 = .ok (.iinc 2 1, 3) := by decide +kernel
theorem dX12_think_28 : decode cX12_think 28 = .ok (.goto (-26), 3) := by decide +kernel
theorem dX12_think_31 : decode cX12_think 31 = .ok (.iconst 0, 1) := by decide +kernel
theorem dX12_think_32 : decode cX12_think 32 = .ok (.istore_n 2, 1) := by decide +kernel
theorem dX12_think_33 : decode cX12_think 33 = .ok (.iload_n 2, 1) := by decide +kernel
theorem dX12_think_34 : decode cX12_think 34 = .ok (.iload_n 1, 1) := by decide +kernel
theorem dX12_think_35 : decode cX12_think 35 = .ok (.if_icmp .ge 132, 3) := by decide +kernel
theorem dX12_think_38 : decode cX12_think 38 = .ok (.aload_n 0, 1) := by decide +kernel
theorem dX12_think_39 : decode cX12_think 39 = .ok (.invokevirtual 267, 3) := by decide +kernel
theorem dX12_think_42 : decode cX12_think 42 = .ok (.iconst 0, 1) := by decide +kernel
theorem dX12_think_43 : decode cX12_think 43 = .ok (.istore_n 3, 1) := by decide +kernel
theorem dX12_think_44 : decode cX12_think 44 = .ok (.iload_n 3, 1) := by decide +kernel
theorem dX12_think_45 : decode cX12_think 45 = .ok (.aload_n 0, 1) := by decide +kernel
theorem dX12_think_46 : decode cX12_think 46 = .ok (.getfield 228, 3) := by decide +kernel
theorem dX12_think_49 : decode cX12_think 49 = .ok (.if_icmp .ge 66, 3) := by decide +kernel
theorem dX12_think_52 : decode cX12_think 52 = .ok (.aload_n 0, 1) := by decide +kernel
theorem dX12_think_53 : decode cX12_think 53 = .ok (.getfield 86, 3) := by decide +kernel
theorem dX12_think_56 : decode cX12_think 56 = .ok (.iload_n 3, 1) := by decide +kernel
theorem dX12_think_57 : decode cX12_think 57 = .ok (.iconst 0, 1) := by decide +kernel
theorem dX12_think_58 : decode cX12_think 58 = .ok (.iastore, 1) := by decide +kernel
theorem dX12_think_59 : decode cX12_think 59 = .ok (.iconst 0, 1) := by decide +kernel
theorem dX12_think_60 : decode cX12_think 60 = .ok (.istore 4, 2) := by decide +kernel
theorem dX12_think_62 : decode cX12_think 62 = .ok (.iload 4, 2) := by decide +kernel
theorem dX12_think_64 : decode cX12_think 64 = .ok (.aload_n 0, 1) := by decide +kernel
theorem dX12_think_65 : decode cX12_think 65 = .ok (.getfield 98, 3) := by decide +kernel
theorem dX12_think_68 : decode cX12_think 68 = .ok (.if_icmp .ge 41, 3) := by decide +kernel
theorem dX12_think_71 : decode cX12_think 71 = .ok (.aload_n 0, 1) := by decide +kernel
theorem dX12_think_72 : decode cX12_think 72 = .ok (.getfield 86, 3) := by decide +kernel
theorem dX12_think_75 : decode cX12_think 75 = .ok (.iload_n 3, 1) := by decide +kernel
theorem dX12_think_76 : decode cX12_think 76 = .ok (.aload_n 0, 1) := by decide +kernel
theorem dX12_think_77 : decode cX12_think 77 = .ok (.getfield 86, 3) := by decide +kernel
theorem dX12_think_80 : decode cX12_think 80 = .ok (.iload_n 3, 1) := by decide +kernel
theorem dX12_think_81 : decode cX12_think 81 = .ok (.iaload, 1) := by decide +kernel
theorem dX12_think_82 : decode cX12_think 82 = .ok (.aload_n 0, 1) := by decide +kernel
theorem dX12_think_83 : decode cX12_think 83 = .ok (.getfield 89, 3) := by decide +kernel
theorem dX12_think_86 : decode cX12_think 86 = .ok (.iload 4, 2) := by decide +kernel
theorem dX12_think_88 : decode cX12_think 88 = .ok (.iaload, 1) := by decide +kernel
theorem dX12_think_89 : decode cX12_think 89 = .ok (.iload_n 3, 1) := by decide +kernel
theorem dX12_think_90 : decode cX12_think 90 = .ok (.if_icmp .ne 10, 3) := by decide +kernel
theorem dX12_think_93 : decode cX12_think 93 = .ok (.iconst 1, 1) := by decide +kernel
theorem dX12_think_94 : decode cX12_think 94 = .ok (.iload 4, 2) := by decide +kernel
theorem dX12_think_96 : decode cX12_think 96 = .ok (.ishl, 1) := by decide +kernel
theorem dX12_think_97 : decode cX12_think 97 = .ok (.goto 4, 3) := by decide +kernel
theorem dX12_think_100 : decode cX12_think 100 = .ok (.iconst 0, 1) := by decide +kernel
theorem dX12_think_101 : decode cX12_think 101 = .ok (.ior, 1) := by decide +kernel
theorem dX12_think_102 : decode cX12_think 102 = .ok (.iastore, 1) := by decide +kernel
theorem dX12_think_103 : decode cX12_think 103 = .ok (.iinc 4 1, 3) := by decide +kernel
theorem dX12_think_106 : decode cX12_think 106 = .ok (.goto (-44), 3) := by decide +kernel
theorem dX12_think_109 : decode cX12_think 109 = .ok (.iinc 3 1, 3) := by decide +kernel
theorem dX12_think_112 : decode cX12_think 112 = .ok (.goto (-68), 3) := by decide +kernel
theorem dX12_think_115 : decode cX12_think 115 = .ok (.iconst 0, 1) := by decide +kernel
theorem dX12_think_116 : decode cX12_think 116 = .ok (.istore_n 3, 1) := by decide +kernel
theorem dX12_think_117 : decode cX12_think 117 = .ok (.iload_n 3, 1) := by decide +kernel
theorem dX12_think_118 : decode cX12_think 118 = .ok (.aload_n 0, 1) := by decide +kernel
theorem dX12_think_119 : decode cX12_think 119 = .ok (.getfield 228, 3) := by decide +kernel
theorem dX12_think_122 : decode cX12_think 122 = .ok (.if_icmp .ge 39, 3) := by decide +kernel
theorem dX12_think_125 : decode cX12_think 125 = .ok (.aload_n 0, 1) := by decide +kernel
theorem dX12_think_126 : decode cX12_think 126 = .ok (.getfield 83, 3) := by decide +kernel
theorem dX12_think_129 : decode cX12_think 129 = .ok (.iload_n 3, 1) := by decide +kernel
theorem dX12_think_130 : decode cX12_think 130 = .ok (.aload_n 0, 1) := by decide +kernel
theorem dX12_think_131 : decode cX12_think 131 = .ok (.getfield 86, 3) := by decide +kernel
theorem dX12_think_134 : decode cX12_think 134 = .ok (.iload_n 3, 1) := by decide +kernel
theorem dX12_think_135 : decode cX12_think 135 = .ok (.iaload, 1) := by decide +kernel
theorem dX12_think_136 : decode cX12_think 136 = .ok (.ifCond .ne 12, 3) := by decide +kernel
theorem dX12_think_139 : decode cX12_think 139 = .ok (.aload_n 0, 1) := by decide +kernel
theorem dX12_think_140 : decode cX12_think 140 = .ok (.getfield 83, 3) := by decide +kernel
theorem dX12_think_143 : decode cX12_think 143 = .ok (.iload_n 3, 1) := by decide +kernel
theorem dX12_think_144 : decode cX12_think 144 = .ok (.iaload, 1) := by decide +kernel
theorem dX12_think_145 : decode cX12_think 145 = .ok (.goto 9, 3) := by decide +kernel
theorem dX12_think_148 : decode cX12_think 148 = .ok (.aload_n 0, 1) := by decide +kernel
theorem dX12_think_149 : decode cX12_think 149 = .ok (.getfield 86, 3) := by decide +kernel
theorem dX12_think_152 : decode cX12_think 152 = .ok (.iload_n 3, 1) := by decide +kernel
theorem dX12_think_153 : decode cX12_think 153 = .ok (.iaload, 1) := by decide +kernel
theorem dX12_think_154 : decode cX12_think 154 = .ok (.iastore, 1) := by decide +kernel
theorem dX12_think_155 : decode cX12_think 155 = .ok (.iinc 3 1, 3) := by decide +kernel
theorem dX12_think_158 : decode cX12_think 158 = .ok (.goto (-41), 3) := by decide +kernel
theorem dX12_think_161 : decode cX12_think 161 = .ok (.iinc 2 1, 3) := by decide +kernel
theorem dX12_think_164 : decode cX12_think 164 = .ok (.goto (-131), 3) := by decide +kernel
theorem dX12_think_167 : decode cX12_think 167 = .ok (.return_, 1) := by decide +kernel
theorem dX12_findSaid_0 : decode cX12_findSaid 0 = .ok (.iconst 0, 1) := by decide +kernel
theorem dX12_findSaid_1 : decode cX12_findSaid 1 = .ok (.istore_n 1, 1) := by decide +kernel
theorem dX12_findSaid_2 : decode cX12_findSaid 2 = .ok (.iload_n 1, 1) := by decide +kernel
theorem dX12_findSaid_3 : decode cX12_findSaid 3 = .ok (.aload_n 0, 1) := by decide +kernel
theorem dX12_findSaid_4 : decode cX12_findSaid 4 = .ok (.getfield 98, 3) := by decide +kernel
theorem dX12_findSaid_7 : decode cX12_findSaid 7 = .ok (.if_icmp .ge 99, 3) := by decide +kernel
theorem dX12_findSaid_10 : decode cX12_findSaid 10 = .ok (.aload_n 0, 1) := by decide +kernel
theorem dX12_findSaid_11 : decode cX12_findSaid 11 = .ok (.getfield 89, 3) := by decide +kernel
theorem dX12_findSaid_14 : decode cX12_findSaid 14 = .ok (.iload_n 1, 1) := by decide +kernel
theorem dX12_findSaid_15 : decode cX12_findSaid 15 = .ok (.iconst (-1), 1) := by decide +kernel
theorem dX12_findSaid_16 : decode cX12_findSaid 16 = .ok (.iastore, 1) := by decide +kernel
theorem dX12_findSaid_17 : decode cX12_findSaid 17 = .ok (.iconst 0, 1) := by decide +kernel
theorem dX12_findSaid_18 : decode cX12_findSaid 18 = .ok (.istore_n 2, 1) := by decide +kernel
theorem dX12_findSaid_19 : decode cX12_findSaid 19 = .ok (.iconst 0, 1) := by decide +kernel
theorem dX12_findSaid_20 : decode cX12_findSaid 20 = .ok (.istore_n 3, 1) := by decide +kernel
theorem dX12_findSaid_21 : decode cX12_findSaid 21 = .ok (.iload_n 3, 1) := by decide +kernel
theorem dX12_findSaid_22 : decode cX12_findSaid 22 = .ok (.aload_n 0, 1) := by decide +kernel
theorem dX12_findSaid_23 : decode cX12_findSaid 23 = .ok (.getfield 228, 3) := by decide +kernel
theorem dX12_findSaid_26 : decode cX12_findSaid 26 = .ok (.if_icmp .ge 74, 3) := by decide +kernel
theorem dX12_findSaid_29 : decode cX12_findSaid 29 = .ok (.aload_n 0, 1) := by decide +kernel
theorem dX12_findSaid_30 : decode cX12_findSaid 30 = .ok (.iload_n 3, 1) := by decide +kernel
theorem dX12_findSaid_31 : decode cX12_findSaid 31 = .ok (.invokevirtual 231, 3) := by decide +kernel
theorem dX12_findSaid_34 : decode cX12_findSaid 34 = .ok (.sipush 1000, 3) := by decide +kernel
theorem dX12_findSaid_37 : decode cX12_findSaid 37 = .ok (.aload_n 0, 1) := by decide +kernel
theorem dX12_findSaid_38 : decode cX12_findSaid 38 = .ok (.getfield 83, 3) := by decide +kernel
theorem dX12_findSaid_41 : decode cX12_findSaid 41 = .ok (.iload_n 3, 1) := by decide +kernel
theorem dX12_findSaid_42 : decode cX12_findSaid 42 = .ok (.iaload, 1) := by decide +kernel
theorem dX12_findSaid_43 : decode cX12_findSaid 43 = .ok (.invokestatic 110, 3) := by decide +kernel
theorem dX12_findSaid_46 : decode cX12_findSaid 46 = .ok (.imul, 1) := by decide +kernel
theorem dX12_findSaid_47 : decode cX12_findSaid 47 = .ok (.aload_n 0, 1) := by decide +kernel
theorem dX12_findSaid_48 : decode cX12_findSaid 48 = .ok (.invokevirtual 225, 3) := by decide +kernel
theorem dX12_findSaid_51 : decode cX12_findSaid 51 = .ok (.iadd, 1) := by decide +kernel
theorem dX12_findSaid_52 : decode cX12_findSaid 52 = .ok (.istore 4, 2) := by decide +kernel
theorem dX12_findSaid_54 : decode cX12_findSaid 54 = .ok (.aload_n 0, 1) := by decide +kernel
theorem dX12_findSaid_55 : decode cX12_findSaid 55 = .ok (.getfield 83, 3) := by decide +kernel
theorem dX12_findSaid_58 : decode cX12_findSaid 58 = .ok (.iload_n 3, 1) := by decide +kernel
theorem dX12_findSaid_59 : decode cX12_findSaid 59 = .ok (.iaload, 1) := by decide +kernel
theorem dX12_findSaid_60 : decode cX12_findSaid 60 = .ok (.iload_n 1, 1) := by decide +kernel
theorem dX12_findSaid_61 : decode cX12_findSaid 61 = .ok (.ishr, 1) := by decide +kernel
theorem dX12_findSaid_62 : decode cX12_findSaid 62 = .ok (.iconst 1, 1) := by decide +kernel
theorem dX12_findSaid_63 : decode cX12_findSaid 63 = .ok (.iand, 1) := by decide +kernel
theorem dX12_findSaid_64 : decode cX12_findSaid 64 = .ok (.iconst 1, 1) := by decide +kernel
theorem dX12_findSaid_65 : decode cX12_findSaid 65 = .ok (.if_icmp .ne 29, 3) := by decide +kernel
theorem dX12_findSaid_68 : decode cX12_findSaid 68 = .ok (.aload_n 0, 1) := by decide +kernel
theorem dX12_findSaid_69 : decode cX12_findSaid 69 = .ok (.getfield 89, 3) := by decide +kernel
theorem dX12_findSaid_72 : decode cX12_findSaid 72 = .ok (.iload_n 1, 1) := by decide +kernel
theorem dX12_findSaid_73 : decode cX12_findSaid 73 = .ok (.iaload, 1) := by decide +kernel
theorem dX12_findSaid_74 : decode cX12_findSaid 74 = .ok (.iconst (-1), 1) := by decide +kernel
theorem dX12_findSaid_75 : decode cX12_findSaid 75 = .ok (.if_icmp .eq 9, 3) := by decide +kernel
theorem dX12_findSaid_78 : decode cX12_findSaid 78 = .ok (.iload 4, 2) := by decide +kernel
theorem dX12_findSaid_80 : decode cX12_findSaid 80 = .ok (.iload_n 2, 1) := by decide +kernel
theorem dX12_findSaid_81 : decode cX12_findSaid 81 = .ok (.if_icmp .ge 13, 3) := by decide +kernel
theorem dX12_findSaid_84 : decode cX12_findSaid 84 = .ok (.aload_n 0, 1) := by decide +kernel
theorem dX12_findSaid_85 : decode cX12_findSaid 85 = .ok (.getfield 89, 3) := by decide +kernel
theorem dX12_findSaid_88 : decode cX12_findSaid 88 = .ok (.iload_n 1, 1) := by decide +kernel
theorem dX12_findSaid_89 : decode cX12_findSaid 89 = .ok (.iload_n 3, 1) := by decide +kernel
theorem dX12_findSaid_90 : decode cX12_findSaid 90 = .ok (.iastore, 1) := by decide +kernel
theorem dX12_findSaid_91 : decode cX12_findSaid 91 = .ok (.iload 4, 2) := by decide +kernel
theorem dX12_findSaid_93 : decode cX12_findSaid 93 = .ok (.istore_n 2, 1) := by decide +kernel
theorem dX12_findSaid_94 : decode cX12_findSaid 94 = .ok (.iinc 3 1, 3) := by decide +kernel
theorem dX12_findSaid_97 : decode cX12_findSaid 97 = .ok (.goto (-76), 3) := by decide +kernel
theorem dX12_findSaid_100 : decode cX12_findSaid 100 = .ok (.iinc 1 1, 3) := by decide +kernel
theorem dX12_findSaid_103 : decode cX12_findSaid 103 = .ok (.goto (-101), 3) := by decide +kernel
theorem dX12_findSaid_106 : decode cX12_findSaid 106 = .ok (.return_, 1) := by decide +kernel
theorem dX12_hears_0 : decode cX12_hears 0 = .ok (.iload_n 1, 1) := by decide +kernel
theorem dX12_hears_1 : decode cX12_hears 1 = .ok (.iconst 0, 1) := by decide +kernel
theorem dX12_hears_2 : decode cX12_hears 2 = .ok (.aload_n 0, 1) := by decide +kernel
theorem dX12_hears_3 : decode cX12_hears 3 = .ok (.getfield 228, 3) := by decide +kernel
theorem dX12_hears_6 : decode cX12_hears 6 = .ok (.iconst 1, 1) := by decide +kernel
theorem dX12_hears_7 : decode cX12_hears 7 = .ok (.isub, 1) := by decide +kernel
theorem dX12_hears_8 : decode cX12_hears 8 = .ok (.invokestatic 102, 3) := by decide +kernel
theorem dX12_hears_11 : decode cX12_hears 11 = .ok (.ifCond .ne 6, 3) := by decide +kernel
theorem dX12_hears_14 : decode cX12_hears 14 = .ok (.bipush (-2), 2) := by decide +kernel
theorem dX12_hears_16 : decode cX12_hears 16 = .ok (.ireturn, 1) := by decide +kernel
theorem dX12_hears_17 : decode cX12_hears 17 = .ok (.iload_n 2, 1) := by decide +kernel
theorem dX12_hears_18 : decode cX12_hears 18 = .ok (.iconst 0, 1) := by decide +kernel
theorem dX12_hears_19 : decode cX12_hears 19 = .ok (.bipush 20, 2) := by decide +kernel
theorem dX12_hears_21 : decode cX12_hears 21 = .ok (.invokestatic 102, 3) := by decide +kernel
theorem dX12_hears_24 : decode cX12_hears 24 = .ok (.ifCond .ne 6, 3) := by decide +kernel
theorem dX12_hears_27 : decode cX12_hears 27 = .ok (.bipush (-3), 2) := by decide +kernel
theorem dX12_hears_29 : decode cX12_hears 29 = .ok (.ireturn, 1) := by decide +kernel
theorem dX12_hears_30 : decode cX12_hears 30 = .ok (.aload_n 0, 1) := by decide +kernel
theorem dX12_hears_31 : decode cX12_hears 31 = .ok (.iload_n 2, 1) := by decide +kernel
theorem dX12_hears_32 : decode cX12_hears 32 = .ok (.invokevirtual 270, 3) := by decide +kernel
theorem dX12_hears_35 : decode cX12_hears 35 = .ok (.aload_n 0, 1) := by decide +kernel
theorem dX12_hears_36 : decode cX12_hears 36 = .ok (.getfield 83, 3) := by decide +kernel
theorem dX12_hears_39 : decode cX12_hears 39 = .ok (.iload_n 1, 1) := by decide +kernel
theorem dX12_hears_40 : decode cX12_hears 40 = .ok (.iaload, 1) := by decide +kernel
theorem dX12_hears_41 : decode cX12_hears 41 = .ok (.ireturn, 1) := by decide +kernel
theorem dX12_tells_0 : decode cX12_tells 0 = .ok (.aload_n 0, 1) := by decide +kernel
theorem dX12_tells_1 : decode cX12_tells 1 = .ok (.iload_n 1, 1) := by decide +kernel
theorem dX12_tells_2 : decode cX12_tells 2 = .ok (.invokevirtual 106, 3) := by decide +kernel
theorem dX12_tells_5 : decode cX12_tells 5 = .ok (.ifCond .ne 6, 3) := by decide +kernel
theorem dX12_tells_8 : decode cX12_tells 8 = .ok (.bipush (-2), 2) := by decide +kernel
theorem dX12_tells_10 : decode cX12_tells 10 = .ok (.ireturn, 1) := by decide +kernel
theorem dX12_tells_11 : decode cX12_tells 11 = .ok (.iload_n 2, 1) := by decide +kernel
theorem dX12_tells_12 : decode cX12_tells 12 = .ok (.iconst 0, 1) := by decide +kernel
theorem dX12_tells_13 : decode cX12_tells 13 = .ok (.bipush 20, 2) := by decide +kernel
theorem dX12_tells_15 : decode cX12_tells 15 = .ok (.invokestatic 102, 3) := by decide +kernel
theorem dX12_tells_18 : decode cX12_tells 18 = .ok (.ifCond .ne 6, 3) := by decide +kernel
theorem dX12_tells_21 : decode cX12_tells 21 = .ok (.bipush (-3), 2) := by decide +kernel
theorem dX12_tells_23 : decode cX12_tells 23 = .ok (.ireturn, 1) := by decide +kernel
theorem dX12_tells_24 : decode cX12_tells 24 = .ok (.aload_n 0, 1) := by decide +kernel
theorem dX12_tells_25 : decode cX12_tells 25 = .ok (.iload_n 2, 1) := by decide +kernel
theorem dX12_tells_26 : decode cX12_tells 26 = .ok (.invokevirtual 270, 3) := by decide +kernel
theorem dX12_tells_29 : decode cX12_tells 29 = .ok (.aload_n 0, 1) := by decide +kernel
theorem dX12_tells_30 : decode cX12_tells 30 = .ok (.invokevirtual 267, 3) := by decide +kernel
theorem dX12_tells_33 : decode cX12_tells 33 = .ok (.aload_n 0, 1) := by decide +kernel
theorem dX12_tells_34 : decode cX12_tells 34 = .ok (.getfield 89, 3) := by decide +kernel
theorem dX12_tells_37 : decode cX12_tells 37 = .ok (.iload_n 1, 1) := by decide +kernel
theorem dX12_tells_38 : decode cX12_tells 38 = .ok (.iaload, 1) := by decide +kernel
theorem dX12_tells_39 : decode cX12_tells 39 = .ok (.ireturn, 1) := by decide +kernel
theorem dX12_ends_0 : decode cX12_ends 0 = .ok (.iconst 0, 1) := by decide +kernel
theorem dX12_ends_1 : decode cX12_ends 1 = .ok (.istore_n 1, 1) := by decide +kernel
theorem dX12_ends_2 : decode cX12_ends 2 = .ok (.iload_n 1, 1) := by decide +kernel
theorem dX12_ends_3 : decode cX12_ends 3 = .ok (.bipush 21, 2) := by decide +kernel
theorem dX12_ends_5 : decode cX12_ends 5 = .ok (.if_icmp .ge 98, 3) := by decide +kernel
theorem dX12_ends_8 : decode cX12_ends 8 = .ok (.aload_n 0, 1) := by decide +kernel
theorem dX12_ends_9 : decode cX12_ends 9 = .ok (.iload_n 1, 1) := by decide +kernel
theorem dX12_ends_10 : decode cX12_ends 10 = .ok (.invokevirtual 270, 3) := by decide +kernel
theorem dX12_ends_13 : decode cX12_ends 13 = .ok (.iconst 0, 1) := by decide +kernel
theorem dX12_ends_14 : decode cX12_ends 14 = .ok (.istore_n 2, 1) := by decide +kernel
theorem dX12_ends_15 : decode cX12_ends 15 = .ok (.iload_n 2, 1) := by decide +kernel
theorem dX12_ends_16 : decode cX12_ends 16 = .ok (.aload_n 0, 1) := by decide +kernel
theorem dX12_ends_17 : decode cX12_ends 17 = .ok (.getfield 228, 3) := by decide +kernel
theorem dX12_ends_20 : decode cX12_ends 20 = .ok (.if_icmp .ge 21, 3) := by decide +kernel
theorem dX12_ends_23 : decode cX12_ends 23 = .ok (.aload_n 0, 1) := by decide +kernel
theorem dX12_ends_24 : decode cX12_ends 24 = .ok (.getfield 77, 3) := by decide +kernel
theorem dX12_ends_27 : decode cX12_ends 27 = .ok (.iload_n 2, 1) := by decide +kernel
theorem dX12_ends_28 : decode cX12_ends 28 = .ok (.aload_n 0, 1) := by decide +kernel
theorem dX12_ends_29 : decode cX12_ends 29 = .ok (.getfield 83, 3) := by decide +kernel
theorem dX12_ends_32 : decode cX12_ends 32 = .ok (.iload_n 2, 1) := by decide +kernel
theorem dX12_ends_33 : decode cX12_ends 33 = .ok (.iaload, 1) := by decide +kernel
theorem dX12_ends_34 : decode cX12_ends 34 = .ok (.iastore, 1) := by decide +kernel
theorem dX12_ends_35 : decode cX12_ends 35 = .ok (.iinc 2 1, 3) := by decide +kernel
theorem dX12_ends_38 : decode cX12_ends 38 = .ok (.goto (-23), 3) := by decide +kernel
theorem dX12_ends_41 : decode cX12_ends 41 = .ok (.aload_n 0, 1) := by decide +kernel
theorem dX12_ends_42 : decode cX12_ends 42 = .ok (.iload_n 1, 1) := by decide +kernel
theorem dX12_ends_43 : decode cX12_ends 43 = .ok (.iconst 1, 1) := by decide +kernel
theorem dX12_ends_44 : decode cX12_ends 44 = .ok (.iadd, 1) := by decide +kernel
theorem dX12_ends_45 : decode cX12_ends 45 = .ok (.invokevirtual 270, 3) := by decide +kernel
theorem dX12_ends_48 : decode cX12_ends 48 = .ok (.iconst 1, 1) := by decide +kernel
theorem dX12_ends_49 : decode cX12_ends 49 = .ok (.istore_n 2, 1) := by decide +kernel
theorem dX12_ends_50 : decode cX12_ends 50 = .ok (.iconst 0, 1) := by decide +kernel
theorem dX12_ends_51 : decode cX12_ends 51 = .ok (.istore_n 3, 1) := by decide +kernel
theorem dX12_ends_52 : decode cX12_ends 52 = .ok (.iload_n 3, 1) := by decide +kernel
theorem dX12_ends_53 : decode cX12_ends 53 = .ok (.aload_n 0, 1) := by decide +kernel
theorem dX12_ends_54 : decode cX12_ends 54 = .ok (.getfield 228, 3) := by decide +kernel
theorem dX12_ends_57 : decode cX12_ends 57 = .ok (.if_icmp .ge 34, 3) := by decide +kernel
theorem dX12_ends_60 : decode cX12_ends 60 = .ok (.iload_n 2, 1) := by decide +kernel
theorem dX12_ends_61 : decode cX12_ends 61 = .ok (.ifCond .eq 22, 3) := by decide +kernel
theorem dX12_ends_64 : decode cX12_ends 64 = .ok (.aload_n 0, 1) := by decide +kernel
theorem dX12_ends_65 : decode cX12_ends 65 = .ok (.getfield 77, 3) := by decide +kernel
theorem dX12_ends_68 : decode cX12_ends 68 = .ok (.iload_n 3, 1) := by decide +kernel
theorem dX12_ends_69 : decode cX12_ends 69 = .ok (.iaload, 1) := by decide +kernel
theorem dX12_ends_70 : decode cX12_ends 70 = .ok (.aload_n 0, 1) := by decide +kernel
theorem dX12_ends_71 : decode cX12_ends 71 = .ok (.getfield 83, 3) := by decide +kernel
theorem dX12_ends_74 : decode cX12_ends 74 = .ok (.iload_n 3, 1) := by decide +kernel
theorem dX12_ends_75 : decode cX12_ends 75 = .ok (.iaload, 1) := by decide +kernel
theorem dX12_ends_76 : decode cX12_ends 76 = .ok (.if_icmp .ne 7, 3) := by decide +kernel
theorem dX12_ends_79 : decode cX12_ends 79 = .ok (.iconst 1, 1) := by decide +kernel
theorem dX12_ends_80 : decode cX12_ends 80 = .ok (.goto 4, 3) := by decide +kernel
theorem dX12_ends_83 : decode cX12_ends 83 = .ok (.iconst 0, 1) := by decide +kernel
theorem dX12_ends_84 : decode cX12_ends 84 = .ok (.istore_n 2, 1) := by decide +kernel
theorem dX12_ends_85 : decode cX12_ends 85 = .ok (.iinc 3 1, 3) := by decide +kernel
theorem dX12_ends_88 : decode cX12_ends 88 = .ok (.goto (-36), 3) := by decide +kernel
theorem dX12_ends_91 : decode cX12_ends 91 = .ok (.iload_n 2, 1) := by decide +kernel
theorem dX12_ends_92 : decode cX12_ends 92 = .ok (.ifCond .eq 5, 3) := by decide +kernel
theorem dX12_ends_95 : decode cX12_ends 95 = .ok (.iload_n 1, 1) := by decide +kernel
theorem dX12_ends_96 : decode cX12_ends 96 = .ok (.ireturn, 1) := by decide +kernel
theorem dX12_ends_97 : decode cX12_ends 97 = .ok (.iinc 1 1, 3) := by decide +kernel
theorem dX12_ends_100 : decode cX12_ends 100 = .ok (.goto (-98), 3) := by decide +kernel
theorem dX12_ends_103 : decode cX12_ends 103 = .ok (.iconst (-1), 1) := by decide +kernel
theorem dX12_ends_104 : decode cX12_ends 104 = .ok (.ireturn, 1) := by decide +kernel
theorem dX12_tryWord_0 : decode cX12_tryWord 0 = .ok (.aload_n 0, 1) := by decide +kernel
theorem dX12_tryWord_1 : decode cX12_tryWord 1 = .ok (.getfield 34, 3) := by decide +kernel
theorem dX12_tryWord_4 : decode cX12_tryWord 4 = .ok (.iload_n 1, 1) := by decide +kernel
theorem dX12_tryWord_5 : decode cX12_tryWord 5 = .ok (.iaload, 1) := by decide +kernel
theorem dX12_tryWord_6 : decode cX12_tryWord 6 = .ok (.istore 4, 2) := by decide +kernel
theorem dX12_tryWord_8 : decode cX12_tryWord 8 = .ok (.aload_n 0, 1) := by decide +kernel
theorem dX12_tryWord_9 : decode cX12_tryWord 9 = .ok (.getfield 37, 3) := by decide +kernel
theorem dX12_tryWord_12 : decode cX12_tryWord 12 = .ok (.iload_n 1, 1) := by decide +kernel
theorem dX12_tryWord_13 : decode cX12_tryWord 13 = .ok (.iaload, 1) := by decide +kernel
theorem dX12_tryWord_14 : decode cX12_tryWord 14 = .ok (.istore 5, 2) := by decide +kernel
theorem dX12_tryWord_16 : decode cX12_tryWord 16 = .ok (.iload_n 2, 1) := by decide +kernel
theorem dX12_tryWord_17 : decode cX12_tryWord 17 = .ok (.iload 4, 2) := by decide +kernel
theorem dX12_tryWord_19 : decode cX12_tryWord 19 = .ok (.if_icmp .ne 9, 3) := by decide +kernel
theorem dX12_tryWord_22 : decode cX12_tryWord 22 = .ok (.iload_n 3, 1) := by decide +kernel
theorem dX12_tryWord_23 : decode cX12_tryWord 23 = .ok (.iload 5, 2) := by decide +kernel
theorem dX12_tryWord_25 : decode cX12_tryWord 25 = .ok (.if_icmp .eq 56, 3) := by decide +kernel
theorem dX12_tryWord_28 : decode cX12_tryWord 28 = .ok (.aload_n 0, 1) := by decide +kernel
theorem dX12_tryWord_29 : decode cX12_tryWord 29 = .ok (.getfield 34, 3) := by decide +kernel
theorem dX12_tryWord_32 : decode cX12_tryWord 32 = .ok (.iload_n 1, 1) := by decide +kernel
theorem dX12_tryWord_33 : decode cX12_tryWord 33 = .ok (.iload_n 2, 1) := by decide +kernel
theorem dX12_tryWord_34 : decode cX12_tryWord 34 = .ok (.iastore, 1) := by decide +kernel
theorem dX12_tryWord_35 : decode cX12_tryWord 35 = .ok (.aload_n 0, 1) := by decide +kernel
theorem dX12_tryWord_36 : decode cX12_tryWord 36 = .ok (.getfield 37, 3) := by decide +kernel
theorem dX12_tryWord_39 : decode cX12_tryWord 39 = .ok (.iload_n 1, 1) := by decide +kernel
theorem dX12_tryWord_40 : decode cX12_tryWord 40 = .ok (.iload_n 3, 1) := by decide +kernel
theorem dX12_tryWord_41 : decode cX12_tryWord 41 = .ok (.iastore, 1) := by decide +kernel
theorem dX12_tryWord_42 : decode cX12_tryWord 42 = .ok (.aload_n 0, 1) := by decide +kernel
theorem dX12_tryWord_43 : decode cX12_tryWord 43 = .ok (.getfield 92, 3) := by decide +kernel
theorem dX12_tryWord_46 : decode cX12_tryWord 46 = .ok (.aload_n 0, 1) := by decide +kernel
theorem dX12_tryWord_47 : decode cX12_tryWord 47 = .ok (.invokevirtual 222, 3) := by decide +kernel
theorem dX12_tryWord_50 : decode cX12_tryWord 50 = .ok (.dup2, 1) := by decide +kernel
theorem dX12_tryWord_51 : decode cX12_tryWord 51 = .ok (.iaload, 1) := by decide +kernel
theorem dX12_tryWord_52 : decode cX12_tryWord 52 = .ok (.iconst 1, 1) := by decide +kernel
theorem dX12_tryWord_53 : decode cX12_tryWord 53 = .ok (.iadd, 1) := by decide +kernel
theorem dX12_tryWord_54 : decode cX12_tryWord 54 = .ok (.iastore, 1) := by decide +kernel
theorem dX12_tryWord_55 : decode cX12_tryWord 55 = .ok (.aload_n 0, 1) := by decide +kernel
theorem dX12_tryWord_56 : decode cX12_tryWord 56 = .ok (.dup, 1) := by decide +kernel
theorem dX12_tryWord_57 : decode cX12_tryWord 57 = .ok (.getfield 273, 3) := by decide +kernel
theorem dX12_tryWord_60 : decode cX12_tryWord 60 = .ok (.iconst 1, 1) := by decide +kernel
theorem dX12_tryWord_61 : decode cX12_tryWord 61 = .ok (.iadd, 1) := by decide +kernel
theorem dX12_tryWord_62 : decode cX12_tryWord 62 = .ok (.putfield 273, 3) := by decide +kernel
theorem dX12_tryWord_65 : decode cX12_tryWord 65 = .ok (.aload_n 0, 1) := by decide +kernel
theorem dX12_tryWord_66 : decode cX12_tryWord 66 = .ok (.getfield 34, 3) := by decide +kernel
theorem dX12_tryWord_69 : decode cX12_tryWord 69 = .ok (.iload_n 1, 1) := by decide +kernel
theorem dX12_tryWord_70 : decode cX12_tryWord 70 = .ok (.iload 4, 2) := by decide +kernel
theorem dX12_tryWord_72 : decode cX12_tryWord 72 = .ok (.iastore, 1) := by decide +kernel
theorem dX12_tryWord_73 : decode cX12_tryWord 73 = .ok (.aload_n 0, 1) := by decide +kernel
theorem dX12_tryWord_74 : decode cX12_tryWord 74 = .ok (.getfield 37, 3) := by decide +kernel
theorem dX12_tryWord_77 : decode cX12_tryWord 77 = .ok (.iload_n 1, 1) := by decide +kernel
theorem dX12_tryWord_78 : decode cX12_tryWord 78 = .ok (.iload 5, 2) := by decide +kernel
theorem dX12_tryWord_80 : decode cX12_tryWord 80 = .ok (.iastore, 1) := by decide +kernel
theorem dX12_tryWord_81 : decode cX12_tryWord 81 = .ok (.return_, 1) := by decide +kernel
theorem dX12_wrong_0 : decode cX12_wrong 0 = .ok (.iload_n 1, 1) := by decide +kernel
theorem dX12_wrong_1 : decode cX12_wrong 1 = .ok (.iconst 0, 1) := by decide +kernel
theorem dX12_wrong_2 : decode cX12_wrong 2 = .ok (.iconst 2, 1) := by decide +kernel
theorem dX12_wrong_3 : decode cX12_wrong 3 = .ok (.invokestatic 102, 3) := by decide +kernel
theorem dX12_wrong_6 : decode cX12_wrong 6 = .ok (.ifCond .ne 6, 3) := by decide +kernel
theorem dX12_wrong_9 : decode cX12_wrong 9 = .ok (.bipush (-3), 2) := by decide +kernel
theorem dX12_wrong_11 : decode cX12_wrong 11 = .ok (.ireturn, 1) := by decide +kernel
theorem dX12_wrong_12 : decode cX12_wrong 12 = .ok (.aload_n 0, 1) := by decide +kernel
theorem dX12_wrong_13 : decode cX12_wrong 13 = .ok (.invokevirtual 201, 3) := by decide +kernel
theorem dX12_wrong_16 : decode cX12_wrong 16 = .ok (.ifCond .ne 6, 3) := by decide +kernel
theorem dX12_wrong_19 : decode cX12_wrong 19 = .ok (.bipush (-4), 2) := by decide +kernel
theorem dX12_wrong_21 : decode cX12_wrong 21 = .ok (.ireturn, 1) := by decide +kernel
theorem dX12_wrong_22 : decode cX12_wrong 22 = .ok (.iconst 0, 1) := by decide +kernel
theorem dX12_wrong_23 : decode cX12_wrong 23 = .ok (.istore_n 2, 1) := by decide +kernel
theorem dX12_wrong_24 : decode cX12_wrong 24 = .ok (.iload_n 2, 1) := by decide +kernel
theorem dX12_wrong_25 : decode cX12_wrong 25 = .ok (.sipush 256, 3) := by decide +kernel
theorem dX12_wrong_28 : decode cX12_wrong 28 = .ok (.if_icmp .ge 16, 3) := by decide +kernel
theorem dX12_wrong_31 : decode cX12_wrong 31 = .ok (.aload_n 0, 1) := by decide +kernel
theorem dX12_wrong_32 : decode cX12_wrong 32 = .ok (.getfield 92, 3) := by decide +kernel
theorem dX12_wrong_35 : decode cX12_wrong 35 = .ok (.iload_n 2, 1) := by decide +kernel
theorem dX12_wrong_36 : decode cX12_wrong 36 = .ok (.iconst 0, 1) := by decide +kernel
theorem dX12_wrong_37 : decode cX12_wrong 37 = .ok (.iastore, 1) := by decide +kernel
theorem dX12_wrong_38 : decode cX12_wrong 38 = .ok (.iinc 2 1, 3) := by decide +kernel
theorem dX12_wrong_41 : decode cX12_wrong 41 = .ok (.goto (-17), 3) := by decide +kernel
theorem dX12_wrong_44 : decode cX12_wrong 44 = .ok (.aload_n 0, 1) := by decide +kernel
theorem dX12_wrong_45 : decode cX12_wrong 45 = .ok (.iconst 0, 1) := by decide +kernel
theorem dX12_wrong_46 : decode cX12_wrong 46 = .ok (.putfield 273, 3) := by decide +kernel
theorem dX12_wrong_49 : decode cX12_wrong 49 = .ok (.iconst 0, 1) := by decide +kernel
theorem dX12_wrong_50 : decode cX12_wrong 50 = .ok (.istore_n 2, 1) := by decide +kernel
theorem dX12_wrong_51 : decode cX12_wrong 51 = .ok (.iload_n 2, 1) := by decide +kernel
theorem dX12_wrong_52 : decode cX12_wrong 52 = .ok (.aload_n 0, 1) := by decide +kernel
theorem dX12_wrong_53 : decode cX12_wrong 53 = .ok (.getfield 185, 3) := by decide +kernel
theorem dX12_wrong_56 : decode cX12_wrong 56 = .ok (.if_icmp .ge 123, 3) := by decide +kernel
theorem dX12_wrong_59 : decode cX12_wrong 59 = .ok (.aload_n 0, 1) := by decide +kernel
theorem dX12_wrong_60 : decode cX12_wrong 60 = .ok (.getfield 34, 3) := by decide +kernel
theorem dX12_wrong_63 : decode cX12_wrong 63 = .ok (.iload_n 2, 1) := by decide +kernel
theorem dX12_wrong_64 : decode cX12_wrong 64 = .ok (.iaload, 1) := by decide +kernel
theorem dX12_wrong_65 : decode cX12_wrong 65 = .ok (.istore_n 3, 1) := by decide +kernel
theorem dX12_wrong_66 : decode cX12_wrong 66 = .ok (.iconst 0, 1) := by decide +kernel
theorem dX12_wrong_67 : decode cX12_wrong 67 = .ok (.istore 4, 2) := by decide +kernel
theorem dX12_wrong_69 : decode cX12_wrong 69 = .ok (.iload 4, 2) := by decide +kernel
theorem dX12_wrong_71 : decode cX12_wrong 71 = .ok (.iload_n 3, 1) := by decide +kernel
theorem dX12_wrong_72 : decode cX12_wrong 72 = .ok (.iconst 3, 1) := by decide +kernel
theorem dX12_wrong_73 : decode cX12_wrong 73 = .ok (.if_icmp .ne 7, 3) := by decide +kernel
theorem dX12_wrong_76 : decode cX12_wrong 76 = .ok (.iconst 3, 1) := by decide +kernel
theorem dX12_wrong_77 : decode cX12_wrong 77 = .ok (.goto 4, 3) := by decide +kernel
theorem dX12_wrong_80 : decode cX12_wrong 80 = .ok (.iconst 4, 1) := by decide +kernel
theorem dX12_wrong_81 : decode cX12_wrong 81 = .ok (.if_icmp .ge 26, 3) := by decide +kernel
theorem dX12_wrong_84 : decode cX12_wrong 84 = .ok (.iload_n 3, 1) := by decide +kernel
theorem dX12_wrong_85 : decode cX12_wrong 85 = .ok (.iconst 1, 1) := by decide +kernel
theorem dX12_wrong_86 : decode cX12_wrong 86 = .ok (.iconst 3, 1) := by decide +kernel
theorem dX12_wrong_87 : decode cX12_wrong 87 = .ok (.invokestatic 102, 3) := by decide +kernel
theorem dX12_wrong_90 : decode cX12_wrong 90 = .ok (.ifCond .eq 17, 3) := by decide +kernel
theorem dX12_wrong_93 : decode cX12_wrong 93 = .ok (.aload_n 0, 1) := by decide +kernel
theorem dX12_wrong_94 : decode cX12_wrong 94 = .ok (.iload_n 2, 1) := by decide +kernel
theorem dX12_wrong_95 : decode cX12_wrong 95 = .ok (.iload_n 3, 1) := by decide +kernel
theorem dX12_wrong_96 : decode cX12_wrong 96 = .ok (.iload 4, 2) := by decide +kernel
theorem dX12_wrong_98 : decode cX12_wrong 98 = .ok (.invokevirtual 276, 3) := by decide +kernel
theorem dX12_wrong_101 : decode cX12_wrong 101 = .ok (.iinc 4 1, 3) := by decide +kernel
theorem dX12_wrong_104 : decode cX12_wrong 104 = .ok (.goto (-35), 3) := by decide +kernel
theorem dX12_wrong_107 : decode cX12_wrong 107 = .ok (.iconst 5, 1) := by decide +kernel
theorem dX12_wrong_108 : decode cX12_wrong 108 = .ok (.istore 4, 2) := by decide +kernel
theorem dX12_wrong_110 : decode cX12_wrong 110 = .ok (.iload 4, 2) := by decide +kernel
theorem dX12_wrong_112 : decode cX12_wrong 112 = .ok (.bipush 7, 2) := by decide +kernel
theorem dX12_wrong_114 : decode cX12_wrong 114 = .ok (.if_icmp .gt 27, 3) := by decide +kernel
theorem dX12_wrong_117 : decode cX12_wrong 117 = .ok (.iload_n 3, 1) := by decide +kernel
theorem dX12_wrong_118 : decode cX12_wrong 118 = .ok (.iconst 5, 1) := by decide +kernel
theorem dX12_wrong_119 : decode cX12_wrong 119 = .ok (.bipush 7, 2) := by decide +kernel
theorem dX12_wrong_121 : decode cX12_wrong 121 = .ok (.invokestatic 102, 3) := by decide +kernel
theorem dX12_wrong_124 : decode cX12_wrong 124 = .ok (.ifCond .eq 17, 3) := by decide +kernel
theorem dX12_wrong_127 : decode cX12_wrong 127 = .ok (.aload_n 0, 1) := by decide +kernel
theorem dX12_wrong_128 : decode cX12_wrong 128 = .ok (.iload_n 2, 1) := by decide +kernel
theorem dX12_wrong_129 : decode cX12_wrong 129 = .ok (.iload 4, 2) := by decide +kernel
theorem dX12_wrong_131 : decode cX12_wrong 131 = .ok (.iconst 0, 1) := by decide +kernel
theorem dX12_wrong_132 : decode cX12_wrong 132 = .ok (.invokevirtual 276, 3) := by decide +kernel
theorem dX12_wrong_135 : decode cX12_wrong 135 = .ok (.iinc 4 1, 3) := by decide +kernel
theorem dX12_wrong_138 : decode cX12_wrong 138 = .ok (.goto (-28), 3) := by decide +kernel
theorem dX12_wrong_141 : decode cX12_wrong 141 = .ok (.iload_n 3, 1) := by decide +kernel
theorem dX12_wrong_142 : decode cX12_wrong 142 = .ok (.bipush 8, 2) := by decide +kernel
theorem dX12_wrong_144 : decode cX12_wrong 144 = .ok (.bipush 13, 2) := by decide +kernel
theorem dX12_wrong_146 : decode cX12_wrong 146 = .ok (.invokestatic 102, 3) := by decide +kernel
theorem dX12_wrong_149 : decode cX12_wrong 149 = .ok (.ifCond .eq 24, 3) := by decide +kernel
theorem dX12_wrong_152 : decode cX12_wrong 152 = .ok (.aload_n 0, 1) := by decide +kernel
theorem dX12_wrong_153 : decode cX12_wrong 153 = .ok (.iload_n 2, 1) := by decide +kernel
theorem dX12_wrong_154 : decode cX12_wrong 154 = .ok (.iload_n 3, 1) := by decide +kernel
theorem dX12_wrong_155 : decode cX12_wrong 155 = .ok (.iconst 2, 1) := by decide +kernel
theorem dX12_wrong_156 : decode cX12_wrong 156 = .ok (.irem, 1) := by decide +kernel
theorem dX12_wrong_157 : decode cX12_wrong 157 = .ok (.ifCond .ne 9, 3) := by decide +kernel
theorem dX12_wrong_160 : decode cX12_wrong 160 = .ok (.iload_n 3, 1) := by decide +kernel
theorem dX12_wrong_161 : decode cX12_wrong 161 = .ok (.iconst 1, 1) := by decide +kernel
theorem dX12_wrong_162 : decode cX12_wrong 162 = .ok (.iadd, 1) := by decide +kernel
theorem dX12_wrong_163 : decode cX12_wrong 163 = .ok (.goto 6, 3) := by decide +kernel
theorem dX12_wrong_166 : decode cX12_wrong 166 = .ok (.iload_n 3, 1) := by decide +kernel
theorem dX12_wrong_167 : decode cX12_wrong 167 = .ok (.iconst 1, 1) := by decide +kernel
theorem dX12_wrong_168 : decode cX12_wrong 168 = .ok (.isub, 1) := by decide +kernel
theorem dX12_wrong_169 : decode cX12_wrong 169 = .ok (.iconst 0, 1) := by decide +kernel
theorem dX12_wrong_170 : decode cX12_wrong 170 = .ok (.invokevirtual 276, 3) := by decide +kernel
theorem dX12_wrong_173 : decode cX12_wrong 173 = .ok (.iinc 2 1, 3) := by decide +kernel
theorem dX12_wrong_176 : decode cX12_wrong 176 = .ok (.goto (-125), 3) := by decide +kernel
theorem dX12_wrong_179 : decode cX12_wrong 179 = .ok (.iconst 0, 1) := by decide +kernel
theorem dX12_wrong_180 : decode cX12_wrong 180 = .ok (.istore_n 2, 1) := by decide +kernel
theorem dX12_wrong_181 : decode cX12_wrong 181 = .ok (.iconst 0, 1) := by decide +kernel
theorem dX12_wrong_182 : decode cX12_wrong 182 = .ok (.istore_n 3, 1) := by decide +kernel
theorem dX12_wrong_183 : decode cX12_wrong 183 = .ok (.iload_n 3, 1) := by decide +kernel
theorem dX12_wrong_184 : decode cX12_wrong 184 = .ok (.sipush 256, 3) := by decide +kernel
theorem dX12_wrong_187 : decode cX12_wrong 187 = .ok (.if_icmp .ge 30, 3) := by decide +kernel
theorem dX12_wrong_190 : decode cX12_wrong 190 = .ok (.aload_n 0, 1) := by decide +kernel
theorem dX12_wrong_191 : decode cX12_wrong 191 = .ok (.getfield 92, 3) := by decide +kernel
theorem dX12_wrong_194 : decode cX12_wrong 194 = .ok (.iload_n 3, 1) := by decide +kernel
theorem dX12_wrong_195 : decode cX12_wrong 195 = .ok (.iaload, 1) := by decide +kernel
theorem dX12_wrong_196 : decode cX12_wrong 196 = .ok (.aload_n 0, 1) := by decide +kernel
theorem dX12_wrong_197 : decode cX12_wrong 197 = .ok (.getfield 92, 3) := by decide +kernel
theorem dX12_wrong_200 : decode cX12_wrong 200 = .ok (.iload_n 2, 1) := by decide +kernel
theorem dX12_wrong_201 : decode cX12_wrong 201 = .ok (.iaload, 1) := by decide +kernel
theorem dX12_wrong_202 : decode cX12_wrong 202 = .ok (.if_icmp .le 7, 3) := by decide +kernel
theorem dX12_wrong_205 : decode cX12_wrong 205 = .ok (.iload_n 3, 1) := by decide +kernel
theorem dX12_wrong_206 : decode cX12_wrong 206 = .ok (.goto 4, 3) := by decide +kernel
theorem dX12_wrong_209 : decode cX12_wrong 209 = .ok (.iload_n 2, 1) := by decide +kernel
theorem dX12_wrong_210 : decode cX12_wrong 210 = .ok (.istore_n 2, 1) := by decide +kernel
theorem dX12_wrong_211 : decode cX12_wrong 211 = .ok (.iinc 3 1, 3) := by decide +kernel
theorem dX12_wrong_214 : decode cX12_wrong 214 = .ok (.goto (-31), 3) := by decide +kernel
theorem dX12_wrong_217 : decode cX12_wrong 217 = .ok (.iload_n 1, 1) := by decide +kernel
theorem dX12_wrong_218 : decode cX12_wrong 218 = .ok (.iconst 2, 1) := by decide +kernel
theorem dX12_wrong_219 : decode cX12_wrong 219 = .ok (.if_icmp .ne 10, 3) := by decide +kernel
theorem dX12_wrong_222 : decode cX12_wrong 222 = .ok (.aload_n 0, 1) := by decide +kernel
theorem dX12_wrong_223 : decode cX12_wrong 223 = .ok (.getfield 273, 3) := by decide +kernel
theorem dX12_wrong_226 : decode cX12_wrong 226 = .ok (.goto 28, 3) := by decide +kernel
theorem dX12_wrong_229 : decode cX12_wrong 229 = .ok (.aload_n 0, 1) := by decide +kernel
theorem dX12_wrong_230 : decode cX12_wrong 230 = .ok (.getfield 273, 3) := by decide +kernel
theorem dX12_wrong_233 : decode cX12_wrong 233 = .ok (.ifCond .ne 7, 3) := by decide +kernel
theorem dX12_wrong_236 : decode cX12_wrong 236 = .ok (.iconst (-1), 1) := by decide +kernel
theorem dX12_wrong_237 : decode cX12_wrong 237 = .ok (.goto 17, 3) := by decide +kernel
theorem dX12_wrong_240 : decode cX12_wrong 240 = .ok (.iload_n 1, 1) := by decide +kernel
theorem dX12_wrong_241 : decode cX12_wrong 241 = .ok (.ifCond .ne 7, 3) := by decide +kernel
theorem dX12_wrong_244 : decode cX12_wrong 244 = .ok (.iload_n 2, 1) := by decide +kernel
theorem dX12_wrong_245 : decode cX12_wrong 245 = .ok (.goto 9, 3) := by decide +kernel
theorem dX12_wrong_248 : decode cX12_wrong 248 = .ok (.aload_n 0, 1) := by decide +kernel
theorem dX12_wrong_249 : decode cX12_wrong 249 = .ok (.getfield 92, 3) := by decide +kernel
theorem dX12_wrong_252 : decode cX12_wrong 252 = .ok (.iload_n 2, 1) := by decide +kernel
theorem dX12_wrong_253 : decode cX12_wrong 253 = .ok (.iaload, 1) := by decide +kernel
theorem dX12_wrong_254 : decode cX12_wrong 254 = .ok (.ireturn, 1) := by decide +kernel
theorem dX12_name_0 : decode cX12_name 0 = .ok (.aload_n 0, 1) := by decide +kernel
theorem dX12_name_1 : decode cX12_name 1 = .ok (.iload_n 1, 1) := by decide +kernel
theorem dX12_name_2 : decode cX12_name 2 = .ok (.invokevirtual 106, 3) := by decide +kernel
theorem dX12_name_5 : decode cX12_name 5 = .ok (.ifCond .ne 6, 3) := by decide +kernel
theorem dX12_name_8 : decode cX12_name 8 = .ok (.bipush (-2), 2) := by decide +kernel
theorem dX12_name_10 : decode cX12_name 10 = .ok (.ireturn, 1) := by decide +kernel
theorem dX12_name_11 : decode cX12_name 11 = .ok (.aload_n 0, 1) := by decide +kernel
theorem dX12_name_12 : decode cX12_name 12 = .ok (.getfield 280, 3) := by decide +kernel
theorem dX12_name_15 : decode cX12_name 15 = .ok (.bipush 12, 2) := by decide +kernel
theorem dX12_name_17 : decode cX12_name 17 = .ok (.if_icmp .ne 6, 3) := by decide +kernel
theorem dX12_name_20 : decode cX12_name 20 = .ok (.bipush (-5), 2) := by decide +kernel
theorem dX12_name_22 : decode cX12_name 22 = .ok (.ireturn, 1) := by decide +kernel
theorem dX12_name_23 : decode cX12_name 23 = .ok (.aload_n 0, 1) := by decide +kernel
theorem dX12_name_24 : decode cX12_name 24 = .ok (.getfield 95, 3) := by decide +kernel
theorem dX12_name_27 : decode cX12_name 27 = .ok (.aload_n 0, 1) := by decide +kernel
theorem dX12_name_28 : decode cX12_name 28 = .ok (.getfield 280, 3) := by decide +kernel
theorem dX12_name_31 : decode cX12_name 31 = .ok (.iload_n 1, 1) := by decide +kernel
theorem dX12_name_32 : decode cX12_name 32 = .ok (.iastore, 1) := by decide +kernel
theorem dX12_name_33 : decode cX12_name 33 = .ok (.aload_n 0, 1) := by decide +kernel
theorem dX12_name_34 : decode cX12_name 34 = .ok (.dup, 1) := by decide +kernel
theorem dX12_name_35 : decode cX12_name 35 = .ok (.getfield 280, 3) := by decide +kernel
theorem dX12_name_38 : decode cX12_name 38 = .ok (.iconst 1, 1) := by decide +kernel
theorem dX12_name_39 : decode cX12_name 39 = .ok (.iadd, 1) := by decide +kernel
theorem dX12_name_40 : decode cX12_name 40 = .ok (.putfield 280, 3) := by decide +kernel
theorem dX12_name_43 : decode cX12_name 43 = .ok (.aload_n 0, 1) := by decide +kernel
theorem dX12_name_44 : decode cX12_name 44 = .ok (.getfield 280, 3) := by decide +kernel
theorem dX12_name_47 : decode cX12_name 47 = .ok (.ireturn, 1) := by decide +kernel
theorem dX12_hush_0 : decode cX12_hush 0 = .ok (.aload_n 0, 1) := by decide +kernel
theorem dX12_hush_1 : decode cX12_hush 1 = .ok (.getfield 280, 3) := by decide +kernel
theorem dX12_hush_4 : decode cX12_hush 4 = .ok (.istore_n 1, 1) := by decide +kernel
theorem dX12_hush_5 : decode cX12_hush 5 = .ok (.aload_n 0, 1) := by decide +kernel
theorem dX12_hush_6 : decode cX12_hush 6 = .ok (.iconst 0, 1) := by decide +kernel
theorem dX12_hush_7 : decode cX12_hush 7 = .ok (.putfield 280, 3) := by decide +kernel
theorem dX12_hush_10 : decode cX12_hush 10 = .ok (.iload_n 1, 1) := by decide +kernel
theorem dX12_hush_11 : decode cX12_hush 11 = .ok (.ireturn, 1) := by decide +kernel
theorem dX12_talk_0 : decode cX12_talk 0 = .ok (.iload_n 1, 1) := by decide +kernel
theorem dX12_talk_1 : decode cX12_talk 1 = .ok (.invokestatic 249, 3) := by decide +kernel
theorem dX12_talk_4 : decode cX12_talk 4 = .ok (.ifCond .ne 6, 3) := by decide +kernel
theorem dX12_talk_7 : decode cX12_talk 7 = .ok (.bipush (-3), 2) := by decide +kernel
theorem dX12_talk_9 : decode cX12_talk 9 = .ok (.ireturn, 1) := by decide +kernel
theorem dX12_talk_10 : decode cX12_talk 10 = .ok (.aload_n 0, 1) := by decide +kernel
theorem dX12_talk_11 : decode cX12_talk 11 = .ok (.iload_n 1, 1) := by decide +kernel
theorem dX12_talk_12 : decode cX12_talk 12 = .ok (.invokevirtual 252, 3) := by decide +kernel
theorem dX12_talk_15 : decode cX12_talk 15 = .ok (.iconst 0, 1) := by decide +kernel
theorem dX12_talk_16 : decode cX12_talk 16 = .ok (.istore_n 2, 1) := by decide +kernel
theorem dX12_talk_17 : decode cX12_talk 17 = .ok (.iconst (-1), 1) := by decide +kernel
theorem dX12_talk_18 : decode cX12_talk 18 = .ok (.istore_n 3, 1) := by decide +kernel
theorem dX12_talk_19 : decode cX12_talk 19 = .ok (.iconst (-1), 1) := by decide +kernel
theorem dX12_talk_20 : decode cX12_talk 20 = .ok (.istore 4, 2) := by decide +kernel
theorem dX12_talk_22 : decode cX12_talk 22 = .ok (.iconst 0, 1) := by decide +kernel
theorem dX12_talk_23 : decode cX12_talk 23 = .ok (.istore 5, 2) := by decide +kernel
theorem dX12_talk_25 : decode cX12_talk 25 = .ok (.iload 5, 2) := by decide +kernel
theorem dX12_talk_27 : decode cX12_talk 27 = .ok (.aload_n 0, 1) := by decide +kernel
theorem dX12_talk_28 : decode cX12_talk 28 = .ok (.getfield 280, 3) := by decide +kernel
theorem dX12_talk_31 : decode cX12_talk 31 = .ok (.if_icmp .ge 96, 3) := by decide +kernel
theorem dX12_talk_34 : decode cX12_talk 34 = .ok (.aload_n 0, 1) := by decide +kernel
theorem dX12_talk_35 : decode cX12_talk 35 = .ok (.getfield 95, 3) := by decide +kernel
theorem dX12_talk_38 : decode cX12_talk 38 = .ok (.iload 5, 2) := by decide +kernel
theorem dX12_talk_40 : decode cX12_talk 40 = .ok (.iaload, 1) := by decide +kernel
theorem dX12_talk_41 : decode cX12_talk 41 = .ok (.istore 6, 2) := by decide +kernel
theorem dX12_talk_43 : decode cX12_talk 43 = .ok (.aload_n 0, 1) := by decide +kernel
theorem dX12_talk_44 : decode cX12_talk 44 = .ok (.getfield 52, 3) := by decide +kernel
theorem dX12_talk_47 : decode cX12_talk 47 = .ok (.iconst 1, 1) := by decide +kernel
theorem dX12_talk_48 : decode cX12_talk 48 = .ok (.iload 6, 2) := by decide +kernel
theorem dX12_talk_50 : decode cX12_talk 50 = .ok (.ishl, 1) := by decide +kernel
theorem dX12_talk_51 : decode cX12_talk 51 = .ok (.iaload, 1) := by decide +kernel
theorem dX12_talk_52 : decode cX12_talk 52 = .ok (.istore 7, 2) := by decide +kernel
theorem dX12_talk_54 : decode cX12_talk 54 = .ok (.iload 6, 2) := by decide +kernel
theorem dX12_talk_56 : decode cX12_talk 56 = .ok (.iload_n 3, 1) := by decide +kernel
theorem dX12_talk_57 : decode cX12_talk 57 = .ok (.if_icmp .ne 7, 3) := by decide +kernel
theorem dX12_talk_60 : decode cX12_talk 60 = .ok (.iconst 1, 1) := by decide +kernel
theorem dX12_talk_61 : decode cX12_talk 61 = .ok (.goto 28, 3) := by decide +kernel
theorem dX12_talk_64 : decode cX12_talk 64 = .ok (.iload 6, 2) := by decide +kernel
theorem dX12_talk_66 : decode cX12_talk 66 = .ok (.iload 4, 2) := by decide +kernel
theorem dX12_talk_68 : decode cX12_talk 68 = .ok (.if_icmp .ne 19, 3) := by decide +kernel
theorem dX12_talk_71 : decode cX12_talk 71 = .ok (.iload 7, 2) := by decide +kernel
theorem dX12_talk_73 : decode cX12_talk 73 = .ok (.iconst (-1), 1) := by decide +kernel
theorem dX12_talk_74 : decode cX12_talk 74 = .ok (.if_icmp .eq 9, 3) := by decide +kernel
theorem dX12_talk_77 : decode cX12_talk 77 = .ok (.iload 7, 2) := by decide +kernel
theorem dX12_talk_79 : decode cX12_talk 79 = .ok (.iconst 2, 1) := by decide +kernel
theorem dX12_talk_80 : decode cX12_talk 80 = .ok (.if_icmp .le 7, 3) := by decide +kernel
theorem dX12_talk_83 : decode cX12_talk 83 = .ok (.iconst 2, 1) := by decide +kernel
theorem dX12_talk_84 : decode cX12_talk 84 = .ok (.goto 5, 3) := by decide +kernel
theorem dX12_talk_87 : decode cX12_talk 87 = .ok (.iload 7, 2) := by decide +kernel
theorem dX12_talk_89 : decode cX12_talk 89 = .ok (.istore 7, 2) := by decide +kernel
theorem dX12_talk_91 : decode cX12_talk 91 = .ok (.iload 7, 2) := by decide +kernel
theorem dX12_talk_93 : decode cX12_talk 93 = .ok (.iconst (-1), 1) := by decide +kernel
theorem dX12_talk_94 : decode cX12_talk 94 = .ok (.if_icmp .ne 5, 3) := by decide +kernel
theorem dX12_talk_97 : decode cX12_talk 97 = .ok (.iconst (-1), 1) := by decide +kernel
theorem dX12_talk_98 : decode cX12_talk 98 = .ok (.ireturn, 1) := by decide +kernel
theorem dX12_talk_99 : decode cX12_talk 99 = .ok (.iload_n 2, 1) := by decide +kernel
theorem dX12_talk_100 : decode cX12_talk 100 = .ok (.iload 7, 2) := by decide +kernel
theorem dX12_talk_102 : decode cX12_talk 102 = .ok (.iadd, 1) := by decide +kernel
theorem dX12_talk_103 : decode cX12_talk 103 = .ok (.istore_n 2, 1) := by decide +kernel
theorem dX12_talk_104 : decode cX12_talk 104 = .ok (.iload 6, 2) := by decide +kernel
theorem dX12_talk_106 : decode cX12_talk 106 = .ok (.iload_n 3, 1) := by decide +kernel
theorem dX12_talk_107 : decode cX12_talk 107 = .ok (.if_icmp .ne 8, 3) := by decide +kernel
theorem dX12_talk_110 : decode cX12_talk 110 = .ok (.iload 4, 2) := by decide +kernel
theorem dX12_talk_112 : decode cX12_talk 112 = .ok (.goto 4, 3) := by decide +kernel
theorem dX12_talk_115 : decode cX12_talk 115 = .ok (.iload_n 3, 1) := by decide +kernel
theorem dX12_talk_116 : decode cX12_talk 116 = .ok (.istore 4, 2) := by decide +kernel
theorem dX12_talk_118 : decode cX12_talk 118 = .ok (.iload 6, 2) := by decide +kernel
theorem dX12_talk_120 : decode cX12_talk 120 = .ok (.istore_n 3, 1) := by decide +kernel
theorem dX12_talk_121 : decode cX12_talk 121 = .ok (.iinc 5 1, 3) := by decide +kernel
theorem dX12_talk_124 : decode cX12_talk 124 = .ok (.goto (-99), 3) := by decide +kernel
theorem dX12_talk_127 : decode cX12_talk 127 = .ok (.iload_n 2, 1) := by decide +kernel
theorem dX12_talk_128 : decode cX12_talk 128 = .ok (.ireturn, 1) := by decide +kernel
theorem dX12_worthOf_0 : decode cX12_worthOf 0 = .ok (.aload_n 0, 1) := by decide +kernel
theorem dX12_worthOf_1 : decode cX12_worthOf 1 = .ok (.iload_n 1, 1) := by decide +kernel
theorem dX12_worthOf_2 : decode cX12_worthOf 2 = .ok (.invokevirtual 252, 3) := by decide +kernel
theorem dX12_worthOf_5 : decode cX12_worthOf 5 = .ok (.iconst 0, 1) := by decide +kernel
theorem dX12_worthOf_6 : decode cX12_worthOf 6 = .ok (.istore_n 2, 1) := by decide +kernel
theorem dX12_worthOf_7 : decode cX12_worthOf 7 = .ok (.iconst 0, 1) := by decide +kernel
theorem dX12_worthOf_8 : decode cX12_worthOf 8 = .ok (.istore_n 3, 1) := by decide +kernel
theorem dX12_worthOf_9 : decode cX12_worthOf 9 = .ok (.iload_n 3, 1) := by decide +kernel
theorem dX12_worthOf_10 : decode cX12_worthOf 10 = .ok (.aload_n 0, 1) := by decide +kernel
theorem dX12_worthOf_11 : decode cX12_worthOf 11 = .ok (.getfield 98, 3) := by decide +kernel
theorem dX12_worthOf_14 : decode cX12_worthOf 14 = .ok (.if_icmp .ge 37, 3) := by decide +kernel
theorem dX12_worthOf_17 : decode cX12_worthOf 17 = .ok (.iload_n 2, 1) := by decide +kernel
theorem dX12_worthOf_18 : decode cX12_worthOf 18 = .ok (.aload_n 0, 1) := by decide +kernel
theorem dX12_worthOf_19 : decode cX12_worthOf 19 = .ok (.getfield 52, 3) := by decide +kernel
theorem dX12_worthOf_22 : decode cX12_worthOf 22 = .ok (.iconst 1, 1) := by decide +kernel
theorem dX12_worthOf_23 : decode cX12_worthOf 23 = .ok (.iload_n 3, 1) := by decide +kernel
theorem dX12_worthOf_24 : decode cX12_worthOf 24 = .ok (.ishl, 1) := by decide +kernel
theorem dX12_worthOf_25 : decode cX12_worthOf 25 = .ok (.iaload, 1) := by decide +kernel
theorem dX12_worthOf_26 : decode cX12_worthOf 26 = .ok (.iconst (-1), 1) := by decide +kernel
theorem dX12_worthOf_27 : decode cX12_worthOf 27 = .ok (.if_icmp .ne 8, 3) := by decide +kernel
theorem dX12_worthOf_30 : decode cX12_worthOf 30 = .ok (.bipush 50, 2) := by decide +kernel
theorem dX12_worthOf_32 : decode cX12_worthOf 32 = .ok (.goto 11, 3) := by decide +kernel
theorem dX12_worthOf_35 : decode cX12_worthOf 35 = .ok (.aload_n 0, 1) := by decide +kernel
theorem dX12_worthOf_36 : decode cX12_worthOf 36 = .ok (.getfield 52, 3) := by decide +kernel
theorem dX12_worthOf_39 : decode cX12_worthOf 39 = .ok (.iconst 1, 1) := by decide +kernel
theorem dX12_worthOf_40 : decode cX12_worthOf 40 = .ok (.iload_n 3, 1) := by decide +kernel
theorem dX12_worthOf_41 : decode cX12_worthOf 41 = .ok (.ishl, 1) := by decide +kernel
theorem dX12_worthOf_42 : decode cX12_worthOf 42 = .ok (.iaload, 1) := by decide +kernel
theorem dX12_worthOf_43 : decode cX12_worthOf 43 = .ok (.iadd, 1) := by decide +kernel
theorem dX12_worthOf_44 : decode cX12_worthOf 44 = .ok (.istore_n 2, 1) := by decide +kernel
theorem dX12_worthOf_45 : decode cX12_worthOf 45 = .ok (.iinc 3 1, 3) := by decide +kernel
theorem dX12_worthOf_48 : decode cX12_worthOf 48 = .ok (.goto (-39), 3) := by decide +kernel
theorem dX12_worthOf_51 : decode cX12_worthOf 51 = .ok (.iload_n 2, 1) := by decide +kernel
theorem dX12_worthOf_52 : decode cX12_worthOf 52 = .ok (.ireturn, 1) := by decide +kernel
theorem dX12_worth_0 : decode cX12_worth 0 = .ok (.iload_n 1, 1) := by decide +kernel
theorem dX12_worth_1 : decode cX12_worth 1 = .ok (.invokestatic 249, 3) := by decide +kernel
theorem dX12_worth_4 : decode cX12_worth 4 = .ok (.ifCond .eq 12, 3) := by decide +kernel
theorem dX12_worth_7 : decode cX12_worth 7 = .ok (.iload_n 2, 1) := by decide +kernel
theorem dX12_worth_8 : decode cX12_worth 8 = .ok (.iconst 0, 1) := by decide +kernel
theorem dX12_worth_9 : decode cX12_worth 9 = .ok (.iconst 2, 1) := by decide +kernel
theorem dX12_worth_10 : decode cX12_worth 10 = .ok (.invokestatic 102, 3) := by decide +kernel
theorem dX12_worth_13 : decode cX12_worth 13 = .ok (.ifCond .ne 6, 3) := by decide +kernel
theorem dX12_worth_16 : decode cX12_worth 16 = .ok (.bipush (-3), 2) := by decide +kernel
theorem dX12_worth_18 : decode cX12_worth 18 = .ok (.ireturn, 1) := by decide +kernel
theorem dX12_worth_19 : decode cX12_worth 19 = .ok (.iload_n 2, 1) := by decide +kernel
theorem dX12_worth_20 : decode cX12_worth 20 = .ok (.ifCond .ne 9, 3) := by decide +kernel
theorem dX12_worth_23 : decode cX12_worth 23 = .ok (.aload_n 0, 1) := by decide +kernel
theorem dX12_worth_24 : decode cX12_worth 24 = .ok (.iload_n 1, 1) := by decide +kernel
theorem dX12_worth_25 : decode cX12_worth 25 = .ok (.invokevirtual 283, 3) := by decide +kernel
theorem dX12_worth_28 : decode cX12_worth 28 = .ok (.ireturn, 1) := by decide +kernel
theorem dX12_worth_29 : decode cX12_worth 29 = .ok (.iconst (-1), 1) := by decide +kernel
theorem dX12_worth_30 : decode cX12_worth 30 = .ok (.istore_n 3, 1) := by decide +kernel
theorem dX12_worth_31 : decode cX12_worth 31 = .ok (.iconst (-1), 1) := by decide +kernel
theorem dX12_worth_32 : decode cX12_worth 32 = .ok (.istore 4, 2) := by decide +kernel
theorem dX12_worth_34 : decode cX12_worth 34 = .ok (.iconst 0, 1) := by decide +kernel
theorem dX12_worth_35 : decode cX12_worth 35 = .ok (.istore 5, 2) := by decide +kernel
theorem dX12_worth_37 : decode cX12_worth 37 = .ok (.iload 5, 2) := by decide +kernel
theorem dX12_worth_39 : decode cX12_worth 39 = .ok (.aload_n 0, 1) := by decide +kernel
theorem dX12_worth_40 : decode cX12_worth 40 = .ok (.getfield 98, 3) := by decide +kernel
theorem dX12_worth_43 : decode cX12_worth 43 = .ok (.if_icmp .ge 120, 3) := by decide +kernel
theorem dX12_worth_46 : decode cX12_worth 46 = .ok (.iconst 0, 1) := by decide +kernel
theorem dX12_worth_47 : decode cX12_worth 47 = .ok (.istore 6, 2) := by decide +kernel
theorem dX12_worth_49 : decode cX12_worth 49 = .ok (.iload 6, 2) := by decide +kernel
theorem dX12_worth_51 : decode cX12_worth 51 = .ok (.iconst 3, 1) := by decide +kernel
theorem dX12_worth_52 : decode cX12_worth 52 = .ok (.if_icmp .ge 105, 3) := by decide +kernel
theorem dX12_worth_55 : decode cX12_worth 55 = .ok (.aload_n 0, 1) := by decide +kernel
theorem dX12_worth_56 : decode cX12_worth 56 = .ok (.getfield 19, 3) := by decide +kernel
theorem dX12_worth_59 : decode cX12_worth 59 = .ok (.iload 5, 2) := by decide +kernel
theorem dX12_worth_61 : decode cX12_worth 61 = .ok (.iaload, 1) := by decide +kernel
theorem dX12_worth_62 : decode cX12_worth 62 = .ok (.istore 7, 2) := by decide +kernel
theorem dX12_worth_64 : decode cX12_worth 64 = .ok (.iload 7, 2) := by decide +kernel
theorem dX12_worth_66 : decode cX12_worth 66 = .ok (.iload 6, 2) := by decide +kernel
theorem dX12_worth_68 : decode cX12_worth 68 = .ok (.ishr, 1) := by decide +kernel
theorem dX12_worth_69 : decode cX12_worth 69 = .ok (.iconst 1, 1) := by decide +kernel
theorem dX12_worth_70 : decode cX12_worth 70 = .ok (.iand, 1) := by decide +kernel
theorem dX12_worth_71 : decode cX12_worth 71 = .ok (.ifCond .ne 80, 3) := by decide +kernel
theorem dX12_worth_74 : decode cX12_worth 74 = .ok (.aload_n 0, 1) := by decide +kernel
theorem dX12_worth_75 : decode cX12_worth 75 = .ok (.getfield 19, 3) := by decide +kernel
theorem dX12_worth_78 : decode cX12_worth 78 = .ok (.iload 5, 2) := by decide +kernel
theorem dX12_worth_80 : decode cX12_worth 80 = .ok (.iload 7, 2) := by decide +kernel
theorem dX12_worth_82 : decode cX12_worth 82 = .ok (.iconst 1, 1) := by decide +kernel
theorem dX12_worth_83 : decode cX12_worth 83 = .ok (.iload 6, 2) := by decide +kernel
theorem dX12_worth_85 : decode cX12_worth 85 = .ok (.ishl, 1) := by decide +kernel
theorem dX12_worth_86 : decode cX12_worth 86 = .ok (.ior, 1) := by decide +kernel
theorem dX12_worth_87 : decode cX12_worth 87 = .ok (.iastore, 1) := by decide +kernel
theorem dX12_worth_88 : decode cX12_worth 88 = .ok (.aload_n 0, 1) := by decide +kernel
theorem dX12_worth_89 : decode cX12_worth 89 = .ok (.iload_n 1, 1) := by decide +kernel
theorem dX12_worth_90 : decode cX12_worth 90 = .ok (.invokevirtual 283, 3) := by decide +kernel
theorem dX12_worth_93 : decode cX12_worth 93 = .ok (.istore 8, 2) := by decide +kernel
theorem dX12_worth_95 : decode cX12_worth 95 = .ok (.aload_n 0, 1) := by decide +kernel
theorem dX12_worth_96 : decode cX12_worth 96 = .ok (.getfield 19, 3) := by decide +kernel
theorem dX12_worth_99 : decode cX12_worth 99 = .ok (.iload 5, 2) := by decide +kernel
theorem dX12_worth_101 : decode cX12_worth 101 = .ok (.iload 7, 2) := by decide +kernel
theorem dX12_worth_103 : decode cX12_worth 103 = .ok (.iastore, 1) := by decide +kernel
theorem dX12_worth_104 : decode cX12_worth 104 = .ok (.iload 4, 2) := by decide +kernel
theorem dX12_worth_106 : decode cX12_worth 106 = .ok (.iconst (-1), 1) := by decide +kernel
theorem dX12_worth_107 : decode cX12_worth 107 = .ok (.if_icmp .eq 10, 3) := by decide +kernel
theorem dX12_worth_110 : decode cX12_worth 110 = .ok (.iload 8, 2) := by decide +kernel
theorem dX12_worth_112 : decode cX12_worth 112 = .ok (.iload 4, 2) := by decide +kernel
theorem dX12_worth_114 : decode cX12_worth 114 = .ok (.if_icmp .ge 13, 3) := by decide +kernel
theorem dX12_worth_117 : decode cX12_worth 117 = .ok (.iconst 4, 1) := by decide +kernel
theorem dX12_worth_118 : decode cX12_worth 118 = .ok (.iload 5, 2) := by decide +kernel
theorem dX12_worth_120 : decode cX12_worth 120 = .ok (.imul, 1) := by decide +kernel
theorem dX12_worth_121 : decode cX12_worth 121 = .ok (.iload 6, 2) := by decide +kernel
theorem dX12_worth_123 : decode cX12_worth 123 = .ok (.iadd, 1) := by decide +kernel
theorem dX12_worth_124 : decode cX12_worth 124 = .ok (.goto 4, 3) := by decide +kernel
theorem dX12_worth_127 : decode cX12_worth 127 = .ok (.iload_n 3, 1) := by decide +kernel
theorem dX12_worth_128 : decode cX12_worth 128 = .ok (.istore_n 3, 1) := by decide +kernel
theorem dX12_worth_129 : decode cX12_worth 129 = .ok (.iload 4, 2) := by decide +kernel
theorem dX12_worth_131 : decode cX12_worth 131 = .ok (.iconst (-1), 1) := by decide +kernel
theorem dX12_worth_132 : decode cX12_worth 132 = .ok (.if_icmp .eq 10, 3) := by decide +kernel
theorem dX12_worth_135 : decode cX12_worth 135 = .ok (.iload 8, 2) := by decide +kernel
theorem dX12_worth_137 : decode cX12_worth 137 = .ok (.iload 4, 2) := by decide +kernel
theorem dX12_worth_139 : decode cX12_worth 139 = .ok (.if_icmp .ge 8, 3) := by decide +kernel
theorem dX12_worth_142 : decode cX12_worth 142 = .ok (.iload 8, 2) := by decide +kernel
theorem dX12_worth_144 : decode cX12_worth 144 = .ok (.goto 5, 3) := by decide +kernel
theorem dX12_worth_147 : decode cX12_worth 147 = .ok (.iload 4, 2) := by decide +kernel
theorem dX12_worth_149 : decode cX12_worth 149 = .ok (.istore 4, 2) := by decide +kernel
theorem dX12_worth_151 : decode cX12_worth 151 = .ok (.iinc 6 1, 3) := by decide +kernel
theorem dX12_worth_154 : decode cX12_worth 154 = .ok (.goto (-105), 3) := by decide +kernel
theorem dX12_worth_157 : decode cX12_worth 157 = .ok (.iinc 5 1, 3) := by decide +kernel
theorem dX12_worth_160 : decode cX12_worth 160 = .ok (.goto (-123), 3) := by decide +kernel
theorem dX12_worth_163 : decode cX12_worth 163 = .ok (.iload_n 2, 1) := by decide +kernel
theorem dX12_worth_164 : decode cX12_worth 164 = .ok (.iconst 1, 1) := by decide +kernel
theorem dX12_worth_165 : decode cX12_worth 165 = .ok (.if_icmp .ne 8, 3) := by decide +kernel
theorem dX12_worth_168 : decode cX12_worth 168 = .ok (.iload 4, 2) := by decide +kernel
theorem dX12_worth_170 : decode cX12_worth 170 = .ok (.goto 4, 3) := by decide +kernel
theorem dX12_worth_173 : decode cX12_worth 173 = .ok (.iload_n 3, 1) := by decide +kernel
theorem dX12_worth_174 : decode cX12_worth 174 = .ok (.ireturn, 1) := by decide +kernel
theorem dX12_count_0 : decode cX12_count 0 = .ok (.iload_n 1, 1) := by decide +kernel
theorem dX12_count_1 : decode cX12_count 1 = .ok (.tableswitch 60 0 4 #[35, 40, 45, 50, 55], 35) := by decide +kernel
theorem dX12_count_36 : decode cX12_count 36 = .ok (.aload_n 0, 1) := by decide +kernel
theorem dX12_count_37 : decode cX12_count 37 = .ok (.getfield 98, 3) := by decide +kernel
theorem dX12_count_40 : decode cX12_count 40 = .ok (.ireturn, 1) := by decide +kernel
theorem dX12_count_41 : decode cX12_count 41 = .ok (.aload_n 0, 1) := by decide +kernel
theorem dX12_count_42 : decode cX12_count 42 = .ok (.invokevirtual 114, 3) := by decide +kernel
theorem dX12_count_45 : decode cX12_count 45 = .ok (.ireturn, 1) := by decide +kernel
theorem dX12_count_46 : decode cX12_count 46 = .ok (.aload_n 0, 1) := by decide +kernel
theorem dX12_count_47 : decode cX12_count 47 = .ok (.getfield 121, 3) := by decide +kernel
theorem dX12_count_50 : decode cX12_count 50 = .ok (.ireturn, 1) := by decide +kernel
theorem dX12_count_51 : decode cX12_count 51 = .ok (.aload_n 0, 1) := by decide +kernel
theorem dX12_count_52 : decode cX12_count 52 = .ok (.getfield 228, 3) := by decide +kernel
theorem dX12_count_55 : decode cX12_count 55 = .ok (.ireturn, 1) := by decide +kernel
theorem dX12_count_56 : decode cX12_count 56 = .ok (.aload_n 0, 1) := by decide +kernel
theorem dX12_count_57 : decode cX12_count 57 = .ok (.getfield 280, 3) := by decide +kernel
theorem dX12_count_60 : decode cX12_count 60 = .ok (.ireturn, 1) := by decide +kernel
theorem dX12_count_61 : decode cX12_count 61 = .ok (.bipush (-3), 2) := by decide +kernel
theorem dX12_count_63 : decode cX12_count 63 = .ok (.ireturn, 1) := by decide +kernel
theorem dJ6_numberOfTrailingZeros_0f7a4_0 : decode cJ6_numberOfTrailingZeros_0f7a4 0 = .ok (.iload_n 0, 1) := by decide +kernel
theorem dJ6_numberOfTrailingZeros_0f7a4_1 : decode cJ6_numberOfTrailingZeros_0f7a4 1 = .ok (.iconst (-1), 1) := by decide +kernel
theorem dJ6_numberOfTrailingZeros_0f7a4_2 : decode cJ6_numberOfTrailingZeros_0f7a4 2 = .ok (.ixor, 1) := by decide +kernel
theorem dJ6_numberOfTrailingZeros_0f7a4_3 : decode cJ6_numberOfTrailingZeros_0f7a4 3 = .ok (.iload_n 0, 1) := by decide +kernel
theorem dJ6_numberOfTrailingZeros_0f7a4_4 : decode cJ6_numberOfTrailingZeros_0f7a4 4 = .ok (.iconst 1, 1) := by decide +kernel
theorem dJ6_numberOfTrailingZeros_0f7a4_5 : decode cJ6_numberOfTrailingZeros_0f7a4 5 = .ok (.isub, 1) := by decide +kernel
theorem dJ6_numberOfTrailingZeros_0f7a4_6 : decode cJ6_numberOfTrailingZeros_0f7a4 6 = .ok (.iand, 1) := by decide +kernel
theorem dJ6_numberOfTrailingZeros_0f7a4_7 : decode cJ6_numberOfTrailingZeros_0f7a4 7 = .ok (.istore_n 0, 1) := by decide +kernel
theorem dJ6_numberOfTrailingZeros_0f7a4_8 : decode cJ6_numberOfTrailingZeros_0f7a4 8 = .ok (.iload_n 0, 1) := by decide +kernel
theorem dJ6_numberOfTrailingZeros_0f7a4_9 : decode cJ6_numberOfTrailingZeros_0f7a4 9 = .ok (.ifCond .gt 8, 3) := by decide +kernel
theorem dJ6_numberOfTrailingZeros_0f7a4_12 : decode cJ6_numberOfTrailingZeros_0f7a4 12 = .ok (.iload_n 0, 1) := by decide +kernel
theorem dJ6_numberOfTrailingZeros_0f7a4_13 : decode cJ6_numberOfTrailingZeros_0f7a4 13 = .ok (.bipush 32, 2) := by decide +kernel
theorem dJ6_numberOfTrailingZeros_0f7a4_15 : decode cJ6_numberOfTrailingZeros_0f7a4 15 = .ok (.iand, 1) := by decide +kernel
theorem dJ6_numberOfTrailingZeros_0f7a4_16 : decode cJ6_numberOfTrailingZeros_0f7a4 16 = .ok (.ireturn, 1) := by decide +kernel
theorem dJ6_numberOfTrailingZeros_0f7a4_17 : decode cJ6_numberOfTrailingZeros_0f7a4 17 = .ok (.iconst 1, 1) := by decide +kernel
theorem dJ6_numberOfTrailingZeros_0f7a4_18 : decode cJ6_numberOfTrailingZeros_0f7a4 18 = .ok (.istore_n 1, 1) := by decide +kernel
theorem dJ6_numberOfTrailingZeros_0f7a4_19 : decode cJ6_numberOfTrailingZeros_0f7a4 19 = .ok (.iload_n 0, 1) := by decide +kernel
theorem dJ6_numberOfTrailingZeros_0f7a4_20 : decode cJ6_numberOfTrailingZeros_0f7a4 20 = .ok (.ldc_w 264, 3) := by decide +kernel
theorem dJ6_numberOfTrailingZeros_0f7a4_23 : decode cJ6_numberOfTrailingZeros_0f7a4 23 = .ok (.if_icmp .le 11, 3) := by decide +kernel
theorem dJ6_numberOfTrailingZeros_0f7a4_26 : decode cJ6_numberOfTrailingZeros_0f7a4 26 = .ok (.iinc 1 16, 3) := by decide +kernel
theorem dJ6_numberOfTrailingZeros_0f7a4_29 : decode cJ6_numberOfTrailingZeros_0f7a4 29 = .ok (.iload_n 0, 1) := by decide +kernel
theorem dJ6_numberOfTrailingZeros_0f7a4_30 : decode cJ6_numberOfTrailingZeros_0f7a4 30 = .ok (.bipush 16, 2) := by decide +kernel
theorem dJ6_numberOfTrailingZeros_0f7a4_32 : decode cJ6_numberOfTrailingZeros_0f7a4 32 = .ok (.iushr, 1) := by decide +kernel
theorem dJ6_numberOfTrailingZeros_0f7a4_33 : decode cJ6_numberOfTrailingZeros_0f7a4 33 = .ok (.istore_n 0, 1) := by decide +kernel
theorem dJ6_numberOfTrailingZeros_0f7a4_34 : decode cJ6_numberOfTrailingZeros_0f7a4 34 = .ok (.iload_n 0, 1) := by decide +kernel
theorem dJ6_numberOfTrailingZeros_0f7a4_35 : decode cJ6_numberOfTrailingZeros_0f7a4 35 = .ok (.sipush 256, 3) := by decide +kernel
theorem dJ6_numberOfTrailingZeros_0f7a4_38 : decode cJ6_numberOfTrailingZeros_0f7a4 38 = .ok (.if_icmp .le 11, 3) := by decide +kernel
theorem dJ6_numberOfTrailingZeros_0f7a4_41 : decode cJ6_numberOfTrailingZeros_0f7a4 41 = .ok (.iinc 1 8, 3) := by decide +kernel
theorem dJ6_numberOfTrailingZeros_0f7a4_44 : decode cJ6_numberOfTrailingZeros_0f7a4 44 = .ok (.iload_n 0, 1) := by decide +kernel
theorem dJ6_numberOfTrailingZeros_0f7a4_45 : decode cJ6_numberOfTrailingZeros_0f7a4 45 = .ok (.bipush 8, 2) := by decide +kernel
theorem dJ6_numberOfTrailingZeros_0f7a4_47 : decode cJ6_numberOfTrailingZeros_0f7a4 47 = .ok (.iushr, 1) := by decide +kernel
theorem dJ6_numberOfTrailingZeros_0f7a4_48 : decode cJ6_numberOfTrailingZeros_0f7a4 48 = .ok (.istore_n 0, 1) := by decide +kernel
theorem dJ6_numberOfTrailingZeros_0f7a4_49 : decode cJ6_numberOfTrailingZeros_0f7a4 49 = .ok (.iload_n 0, 1) := by decide +kernel
theorem dJ6_numberOfTrailingZeros_0f7a4_50 : decode cJ6_numberOfTrailingZeros_0f7a4 50 = .ok (.bipush 16, 2) := by decide +kernel
theorem dJ6_numberOfTrailingZeros_0f7a4_52 : decode cJ6_numberOfTrailingZeros_0f7a4 52 = .ok (.if_icmp .le 10, 3) := by decide +kernel
theorem dJ6_numberOfTrailingZeros_0f7a4_55 : decode cJ6_numberOfTrailingZeros_0f7a4 55 = .ok (.iinc 1 4, 3) := by decide +kernel
theorem dJ6_numberOfTrailingZeros_0f7a4_58 : decode cJ6_numberOfTrailingZeros_0f7a4 58 = .ok (.iload_n 0, 1) := by decide +kernel
theorem dJ6_numberOfTrailingZeros_0f7a4_59 : decode cJ6_numberOfTrailingZeros_0f7a4 59 = .ok (.iconst 4, 1) := by decide +kernel
theorem dJ6_numberOfTrailingZeros_0f7a4_60 : decode cJ6_numberOfTrailingZeros_0f7a4 60 = .ok (.iushr, 1) := by decide +kernel
theorem dJ6_numberOfTrailingZeros_0f7a4_61 : decode cJ6_numberOfTrailingZeros_0f7a4 61 = .ok (.istore_n 0, 1) := by decide +kernel
theorem dJ6_numberOfTrailingZeros_0f7a4_62 : decode cJ6_numberOfTrailingZeros_0f7a4 62 = .ok (.iload_n 0, 1) := by decide +kernel
theorem dJ6_numberOfTrailingZeros_0f7a4_63 : decode cJ6_numberOfTrailingZeros_0f7a4 63 = .ok (.iconst 4, 1) := by decide +kernel
theorem dJ6_numberOfTrailingZeros_0f7a4_64 : decode cJ6_numberOfTrailingZeros_0f7a4 64 = .ok (.if_icmp .le 10, 3) := by decide +kernel
theorem dJ6_numberOfTrailingZeros_0f7a4_67 : decode cJ6_numberOfTrailingZeros_0f7a4 67 = .ok (.iinc 1 2, 3) := by decide +kernel
theorem dJ6_numberOfTrailingZeros_0f7a4_70 : decode cJ6_numberOfTrailingZeros_0f7a4 70 = .ok (.iload_n 0, 1) := by decide +kernel
theorem dJ6_numberOfTrailingZeros_0f7a4_71 : decode cJ6_numberOfTrailingZeros_0f7a4 71 = .ok (.iconst 2, 1) := by decide +kernel
theorem dJ6_numberOfTrailingZeros_0f7a4_72 : decode cJ6_numberOfTrailingZeros_0f7a4 72 = .ok (.iushr, 1) := by decide +kernel
theorem dJ6_numberOfTrailingZeros_0f7a4_73 : decode cJ6_numberOfTrailingZeros_0f7a4 73 = .ok (.istore_n 0, 1) := by decide +kernel
theorem dJ6_numberOfTrailingZeros_0f7a4_74 : decode cJ6_numberOfTrailingZeros_0f7a4 74 = .ok (.iload_n 1, 1) := by decide +kernel
theorem dJ6_numberOfTrailingZeros_0f7a4_75 : decode cJ6_numberOfTrailingZeros_0f7a4 75 = .ok (.iload_n 0, 1) := by decide +kernel
theorem dJ6_numberOfTrailingZeros_0f7a4_76 : decode cJ6_numberOfTrailingZeros_0f7a4 76 = .ok (.iconst 1, 1) := by decide +kernel
theorem dJ6_numberOfTrailingZeros_0f7a4_77 : decode cJ6_numberOfTrailingZeros_0f7a4 77 = .ok (.iushr, 1) := by decide +kernel
theorem dJ6_numberOfTrailingZeros_0f7a4_78 : decode cJ6_numberOfTrailingZeros_0f7a4 78 = .ok (.iadd, 1) := by decide +kernel
theorem dJ6_numberOfTrailingZeros_0f7a4_79 : decode cJ6_numberOfTrailingZeros_0f7a4 79 = .ok (.ireturn, 1) := by decide +kernel
theorem dJ6_bitCount_0f7a4_0 : decode cJ6_bitCount_0f7a4 0 = .ok (.iload_n 0, 1) := by decide +kernel
theorem dJ6_bitCount_0f7a4_1 : decode cJ6_bitCount_0f7a4 1 = .ok (.iload_n 0, 1) := by decide +kernel
theorem dJ6_bitCount_0f7a4_2 : decode cJ6_bitCount_0f7a4 2 = .ok (.iconst 1, 1) := by decide +kernel
theorem dJ6_bitCount_0f7a4_3 : decode cJ6_bitCount_0f7a4 3 = .ok (.iushr, 1) := by decide +kernel
theorem dJ6_bitCount_0f7a4_4 : decode cJ6_bitCount_0f7a4 4 = .ok (.ldc_w 265, 3) := by decide +kernel
theorem dJ6_bitCount_0f7a4_7 : decode cJ6_bitCount_0f7a4 7 = .ok (.iand, 1) := by decide +kernel
theorem dJ6_bitCount_0f7a4_8 : decode cJ6_bitCount_0f7a4 8 = .ok (.isub, 1) := by decide +kernel
theorem dJ6_bitCount_0f7a4_9 : decode cJ6_bitCount_0f7a4 9 = .ok (.istore_n 0, 1) := by decide +kernel
theorem dJ6_bitCount_0f7a4_10 : decode cJ6_bitCount_0f7a4 10 = .ok (.iload_n 0, 1) := by decide +kernel
theorem dJ6_bitCount_0f7a4_11 : decode cJ6_bitCount_0f7a4 11 = .ok (.ldc_w 266, 3) := by decide +kernel
theorem dJ6_bitCount_0f7a4_14 : decode cJ6_bitCount_0f7a4 14 = .ok (.iand, 1) := by decide +kernel
theorem dJ6_bitCount_0f7a4_15 : decode cJ6_bitCount_0f7a4 15 = .ok (.iload_n 0, 1) := by decide +kernel
theorem dJ6_bitCount_0f7a4_16 : decode cJ6_bitCount_0f7a4 16 = .ok (.iconst 2, 1) := by decide +kernel
theorem dJ6_bitCount_0f7a4_17 : decode cJ6_bitCount_0f7a4 17 = .ok (.iushr, 1) := by decide +kernel
theorem dJ6_bitCount_0f7a4_18 : decode cJ6_bitCount_0f7a4 18 = .ok (.ldc_w 266, 3) := by decide +kernel
theorem dJ6_bitCount_0f7a4_21 : decode cJ6_bitCount_0f7a4 21 = .ok (.iand, 1) := by decide +kernel
theorem dJ6_bitCount_0f7a4_22 : decode cJ6_bitCount_0f7a4 22 = .ok (.iadd, 1) := by decide +kernel
theorem dJ6_bitCount_0f7a4_23 : decode cJ6_bitCount_0f7a4 23 = .ok (.istore_n 0, 1) := by decide +kernel
theorem dJ6_bitCount_0f7a4_24 : decode cJ6_bitCount_0f7a4 24 = .ok (.iload_n 0, 1) := by decide +kernel
theorem dJ6_bitCount_0f7a4_25 : decode cJ6_bitCount_0f7a4 25 = .ok (.iload_n 0, 1) := by decide +kernel
theorem dJ6_bitCount_0f7a4_26 : decode cJ6_bitCount_0f7a4 26 = .ok (.iconst 4, 1) := by decide +kernel
theorem dJ6_bitCount_0f7a4_27 : decode cJ6_bitCount_0f7a4 27 = .ok (.iushr, 1) := by decide +kernel
theorem dJ6_bitCount_0f7a4_28 : decode cJ6_bitCount_0f7a4 28 = .ok (.iadd, 1) := by decide +kernel
theorem dJ6_bitCount_0f7a4_29 : decode cJ6_bitCount_0f7a4 29 = .ok (.ldc_w 267, 3) := by decide +kernel
theorem dJ6_bitCount_0f7a4_32 : decode cJ6_bitCount_0f7a4 32 = .ok (.iand, 1) := by decide +kernel
theorem dJ6_bitCount_0f7a4_33 : decode cJ6_bitCount_0f7a4 33 = .ok (.istore_n 0, 1) := by decide +kernel
theorem dJ6_bitCount_0f7a4_34 : decode cJ6_bitCount_0f7a4 34 = .ok (.iload_n 0, 1) := by decide +kernel
theorem dJ6_bitCount_0f7a4_35 : decode cJ6_bitCount_0f7a4 35 = .ok (.iload_n 0, 1) := by decide +kernel
theorem dJ6_bitCount_0f7a4_36 : decode cJ6_bitCount_0f7a4 36 = .ok (.bipush 8, 2) := by decide +kernel
theorem dJ6_bitCount_0f7a4_38 : decode cJ6_bitCount_0f7a4 38 = .ok (.iushr, 1) := by decide +kernel
theorem dJ6_bitCount_0f7a4_39 : decode cJ6_bitCount_0f7a4 39 = .ok (.iadd, 1) := by decide +kernel
theorem dJ6_bitCount_0f7a4_40 : decode cJ6_bitCount_0f7a4 40 = .ok (.istore_n 0, 1) := by decide +kernel
theorem dJ6_bitCount_0f7a4_41 : decode cJ6_bitCount_0f7a4 41 = .ok (.iload_n 0, 1) := by decide +kernel
theorem dJ6_bitCount_0f7a4_42 : decode cJ6_bitCount_0f7a4 42 = .ok (.iload_n 0, 1) := by decide +kernel
theorem dJ6_bitCount_0f7a4_43 : decode cJ6_bitCount_0f7a4 43 = .ok (.bipush 16, 2) := by decide +kernel
theorem dJ6_bitCount_0f7a4_45 : decode cJ6_bitCount_0f7a4 45 = .ok (.iushr, 1) := by decide +kernel
theorem dJ6_bitCount_0f7a4_46 : decode cJ6_bitCount_0f7a4 46 = .ok (.iadd, 1) := by decide +kernel
theorem dJ6_bitCount_0f7a4_47 : decode cJ6_bitCount_0f7a4 47 = .ok (.istore_n 0, 1) := by decide +kernel
theorem dJ6_bitCount_0f7a4_48 : decode cJ6_bitCount_0f7a4 48 = .ok (.iload_n 0, 1) := by decide +kernel
theorem dJ6_bitCount_0f7a4_49 : decode cJ6_bitCount_0f7a4 49 = .ok (.bipush 63, 2) := by decide +kernel
theorem dJ6_bitCount_0f7a4_51 : decode cJ6_bitCount_0f7a4 51 = .ok (.iand, 1) := by decide +kernel
theorem dJ6_bitCount_0f7a4_52 : decode cJ6_bitCount_0f7a4 52 = .ok (.ireturn, 1) := by decide +kernel
theorem dJ9_max_7cf53_0 : decode cJ9_max_7cf53 0 = .ok (.iload_n 0, 1) := by decide +kernel
theorem dJ9_max_7cf53_1 : decode cJ9_max_7cf53 1 = .ok (.iload_n 1, 1) := by decide +kernel
theorem dJ9_max_7cf53_2 : decode cJ9_max_7cf53 2 = .ok (.if_icmp .lt 7, 3) := by decide +kernel
theorem dJ9_max_7cf53_5 : decode cJ9_max_7cf53 5 = .ok (.iload_n 0, 1) := by decide +kernel
theorem dJ9_max_7cf53_6 : decode cJ9_max_7cf53 6 = .ok (.goto 4, 3) := by decide +kernel
theorem dJ9_max_7cf53_9 : decode cJ9_max_7cf53 9 = .ok (.iload_n 1, 1) := by decide +kernel
theorem dJ9_max_7cf53_10 : decode cJ9_max_7cf53 10 = .ok (.ireturn, 1) := by decide +kernel
theorem dJ9_min_7cf53_0 : decode cJ9_min_7cf53 0 = .ok (.iload_n 0, 1) := by decide +kernel
theorem dJ9_min_7cf53_1 : decode cJ9_min_7cf53 1 = .ok (.iload_n 1, 1) := by decide +kernel
theorem dJ9_min_7cf53_2 : decode cJ9_min_7cf53 2 = .ok (.if_icmp .gt 7, 3) := by decide +kernel
theorem dJ9_min_7cf53_5 : decode cJ9_min_7cf53 5 = .ok (.iload_n 0, 1) := by decide +kernel
theorem dJ9_min_7cf53_6 : decode cJ9_min_7cf53 6 = .ok (.goto 4, 3) := by decide +kernel
theorem dJ9_min_7cf53_9 : decode cJ9_min_7cf53 9 = .ok (.iload_n 1, 1) := by decide +kernel
theorem dJ9_min_7cf53_10 : decode cJ9_min_7cf53 10 = .ok (.ireturn, 1) := by decide +kernel
theorem dJ0_charAt_5068e_0 : decode cJ0_charAt_5068e 0 = .ok (.aload_n 0, 1) := by decide +kernel
theorem dJ0_charAt_5068e_1 : decode cJ0_charAt_5068e 1 = .ok (.invokevirtual 492, 3) := by decide +kernel
theorem dJ0_charAt_5068e_4 : decode cJ0_charAt_5068e 4 = .ok (.ifCond .eq 12, 3) := by decide +kernel
theorem dJ0_charAt_5068e_7 : decode cJ0_charAt_5068e 7 = .ok (.aload_n 0, 1) := by decide +kernel
theorem dJ0_charAt_5068e_8 : decode cJ0_charAt_5068e 8 = .ok (.getfield 9, 3) := by decide +kernel
theorem dJ0_charAt_5068e_11 : decode cJ0_charAt_5068e 11 = .ok (.iload_n 1, 1) := by decide +kernel
theorem dJ0_charAt_5068e_12 : decode cJ0_charAt_5068e 12 = .ok (.invokestatic 495, 3) := by decide +kernel
theorem dJ0_charAt_5068e_15 : decode cJ0_charAt_5068e 15 = .ok (.ireturn, 1) := by decide +kernel
theorem dJ0_charAt_5068e_16 : decode cJ0_charAt_5068e 16 = .ok (.aload_n 0, 1) := by decide +kernel
theorem dJ0_charAt_5068e_17 : decode cJ0_charAt_5068e 17 = .ok (.getfield 9, 3) := by decide +kernel
theorem dJ0_charAt_5068e_20 : decode cJ0_charAt_5068e 20 = .ok (.iload_n 1, 1) := by decide +kernel
theorem dJ0_charAt_5068e_21 : decode cJ0_charAt_5068e 21 = .ok (.invokestatic 498, 3) := by decide +kernel
theorem dJ0_charAt_5068e_24 : decode cJ0_charAt_5068e 24 = .ok (.ireturn, 1) := by decide +kernel
theorem dJ0_isLatin1_aae02_0 : decode cJ0_isLatin1_aae02 0 = .ok (.getstatic 38, 3) := by decide +kernel
theorem dJ0_isLatin1_aae02_3 : decode cJ0_isLatin1_aae02 3 = .ok (.ifCond .eq 14, 3) := by decide +kernel
theorem dJ0_isLatin1_aae02_6 : decode cJ0_isLatin1_aae02 6 = .ok (.aload_n 0, 1) := by decide +kernel
theorem dJ0_isLatin1_aae02_7 : decode cJ0_isLatin1_aae02 7 = .ok (.getfield 15, 3) := by decide +kernel
theorem dJ0_isLatin1_aae02_10 : decode cJ0_isLatin1_aae02 10 = .ok (.ifCond .ne 7, 3) := by decide +kernel
theorem dJ0_isLatin1_aae02_13 : decode cJ0_isLatin1_aae02 13 = .ok (.iconst 1, 1) := by decide +kernel
theorem dJ0_isLatin1_aae02_14 : decode cJ0_isLatin1_aae02 14 = .ok (.goto 4, 3) := by decide +kernel
theorem dJ0_isLatin1_aae02_17 : decode cJ0_isLatin1_aae02 17 = .ok (.iconst 0, 1) := by decide +kernel
theorem dJ0_isLatin1_aae02_18 : decode cJ0_isLatin1_aae02 18 = .ok (.ireturn, 1) := by decide +kernel
theorem dJ0_checkIndex_df160_0 : decode cJ0_checkIndex_df160 0 = .ok (.iload_n 0, 1) := by decide +kernel
theorem dJ0_checkIndex_df160_1 : decode cJ0_checkIndex_df160 1 = .ok (.iload_n 1, 1) := by decide +kernel
theorem dJ0_checkIndex_df160_2 : decode cJ0_checkIndex_df160 2 = .ok (.getstatic 1053, 3) := by decide +kernel
theorem dJ0_checkIndex_df160_5 : decode cJ0_checkIndex_df160 5 = .ok (.invokestatic 1059, 3) := by decide +kernel
theorem dJ0_checkIndex_df160_8 : decode cJ0_checkIndex_df160 8 = .ok (.pop, 1) := by decide +kernel
theorem dJ0_checkIndex_df160_9 : decode cJ0_checkIndex_df160 9 = .ok (.return_, 1) := by decide +kernel
theorem dJ1_charAt_3b067_0 : decode cJ1_charAt_3b067 0 = .ok (.iload_n 1, 1) := by decide +kernel
theorem dJ1_charAt_3b067_1 : decode cJ1_charAt_3b067 1 = .ok (.aload_n 0, 1) := by decide +kernel
theorem dJ1_charAt_3b067_2 : decode cJ1_charAt_3b067 2 = .ok (.arraylength, 1) := by decide +kernel
theorem dJ1_charAt_3b067_3 : decode cJ1_charAt_3b067 3 = .ok (.invokestatic 9, 3) := by decide +kernel
theorem dJ1_charAt_3b067_6 : decode cJ1_charAt_3b067 6 = .ok (.aload_n 0, 1) := by decide +kernel
theorem dJ1_charAt_3b067_7 : decode cJ1_charAt_3b067 7 = .ok (.iload_n 1, 1) := by decide +kernel
theorem dJ1_charAt_3b067_8 : decode cJ1_charAt_3b067 8 = .ok (.baload, 1) := by decide +kernel
theorem dJ1_charAt_3b067_9 : decode cJ1_charAt_3b067 9 = .ok (.sipush 255, 3) := by decide +kernel
theorem dJ1_charAt_3b067_12 : decode cJ1_charAt_3b067 12 = .ok (.iand, 1) := by decide +kernel
theorem dJ1_charAt_3b067_13 : decode cJ1_charAt_3b067 13 = .ok (.i2c, 1) := by decide +kernel
theorem dJ1_charAt_3b067_14 : decode cJ1_charAt_3b067 14 = .ok (.ireturn, 1) := by decide +kernel
theorem dJ2_getChar_3b067_0 : decode cJ2_getChar_3b067 0 = .ok (.getstatic 44, 3) := by decide +kernel
theorem dJ2_getChar_3b067_3 : decode cJ2_getChar_3b067 3 = .ok (.ifCond .ne 25, 3) := by decide +kernel
theorem dJ2_getChar_3b067_6 : decode cJ2_getChar_3b067 6 = .ok (.iload_n 1, 1) := by decide +kernel
theorem dJ2_getChar_3b067_7 : decode cJ2_getChar_3b067 7 = .ok (.ifCond .lt 11, 3) := by decide +kernel
theorem dJ2_getChar_3b067_10 : decode cJ2_getChar_3b067 10 = .ok (.iload_n 1, 1) := by decide +kernel
theorem dJ2_getChar_3b067_11 : decode cJ2_getChar_3b067 11 = .ok (.aload_n 0, 1) := by decide +kernel
theorem dJ2_getChar_3b067_12 : decode cJ2_getChar_3b067 12 = .ok (.invokestatic 48, 3) := by decide +kernel
theorem dJ2_getChar_3b067_15 : decode cJ2_getChar_3b067 15 = .ok (.if_icmp .lt 13, 3) := by decide +kernel
theorem dJ2_getChar_3b067_18 : decode cJ2_getChar_3b067 18 = .ok (.new 52, 3) := by decide +kernel
theorem dJ2_getChar_3b067_21 : decode cJ2_getChar_3b067 21 = .ok (.dup, 1) := by decide +kernel
theorem dJ2_getChar_3b067_22 : decode cJ2_getChar_3b067 22 = .ok (.ldc 54, 2) := by decide +kernel
theorem dJ2_getChar_3b067_24 : decode cJ2_getChar_3b067 24 = .ok (.invokespecial 56, 3) := by decide +kernel
theorem dJ2_getChar_3b067_27 : decode cJ2_getChar_3b067 27 = .ok (.athrow, 1) := by decide +kernel
theorem dJ2_getChar_3b067_28 : decode cJ2_getChar_3b067 28 = .ok (.iload_n 1, 1) := by decide +kernel
theorem dJ2_getChar_3b067_29 : decode cJ2_getChar_3b067 29 = .ok (.iconst 1, 1) := by decide +kernel
theorem dJ2_getChar_3b067_30 : decode cJ2_getChar_3b067 30 = .ok (.ishl, 1) := by decide +kernel
theorem dJ2_getChar_3b067_31 : decode cJ2_getChar_3b067 31 = .ok (.istore_n 1, 1) := by decide +kernel
theorem dJ2_getChar_3b067_32 : decode cJ2_getChar_3b067 32 = .ok (.aload_n 0, 1) := by decide +kernel
theorem dJ2_getChar_3b067_33 : decode cJ2_getChar_3b067 33 = .ok (.iload_n 1, 1) := by decide +kernel
theorem dJ2_getChar_3b067_34 : decode cJ2_getChar_3b067 34 = .ok (.iinc 1 1, 3) := by decide +kernel
theorem dJ2_getChar_3b067_37 : decode cJ2_getChar_3b067 37 = .ok (.baload, 1) := by decide +kernel
theorem dJ2_getChar_3b067_38 : decode cJ2_getChar_3b067 38 = .ok (.sipush 255, 3) := by decide +kernel
theorem dJ2_getChar_3b067_41 : decode cJ2_getChar_3b067 41 = .ok (.iand, 1) := by decide +kernel
theorem dJ2_getChar_3b067_42 : decode cJ2_getChar_3b067 42 = .ok (.getstatic 59, 3) := by decide +kernel
theorem dJ2_getChar_3b067_45 : decode cJ2_getChar_3b067 45 = .ok (.ishl, 1) := by decide +kernel
theorem dJ2_getChar_3b067_46 : decode cJ2_getChar_3b067 46 = .ok (.aload_n 0, 1) := by decide +kernel
theorem dJ2_getChar_3b067_47 : decode cJ2_getChar_3b067 47 = .ok (.iload_n 1, 1) := by decide +kernel
theorem dJ2_getChar_3b067_48 : decode cJ2_getChar_3b067 48 = .ok (.baload, 1) := by decide +kernel
theorem dJ2_getChar_3b067_49 : decode cJ2_getChar_3b067 49 = .ok (.sipush 255, 3) := by decide +kernel
theorem dJ2_getChar_3b067_52 : decode cJ2_getChar_3b067 52 = .ok (.iand, 1) := by decide +kernel
theorem dJ2_getChar_3b067_53 : decode cJ2_getChar_3b067 53 = .ok (.getstatic 63, 3) := by decide +kernel
theorem dJ2_getChar_3b067_56 : decode cJ2_getChar_3b067 56 = .ok (.ishl, 1) := by decide +kernel
theorem dJ2_getChar_3b067_57 : decode cJ2_getChar_3b067 57 = .ok (.ior, 1) := by decide +kernel
theorem dJ2_getChar_3b067_58 : decode cJ2_getChar_3b067 58 = .ok (.i2c, 1) := by decide +kernel
theorem dJ2_getChar_3b067_59 : decode cJ2_getChar_3b067 59 = .ok (.ireturn, 1) := by decide +kernel
theorem dJ2_length_9d52b_0 : decode cJ2_length_9d52b 0 = .ok (.aload_n 0, 1) := by decide +kernel
theorem dJ2_length_9d52b_1 : decode cJ2_length_9d52b 1 = .ok (.arraylength, 1) := by decide +kernel
theorem dJ2_length_9d52b_2 : decode cJ2_length_9d52b 2 = .ok (.iconst 1, 1) := by decide +kernel
theorem dJ2_length_9d52b_3 : decode cJ2_length_9d52b 3 = .ok (.ishr, 1) := by decide +kernel
theorem dJ2_length_9d52b_4 : decode cJ2_length_9d52b 4 = .ok (.ireturn, 1) := by decide +kernel
theorem dJ2_charAt_3b067_0 : decode cJ2_charAt_3b067 0 = .ok (.iload_n 1, 1) := by decide +kernel
theorem dJ2_charAt_3b067_1 : decode cJ2_charAt_3b067 1 = .ok (.aload_n 0, 1) := by decide +kernel
theorem dJ2_charAt_3b067_2 : decode cJ2_charAt_3b067 2 = .ok (.invokestatic 67, 3) := by decide +kernel
theorem dJ2_charAt_3b067_5 : decode cJ2_charAt_3b067 5 = .ok (.aload_n 0, 1) := by decide +kernel
theorem dJ2_charAt_3b067_6 : decode cJ2_charAt_3b067 6 = .ok (.iload_n 1, 1) := by decide +kernel
theorem dJ2_charAt_3b067_7 : decode cJ2_charAt_3b067 7 = .ok (.invokestatic 71, 3) := by decide +kernel
theorem dJ2_charAt_3b067_10 : decode cJ2_charAt_3b067 10 = .ok (.ireturn, 1) := by decide +kernel
theorem dJ2_checkIndex_2214a_0 : decode cJ2_checkIndex_2214a 0 = .ok (.iload_n 0, 1) := by decide +kernel
theorem dJ2_checkIndex_2214a_1 : decode cJ2_checkIndex_2214a 1 = .ok (.aload_n 1, 1) := by decide +kernel
theorem dJ2_checkIndex_2214a_2 : decode cJ2_checkIndex_2214a 2 = .ok (.invokestatic 48, 3) := by decide +kernel
theorem dJ2_checkIndex_2214a_5 : decode cJ2_checkIndex_2214a 5 = .ok (.invokestatic 414, 3) := by decide +kernel
theorem dJ2_checkIndex_2214a_8 : decode cJ2_checkIndex_2214a 8 = .ok (.return_, 1) := by decide +kernel
theorem dJ7_fill_53178_0 : decode cJ7_fill_53178 0 = .ok (.iconst 0, 1) := by decide +kernel
theorem dJ7_fill_53178_1 : decode cJ7_fill_53178 1 = .ok (.istore_n 2, 1) := by decide +kernel
theorem dJ7_fill_53178_2 : decode cJ7_fill_53178 2 = .ok (.aload_n 0, 1) := by decide +kernel
theorem dJ7_fill_53178_3 : decode cJ7_fill_53178 3 = .ok (.arraylength, 1) := by decide +kernel
theorem dJ7_fill_53178_4 : decode cJ7_fill_53178 4 = .ok (.istore_n 3, 1) := by decide +kernel
theorem dJ7_fill_53178_5 : decode cJ7_fill_53178 5 = .ok (.iload_n 2, 1) := by decide +kernel
theorem dJ7_fill_53178_6 : decode cJ7_fill_53178 6 = .ok (.iload_n 3, 1) := by decide +kernel
theorem dJ7_fill_53178_7 : decode cJ7_fill_53178 7 = .ok (.if_icmp .ge 13, 3) := by decide +kernel
theorem dJ7_fill_53178_10 : decode cJ7_fill_53178 10 = .ok (.aload_n 0, 1) := by decide +kernel
theorem dJ7_fill_53178_11 : decode cJ7_fill_53178 11 = .ok (.iload_n 2, 1) := by decide +kernel
theorem dJ7_fill_53178_12 : decode cJ7_fill_53178 12 = .ok (.iload_n 1, 1) := by decide +kernel
theorem dJ7_fill_53178_13 : decode cJ7_fill_53178 13 = .ok (.iastore, 1) := by decide +kernel
theorem dJ7_fill_53178_14 : decode cJ7_fill_53178 14 = .ok (.iinc 2 1, 3) := by decide +kernel
theorem dJ7_fill_53178_17 : decode cJ7_fill_53178 17 = .ok (.goto (-12), 3) := by decide +kernel
theorem dJ7_fill_53178_20 : decode cJ7_fill_53178 20 = .ok (.return_, 1) := by decide +kernel
theorem dJ3_checkIndex_8e157_0 : decode cJ3_checkIndex_8e157 0 = .ok (.iload_n 0, 1) := by decide +kernel
theorem dJ3_checkIndex_8e157_1 : decode cJ3_checkIndex_8e157 1 = .ok (.ifCond .lt 8, 3) := by decide +kernel
theorem dJ3_checkIndex_8e157_4 : decode cJ3_checkIndex_8e157 4 = .ok (.iload_n 0, 1) := by decide +kernel
theorem dJ3_checkIndex_8e157_5 : decode cJ3_checkIndex_8e157 5 = .ok (.iload_n 1, 1) := by decide +kernel
theorem dJ3_checkIndex_8e157_6 : decode cJ3_checkIndex_8e157 6 = .ok (.if_icmp .lt 10, 3) := by decide +kernel
theorem dJ3_checkIndex_8e157_9 : decode cJ3_checkIndex_8e157 9 = .ok (.aload_n 2, 1) := by decide +kernel
theorem dJ3_checkIndex_8e157_10 : decode cJ3_checkIndex_8e157 10 = .ok (.iload_n 0, 1) := by decide +kernel
theorem dJ3_checkIndex_8e157_11 : decode cJ3_checkIndex_8e157 11 = .ok (.iload_n 1, 1) := by decide +kernel
theorem dJ3_checkIndex_8e157_12 : decode cJ3_checkIndex_8e157 12 = .ok (.invokestatic 95, 3) := by decide +kernel
theorem dJ3_checkIndex_8e157_15 : decode cJ3_checkIndex_8e157 15 = .ok (.athrow, 1) := by decide +kernel
theorem dJ3_checkIndex_8e157_16 : decode cJ3_checkIndex_8e157 16 = .ok (.iload_n 0, 1) := by decide +kernel
theorem dJ3_checkIndex_8e157_17 : decode cJ3_checkIndex_8e157 17 = .ok (.ireturn, 1) := by decide +kernel
theorem dL_law_0 : decode cL_law 0 = .ok (.new 7, 3) := by decide +kernel
theorem dL_law_3 : decode cL_law 3 = .ok (.dup, 1) := by decide +kernel
theorem dL_law_4 : decode cL_law 4 = .ok (.invokespecial 9, 3) := by decide +kernel
theorem dL_law_7 : decode cL_law 7 = .ok (.astore_n 1, 1) := by decide +kernel
theorem dL_law_8 : decode cL_law 8 = .ok (.new 10, 3) := by decide +kernel
theorem dL_law_11 : decode cL_law 11 = .ok (.dup, 1) := by decide +kernel
theorem dL_law_12 : decode cL_law 12 = .ok (.invokespecial 12, 3) := by decide +kernel
theorem dL_law_15 : decode cL_law 15 = .ok (.astore_n 2, 1) := by decide +kernel
theorem dL_law_16 : decode cL_law 16 = .ok (.iconst 0, 1) := by decide +kernel
theorem dL_law_17 : decode cL_law 17 = .ok (.istore_n 3, 1) := by decide +kernel
theorem dL_law_18 : decode cL_law 18 = .ok (.iload_n 3, 1) := by decide +kernel
theorem dL_law_19 : decode cL_law 19 = .ok (.aload_n 0, 1) := by decide +kernel
theorem dL_law_20 : decode cL_law 20 = .ok (.arraylength, 1) := by decide +kernel
theorem dL_law_21 : decode cL_law 21 = .ok (.iconst 5, 1) := by decide +kernel
theorem dL_law_22 : decode cL_law 22 = .ok (.isub, 1) := by decide +kernel
theorem dL_law_23 : decode cL_law 23 = .ok (.if_icmp .gt 836, 3) := by decide +kernel
theorem dL_law_26 : decode cL_law 26 = .ok (.aload_n 0, 1) := by decide +kernel
theorem dL_law_27 : decode cL_law 27 = .ok (.iload_n 3, 1) := by decide +kernel
theorem dL_law_28 : decode cL_law 28 = .ok (.iaload, 1) := by decide +kernel
theorem dL_law_29 : decode cL_law 29 = .ok (.bipush 31, 2) := by decide +kernel
theorem dL_law_31 : decode cL_law 31 = .ok (.iand, 1) := by decide +kernel
theorem dL_law_32 : decode cL_law 32 = .ok (.tableswitch 821 0 24 #[116, 169, 212, 245, 278, 311, 374, 387, 400, 423, 436, 469, 512, 535, 558, 591, 604, 637, 670, 683, 706, 729, 742, 765, 798], 116) := by decide +kernel
theorem dL_law_148 : decode cL_law 148 = .ok (.aload_n 1, 1) := by decide +kernel
theorem dL_law_149 : decode cL_law 149 = .ok (.aload_n 0, 1) := by decide +kernel
theorem dL_law_150 : decode cL_law 150 = .ok (.iload_n 3, 1) := by decide +kernel
theorem dL_law_151 : decode cL_law 151 = .ok (.iconst 1, 1) := by decide +kernel
theorem dL_law_152 : decode cL_law 152 = .ok (.iadd, 1) := by decide +kernel
theorem dL_law_153 : decode cL_law 153 = .ok (.iaload, 1) := by decide +kernel
theorem dL_law_154 : decode cL_law 154 = .ok (.aload_n 0, 1) := by decide +kernel
theorem dL_law_155 : decode cL_law 155 = .ok (.iload_n 3, 1) := by decide +kernel
theorem dL_law_156 : decode cL_law 156 = .ok (.iconst 2, 1) := by decide +kernel
theorem dL_law_157 : decode cL_law 157 = .ok (.iadd, 1) := by decide +kernel
theorem dL_law_158 : decode cL_law 158 = .ok (.iaload, 1) := by decide +kernel
theorem dL_law_159 : decode cL_law 159 = .ok (.aload_n 0, 1) := by decide +kernel
theorem dL_law_160 : decode cL_law 160 = .ok (.iload_n 3, 1) := by decide +kernel
theorem dL_law_161 : decode cL_law 161 = .ok (.iconst 3, 1) := by decide +kernel
theorem dL_law_162 : decode cL_law 162 = .ok (.iadd, 1) := by decide +kernel
theorem dL_law_163 : decode cL_law 163 = .ok (.iaload, 1) := by decide +kernel
theorem dL_law_164 : decode cL_law 164 = .ok (.aload_n 0, 1) := by decide +kernel
theorem dL_law_165 : decode cL_law 165 = .ok (.iload_n 3, 1) := by decide +kernel
theorem dL_law_166 : decode cL_law 166 = .ok (.iconst 4, 1) := by decide +kernel
theorem dL_law_167 : decode cL_law 167 = .ok (.iadd, 1) := by decide +kernel
theorem dL_law_168 : decode cL_law 168 = .ok (.iaload, 1) := by decide +kernel
theorem dL_law_169 : decode cL_law 169 = .ok (.invokevirtual 13, 3) := by decide +kernel
theorem dL_law_172 : decode cL_law 172 = .ok (.aload_n 2, 1) := by decide +kernel
theorem dL_law_173 : decode cL_law 173 = .ok (.aload_n 0, 1) := by decide +kernel
theorem dL_law_174 : decode cL_law 174 = .ok (.iload_n 3, 1) := by decide +kernel
theorem dL_law_175 : decode cL_law 175 = .ok (.iconst 1, 1) := by decide +kernel
theorem dL_law_176 : decode cL_law 176 = .ok (.iadd, 1) := by decide +kernel
theorem dL_law_177 : decode cL_law 177 = .ok (.iaload, 1) := by decide +kernel
theorem dL_law_178 : decode cL_law 178 = .ok (.aload_n 0, 1) := by decide +kernel
theorem dL_law_179 : decode cL_law 179 = .ok (.iload_n 3, 1) := by decide +kernel
theorem dL_law_180 : decode cL_law 180 = .ok (.iconst 2, 1) := by decide +kernel
theorem dL_law_181 : decode cL_law 181 = .ok (.iadd, 1) := by decide +kernel
theorem dL_law_182 : decode cL_law 182 = .ok (.iaload, 1) := by decide +kernel
theorem dL_law_183 : decode cL_law 183 = .ok (.aload_n 0, 1) := by decide +kernel
theorem dL_law_184 : decode cL_law 184 = .ok (.iload_n 3, 1) := by decide +kernel
theorem dL_law_185 : decode cL_law 185 = .ok (.iconst 3, 1) := by decide +kernel
theorem dL_law_186 : decode cL_law 186 = .ok (.iadd, 1) := by decide +kernel
theorem dL_law_187 : decode cL_law 187 = .ok (.iaload, 1) := by decide +kernel
theorem dL_law_188 : decode cL_law 188 = .ok (.aload_n 0, 1) := by decide +kernel
theorem dL_law_189 : decode cL_law 189 = .ok (.iload_n 3, 1) := by decide +kernel
theorem dL_law_190 : decode cL_law 190 = .ok (.iconst 4, 1) := by decide +kernel
theorem dL_law_191 : decode cL_law 191 = .ok (.iadd, 1) := by decide +kernel
theorem dL_law_192 : decode cL_law 192 = .ok (.iaload, 1) := by decide +kernel
theorem dL_law_193 : decode cL_law 193 = .ok (.invokevirtual 17, 3) := by decide +kernel
theorem dL_law_196 : decode cL_law 196 = .ok (.if_icmp .eq 657, 3) := by decide +kernel
theorem dL_law_199 : decode cL_law 199 = .ok (.iconst 0, 1) := by decide +kernel
theorem dL_law_200 : decode cL_law 200 = .ok (.ireturn, 1) := by decide +kernel
theorem dL_law_201 : decode cL_law 201 = .ok (.aload_n 1, 1) := by decide +kernel
theorem dL_law_202 : decode cL_law 202 = .ok (.aload_n 0, 1) := by decide +kernel
theorem dL_law_203 : decode cL_law 203 = .ok (.iload_n 3, 1) := by decide +kernel
theorem dL_law_204 : decode cL_law 204 = .ok (.iconst 1, 1) := by decide +kernel
theorem dL_law_205 : decode cL_law 205 = .ok (.iadd, 1) := by decide +kernel
theorem dL_law_206 : decode cL_law 206 = .ok (.iaload, 1) := by decide +kernel
theorem dL_law_207 : decode cL_law 207 = .ok (.aload_n 0, 1) := by decide +kernel
theorem dL_law_208 : decode cL_law 208 = .ok (.iload_n 3, 1) := by decide +kernel
theorem dL_law_209 : decode cL_law 209 = .ok (.iconst 2, 1) := by decide +kernel
theorem dL_law_210 : decode cL_law 210 = .ok (.iadd, 1) := by decide +kernel
theorem dL_law_211 : decode cL_law 211 = .ok (.iaload, 1) := by decide +kernel
theorem dL_law_212 : decode cL_law 212 = .ok (.aload_n 0, 1) := by decide +kernel
theorem dL_law_213 : decode cL_law 213 = .ok (.iload_n 3, 1) := by decide +kernel
theorem dL_law_214 : decode cL_law 214 = .ok (.iconst 3, 1) := by decide +kernel
theorem dL_law_215 : decode cL_law 215 = .ok (.iadd, 1) := by decide +kernel
theorem dL_law_216 : decode cL_law 216 = .ok (.iaload, 1) := by decide +kernel
theorem dL_law_217 : decode cL_law 217 = .ok (.invokevirtual 18, 3) := by decide +kernel
theorem dL_law_220 : decode cL_law 220 = .ok (.aload_n 2, 1) := by decide +kernel
theorem dL_law_221 : decode cL_law 221 = .ok (.aload_n 0, 1) := by decide +kernel
theorem dL_law_222 : decode cL_law 222 = .ok (.iload_n 3, 1) := by decide +kernel
theorem dL_law_223 : decode cL_law 223 = .ok (.iconst 1, 1) := by decide +kernel
theorem dL_law_224 : decode cL_law 224 = .ok (.iadd, 1) := by decide +kernel
theorem dL_law_225 : decode cL_law 225 = .ok (.iaload, 1) := by decide +kernel
theorem dL_law_226 : decode cL_law 226 = .ok (.aload_n 0, 1) := by decide +kernel
theorem dL_law_227 : decode cL_law 227 = .ok (.iload_n 3, 1) := by decide +kernel
theorem dL_law_228 : decode cL_law 228 = .ok (.iconst 2, 1) := by decide +kernel
theorem dL_law_229 : decode cL_law 229 = .ok (.iadd, 1) := by decide +kernel
theorem dL_law_230 : decode cL_law 230 = .ok (.iaload, 1) := by decide +kernel
theorem dL_law_231 : decode cL_law 231 = .ok (.aload_n 0, 1) := by decide +kernel
theorem dL_law_232 : decode cL_law 232 = .ok (.iload_n 3, 1) := by decide +kernel
theorem dL_law_233 : decode cL_law 233 = .ok (.iconst 3, 1) := by decide +kernel
theorem dL_law_234 : decode cL_law 234 = .ok (.iadd, 1) := by decide +kernel
theorem dL_law_235 : decode cL_law 235 = .ok (.iaload, 1) := by decide +kernel
theorem dL_law_236 : decode cL_law 236 = .ok (.invokevirtual 22, 3) := by decide +kernel
theorem dL_law_239 : decode cL_law 239 = .ok (.if_icmp .eq 614, 3) := by decide +kernel
theorem dL_law_242 : decode cL_law 242 = .ok (.iconst 0, 1) := by decide +kernel
theorem dL_law_243 : decode cL_law 243 = .ok (.ireturn, 1) := by decide +kernel
theorem dL_law_244 : decode cL_law 244 = .ok (.aload_n 1, 1) := by decide +kernel
theorem dL_law_245 : decode cL_law 245 = .ok (.aload_n 0, 1) := by decide +kernel
theorem dL_law_246 : decode cL_law 246 = .ok (.iload_n 3, 1) := by decide +kernel
theorem dL_law_247 : decode cL_law 247 = .ok (.iconst 1, 1) := by decide +kernel
theorem dL_law_248 : decode cL_law 248 = .ok (.iadd, 1) := by decide +kernel
theorem dL_law_249 : decode cL_law 249 = .ok (.iaload, 1) := by decide +kernel
theorem dL_law_250 : decode cL_law 250 = .ok (.aload_n 0, 1) := by decide +kernel
theorem dL_law_251 : decode cL_law 251 = .ok (.iload_n 3, 1) := by decide +kernel
theorem dL_law_252 : decode cL_law 252 = .ok (.iconst 2, 1) := by decide +kernel
theorem dL_law_253 : decode cL_law 253 = .ok (.iadd, 1) := by decide +kernel
theorem dL_law_254 : decode cL_law 254 = .ok (.iaload, 1) := by decide +kernel
theorem dL_law_255 : decode cL_law 255 = .ok (.invokevirtual 23, 3) := by decide +kernel
theorem dL_law_258 : decode cL_law 258 = .ok (.aload_n 2, 1) := by decide +kernel
theorem dL_law_259 : decode cL_law 259 = .ok (.aload_n 0, 1) := by decide +kernel
theorem dL_law_260 : decode cL_law 260 = .ok (.iload_n 3, 1) := by decide +kernel
theorem dL_law_261 : decode cL_law 261 = .ok (.iconst 1, 1) := by decide +kernel
theorem dL_law_262 : decode cL_law 262 = .ok (.iadd, 1) := by decide +kernel
theorem dL_law_263 : decode cL_law 263 = .ok (.iaload, 1) := by decide +kernel
theorem dL_law_264 : decode cL_law 264 = .ok (.aload_n 0, 1) := by decide +kernel
theorem dL_law_265 : decode cL_law 265 = .ok (.iload_n 3, 1) := by decide +kernel
theorem dL_law_266 : decode cL_law 266 = .ok (.iconst 2, 1) := by decide +kernel
theorem dL_law_267 : decode cL_law 267 = .ok (.iadd, 1) := by decide +kernel
theorem dL_law_268 : decode cL_law 268 = .ok (.iaload, 1) := by decide +kernel
theorem dL_law_269 : decode cL_law 269 = .ok (.invokevirtual 27, 3) := by decide +kernel
theorem dL_law_272 : decode cL_law 272 = .ok (.if_icmp .eq 581, 3) := by decide +kernel
theorem dL_law_275 : decode cL_law 275 = .ok (.iconst 0, 1) := by decide +kernel
theorem dL_law_276 : decode cL_law 276 = .ok (.ireturn, 1) := by decide +kernel
theorem dL_law_277 : decode cL_law 277 = .ok (.aload_n 1, 1) := by decide +kernel
theorem dL_law_278 : decode cL_law 278 = .ok (.aload_n 0, 1) := by decide +kernel
theorem dL_law_279 : decode cL_law 279 = .ok (.iload_n 3, 1) := by decide +kernel
theorem dL_law_280 : decode cL_law 280 = .ok (.iconst 1, 1) := by decide +kernel
theorem dL_law_281 : decode cL_law 281 = .ok (.iadd, 1) := by decide +kernel
theorem dL_law_282 : decode cL_law 282 = .ok (.iaload, 1) := by decide +kernel
theorem dL_law_283 : decode cL_law 283 = .ok (.aload_n 0, 1) := by decide +kernel
theorem dL_law_284 : decode cL_law 284 = .ok (.iload_n 3, 1) := by decide +kernel
theorem dL_law_285 : decode cL_law 285 = .ok (.iconst 2, 1) := by decide +kernel
theorem dL_law_286 : decode cL_law 286 = .ok (.iadd, 1) := by decide +kernel
theorem dL_law_287 : decode cL_law 287 = .ok (.iaload, 1) := by decide +kernel
theorem dL_law_288 : decode cL_law 288 = .ok (.invokevirtual 28, 3) := by decide +kernel
theorem dL_law_291 : decode cL_law 291 = .ok (.aload_n 2, 1) := by decide +kernel
theorem dL_law_292 : decode cL_law 292 = .ok (.aload_n 0, 1) := by decide +kernel
theorem dL_law_293 : decode cL_law 293 = .ok (.iload_n 3, 1) := by decide +kernel
theorem dL_law_294 : decode cL_law 294 = .ok (.iconst 1, 1) := by decide +kernel
theorem dL_law_295 : decode cL_law 295 = .ok (.iadd, 1) := by decide +kernel
theorem dL_law_296 : decode cL_law 296 = .ok (.iaload, 1) := by decide +kernel
theorem dL_law_297 : decode cL_law 297 = .ok (.aload_n 0, 1) := by decide +kernel
theorem dL_law_298 : decode cL_law 298 = .ok (.iload_n 3, 1) := by decide +kernel
theorem dL_law_299 : decode cL_law 299 = .ok (.iconst 2, 1) := by decide +kernel
theorem dL_law_300 : decode cL_law 300 = .ok (.iadd, 1) := by decide +kernel
theorem dL_law_301 : decode cL_law 301 = .ok (.iaload, 1) := by decide +kernel
theorem dL_law_302 : decode cL_law 302 = .ok (.invokevirtual 31, 3) := by decide +kernel
theorem dL_law_305 : decode cL_law 305 = .ok (.if_icmp .eq 548, 3) := by decide +kernel
theorem dL_law_308 : decode cL_law 308 = .ok (.iconst 0, 1) := by decide +kernel
theorem dL_law_309 : decode cL_law 309 = .ok (.ireturn, 1) := by decide +kernel
theorem dL_law_310 : decode cL_law 310 = .ok (.aload_n 1, 1) := by decide +kernel
theorem dL_law_311 : decode cL_law 311 = .ok (.aload_n 0, 1) := by decide +kernel
theorem dL_law_312 : decode cL_law 312 = .ok (.iload_n 3, 1) := by decide +kernel
theorem dL_law_313 : decode cL_law 313 = .ok (.iconst 1, 1) := by decide +kernel
theorem dL_law_314 : decode cL_law 314 = .ok (.iadd, 1) := by decide +kernel
theorem dL_law_315 : decode cL_law 315 = .ok (.iaload, 1) := by decide +kernel
theorem dL_law_316 : decode cL_law 316 = .ok (.aload_n 0, 1) := by decide +kernel
theorem dL_law_317 : decode cL_law 317 = .ok (.iload_n 3, 1) := by decide +kernel
theorem dL_law_318 : decode cL_law 318 = .ok (.iconst 2, 1) := by decide +kernel
theorem dL_law_319 : decode cL_law 319 = .ok (.iadd, 1) := by decide +kernel
theorem dL_law_320 : decode cL_law 320 = .ok (.iaload, 1) := by decide +kernel
theorem dL_law_321 : decode cL_law 321 = .ok (.invokevirtual 32, 3) := by decide +kernel
theorem dL_law_324 : decode cL_law 324 = .ok (.aload_n 2, 1) := by decide +kernel
theorem dL_law_325 : decode cL_law 325 = .ok (.aload_n 0, 1) := by decide +kernel
theorem dL_law_326 : decode cL_law 326 = .ok (.iload_n 3, 1) := by decide +kernel
theorem dL_law_327 : decode cL_law 327 = .ok (.iconst 1, 1) := by decide +kernel
theorem dL_law_328 : decode cL_law 328 = .ok (.iadd, 1) := by decide +kernel
theorem dL_law_329 : decode cL_law 329 = .ok (.iaload, 1) := by decide +kernel
theorem dL_law_330 : decode cL_law 330 = .ok (.aload_n 0, 1) := by decide +kernel
theorem dL_law_331 : decode cL_law 331 = .ok (.iload_n 3, 1) := by decide +kernel
theorem dL_law_332 : decode cL_law 332 = .ok (.iconst 2, 1) := by decide +kernel
theorem dL_law_333 : decode cL_law 333 = .ok (.iadd, 1) := by decide +kernel
theorem dL_law_334 : decode cL_law 334 = .ok (.iaload, 1) := by decide +kernel
theorem dL_law_335 : decode cL_law 335 = .ok (.invokevirtual 35, 3) := by decide +kernel
theorem dL_law_338 : decode cL_law 338 = .ok (.if_icmp .eq 515, 3) := by decide +kernel
theorem dL_law_341 : decode cL_law 341 = .ok (.iconst 0, 1) := by decide +kernel
theorem dL_law_342 : decode cL_law 342 = .ok (.ireturn, 1) := by decide +kernel
theorem dL_law_343 : decode cL_law 343 = .ok (.aload_n 1, 1) := by decide +kernel
theorem dL_law_344 : decode cL_law 344 = .ok (.aload_n 0, 1) := by decide +kernel
theorem dL_law_345 : decode cL_law 345 = .ok (.iload_n 3, 1) := by decide +kernel
theorem dL_law_346 : decode cL_law 346 = .ok (.iconst 1, 1) := by decide +kernel
theorem dL_law_347 : decode cL_law 347 = .ok (.iadd, 1) := by decide +kernel
theorem dL_law_348 : decode cL_law 348 = .ok (.iaload, 1) := by decide +kernel
theorem dL_law_349 : decode cL_law 349 = .ok (.i2l, 1) := by decide +kernel
theorem dL_law_350 : decode cL_law 350 = .ok (.bipush 32, 2) := by decide +kernel
theorem dL_law_352 : decode cL_law 352 = .ok (.lshl, 1) := by decide +kernel
theorem dL_law_353 : decode cL_law 353 = .ok (.aload_n 0, 1) := by decide +kernel
theorem dL_law_354 : decode cL_law 354 = .ok (.iload_n 3, 1) := by decide +kernel
theorem dL_law_355 : decode cL_law 355 = .ok (.iconst 2, 1) := by decide +kernel
theorem dL_law_356 : decode cL_law 356 = .ok (.iadd, 1) := by decide +kernel
theorem dL_law_357 : decode cL_law 357 = .ok (.iaload, 1) := by decide +kernel
theorem dL_law_358 : decode cL_law 358 = .ok (.i2l, 1) := by decide +kernel
theorem dL_law_359 : decode cL_law 359 = .ok (.ldc2_w 36, 3) := by decide +kernel
theorem dL_law_362 : decode cL_law 362 = .ok (.land, 1) := by decide +kernel
theorem dL_law_363 : decode cL_law 363 = .ok (.lor, 1) := by decide +kernel
theorem dL_law_364 : decode cL_law 364 = .ok (.aload_n 0, 1) := by decide +kernel
theorem dL_law_365 : decode cL_law 365 = .ok (.iload_n 3, 1) := by decide +kernel
theorem dL_law_366 : decode cL_law 366 = .ok (.iconst 3, 1) := by decide +kernel
theorem dL_law_367 : decode cL_law 367 = .ok (.iadd, 1) := by decide +kernel
theorem dL_law_368 : decode cL_law 368 = .ok (.iaload, 1) := by decide +kernel
theorem dL_law_369 : decode cL_law 369 = .ok (.invokevirtual 38, 3) := by decide +kernel
theorem dL_law_372 : decode cL_law 372 = .ok (.aload_n 2, 1) := by decide +kernel
theorem dL_law_373 : decode cL_law 373 = .ok (.aload_n 0, 1) := by decide +kernel
theorem dL_law_374 : decode cL_law 374 = .ok (.iload_n 3, 1) := by decide +kernel
theorem dL_law_375 : decode cL_law 375 = .ok (.iconst 1, 1) := by decide +kernel
theorem dL_law_376 : decode cL_law 376 = .ok (.iadd, 1) := by decide +kernel
theorem dL_law_377 : decode cL_law 377 = .ok (.iaload, 1) := by decide +kernel
theorem dL_law_378 : decode cL_law 378 = .ok (.i2l, 1) := by decide +kernel
theorem dL_law_379 : decode cL_law 379 = .ok (.bipush 32, 2) := by decide +kernel
theorem dL_law_381 : decode cL_law 381 = .ok (.lshl, 1) := by decide +kernel
theorem dL_law_382 : decode cL_law 382 = .ok (.aload_n 0, 1) := by decide +kernel
theorem dL_law_383 : decode cL_law 383 = .ok (.iload_n 3, 1) := by decide +kernel
theorem dL_law_384 : decode cL_law 384 = .ok (.iconst 2, 1) := by decide +kernel
theorem dL_law_385 : decode cL_law 385 = .ok (.iadd, 1) := by decide +kernel
theorem dL_law_386 : decode cL_law 386 = .ok (.iaload, 1) := by decide +kernel
theorem dL_law_387 : decode cL_law 387 = .ok (.i2l, 1) := by decide +kernel
theorem dL_law_388 : decode cL_law 388 = .ok (.ldc2_w 36, 3) := by decide +kernel
theorem dL_law_391 : decode cL_law 391 = .ok (.land, 1) := by decide +kernel
theorem dL_law_392 : decode cL_law 392 = .ok (.lor, 1) := by decide +kernel
theorem dL_law_393 : decode cL_law 393 = .ok (.aload_n 0, 1) := by decide +kernel
theorem dL_law_394 : decode cL_law 394 = .ok (.iload_n 3, 1) := by decide +kernel
theorem dL_law_395 : decode cL_law 395 = .ok (.iconst 3, 1) := by decide +kernel
theorem dL_law_396 : decode cL_law 396 = .ok (.iadd, 1) := by decide +kernel
theorem dL_law_397 : decode cL_law 397 = .ok (.iaload, 1) := by decide +kernel
theorem dL_law_398 : decode cL_law 398 = .ok (.invokevirtual 42, 3) := by decide +kernel
theorem dL_law_401 : decode cL_law 401 = .ok (.if_icmp .eq 452, 3) := by decide +kernel
theorem dL_law_404 : decode cL_law 404 = .ok (.iconst 0, 1) := by decide +kernel
theorem dL_law_405 : decode cL_law 405 = .ok (.ireturn, 1) := by decide +kernel
theorem dL_law_406 : decode cL_law 406 = .ok (.aload_n 1, 1) := by decide +kernel
theorem dL_law_407 : decode cL_law 407 = .ok (.invokevirtual 43, 3) := by decide +kernel
theorem dL_law_410 : decode cL_law 410 = .ok (.aload_n 2, 1) := by decide +kernel
theorem dL_law_411 : decode cL_law 411 = .ok (.invokevirtual 47, 3) := by decide +kernel
theorem dL_law_414 : decode cL_law 414 = .ok (.if_icmp .eq 439, 3) := by decide +kernel
theorem dL_law_417 : decode cL_law 417 = .ok (.iconst 0, 1) := by decide +kernel
theorem dL_law_418 : decode cL_law 418 = .ok (.ireturn, 1) := by decide +kernel
theorem dL_law_419 : decode cL_law 419 = .ok (.aload_n 1, 1) := by decide +kernel
theorem dL_law_420 : decode cL_law 420 = .ok (.invokevirtual 48, 3) := by decide +kernel
theorem dL_law_423 : decode cL_law 423 = .ok (.aload_n 2, 1) := by decide +kernel
theorem dL_law_424 : decode cL_law 424 = .ok (.invokevirtual 51, 3) := by decide +kernel
theorem dL_law_427 : decode cL_law 427 = .ok (.if_icmp .eq 426, 3) := by decide +kernel
theorem dL_law_430 : decode cL_law 430 = .ok (.iconst 0, 1) := by decide +kernel
theorem dL_law_431 : decode cL_law 431 = .ok (.ireturn, 1) := by decide +kernel
theorem dL_law_432 : decode cL_law 432 = .ok (.aload_n 1, 1) := by decide +kernel
theorem dL_law_433 : decode cL_law 433 = .ok (.aload_n 0, 1) := by decide +kernel
theorem dL_law_434 : decode cL_law 434 = .ok (.iload_n 3, 1) := by decide +kernel
theorem dL_law_435 : decode cL_law 435 = .ok (.iconst 1, 1) := by decide +kernel
theorem dL_law_436 : decode cL_law 436 = .ok (.iadd, 1) := by decide +kernel
theorem dL_law_437 : decode cL_law 437 = .ok (.iaload, 1) := by decide +kernel
theorem dL_law_438 : decode cL_law 438 = .ok (.invokevirtual 52, 3) := by decide +kernel
theorem dL_law_441 : decode cL_law 441 = .ok (.aload_n 2, 1) := by decide +kernel
theorem dL_law_442 : decode cL_law 442 = .ok (.aload_n 0, 1) := by decide +kernel
theorem dL_law_443 : decode cL_law 443 = .ok (.iload_n 3, 1) := by decide +kernel
theorem dL_law_444 : decode cL_law 444 = .ok (.iconst 1, 1) := by decide +kernel
theorem dL_law_445 : decode cL_law 445 = .ok (.iadd, 1) := by decide +kernel
theorem dL_law_446 : decode cL_law 446 = .ok (.iaload, 1) := by decide +kernel
theorem dL_law_447 : decode cL_law 447 = .ok (.invokevirtual 56, 3) := by decide +kernel
theorem dL_law_450 : decode cL_law 450 = .ok (.if_icmp .eq 403, 3) := by decide +kernel
theorem dL_law_453 : decode cL_law 453 = .ok (.iconst 0, 1) := by decide +kernel
theorem dL_law_454 : decode cL_law 454 = .ok (.ireturn, 1) := by decide +kernel
theorem dL_law_455 : decode cL_law 455 = .ok (.aload_n 1, 1) := by decide +kernel
theorem dL_law_456 : decode cL_law 456 = .ok (.invokevirtual 57, 3) := by decide +kernel
theorem dL_law_459 : decode cL_law 459 = .ok (.aload_n 2, 1) := by decide +kernel
theorem dL_law_460 : decode cL_law 460 = .ok (.invokevirtual 60, 3) := by decide +kernel
theorem dL_law_463 : decode cL_law 463 = .ok (.if_icmp .eq 390, 3) := by decide +kernel
theorem dL_law_466 : decode cL_law 466 = .ok (.iconst 0, 1) := by decide +kernel
theorem dL_law_467 : decode cL_law 467 = .ok (.ireturn, 1) := by decide +kernel
theorem dL_law_468 : decode cL_law 468 = .ok (.aload_n 1, 1) := by decide +kernel
theorem dL_law_469 : decode cL_law 469 = .ok (.aload_n 0, 1) := by decide +kernel
theorem dL_law_470 : decode cL_law 470 = .ok (.iload_n 3, 1) := by decide +kernel
theorem dL_law_471 : decode cL_law 471 = .ok (.iconst 1, 1) := by decide +kernel
theorem dL_law_472 : decode cL_law 472 = .ok (.iadd, 1) := by decide +kernel
theorem dL_law_473 : decode cL_law 473 = .ok (.iaload, 1) := by decide +kernel
theorem dL_law_474 : decode cL_law 474 = .ok (.aload_n 0, 1) := by decide +kernel
theorem dL_law_475 : decode cL_law 475 = .ok (.iload_n 3, 1) := by decide +kernel
theorem dL_law_476 : decode cL_law 476 = .ok (.iconst 2, 1) := by decide +kernel
theorem dL_law_477 : decode cL_law 477 = .ok (.iadd, 1) := by decide +kernel
theorem dL_law_478 : decode cL_law 478 = .ok (.iaload, 1) := by decide +kernel
theorem dL_law_479 : decode cL_law 479 = .ok (.invokevirtual 61, 3) := by decide +kernel
theorem dL_law_482 : decode cL_law 482 = .ok (.aload_n 2, 1) := by decide +kernel
theorem dL_law_483 : decode cL_law 483 = .ok (.aload_n 0, 1) := by decide +kernel
theorem dL_law_484 : decode cL_law 484 = .ok (.iload_n 3, 1) := by decide +kernel
theorem dL_law_485 : decode cL_law 485 = .ok (.iconst 1, 1) := by decide +kernel
theorem dL_law_486 : decode cL_law 486 = .ok (.iadd, 1) := by decide +kernel
theorem dL_law_487 : decode cL_law 487 = .ok (.iaload, 1) := by decide +kernel
theorem dL_law_488 : decode cL_law 488 = .ok (.aload_n 0, 1) := by decide +kernel
theorem dL_law_489 : decode cL_law 489 = .ok (.iload_n 3, 1) := by decide +kernel
theorem dL_law_490 : decode cL_law 490 = .ok (.iconst 2, 1) := by decide +kernel
theorem dL_law_491 : decode cL_law 491 = .ok (.iadd, 1) := by decide +kernel
theorem dL_law_492 : decode cL_law 492 = .ok (.iaload, 1) := by decide +kernel
theorem dL_law_493 : decode cL_law 493 = .ok (.invokevirtual 64, 3) := by decide +kernel
theorem dL_law_496 : decode cL_law 496 = .ok (.if_icmp .eq 357, 3) := by decide +kernel
theorem dL_law_499 : decode cL_law 499 = .ok (.iconst 0, 1) := by decide +kernel
theorem dL_law_500 : decode cL_law 500 = .ok (.ireturn, 1) := by decide +kernel
theorem dL_law_501 : decode cL_law 501 = .ok (.aload_n 1, 1) := by decide +kernel
theorem dL_law_502 : decode cL_law 502 = .ok (.aload_n 0, 1) := by decide +kernel
theorem dL_law_503 : decode cL_law 503 = .ok (.iload_n 3, 1) := by decide +kernel
theorem dL_law_504 : decode cL_law 504 = .ok (.iconst 1, 1) := by decide +kernel
theorem dL_law_505 : decode cL_law 505 = .ok (.iadd, 1) := by decide +kernel
theorem dL_law_506 : decode cL_law 506 = .ok (.iaload, 1) := by decide +kernel
theorem dL_law_507 : decode cL_law 507 = .ok (.aload_n 0, 1) := by decide +kernel
theorem dL_law_508 : decode cL_law 508 = .ok (.iload_n 3, 1) := by decide +kernel
theorem dL_law_509 : decode cL_law 509 = .ok (.iconst 2, 1) := by decide +kernel
theorem dL_law_510 : decode cL_law 510 = .ok (.iadd, 1) := by decide +kernel
theorem dL_law_511 : decode cL_law 511 = .ok (.iaload, 1) := by decide +kernel
theorem dL_law_512 : decode cL_law 512 = .ok (.aload_n 0, 1) := by decide +kernel
theorem dL_law_513 : decode cL_law 513 = .ok (.iload_n 3, 1) := by decide +kernel
theorem dL_law_514 : decode cL_law 514 = .ok (.iconst 3, 1) := by decide +kernel
theorem dL_law_515 : decode cL_law 515 = .ok (.iadd, 1) := by decide +kernel
theorem dL_law_516 : decode cL_law 516 = .ok (.iaload, 1) := by decide +kernel
theorem dL_law_517 : decode cL_law 517 = .ok (.invokevirtual 65, 3) := by decide +kernel
theorem dL_law_520 : decode cL_law 520 = .ok (.aload_n 2, 1) := by decide +kernel
theorem dL_law_521 : decode cL_law 521 = .ok (.aload_n 0, 1) := by decide +kernel
theorem dL_law_522 : decode cL_law 522 = .ok (.iload_n 3, 1) := by decide +kernel
theorem dL_law_523 : decode cL_law 523 = .ok (.iconst 1, 1) := by decide +kernel
theorem dL_law_524 : decode cL_law 524 = .ok (.iadd, 1) := by decide +kernel
theorem dL_law_525 : decode cL_law 525 = .ok (.iaload, 1) := by decide +kernel
theorem dL_law_526 : decode cL_law 526 = .ok (.aload_n 0, 1) := by decide +kernel
theorem dL_law_527 : decode cL_law 527 = .ok (.iload_n 3, 1) := by decide +kernel
theorem dL_law_528 : decode cL_law 528 = .ok (.iconst 2, 1) := by decide +kernel
theorem dL_law_529 : decode cL_law 529 = .ok (.iadd, 1) := by decide +kernel
theorem dL_law_530 : decode cL_law 530 = .ok (.iaload, 1) := by decide +kernel
theorem dL_law_531 : decode cL_law 531 = .ok (.aload_n 0, 1) := by decide +kernel
theorem dL_law_532 : decode cL_law 532 = .ok (.iload_n 3, 1) := by decide +kernel
theorem dL_law_533 : decode cL_law 533 = .ok (.iconst 3, 1) := by decide +kernel
theorem dL_law_534 : decode cL_law 534 = .ok (.iadd, 1) := by decide +kernel
theorem dL_law_535 : decode cL_law 535 = .ok (.iaload, 1) := by decide +kernel
theorem dL_law_536 : decode cL_law 536 = .ok (.invokevirtual 68, 3) := by decide +kernel
theorem dL_law_539 : decode cL_law 539 = .ok (.if_icmp .eq 314, 3) := by decide +kernel
theorem dL_law_542 : decode cL_law 542 = .ok (.iconst 0, 1) := by decide +kernel
theorem dL_law_543 : decode cL_law 543 = .ok (.ireturn, 1) := by decide +kernel
theorem dL_law_544 : decode cL_law 544 = .ok (.aload_n 1, 1) := by decide +kernel
theorem dL_law_545 : decode cL_law 545 = .ok (.aload_n 0, 1) := by decide +kernel
theorem dL_law_546 : decode cL_law 546 = .ok (.iload_n 3, 1) := by decide +kernel
theorem dL_law_547 : decode cL_law 547 = .ok (.iconst 1, 1) := by decide +kernel
theorem dL_law_548 : decode cL_law 548 = .ok (.iadd, 1) := by decide +kernel
theorem dL_law_549 : decode cL_law 549 = .ok (.iaload, 1) := by decide +kernel
theorem dL_law_550 : decode cL_law 550 = .ok (.invokevirtual 69, 3) := by decide +kernel
theorem dL_law_553 : decode cL_law 553 = .ok (.aload_n 2, 1) := by decide +kernel
theorem dL_law_554 : decode cL_law 554 = .ok (.aload_n 0, 1) := by decide +kernel
theorem dL_law_555 : decode cL_law 555 = .ok (.iload_n 3, 1) := by decide +kernel
theorem dL_law_556 : decode cL_law 556 = .ok (.iconst 1, 1) := by decide +kernel
theorem dL_law_557 : decode cL_law 557 = .ok (.iadd, 1) := by decide +kernel
theorem dL_law_558 : decode cL_law 558 = .ok (.iaload, 1) := by decide +kernel
theorem dL_law_559 : decode cL_law 559 = .ok (.invokevirtual 72, 3) := by decide +kernel
theorem dL_law_562 : decode cL_law 562 = .ok (.if_icmp .eq 291, 3) := by decide +kernel
theorem dL_law_565 : decode cL_law 565 = .ok (.iconst 0, 1) := by decide +kernel
theorem dL_law_566 : decode cL_law 566 = .ok (.ireturn, 1) := by decide +kernel
theorem dL_law_567 : decode cL_law 567 = .ok (.aload_n 1, 1) := by decide +kernel
theorem dL_law_568 : decode cL_law 568 = .ok (.aload_n 0, 1) := by decide +kernel
theorem dL_law_569 : decode cL_law 569 = .ok (.iload_n 3, 1) := by decide +kernel
theorem dL_law_570 : decode cL_law 570 = .ok (.iconst 1, 1) := by decide +kernel
theorem dL_law_571 : decode cL_law 571 = .ok (.iadd, 1) := by decide +kernel
theorem dL_law_572 : decode cL_law 572 = .ok (.iaload, 1) := by decide +kernel
theorem dL_law_573 : decode cL_law 573 = .ok (.invokevirtual 73, 3) := by decide +kernel
theorem dL_law_576 : decode cL_law 576 = .ok (.aload_n 2, 1) := by decide +kernel
theorem dL_law_577 : decode cL_law 577 = .ok (.aload_n 0, 1) := by decide +kernel
theorem dL_law_578 : decode cL_law 578 = .ok (.iload_n 3, 1) := by decide +kernel
theorem dL_law_579 : decode cL_law 579 = .ok (.iconst 1, 1) := by decide +kernel
theorem dL_law_580 : decode cL_law 580 = .ok (.iadd, 1) := by decide +kernel
theorem dL_law_581 : decode cL_law 581 = .ok (.iaload, 1) := by decide +kernel
theorem dL_law_582 : decode cL_law 582 = .ok (.invokevirtual 76, 3) := by decide +kernel
theorem dL_law_585 : decode cL_law 585 = .ok (.if_icmp .eq 268, 3) := by decide +kernel
theorem dL_law_588 : decode cL_law 588 = .ok (.iconst 0, 1) := by decide +kernel
theorem dL_law_589 : decode cL_law 589 = .ok (.ireturn, 1) := by decide +kernel
theorem dL_law_590 : decode cL_law 590 = .ok (.aload_n 1, 1) := by decide +kernel
theorem dL_law_591 : decode cL_law 591 = .ok (.aload_n 0, 1) := by decide +kernel
theorem dL_law_592 : decode cL_law 592 = .ok (.iload_n 3, 1) := by decide +kernel
theorem dL_law_593 : decode cL_law 593 = .ok (.iconst 1, 1) := by decide +kernel
theorem dL_law_594 : decode cL_law 594 = .ok (.iadd, 1) := by decide +kernel
theorem dL_law_595 : decode cL_law 595 = .ok (.iaload, 1) := by decide +kernel
theorem dL_law_596 : decode cL_law 596 = .ok (.aload_n 0, 1) := by decide +kernel
theorem dL_law_597 : decode cL_law 597 = .ok (.iload_n 3, 1) := by decide +kernel
theorem dL_law_598 : decode cL_law 598 = .ok (.iconst 2, 1) := by decide +kernel
theorem dL_law_599 : decode cL_law 599 = .ok (.iadd, 1) := by decide +kernel
theorem dL_law_600 : decode cL_law 600 = .ok (.iaload, 1) := by decide +kernel
theorem dL_law_601 : decode cL_law 601 = .ok (.invokevirtual 77, 3) := by decide +kernel
theorem dL_law_604 : decode cL_law 604 = .ok (.aload_n 2, 1) := by decide +kernel
theorem dL_law_605 : decode cL_law 605 = .ok (.aload_n 0, 1) := by decide +kernel
theorem dL_law_606 : decode cL_law 606 = .ok (.iload_n 3, 1) := by decide +kernel
theorem dL_law_607 : decode cL_law 607 = .ok (.iconst 1, 1) := by decide +kernel
theorem dL_law_608 : decode cL_law 608 = .ok (.iadd, 1) := by decide +kernel
theorem dL_law_609 : decode cL_law 609 = .ok (.iaload, 1) := by decide +kernel
theorem dL_law_610 : decode cL_law 610 = .ok (.aload_n 0, 1) := by decide +kernel
theorem dL_law_611 : decode cL_law 611 = .ok (.iload_n 3, 1) := by decide +kernel
theorem dL_law_612 : decode cL_law 612 = .ok (.iconst 2, 1) := by decide +kernel
theorem dL_law_613 : decode cL_law 613 = .ok (.iadd, 1) := by decide +kernel
theorem dL_law_614 : decode cL_law 614 = .ok (.iaload, 1) := by decide +kernel
theorem dL_law_615 : decode cL_law 615 = .ok (.invokevirtual 80, 3) := by decide +kernel
theorem dL_law_618 : decode cL_law 618 = .ok (.if_icmp .eq 235, 3) := by decide +kernel
theorem dL_law_621 : decode cL_law 621 = .ok (.iconst 0, 1) := by decide +kernel
theorem dL_law_622 : decode cL_law 622 = .ok (.ireturn, 1) := by decide +kernel
theorem dL_law_623 : decode cL_law 623 = .ok (.aload_n 1, 1) := by decide +kernel
theorem dL_law_624 : decode cL_law 624 = .ok (.invokevirtual 81, 3) := by decide +kernel
theorem dL_law_627 : decode cL_law 627 = .ok (.aload_n 2, 1) := by decide +kernel
theorem dL_law_628 : decode cL_law 628 = .ok (.invokevirtual 84, 3) := by decide +kernel
theorem dL_law_631 : decode cL_law 631 = .ok (.if_icmp .eq 222, 3) := by decide +kernel
theorem dL_law_634 : decode cL_law 634 = .ok (.iconst 0, 1) := by decide +kernel
theorem dL_law_635 : decode cL_law 635 = .ok (.ireturn, 1) := by decide +kernel
theorem dL_law_636 : decode cL_law 636 = .ok (.aload_n 1, 1) := by decide +kernel
theorem dL_law_637 : decode cL_law 637 = .ok (.aload_n 0, 1) := by decide +kernel
theorem dL_law_638 : decode cL_law 638 = .ok (.iload_n 3, 1) := by decide +kernel
theorem dL_law_639 : decode cL_law 639 = .ok (.iconst 1, 1) := by decide +kernel
theorem dL_law_640 : decode cL_law 640 = .ok (.iadd, 1) := by decide +kernel
theorem dL_law_641 : decode cL_law 641 = .ok (.iaload, 1) := by decide +kernel
theorem dL_law_642 : decode cL_law 642 = .ok (.aload_n 0, 1) := by decide +kernel
theorem dL_law_643 : decode cL_law 643 = .ok (.iload_n 3, 1) := by decide +kernel
theorem dL_law_644 : decode cL_law 644 = .ok (.iconst 2, 1) := by decide +kernel
theorem dL_law_645 : decode cL_law 645 = .ok (.iadd, 1) := by decide +kernel
theorem dL_law_646 : decode cL_law 646 = .ok (.iaload, 1) := by decide +kernel
theorem dL_law_647 : decode cL_law 647 = .ok (.invokevirtual 85, 3) := by decide +kernel
theorem dL_law_650 : decode cL_law 650 = .ok (.aload_n 2, 1) := by decide +kernel
theorem dL_law_651 : decode cL_law 651 = .ok (.aload_n 0, 1) := by decide +kernel
theorem dL_law_652 : decode cL_law 652 = .ok (.iload_n 3, 1) := by decide +kernel
theorem dL_law_653 : decode cL_law 653 = .ok (.iconst 1, 1) := by decide +kernel
theorem dL_law_654 : decode cL_law 654 = .ok (.iadd, 1) := by decide +kernel
theorem dL_law_655 : decode cL_law 655 = .ok (.iaload, 1) := by decide +kernel
theorem dL_law_656 : decode cL_law 656 = .ok (.aload_n 0, 1) := by decide +kernel
theorem dL_law_657 : decode cL_law 657 = .ok (.iload_n 3, 1) := by decide +kernel
theorem dL_law_658 : decode cL_law 658 = .ok (.iconst 2, 1) := by decide +kernel
theorem dL_law_659 : decode cL_law 659 = .ok (.iadd, 1) := by decide +kernel
theorem dL_law_660 : decode cL_law 660 = .ok (.iaload, 1) := by decide +kernel
theorem dL_law_661 : decode cL_law 661 = .ok (.invokevirtual 88, 3) := by decide +kernel
theorem dL_law_664 : decode cL_law 664 = .ok (.if_icmp .eq 189, 3) := by decide +kernel
theorem dL_law_667 : decode cL_law 667 = .ok (.iconst 0, 1) := by decide +kernel
theorem dL_law_668 : decode cL_law 668 = .ok (.ireturn, 1) := by decide +kernel
theorem dL_law_669 : decode cL_law 669 = .ok (.aload_n 1, 1) := by decide +kernel
theorem dL_law_670 : decode cL_law 670 = .ok (.aload_n 0, 1) := by decide +kernel
theorem dL_law_671 : decode cL_law 671 = .ok (.iload_n 3, 1) := by decide +kernel
theorem dL_law_672 : decode cL_law 672 = .ok (.iconst 1, 1) := by decide +kernel
theorem dL_law_673 : decode cL_law 673 = .ok (.iadd, 1) := by decide +kernel
theorem dL_law_674 : decode cL_law 674 = .ok (.iaload, 1) := by decide +kernel
theorem dL_law_675 : decode cL_law 675 = .ok (.aload_n 0, 1) := by decide +kernel
theorem dL_law_676 : decode cL_law 676 = .ok (.iload_n 3, 1) := by decide +kernel
theorem dL_law_677 : decode cL_law 677 = .ok (.iconst 2, 1) := by decide +kernel
theorem dL_law_678 : decode cL_law 678 = .ok (.iadd, 1) := by decide +kernel
theorem dL_law_679 : decode cL_law 679 = .ok (.iaload, 1) := by decide +kernel
theorem dL_law_680 : decode cL_law 680 = .ok (.invokevirtual 89, 3) := by decide +kernel
theorem dL_law_683 : decode cL_law 683 = .ok (.aload_n 2, 1) := by decide +kernel
theorem dL_law_684 : decode cL_law 684 = .ok (.aload_n 0, 1) := by decide +kernel
theorem dL_law_685 : decode cL_law 685 = .ok (.iload_n 3, 1) := by decide +kernel
theorem dL_law_686 : decode cL_law 686 = .ok (.iconst 1, 1) := by decide +kernel
theorem dL_law_687 : decode cL_law 687 = .ok (.iadd, 1) := by decide +kernel
theorem dL_law_688 : decode cL_law 688 = .ok (.iaload, 1) := by decide +kernel
theorem dL_law_689 : decode cL_law 689 = .ok (.aload_n 0, 1) := by decide +kernel
theorem dL_law_690 : decode cL_law 690 = .ok (.iload_n 3, 1) := by decide +kernel
theorem dL_law_691 : decode cL_law 691 = .ok (.iconst 2, 1) := by decide +kernel
theorem dL_law_692 : decode cL_law 692 = .ok (.iadd, 1) := by decide +kernel
theorem dL_law_693 : decode cL_law 693 = .ok (.iaload, 1) := by decide +kernel
theorem dL_law_694 : decode cL_law 694 = .ok (.invokevirtual 92, 3) := by decide +kernel
theorem dL_law_697 : decode cL_law 697 = .ok (.if_icmp .eq 156, 3) := by decide +kernel
theorem dL_law_700 : decode cL_law 700 = .ok (.iconst 0, 1) := by decide +kernel
theorem dL_law_701 : decode cL_law 701 = .ok (.ireturn, 1) := by decide +kernel
theorem dL_law_702 : decode cL_law 702 = .ok (.aload_n 1, 1) := by decide +kernel
theorem dL_law_703 : decode cL_law 703 = .ok (.invokevirtual 93, 3) := by decide +kernel
theorem dL_law_706 : decode cL_law 706 = .ok (.aload_n 2, 1) := by decide +kernel
theorem dL_law_707 : decode cL_law 707 = .ok (.invokevirtual 96, 3) := by decide +kernel
theorem dL_law_710 : decode cL_law 710 = .ok (.if_icmp .eq 143, 3) := by decide +kernel
theorem dL_law_713 : decode cL_law 713 = .ok (.iconst 0, 1) := by decide +kernel
theorem dL_law_714 : decode cL_law 714 = .ok (.ireturn, 1) := by decide +kernel
theorem dL_law_715 : decode cL_law 715 = .ok (.aload_n 1, 1) := by decide +kernel
theorem dL_law_716 : decode cL_law 716 = .ok (.aload_n 0, 1) := by decide +kernel
theorem dL_law_717 : decode cL_law 717 = .ok (.iload_n 3, 1) := by decide +kernel
theorem dL_law_718 : decode cL_law 718 = .ok (.iconst 1, 1) := by decide +kernel
theorem dL_law_719 : decode cL_law 719 = .ok (.iadd, 1) := by decide +kernel
theorem dL_law_720 : decode cL_law 720 = .ok (.iaload, 1) := by decide +kernel
theorem dL_law_721 : decode cL_law 721 = .ok (.invokevirtual 97, 3) := by decide +kernel
theorem dL_law_724 : decode cL_law 724 = .ok (.aload_n 2, 1) := by decide +kernel
theorem dL_law_725 : decode cL_law 725 = .ok (.aload_n 0, 1) := by decide +kernel
theorem dL_law_726 : decode cL_law 726 = .ok (.iload_n 3, 1) := by decide +kernel
theorem dL_law_727 : decode cL_law 727 = .ok (.iconst 1, 1) := by decide +kernel
theorem dL_law_728 : decode cL_law 728 = .ok (.iadd, 1) := by decide +kernel
theorem dL_law_729 : decode cL_law 729 = .ok (.iaload, 1) := by decide +kernel
theorem dL_law_730 : decode cL_law 730 = .ok (.invokevirtual 100, 3) := by decide +kernel
theorem dL_law_733 : decode cL_law 733 = .ok (.if_icmp .eq 120, 3) := by decide +kernel
theorem dL_law_736 : decode cL_law 736 = .ok (.iconst 0, 1) := by decide +kernel
theorem dL_law_737 : decode cL_law 737 = .ok (.ireturn, 1) := by decide +kernel
theorem dL_law_738 : decode cL_law 738 = .ok (.aload_n 1, 1) := by decide +kernel
theorem dL_law_739 : decode cL_law 739 = .ok (.aload_n 0, 1) := by decide +kernel
theorem dL_law_740 : decode cL_law 740 = .ok (.iload_n 3, 1) := by decide +kernel
theorem dL_law_741 : decode cL_law 741 = .ok (.iconst 1, 1) := by decide +kernel
theorem dL_law_742 : decode cL_law 742 = .ok (.iadd, 1) := by decide +kernel
theorem dL_law_743 : decode cL_law 743 = .ok (.iaload, 1) := by decide +kernel
theorem dL_law_744 : decode cL_law 744 = .ok (.invokevirtual 101, 3) := by decide +kernel
theorem dL_law_747 : decode cL_law 747 = .ok (.aload_n 2, 1) := by decide +kernel
theorem dL_law_748 : decode cL_law 748 = .ok (.aload_n 0, 1) := by decide +kernel
theorem dL_law_749 : decode cL_law 749 = .ok (.iload_n 3, 1) := by decide +kernel
theorem dL_law_750 : decode cL_law 750 = .ok (.iconst 1, 1) := by decide +kernel
theorem dL_law_751 : decode cL_law 751 = .ok (.iadd, 1) := by decide +kernel
theorem dL_law_752 : decode cL_law 752 = .ok (.iaload, 1) := by decide +kernel
theorem dL_law_753 : decode cL_law 753 = .ok (.invokevirtual 104, 3) := by decide +kernel
theorem dL_law_756 : decode cL_law 756 = .ok (.if_icmp .eq 97, 3) := by decide +kernel
theorem dL_law_759 : decode cL_law 759 = .ok (.iconst 0, 1) := by decide +kernel
theorem dL_law_760 : decode cL_law 760 = .ok (.ireturn, 1) := by decide +kernel
theorem dL_law_761 : decode cL_law 761 = .ok (.aload_n 1, 1) := by decide +kernel
theorem dL_law_762 : decode cL_law 762 = .ok (.invokevirtual 105, 3) := by decide +kernel
theorem dL_law_765 : decode cL_law 765 = .ok (.aload_n 2, 1) := by decide +kernel
theorem dL_law_766 : decode cL_law 766 = .ok (.invokevirtual 108, 3) := by decide +kernel
theorem dL_law_769 : decode cL_law 769 = .ok (.if_icmp .eq 84, 3) := by decide +kernel
theorem dL_law_772 : decode cL_law 772 = .ok (.iconst 0, 1) := by decide +kernel
theorem dL_law_773 : decode cL_law 773 = .ok (.ireturn, 1) := by decide +kernel
theorem dL_law_774 : decode cL_law 774 = .ok (.aload_n 1, 1) := by decide +kernel
theorem dL_law_775 : decode cL_law 775 = .ok (.aload_n 0, 1) := by decide +kernel
theorem dL_law_776 : decode cL_law 776 = .ok (.iload_n 3, 1) := by decide +kernel
theorem dL_law_777 : decode cL_law 777 = .ok (.iconst 1, 1) := by decide +kernel
theorem dL_law_778 : decode cL_law 778 = .ok (.iadd, 1) := by decide +kernel
theorem dL_law_779 : decode cL_law 779 = .ok (.iaload, 1) := by decide +kernel
theorem dL_law_780 : decode cL_law 780 = .ok (.invokevirtual 109, 3) := by decide +kernel
theorem dL_law_783 : decode cL_law 783 = .ok (.aload_n 2, 1) := by decide +kernel
theorem dL_law_784 : decode cL_law 784 = .ok (.aload_n 0, 1) := by decide +kernel
theorem dL_law_785 : decode cL_law 785 = .ok (.iload_n 3, 1) := by decide +kernel
theorem dL_law_786 : decode cL_law 786 = .ok (.iconst 1, 1) := by decide +kernel
theorem dL_law_787 : decode cL_law 787 = .ok (.iadd, 1) := by decide +kernel
theorem dL_law_788 : decode cL_law 788 = .ok (.iaload, 1) := by decide +kernel
theorem dL_law_789 : decode cL_law 789 = .ok (.invokevirtual 112, 3) := by decide +kernel
theorem dL_law_792 : decode cL_law 792 = .ok (.if_icmp .eq 61, 3) := by decide +kernel
theorem dL_law_795 : decode cL_law 795 = .ok (.iconst 0, 1) := by decide +kernel
theorem dL_law_796 : decode cL_law 796 = .ok (.ireturn, 1) := by decide +kernel
theorem dL_law_797 : decode cL_law 797 = .ok (.aload_n 1, 1) := by decide +kernel
theorem dL_law_798 : decode cL_law 798 = .ok (.aload_n 0, 1) := by decide +kernel
theorem dL_law_799 : decode cL_law 799 = .ok (.iload_n 3, 1) := by decide +kernel
theorem dL_law_800 : decode cL_law 800 = .ok (.iconst 1, 1) := by decide +kernel
theorem dL_law_801 : decode cL_law 801 = .ok (.iadd, 1) := by decide +kernel
theorem dL_law_802 : decode cL_law 802 = .ok (.iaload, 1) := by decide +kernel
theorem dL_law_803 : decode cL_law 803 = .ok (.aload_n 0, 1) := by decide +kernel
theorem dL_law_804 : decode cL_law 804 = .ok (.iload_n 3, 1) := by decide +kernel
theorem dL_law_805 : decode cL_law 805 = .ok (.iconst 2, 1) := by decide +kernel
theorem dL_law_806 : decode cL_law 806 = .ok (.iadd, 1) := by decide +kernel
theorem dL_law_807 : decode cL_law 807 = .ok (.iaload, 1) := by decide +kernel
theorem dL_law_808 : decode cL_law 808 = .ok (.invokevirtual 113, 3) := by decide +kernel
theorem dL_law_811 : decode cL_law 811 = .ok (.aload_n 2, 1) := by decide +kernel
theorem dL_law_812 : decode cL_law 812 = .ok (.aload_n 0, 1) := by decide +kernel
theorem dL_law_813 : decode cL_law 813 = .ok (.iload_n 3, 1) := by decide +kernel
theorem dL_law_814 : decode cL_law 814 = .ok (.iconst 1, 1) := by decide +kernel
theorem dL_law_815 : decode cL_law 815 = .ok (.iadd, 1) := by decide +kernel
theorem dL_law_816 : decode cL_law 816 = .ok (.iaload, 1) := by decide +kernel
theorem dL_law_817 : decode cL_law 817 = .ok (.aload_n 0, 1) := by decide +kernel
theorem dL_law_818 : decode cL_law 818 = .ok (.iload_n 3, 1) := by decide +kernel
theorem dL_law_819 : decode cL_law 819 = .ok (.iconst 2, 1) := by decide +kernel
theorem dL_law_820 : decode cL_law 820 = .ok (.iadd, 1) := by decide +kernel
theorem dL_law_821 : decode cL_law 821 = .ok (.iaload, 1) := by decide +kernel
theorem dL_law_822 : decode cL_law 822 = .ok (.invokevirtual 116, 3) := by decide +kernel
theorem dL_law_825 : decode cL_law 825 = .ok (.if_icmp .eq 28, 3) := by decide +kernel
theorem dL_law_828 : decode cL_law 828 = .ok (.iconst 0, 1) := by decide +kernel
theorem dL_law_829 : decode cL_law 829 = .ok (.ireturn, 1) := by decide +kernel
theorem dL_law_830 : decode cL_law 830 = .ok (.aload_n 1, 1) := by decide +kernel
theorem dL_law_831 : decode cL_law 831 = .ok (.aload_n 0, 1) := by decide +kernel
theorem dL_law_832 : decode cL_law 832 = .ok (.iload_n 3, 1) := by decide +kernel
theorem dL_law_833 : decode cL_law 833 = .ok (.iconst 1, 1) := by decide +kernel
theorem dL_law_834 : decode cL_law 834 = .ok (.iadd, 1) := by decide +kernel
theorem dL_law_835 : decode cL_law 835 = .ok (.iaload, 1) := by decide +kernel
theorem dL_law_836 : decode cL_law 836 = .ok (.invokevirtual 117, 3) := by decide +kernel
theorem dL_law_839 : decode cL_law 839 = .ok (.aload_n 2, 1) := by decide +kernel
theorem dL_law_840 : decode cL_law 840 = .ok (.aload_n 0, 1) := by decide +kernel
theorem dL_law_841 : decode cL_law 841 = .ok (.iload_n 3, 1) := by decide +kernel
theorem dL_law_842 : decode cL_law 842 = .ok (.iconst 1, 1) := by decide +kernel
theorem dL_law_843 : decode cL_law 843 = .ok (.iadd, 1) := by decide +kernel
theorem dL_law_844 : decode cL_law 844 = .ok (.iaload, 1) := by decide +kernel
theorem dL_law_845 : decode cL_law 845 = .ok (.invokevirtual 120, 3) := by decide +kernel
theorem dL_law_848 : decode cL_law 848 = .ok (.if_icmp .eq 5, 3) := by decide +kernel
theorem dL_law_851 : decode cL_law 851 = .ok (.iconst 0, 1) := by decide +kernel
theorem dL_law_852 : decode cL_law 852 = .ok (.ireturn, 1) := by decide +kernel
theorem dL_law_853 : decode cL_law 853 = .ok (.iinc 3 5, 3) := by decide +kernel
theorem dL_law_856 : decode cL_law 856 = .ok (.goto (-838), 3) := by decide +kernel
theorem dL_law_859 : decode cL_law 859 = .ok (.iconst 1, 1) := by decide +kernel
theorem dL_law_860 : decode cL_law 860 = .ok (.ireturn, 1) := by decide +kernel
