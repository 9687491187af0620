theorem dJ7_copyOf_59c91_0 : decode cJ7_copyOf_59c91 0 = .ok (.iload_n 1, 1) := by decide +kernel
theorem dJ7_copyOf_59c91_1 : decode cJ7_copyOf_59c91 1 = .ok (.aload_n 0, 1) := by decide +kernel
theorem dJ7_copyOf_59c91_2 : decode cJ7_copyOf_59c91 2 = .ok (.arraylength, 1) := by decide +kernel
theorem dJ7_copyOf_59c91_3 : decode cJ7_copyOf_59c91 3 = .ok (.if_icmp .ne 11, 3) := by decide +kernel
theorem dJ7_copyOf_59c91_6 : decode cJ7_copyOf_59c91 6 = .ok (.aload_n 0, 1) := by decide +kernel
theorem dJ7_copyOf_59c91_7 : decode cJ7_copyOf_59c91 7 = .ok (.invokevirtual 316, 3) := by decide +kernel
theorem dJ7_copyOf_59c91_10 : decode cJ7_copyOf_59c91 10 = .ok (.checkcast 317, 3) := by decide +kernel
theorem dJ7_copyOf_59c91_13 : decode cJ7_copyOf_59c91 13 = .ok (.areturn, 1) := by decide +kernel
theorem dJ7_copyOf_59c91_14 : decode cJ7_copyOf_59c91 14 = .ok (.iload_n 1, 1) := by decide +kernel
theorem dJ7_copyOf_59c91_15 : decode cJ7_copyOf_59c91 15 = .ok (.newarray .int, 2) := by decide +kernel
theorem dJ7_copyOf_59c91_17 : decode cJ7_copyOf_59c91 17 = .ok (.astore_n 2, 1) := by decide +kernel
theorem dJ7_copyOf_59c91_18 : decode cJ7_copyOf_59c91 18 = .ok (.aload_n 0, 1) := by decide +kernel
theorem dJ7_copyOf_59c91_19 : decode cJ7_copyOf_59c91 19 = .ok (.iconst 0, 1) := by decide +kernel
theorem dJ7_copyOf_59c91_20 : decode cJ7_copyOf_59c91 20 = .ok (.aload_n 2, 1) := by decide +kernel
theorem dJ7_copyOf_59c91_21 : decode cJ7_copyOf_59c91 21 = .ok (.iconst 0, 1) := by decide +kernel
theorem dJ7_copyOf_59c91_22 : decode cJ7_copyOf_59c91 22 = .ok (.aload_n 0, 1) := by decide +kernel
theorem dJ7_copyOf_59c91_23 : decode cJ7_copyOf_59c91 23 = .ok (.arraylength, 1) := by decide +kernel
theorem dJ7_copyOf_59c91_24 : decode cJ7_copyOf_59c91 24 = .ok (.iload_n 1, 1) := by decide +kernel
theorem dJ7_copyOf_59c91_25 : decode cJ7_copyOf_59c91 25 = .ok (.invokestatic 304, 3) := by decide +kernel
theorem dJ7_copyOf_59c91_28 : decode cJ7_copyOf_59c91 28 = .ok (.invokestatic 150, 3) := by decide +kernel
theorem dJ7_copyOf_59c91_31 : decode cJ7_copyOf_59c91 31 = .ok (.aload_n 2, 1) := by decide +kernel
theorem dJ7_copyOf_59c91_32 : decode cJ7_copyOf_59c91 32 = .ok (.areturn, 1) := by decide +kernel
theorem dX7_readLaw_0 : decode cX7_readLaw 0 = .ok (.aload_n 0, 1) := by decide +kernel
theorem dX7_readLaw_1 : decode cX7_readLaw 1 = .ok (.getfield 12, 3) := by decide +kernel
theorem dX7_readLaw_4 : decode cX7_readLaw 4 = .ok (.getfield 150, 3) := by decide +kernel
theorem dX7_readLaw_7 : decode cX7_readLaw 7 = .ok (.ifnull 9, 3) := by decide +kernel
theorem dX7_readLaw_10 : decode cX7_readLaw 10 = .ok (.aload_n 0, 1) := by decide +kernel
theorem dX7_readLaw_11 : decode cX7_readLaw 11 = .ok (.iconst 5, 1) := by decide +kernel
theorem dX7_readLaw_12 : decode cX7_readLaw 12 = .ok (.invokevirtual 106, 3) := by decide +kernel
theorem dX7_readLaw_15 : decode cX7_readLaw 15 = .ok (.ireturn, 1) := by decide +kernel
theorem dX7_readLaw_16 : decode cX7_readLaw 16 = .ok (.aload_n 0, 1) := by decide +kernel
theorem dX7_readLaw_17 : decode cX7_readLaw 17 = .ok (.iconst 0, 1) := by decide +kernel
theorem dX7_readLaw_18 : decode cX7_readLaw 18 = .ok (.putfield 51, 3) := by decide +kernel
theorem dX7_readLaw_21 : decode cX7_readLaw 21 = .ok (.aload_n 0, 1) := by decide +kernel
theorem dX7_readLaw_22 : decode cX7_readLaw 22 = .ok (.iconst 0, 1) := by decide +kernel
theorem dX7_readLaw_23 : decode cX7_readLaw 23 = .ok (.putfield 57, 3) := by decide +kernel
theorem dX7_readLaw_26 : decode cX7_readLaw 26 = .ok (.aload_n 0, 1) := by decide +kernel
theorem dX7_readLaw_27 : decode cX7_readLaw 27 = .ok (.iconst 0, 1) := by decide +kernel
theorem dX7_readLaw_28 : decode cX7_readLaw 28 = .ok (.putfield 60, 3) := by decide +kernel
theorem dX7_readLaw_31 : decode cX7_readLaw 31 = .ok (.iconst 1, 1) := by decide +kernel
theorem dX7_readLaw_32 : decode cX7_readLaw 32 = .ok (.istore_n 1, 1) := by decide +kernel
theorem dX7_readLaw_33 : decode cX7_readLaw 33 = .ok (.iconst 0, 1) := by decide +kernel
theorem dX7_readLaw_34 : decode cX7_readLaw 34 = .ok (.istore_n 2, 1) := by decide +kernel
theorem dX7_readLaw_35 : decode cX7_readLaw 35 = .ok (.iload_n 2, 1) := by decide +kernel
theorem dX7_readLaw_36 : decode cX7_readLaw 36 = .ok (.sipush 500, 3) := by decide +kernel
theorem dX7_readLaw_39 : decode cX7_readLaw 39 = .ok (.if_icmp .gt 149, 3) := by decide +kernel
theorem dX7_readLaw_42 : decode cX7_readLaw 42 = .ok (.aload_n 0, 1) := by decide +kernel
theorem dX7_readLaw_43 : decode cX7_readLaw 43 = .ok (.invokevirtual 72, 3) := by decide +kernel
theorem dX7_readLaw_46 : decode cX7_readLaw 46 = .ok (.iload_n 1, 1) := by decide +kernel
theorem dX7_readLaw_47 : decode cX7_readLaw 47 = .ok (.ifCond .eq 38, 3) := by decide +kernel
theorem dX7_readLaw_50 : decode cX7_readLaw 50 = .ok (.aload_n 0, 1) := by decide +kernel
theorem dX7_readLaw_51 : decode cX7_readLaw 51 = .ok (.bipush 40, 2) := by decide +kernel
theorem dX7_readLaw_53 : decode cX7_readLaw 53 = .ok (.invokevirtual 110, 3) := by decide +kernel
theorem dX7_readLaw_56 : decode cX7_readLaw 56 = .ok (.istore_n 3, 1) := by decide +kernel
theorem dX7_readLaw_57 : decode cX7_readLaw 57 = .ok (.iload_n 3, 1) := by decide +kernel
theorem dX7_readLaw_58 : decode cX7_readLaw 58 = .ok (.ifCond .eq 13, 3) := by decide +kernel
theorem dX7_readLaw_61 : decode cX7_readLaw 61 = .ok (.aload_n 0, 1) := by decide +kernel
theorem dX7_readLaw_62 : decode cX7_readLaw 62 = .ok (.invokevirtual 153, 3) := by decide +kernel
theorem dX7_readLaw_65 : decode cX7_readLaw 65 = .ok (.ifCond .ne 15, 3) := by decide +kernel
theorem dX7_readLaw_68 : decode cX7_readLaw 68 = .ok (.goto 10, 3) := by decide +kernel
theorem dX7_readLaw_71 : decode cX7_readLaw 71 = .ok (.aload_n 0, 1) := by decide +kernel
theorem dX7_readLaw_72 : decode cX7_readLaw 72 = .ok (.invokevirtual 156, 3) := by decide +kernel
theorem dX7_readLaw_75 : decode cX7_readLaw 75 = .ok (.ifCond .ne 5, 3) := by decide +kernel
theorem dX7_readLaw_78 : decode cX7_readLaw 78 = .ok (.iconst 0, 1) := by decide +kernel
theorem dX7_readLaw_79 : decode cX7_readLaw 79 = .ok (.ireturn, 1) := by decide +kernel
theorem dX7_readLaw_80 : decode cX7_readLaw 80 = .ok (.iload_n 3, 1) := by decide +kernel
theorem dX7_readLaw_81 : decode cX7_readLaw 81 = .ok (.istore_n 1, 1) := by decide +kernel
theorem dX7_readLaw_82 : decode cX7_readLaw 82 = .ok (.goto 100, 3) := by decide +kernel
theorem dX7_readLaw_85 : decode cX7_readLaw 85 = .ok (.aload_n 0, 1) := by decide +kernel
theorem dX7_readLaw_86 : decode cX7_readLaw 86 = .ok (.bipush 59, 2) := by decide +kernel
theorem dX7_readLaw_88 : decode cX7_readLaw 88 = .ok (.invokevirtual 110, 3) := by decide +kernel
theorem dX7_readLaw_91 : decode cX7_readLaw 91 = .ok (.ifCond .eq 42, 3) := by decide +kernel
theorem dX7_readLaw_94 : decode cX7_readLaw 94 = .ok (.aload_n 0, 1) := by decide +kernel
theorem dX7_readLaw_95 : decode cX7_readLaw 95 = .ok (.getfield 60, 3) := by decide +kernel
theorem dX7_readLaw_98 : decode cX7_readLaw 98 = .ok (.ifCond .ne 35, 3) := by decide +kernel
theorem dX7_readLaw_101 : decode cX7_readLaw 101 = .ok (.aload_n 0, 1) := by decide +kernel
theorem dX7_readLaw_102 : decode cX7_readLaw 102 = .ok (.iconst 1, 1) := by decide +kernel
theorem dX7_readLaw_103 : decode cX7_readLaw 103 = .ok (.invokevirtual 159, 3) := by decide +kernel
theorem dX7_readLaw_106 : decode cX7_readLaw 106 = .ok (.aload_n 0, 1) := by decide +kernel
theorem dX7_readLaw_107 : decode cX7_readLaw 107 = .ok (.getfield 12, 3) := by decide +kernel
theorem dX7_readLaw_110 : decode cX7_readLaw 110 = .ok (.new 163, 3) := by decide +kernel
theorem dX7_readLaw_113 : decode cX7_readLaw 113 = .ok (.dup, 1) := by decide +kernel
theorem dX7_readLaw_114 : decode cX7_readLaw 114 = .ok (.aload_n 0, 1) := by decide +kernel
theorem dX7_readLaw_115 : decode cX7_readLaw 115 = .ok (.getfield 47, 3) := by decide +kernel
theorem dX7_readLaw_118 : decode cX7_readLaw 118 = .ok (.aload_n 0, 1) := by decide +kernel
theorem dX7_readLaw_119 : decode cX7_readLaw 119 = .ok (.getfield 51, 3) := by decide +kernel
theorem dX7_readLaw_122 : decode cX7_readLaw 122 = .ok (.invokestatic 165, 3) := by decide +kernel
theorem dX7_readLaw_125 : decode cX7_readLaw 125 = .ok (.invokespecial 171, 3) := by decide +kernel
theorem dX7_readLaw_128 : decode cX7_readLaw 128 = .ok (.putfield 150, 3) := by decide +kernel
theorem dX7_readLaw_131 : decode cX7_readLaw 131 = .ok (.iconst 1, 1) := by decide +kernel
theorem dX7_readLaw_132 : decode cX7_readLaw 132 = .ok (.ireturn, 1) := by decide +kernel
theorem dX7_readLaw_133 : decode cX7_readLaw 133 = .ok (.aload_n 0, 1) := by decide +kernel
theorem dX7_readLaw_134 : decode cX7_readLaw 134 = .ok (.bipush 41, 2) := by decide +kernel
theorem dX7_readLaw_136 : decode cX7_readLaw 136 = .ok (.invokevirtual 110, 3) := by decide +kernel
theorem dX7_readLaw_139 : decode cX7_readLaw 139 = .ok (.ifCond .eq 17, 3) := by decide +kernel
theorem dX7_readLaw_142 : decode cX7_readLaw 142 = .ok (.aload_n 0, 1) := by decide +kernel
theorem dX7_readLaw_143 : decode cX7_readLaw 143 = .ok (.getfield 60, 3) := by decide +kernel
theorem dX7_readLaw_146 : decode cX7_readLaw 146 = .ok (.ifCond .le 10, 3) := by decide +kernel
theorem dX7_readLaw_149 : decode cX7_readLaw 149 = .ok (.aload_n 0, 1) := by decide +kernel
theorem dX7_readLaw_150 : decode cX7_readLaw 150 = .ok (.invokevirtual 174, 3) := by decide +kernel
theorem dX7_readLaw_153 : decode cX7_readLaw 153 = .ok (.goto 29, 3) := by decide +kernel
theorem dX7_readLaw_156 : decode cX7_readLaw 156 = .ok (.aload_n 0, 1) := by decide +kernel
theorem dX7_readLaw_157 : decode cX7_readLaw 157 = .ok (.invokevirtual 177, 3) := by decide +kernel
theorem dX7_readLaw_160 : decode cX7_readLaw 160 = .ok (.ifCond .eq 16, 3) := by decide +kernel
theorem dX7_readLaw_163 : decode cX7_readLaw 163 = .ok (.aload_n 0, 1) := by decide +kernel
theorem dX7_readLaw_164 : decode cX7_readLaw 164 = .ok (.aload_n 0, 1) := by decide +kernel
theorem dX7_readLaw_165 : decode cX7_readLaw 165 = .ok (.invokevirtual 177, 3) := by decide +kernel
theorem dX7_readLaw_168 : decode cX7_readLaw 168 = .ok (.invokevirtual 180, 3) := by decide +kernel
theorem dX7_readLaw_171 : decode cX7_readLaw 171 = .ok (.iconst 1, 1) := by decide +kernel
theorem dX7_readLaw_172 : decode cX7_readLaw 172 = .ok (.istore_n 1, 1) := by decide +kernel
theorem dX7_readLaw_173 : decode cX7_readLaw 173 = .ok (.goto 9, 3) := by decide +kernel
theorem dX7_readLaw_176 : decode cX7_readLaw 176 = .ok (.aload_n 0, 1) := by decide +kernel
theorem dX7_readLaw_177 : decode cX7_readLaw 177 = .ok (.iconst 1, 1) := by decide +kernel
theorem dX7_readLaw_178 : decode cX7_readLaw 178 = .ok (.invokevirtual 106, 3) := by decide +kernel
theorem dX7_readLaw_181 : decode cX7_readLaw 181 = .ok (.ireturn, 1) := by decide +kernel
theorem dX7_readLaw_182 : decode cX7_readLaw 182 = .ok (.iinc 2 1, 3) := by decide +kernel
theorem dX7_readLaw_185 : decode cX7_readLaw 185 = .ok (.goto (-150), 3) := by decide +kernel
theorem dX7_readLaw_188 : decode cX7_readLaw 188 = .ok (.aload_n 0, 1) := by decide +kernel
theorem dX7_readLaw_189 : decode cX7_readLaw 189 = .ok (.iconst 1, 1) := by decide +kernel
theorem dX7_readLaw_190 : decode cX7_readLaw 190 = .ok (.invokevirtual 106, 3) := by decide +kernel
theorem dX7_readLaw_193 : decode cX7_readLaw 193 = .ok (.ireturn, 1) := by decide +kernel
theorem dX7_readLine_0 : decode cX7_readLine 0 = .ok (.aload_n 0, 1) := by decide +kernel
theorem dX7_readLine_1 : decode cX7_readLine 1 = .ok (.ldc 79, 2) := by decide +kernel
theorem dX7_readLine_3 : decode cX7_readLine 3 = .ok (.invokevirtual 81, 3) := by decide +kernel
theorem dX7_readLine_6 : decode cX7_readLine 6 = .ok (.ifCond .eq 23, 3) := by decide +kernel
theorem dX7_readLine_9 : decode cX7_readLine 9 = .ok (.aload_n 0, 1) := by decide +kernel
theorem dX7_readLine_10 : decode cX7_readLine 10 = .ok (.invokevirtual 85, 3) := by decide +kernel
theorem dX7_readLine_13 : decode cX7_readLine 13 = .ok (.ifCond .eq 14, 3) := by decide +kernel
theorem dX7_readLine_16 : decode cX7_readLine 16 = .ok (.aload_n 0, 1) := by decide +kernel
theorem dX7_readLine_17 : decode cX7_readLine 17 = .ok (.invokevirtual 88, 3) := by decide +kernel
theorem dX7_readLine_20 : decode cX7_readLine 20 = .ok (.ifCond .eq 7, 3) := by decide +kernel
theorem dX7_readLine_23 : decode cX7_readLine 23 = .ok (.iconst 1, 1) := by decide +kernel
theorem dX7_readLine_24 : decode cX7_readLine 24 = .ok (.goto 4, 3) := by decide +kernel
theorem dX7_readLine_27 : decode cX7_readLine 27 = .ok (.iconst 0, 1) := by decide +kernel
theorem dX7_readLine_28 : decode cX7_readLine 28 = .ok (.ireturn, 1) := by decide +kernel
theorem dX7_readLine_29 : decode cX7_readLine 29 = .ok (.aload_n 0, 1) := by decide +kernel
theorem dX7_readLine_30 : decode cX7_readLine 30 = .ok (.ldc 91, 2) := by decide +kernel
theorem dX7_readLine_32 : decode cX7_readLine 32 = .ok (.invokevirtual 81, 3) := by decide +kernel
theorem dX7_readLine_35 : decode cX7_readLine 35 = .ok (.ifCond .eq 23, 3) := by decide +kernel
theorem dX7_readLine_38 : decode cX7_readLine 38 = .ok (.aload_n 0, 1) := by decide +kernel
theorem dX7_readLine_39 : decode cX7_readLine 39 = .ok (.invokevirtual 93, 3) := by decide +kernel
theorem dX7_readLine_42 : decode cX7_readLine 42 = .ok (.ifCond .eq 14, 3) := by decide +kernel
theorem dX7_readLine_45 : decode cX7_readLine 45 = .ok (.aload_n 0, 1) := by decide +kernel
theorem dX7_readLine_46 : decode cX7_readLine 46 = .ok (.invokevirtual 88, 3) := by decide +kernel
theorem dX7_readLine_49 : decode cX7_readLine 49 = .ok (.ifCond .eq 7, 3) := by decide +kernel
theorem dX7_readLine_52 : decode cX7_readLine 52 = .ok (.iconst 1, 1) := by decide +kernel
theorem dX7_readLine_53 : decode cX7_readLine 53 = .ok (.goto 4, 3) := by decide +kernel
theorem dX7_readLine_56 : decode cX7_readLine 56 = .ok (.iconst 0, 1) := by decide +kernel
theorem dX7_readLine_57 : decode cX7_readLine 57 = .ok (.ireturn, 1) := by decide +kernel
theorem dX7_readLine_58 : decode cX7_readLine 58 = .ok (.aload_n 0, 1) := by decide +kernel
theorem dX7_readLine_59 : decode cX7_readLine 59 = .ok (.ldc 96, 2) := by decide +kernel
theorem dX7_readLine_61 : decode cX7_readLine 61 = .ok (.invokevirtual 81, 3) := by decide +kernel
theorem dX7_readLine_64 : decode cX7_readLine 64 = .ok (.ifCond .eq 8, 3) := by decide +kernel
theorem dX7_readLine_67 : decode cX7_readLine 67 = .ok (.aload_n 0, 1) := by decide +kernel
theorem dX7_readLine_68 : decode cX7_readLine 68 = .ok (.invokevirtual 98, 3) := by decide +kernel
theorem dX7_readLine_71 : decode cX7_readLine 71 = .ok (.ireturn, 1) := by decide +kernel
theorem dX7_readLine_72 : decode cX7_readLine 72 = .ok (.aload_n 0, 1) := by decide +kernel
theorem dX7_readLine_73 : decode cX7_readLine 73 = .ok (.ldc 101, 2) := by decide +kernel
theorem dX7_readLine_75 : decode cX7_readLine 75 = .ok (.invokevirtual 81, 3) := by decide +kernel
theorem dX7_readLine_78 : decode cX7_readLine 78 = .ok (.ifCond .eq 10, 3) := by decide +kernel
theorem dX7_readLine_81 : decode cX7_readLine 81 = .ok (.aload_n 0, 1) := by decide +kernel
theorem dX7_readLine_82 : decode cX7_readLine 82 = .ok (.invokevirtual 103, 3) := by decide +kernel
theorem dX7_readLine_85 : decode cX7_readLine 85 = .ok (.goto 8, 3) := by decide +kernel
theorem dX7_readLine_88 : decode cX7_readLine 88 = .ok (.aload_n 0, 1) := by decide +kernel
theorem dX7_readLine_89 : decode cX7_readLine 89 = .ok (.iconst 1, 1) := by decide +kernel
theorem dX7_readLine_90 : decode cX7_readLine 90 = .ok (.invokevirtual 106, 3) := by decide +kernel
theorem dX7_readLine_93 : decode cX7_readLine 93 = .ok (.ireturn, 1) := by decide +kernel
theorem dX7_readText_0 : decode cX7_readText 0 = .ok (.aload_n 0, 1) := by decide +kernel
theorem dX7_readText_1 : decode cX7_readText 1 = .ok (.getfield 12, 3) := by decide +kernel
theorem dX7_readText_4 : decode cX7_readText 4 = .ok (.invokevirtual 63, 3) := by decide +kernel
theorem dX7_readText_7 : decode cX7_readText 7 = .ok (.aload_n 0, 1) := by decide +kernel
theorem dX7_readText_8 : decode cX7_readText 8 = .ok (.iload_n 1, 1) := by decide +kernel
theorem dX7_readText_9 : decode cX7_readText 9 = .ok (.aload_n 0, 1) := by decide +kernel
theorem dX7_readText_10 : decode cX7_readText 10 = .ok (.getfield 26, 3) := by decide +kernel
theorem dX7_readText_13 : decode cX7_readText 13 = .ok (.invokestatic 66, 3) := by decide +kernel
theorem dX7_readText_16 : decode cX7_readText 16 = .ok (.putfield 32, 3) := by decide +kernel
theorem dX7_readText_19 : decode cX7_readText 19 = .ok (.aload_n 0, 1) := by decide +kernel
theorem dX7_readText_20 : decode cX7_readText 20 = .ok (.iconst 0, 1) := by decide +kernel
theorem dX7_readText_21 : decode cX7_readText 21 = .ok (.putfield 26, 3) := by decide +kernel
theorem dX7_readText_24 : decode cX7_readText 24 = .ok (.aload_n 0, 1) := by decide +kernel
theorem dX7_readText_25 : decode cX7_readText 25 = .ok (.iconst 0, 1) := by decide +kernel
theorem dX7_readText_26 : decode cX7_readText 26 = .ok (.putfield 35, 3) := by decide +kernel
theorem dX7_readText_29 : decode cX7_readText 29 = .ok (.aload_n 0, 1) := by decide +kernel
theorem dX7_readText_30 : decode cX7_readText 30 = .ok (.iconst 0, 1) := by decide +kernel
theorem dX7_readText_31 : decode cX7_readText 31 = .ok (.putfield 29, 3) := by decide +kernel
theorem dX7_readText_34 : decode cX7_readText 34 = .ok (.iconst 0, 1) := by decide +kernel
theorem dX7_readText_35 : decode cX7_readText 35 = .ok (.istore_n 2, 1) := by decide +kernel
theorem dX7_readText_36 : decode cX7_readText 36 = .ok (.iload_n 2, 1) := by decide +kernel
theorem dX7_readText_37 : decode cX7_readText 37 = .ok (.sipush 500, 3) := by decide +kernel
theorem dX7_readText_40 : decode cX7_readText 40 = .ok (.if_icmp .gt 30, 3) := by decide +kernel
theorem dX7_readText_43 : decode cX7_readText 43 = .ok (.aload_n 0, 1) := by decide +kernel
theorem dX7_readText_44 : decode cX7_readText 44 = .ok (.invokevirtual 72, 3) := by decide +kernel
theorem dX7_readText_47 : decode cX7_readText 47 = .ok (.aload_n 0, 1) := by decide +kernel
theorem dX7_readText_48 : decode cX7_readText 48 = .ok (.getfield 38, 3) := by decide +kernel
theorem dX7_readText_51 : decode cX7_readText 51 = .ok (.ifCond .eq 19, 3) := by decide +kernel
theorem dX7_readText_54 : decode cX7_readText 54 = .ok (.aload_n 0, 1) := by decide +kernel
theorem dX7_readText_55 : decode cX7_readText 55 = .ok (.invokevirtual 75, 3) := by decide +kernel
theorem dX7_readText_58 : decode cX7_readText 58 = .ok (.ifCond .ne 6, 3) := by decide +kernel
theorem dX7_readText_61 : decode cX7_readText 61 = .ok (.goto 9, 3) := by decide +kernel
theorem dX7_readText_64 : decode cX7_readText 64 = .ok (.iinc 2 1, 3) := by decide +kernel
theorem dX7_readText_67 : decode cX7_readText 67 = .ok (.goto (-31), 3) := by decide +kernel
theorem dX7_readText_70 : decode cX7_readText 70 = .ok (.aload_n 0, 1) := by decide +kernel
theorem dX7_readText_71 : decode cX7_readText 71 = .ok (.getfield 29, 3) := by decide +kernel
theorem dX7_readText_74 : decode cX7_readText 74 = .ok (.ireturn, 1) := by decide +kernel
/-! methods that make cells: Arrays.copyOf, the reader's law, line and text; election -/
section UCS
variable {C : CT} {X : XT} {S : PS} {own : String} {cc : ByteArray} {nL d : Nat} {ret : Option FieldType} {pc : Nat} {lv : List (Nat × Value)} {rest : List Value}
variable {y : MethodName} {cc' : ByteArray} {maxL' d' np idx mc ms : Nat} {ret' : Option FieldType} {As : List Value} {v : (Nat → Nat) → Option Value} {S' : PS} {Y' : XS}
theorem u_callSA (hC : CK C own cc nL ret d) (hM : Ma (cL C) (cG C) y cc' maxL' ret' d' mc ms X.1 X.2.1 As S v S' Y') (hB : XB C X mc ms) (hL : Ls own idx y cc' maxL' ret' np) (hd' : d' + 1 ≤ d) (hm : 19 + maxL' ≤ 128) (hn : As.length = np) {st : List Value} (hst : st = As.reverse ++ rest) (hW : (rest.map fun v => v.category).sum ≤ 8) (hdg : decode cc pc = .ok (.invokestatic idx, 3))
    (k : ∀ ρ' : Nat → Nat, (∀ a k, Ty X.2.1 a k → ρ' a = X.1 a ∧ Ty Y' a k) → UW C (ρ', Y', X.2.2.1 + mc, X.2.2.2 + ms) S' (pc + 3) lv ((v ρ').toList ++ rest)) : UW C X S pc lv st := by
  obtain ⟨p, l, e, R, s, m, args, below, meth, c, Q, G, A⟩ := C
  obtain ⟨ρ, Y, cells, slots⟩ := X
  intro H locs ls hX hP hS hl hT
  obtain ⟨⟨h1, h2, h3, h4⟩, h5⟩ := hL
  have hts : ∀ w ∈ Tb, w.before args s = true := hC.2.2.2.2.1
  have hR1 : d ≤ R.frames := hC.2.2.2.2.2.2.2.2.2.2.1
  have hR2 : 128 * d ≤ R.locals := hC.2.2.2.2.2.2.2.2.2.2.2.1
  refine u_afterA (X := (ρ, Y, cells, slots)) (S' := S') (Y' := Y') (v := v) (rest := rest) hC hX hB hS hl ?_ k
  exact va_runS (As := As) (rest := rest) ⟨hC.1, hC.2.1, hC.2.2.1, hC.2.2.2.1, hts⟩ (hM H.size) ⟨callB_of np hts (Tb_goodC h3) rfl rfl rfl (hts _ h2) (hts _ h1) h4 ⟨by show d' + 1 ≤ R.frames; omega, by show 8 + (maxL' + 11) + 128 * d' ≤ R.locals; omega⟩, hts _ h5⟩ ⟨fb_Wd, fun U hU hW' => ⟨rfl, by rw [hU], Wd_at (X := (ρ, Y, cells, slots)) hC hX hP hS hT U hU hW'⟩⟩ rfl hn (hl.1.trans hC.2.2.1) hst (lv_room hW) hdg ⟨hB.1, hB.2⟩
end UCS
/-- a method that makes cells and answers an array -/
def RtB (C : CT) (ρ : Nat → Nat) (Y : XS) (cc : ByteArray) (mc ms b : Nat) (S' : PS) (Y' : XS) : Prop := ∀ ρ' : Nat → Nat, AG ρ Y ρ' Y' → ∀ k z, k ≤ mc → z ≤ ms → ∀ pc lv, decode cc pc = .ok (.areturn, 1) → UW C (ρ', Y', k, z) S' pc lv [.ref (ρ' b)]
theorem Ma_arr {l : Launch} {G : GT} {y : MethodName} {cc : ByteArray} {maxL : Nat} {d mc ms : Nat} {ρ : Nat → Nat} {Y : XS} {As : List Value} {S : PS} {b : Nat} {S' : PS} {Y' : XS} (hl0 : l.stackTraces = false) (hy : plainName y.cls = true) (hlen : (lg_sl As).length ≤ maxL)
    (body : ∀ (C : CT), cL C = l → cG C = G → CK C y.cls cc maxL (some (.array .int)) d → XB C (ρ, Y, 0, 0) mc ms → RtB C ρ Y cc mc ms b S' Y' → UW C (ρ, Y, 0, 0) S 0 (lv_args 0 As) []) : Ma l G y cc maxL (some (.array .int)) d mc ms ρ Y As S (fun ρ' => some (.ref (ρ' b))) S' Y' := by
  intro sz
  refine Met.ofW (cc := cc) (maxL := maxL) (ret := some (.array .int)) hy rfl ?_
  intro p e s m args below meth c s₁ B hml hv
  obtain ⟨rfl, hsz, hW⟩ := hv
  have hx := B.exec
  have hb := B.bytes
  have hr := B.returns
  have hts := atoms_spec (ws := .code y cc maxL (some (.array .int)) :: Tb) B.pre
  have hown : s.vm.findClass y.cls = some m.cls := findClass_of_methodNamed B.named
  have hlocks := B.notSynchronized
  subst hsz
  have hl := lv_entry As (n := maxL) hlen
  rw [lg_entry_eq]
  generalize (lg_sl As ++ List.replicate (maxL - (lg_sl As).length) Slot.unset).toArray = ls at hl ⊢
  generalize hQc : (fun (_ : Array Value) (st : State) (oc : Outcome) (t : State) => ∃ ρ' : Nat → Nat, (∀ a k, Ty Y a k → ρ' a = ρ a ∧ Ty Y' a k) ∧ (∀ a, a < nX Y' → ¬ a < nX Y → s.heap.size ≤ ρ' a) ∧ oc = .returned (some (.ref (ρ' b))) ∧ Wd G ρ' Y' S' t ∧ va_F (aA ρ (nX Y) s.heap.size) st t) = Qc
  have hC : CK (p, l, e, rmd d mc ms, s, m, As.toArray, below, meth, c, MQ below Qc As.toArray s mc ms (aA ρ (nX Y) s.heap.size), G, aA ρ (nX Y) s.heap.size) y.cls cc maxL (some (.array .int)) d := by
    refine ⟨hx, hb, hml, hown, fun w h => hts w (List.mem_cons_of_mem _ h), hW.2.1, fun q h => Or.inr h, ?_, hlocks, hr, Nat.le_refl _, Nat.le_refl _, hl0⟩
    rintro q (⟨a, ha, rfl⟩ | h)
    · exact hW.2.2.2.2.1 a ha
    · exact Nat.le_trans hW.2.2.2.2.2 h
  have hX : XO (p, l, e, rmd d mc ms, s, m, As.toArray, below, meth, c, MQ below Qc As.toArray s mc ms (aA ρ (nX Y) s.heap.size), G, aA ρ (nX Y) s.heap.size) (ρ, Y, 0, 0) := ⟨hW.2.2.2.1, fun a ha => Or.inl ⟨a, ha, rfl⟩, hW.2.2.2.2.1, Nat.zero_le _, Nat.zero_le _⟩
  refine body _ rfl rfl hC ⟨by show 0 + mc ≤ mc; omega, by show 0 + ms ≤ ms; omega⟩ ?_ s.heap [] ls hX hW.1 va_S.rf (by rw [hml]; exact hl) hW.2.2.1
  intro ρ' hag k z hk hz pc lv hdec H locs ls hX hP hS hl hT
  refine W.widen hk hz ?_
  have hq : ∀ t : State, t.heap = H → s.WarmedH t.vm → Qc As.toArray s (.returned (some (.ref (ρ' b)))) t := fun t ht hWt => by
    rw [← hQc]
    refine ⟨ρ', hag, fun a ha hna => ?_, rfl, Wd_at (X := (ρ', Y', k, z)) hC hX hP hS hT t ht hWt, hS.F ht⟩
    rcases hX.2.1 a ha with ⟨b, hb2, e1⟩ | h
    · have hb3 := hag b (kd Y b) ⟨hb2, rfl⟩
      have : a = b := hX.1 a b ha hb3.2.1 (by rw [e1, hb3.1])
      omega
    · exact h
  exact W.aret hx hb hr (Or.inr ⟨_, rfl⟩) (Or.inr ⟨_, rfl⟩) hq hS.2.2 hdec
def fJ7_copyOf (Y : XS) (n : Nat) (S : PS) (a0 : Nat) (x1 : Int32) : Option (Nat × XS × PS) :=
  kln Y a0 (fun x2 => if x1 = x2 then none else if (500 : Int32) < x1 then none else kna Y S 12 x1 (fun Y1 S1 b => kln Y1 a0 (fun x23 => kcp Y1 S1 a0 0 b 0 (imin x23 x1) (fun S2 => some (b, Y1, S2)))))
theorem clamp500 {x : Int32} (h : ¬ (500 : Int32) < x) : x.toNatClampNeg ≤ 500 := by
  have h1 : x ≤ 500 := Int32.not_lt.mp h
  have h2 : x.toInt ≤ 500 := by simpa using Int32.le_iff_toInt_le.mp h1
  show x.toInt.toNat ≤ 500
  omega
theorem wJ7_copyOf {C : CT} {ρ : Nat → Nat} {Y : XS} (hC : CK C RJ7 cJ7_copyOf_59c91 3 (some (.array .int)) 1) (n : Nat) (S : PS) (a0 : Nat) (x1 : Int32) (hTa0 : Ty Y a0 12) {o : Nat × XS × PS} (hf : fJ7_copyOf Y n S a0 x1 = some o) (hB : XB C (ρ, Y, 0, 0) 1 500) (hR : RtB C ρ Y cJ7_copyOf_59c91 1 500 o.1 o.2.2 o.2.1) : UW C (ρ, Y, 0, 0) S 0 [(0, .ref (ρ a0)), (1, .int x1)] [] := by
  unfold fJ7_copyOf at hf
  refine u_iload_n hC dJ7_copyOf_59c91_0 1 rfl rfl ?_
  refine u_aload_n hC dJ7_copyOf_59c91_1 0 rfl rfl ?_
  refine u_ln hC hTa0 dJ7_copyOf_59c91_2 hf (fun x2 hf => ?_)
  refine u_icmp_ne (tgt := 14) hC dJ7_copyOf_59c91_3 (by decide) hf (fun h3 hf => ?_) (fun h3 hf => nomatch hf)
  by_cases h5 : (500 : Int32) < x1
  · rw [if_pos h5] at hf; cases hf
  rw [if_neg h5] at hf
  have hN := clamp500 h5
  refine u_iload_n hC dJ7_copyOf_59c91_14 1 rfl rfl ?_
  refine u_newi (N := x1.toNatClampNeg) hC rfl (by omega) (hB.at (by omega) (by omega)) dJ7_copyOf_59c91_15 hf (fun ρ1 Y1 S1 b hag hup hTb hf => ?_)
  replace hag : ∀ a k, Ty Y a k → ρ1 a = ρ a := hag
  replace hup : ∀ a k, Ty Y a k → Ty Y1 a k := hup
  have hAG := AG.new (AG.refl ρ Y) hag hup
  rw [← hag a0 _ hTa0]
  have hTa0 := hup _ _ hTa0
  show UW C (ρ1, Y1, 0 + 1, 0 + x1.toNatClampNeg) S1 _ _ _
  refine u_astore_n (lv' := [(2, .ref (ρ1 b)), (0, .ref (ρ1 a0)), (1, .int x1)]) hC dJ7_copyOf_59c91_17 rfl (by decide) rfl ?_
  refine u_aload_n hC dJ7_copyOf_59c91_18 1 rfl rfl ?_
  refine u_iconst (v := (0 : Int32)) hC dJ7_copyOf_59c91_19 (by decide) ?_
  refine u_aload_n hC dJ7_copyOf_59c91_20 0 rfl rfl ?_
  refine u_iconst (v := (0 : Int32)) hC dJ7_copyOf_59c91_21 (by decide) ?_
  refine u_aload_n hC dJ7_copyOf_59c91_22 1 rfl rfl ?_
  refine u_ln (X := (ρ1, Y1, 0 + 1, 0 + x1.toNatClampNeg)) (a := a0) hC hTa0 dJ7_copyOf_59c91_23 hf (fun x23 hf => ?_)
  refine u_iload_n hC dJ7_copyOf_59c91_24 2 rfl rfl ?_
  refine u_mmin hC (tb_4 27 rfl rfl) (by decide) (Nat.le_of_ble_eq_true rfl) dJ7_copyOf_59c91_25 ?_
  refine u_cp (X := (ρ1, Y1, 0 + 1, 0 + x1.toNatClampNeg)) (a := a0) (b := b) hC (tb_4 28 rfl rfl) (by decide) hTa0 hTb (Nat.le_of_ble_eq_true rfl) dJ7_copyOf_59c91_28 hf (fun S2 hf => ?_)
  refine u_aload_n hC dJ7_copyOf_59c91_31 0 rfl rfl ?_
  cases hf
  exact hR _ hAG _ _ (by omega) (by omega) _ _ dJ7_copyOf_59c91_32
theorem ctJ7_copyOf (l : Launch) (hl : l.stackTraces = false) (G : GT) (ρ : Nat → Nat) (Y : XS) (n : Nat) (S : PS) (a0 : Nat) (x1 : Int32) (hTa0 : Ty Y a0 12) {o : Nat × XS × PS} (hf : fJ7_copyOf Y n S a0 x1 = some o) : Ma l G yJ7_copyOf_59c91 cJ7_copyOf_59c91 3 (some (.array .int)) 1 1 500 ρ Y [.ref (ρ a0), .int x1] S (fun ρ' => some (.ref (ρ' o.1))) o.2.2 o.2.1 :=
  Ma_arr hl (by decide) (Nat.le_of_ble_eq_true rfl) (fun C _ _ hC hB hR => wJ7_copyOf hC n S a0 x1 hTa0 hf hB hR)
/-- told.law = new Law(Arrays.copyOf(code, codeSize)); return true -/
def fLawBlk (Y : XS) (n : Nat) (S : PS) (a0 : Nat) : Option (Int32 × XS × PS) :=
  kgr S a0 0 (fun b1 => knw Y S 4 0 (fun Y1 S1 n1 => kgr S1 a0 10 (fun b2 => kgi S1 a0 11 (fun x => kc (fJ7_copyOf Y1 n S1 b2 x) (fun q => kty q.2.1 q.1 12 (kc (fX4_init q.2.1 n q.2.2 n1 q.1) (fun r => if nX r.1 = nX Y + 2 then kpr r.2 b1 3 (some n1) (fun S2 => some ((1 : Int32), r.1, S2)) else none)))))))
theorem wLawBlk {C : CT} {ρ : Nat → Nat} {Y : XS} (hC : CK C RX7 cX7_readLaw 4 (some .boolean) 7) (n : Nat) (S : PS) (a0 : Nat) (hTa0 : Ty Y a0 7) {o : Int32 × XS × PS} (hf : fLawBlk Y n S a0 = some o) (hB : XB C (ρ, Y, 0, 0) (nX o.2.1 - nX Y) (251 * (nX o.2.1 - nX Y))) (hR : RtA C ρ Y cX7_readLaw (some .boolean) (nX o.2.1 - nX Y) (251 * (nX o.2.1 - nX Y)) (fun _ => some (.int o.1)) o.2.2 o.2.1) : UW C (ρ, Y, 0, 0) S 106 [(0, .ref (ρ a0))] [] := by
  have ho : nX o.2.1 = nX Y + 2 := by
    unfold fLawBlk at hf
    simp only [kgr, knw, kgi] at hf
    split at hf <;> try (cases hf; done)
    split at hf <;> try (cases hf; done)
    obtain ⟨q, hq, hf⟩ := kc_some hf
    obtain ⟨ht, hf⟩ := kty_some hf
    obtain ⟨r, hr, hf⟩ := kc_some hf
    by_cases h : nX r.1 = nX Y + 2
    · rw [if_pos h] at hf
      cases hf
      exact h
    · rw [if_neg h] at hf; cases hf
  rw [ho, Nat.add_sub_cancel_left] at hB hR
  unfold fLawBlk at hf
  refine u_aload_n hC dX7_readLaw_106 0 rfl rfl ?_
  refine u_gr (X := (ρ, Y, 0, 0)) (a := a0) hC lf_X7_12 rfl hTa0 dX7_readLaw_107 hf (fun b1 hTb1 hf => ?_)
  refine u_new (ci := 4) hC (by decide) ⟨(tb_4 15 rfl rfl), (tb_4 16 rfl rfl), (tb_1 22 rfl rfl)⟩ (hB.at (Nat.le_of_ble_eq_true rfl) (Nat.le_of_ble_eq_true rfl)) dX7_readLaw_110 hf (fun ρ1 Y1 S1 n1 hag hup hTn1 hf => ?_)
  replace hag : ∀ a k, Ty Y a k → ρ1 a = ρ a := hag
  replace hup : ∀ a k, Ty Y a k → Ty Y1 a k := hup
  replace hTb1 : Ty Y b1 1 := hTb1
  have hAG := AG.new (AG.refl ρ Y) hag hup
  show UW C (ρ1, Y1, 1, 1) S1 _ [(0, .ref (ρ a0))] [.ref (ρ1 n1), .ref (ρ b1)]
  rw [← hag a0 _ hTa0, ← hag b1 _ hTb1]
  have hTa0 := hup _ _ hTa0
  have hTb1 := hup _ _ hTb1
  refine u_dup hC dX7_readLaw_113 rfl ?_
  refine u_aload_n hC dX7_readLaw_114 0 rfl rfl ?_
  refine u_gr (X := (ρ1, Y1, 1, 1)) (a := a0) hC lf_X7_47 rfl hTa0 dX7_readLaw_115 hf (fun b2 hTb2 hf => ?_)
  replace hTb2 : Ty Y1 b2 12 := hTb2
  show UW C (ρ1, Y1, 1, 1) S1 _ _ [.ref (ρ1 b2), .ref (ρ1 n1), .ref (ρ1 n1), .ref (ρ1 b1)]
  refine u_aload_n hC dX7_readLaw_118 0 rfl rfl ?_
  refine u_gi (X := (ρ1, Y1, 1, 1)) (a := a0) hC lf_X7_51 rfl hTa0 dX7_readLaw_119 hf (fun x hf => ?_)
  obtain ⟨q, hq, hf⟩ := kc_some hf
  refine u_callSA (X := (ρ1, Y1, 1, 1)) (rest := [.ref (ρ1 n1), .ref (ρ1 n1), .ref (ρ1 b1)]) hC (ctJ7_copyOf (cL C) hC.tr (cG C) ρ1 Y1 n S1 b2 x hTb2 hq) (hB.at (Nat.le_of_ble_eq_true rfl) (Nat.le_of_ble_eq_true rfl)) lk_X7_165 (by decide) (by decide) rfl rfl (Nat.le_of_ble_eq_true rfl) dX7_readLaw_122 (fun ρ2 hag => ?_)
  replace hag : ∀ a k, Ty Y1 a k → ρ2 a = ρ1 a ∧ Ty q.2.1 a k := hag
  have hAG := AG.trans hAG hag
  show UW C (ρ2, q.2.1, 1 + 1, 1 + 500) q.2.2 _ _ [.ref (ρ2 q.1), .ref (ρ1 n1), .ref (ρ1 n1), .ref (ρ1 b1)]
  show UW C (ρ2, q.2.1, 2, 501) q.2.2 _ _ [.ref (ρ2 q.1), .ref (ρ1 n1), .ref (ρ1 n1), .ref (ρ1 b1)]
  rw [← (hag n1 _ hTn1).1, ← (hag b1 _ hTb1).1]
  have hTn1 := (hag _ _ hTn1).2
  have hTb1 := (hag _ _ hTb1).2
  obtain ⟨ht, hf⟩ := kty_some hf
  obtain ⟨r, hr, hf⟩ := kc_some hf
  refine u_callI (X := (ρ2, q.2.1, 2, 501)) (rest := [.ref (ρ2 n1), .ref (ρ2 b1)]) hC (ctX4_init (cL C) hC.tr (cG C) ρ2 q.2.1 n q.2.2 n1 q.1 hTn1 ht hr) (hB.at (Nat.le_of_ble_eq_true rfl) (Nat.le_of_ble_eq_true rfl)) lk_X7_171 (tb_4 30 rfl rfl) rfl rfl (by decide) (by decide) rfl rfl (Nat.le_of_ble_eq_true rfl) dX7_readLaw_125 (fun ρ3 hag => ?_)
  replace hag : ∀ a k, Ty q.2.1 a k → ρ3 a = ρ2 a ∧ Ty r.1 a k := hag
  have hAG := AG.trans hAG hag
  show UW C (ρ3, r.1, 2, 501) r.2 _ _ [.ref (ρ2 n1), .ref (ρ2 b1)]
  rw [← (hag n1 _ hTn1).1, ← (hag b1 _ hTb1).1]
  have hTn1 := (hag _ _ hTn1).2
  have hTb1 := (hag _ _ hTb1).2
  by_cases h : nX r.1 = nX Y + 2
  · rw [if_pos h] at hf
    refine u_pr (X := (ρ3, r.1, 2, 501)) (a := b1) (r := some n1) hC lf_X7_150 rfl rfl rfl hTb1 dX7_readLaw_128 (fun b h => Option.some.inj h ▸ hTn1) hf (fun S2 hf => ?_)
    refine u_iconst (v := (1 : Int32)) hC dX7_readLaw_131 (by decide) ?_
    cases hf
    exact hR _ hAG 2 501 (Nat.le_refl _) (Nat.le_of_ble_eq_true rfl) _ _ dX7_readLaw_132 (Or.inr rfl)
  · rw [if_neg h] at hf; cases hf

def jX7_readLaw_182_35 (Y : XS) (n : Nat) (S : PS) (v0 : Nat) (v1 : Int32) (v2 : Int32) : Option ((Int32 × Int32 × PS) ⊕ (PS ⊕ (PS ⊕ (Int32 × XS × PS)))) :=
  some (.inl (v1, v2 + (1 : Int32), S))
def jX7_readLaw_156_35 (Y : XS) (n : Nat) (S : PS) (v0 : Nat) (v2 : Int32) : Option ((Int32 × Int32 × PS) ⊕ (PS ⊕ (PS ⊕ (Int32 × XS × PS)))) :=
  kc (fX7_operator Y n S v0) (fun q157 => (if q157 = 0 then kc (fX7_wrong Y n S v0 (1 : Int32)) (fun q178 => kzr q178.1 (some (.inr (.inr (.inr (q178.1, Y, q178.2)))))) else kc (fX7_operator Y n S v0) (fun q165 => kc (fX7_readOperator Y n S v0 q165) (fun q168 => jX7_readLaw_182_35 Y n q168 v0 (1 : Int32) v2))))
def jX7_readLaw_133_35 (Y : XS) (n : Nat) (S : PS) (v0 : Nat) (v1 : Int32) (v2 : Int32) : Option ((Int32 × Int32 × PS) ⊕ (PS ⊕ (PS ⊕ (Int32 × XS × PS)))) :=
  kc (fX7_isSign Y n S v0 (41 : Int32)) (fun q136 => (if q136 = 0 then jX7_readLaw_156_35 Y n S v0 v2 else kgi S v0 14 (fun x143 => (if x143 ≤ 0 then jX7_readLaw_156_35 Y n S v0 v2 else kc (fX7_readClose Y n S v0) (fun q150 => jX7_readLaw_182_35 Y n q150 v0 v1 v2)))))
def jX7_readLaw_80_35 (Y : XS) (n : Nat) (S : PS) (v0 : Nat) (v2 : Int32) (v3 : Int32) : Option ((Int32 × Int32 × PS) ⊕ (PS ⊕ (PS ⊕ (Int32 × XS × PS)))) :=
  jX7_readLaw_182_35 Y n S v0 v3 v2
def bX7_readLaw_35 (Y : XS) (n : Nat) (v0 : Nat) (s35 : (Int32 × Int32 × PS)) : Option ((Int32 × Int32 × PS) ⊕ (PS ⊕ (PS ⊕ (Int32 × XS × PS)))) :=
  (if (500 : Int32) < s35.2.1 then some (.inr (.inr (.inl s35.2.2))) else kc (fX7_next Y n s35.2.2 v0) (fun q43 => (if s35.1 = 0 then kc (fX7_isSign Y n q43 v0 (59 : Int32)) (fun q88 => (if q88 = 0 then jX7_readLaw_133_35 Y n q43 v0 s35.1 s35.2.1 else kgi q43 v0 14 (fun x95 => (if x95 = 0 then kc (fX7_putWaiting Y n q43 v0 (1 : Int32)) (fun q103 => kc (fLawBlk Y n q103 v0) (fun qq => some (.inr (.inr (.inr qq))))) else jX7_readLaw_133_35 Y n q43 v0 s35.1 s35.2.1)))) else kc (fX7_isSign Y n q43 v0 (40 : Int32)) (fun q53 => (if q53 = 0 then kc (fX7_readPart Y n q43 v0) (fun q72 => (if q72.1 = 0 then some (.inr (.inl q72.2)) else jX7_readLaw_80_35 Y n q72.2 v0 s35.2.1 q53)) else kc (fX7_readOpen Y n q43 v0) (fun q62 => (if q62.1 = 0 then some (.inr (.inl q62.2)) else jX7_readLaw_80_35 Y n q62.2 v0 s35.2.1 q53)))))))
def jX7_readLaw_78 (Y : XS) (n : Nat) (S : PS)  : Option (Int32 × XS × PS) :=
  kzr (0 : Int32) (some ((0 : Int32), Y, S))
def fX7_readLaw (Y : XS) (n : Nat) (S : PS) (a0 : Nat) : Option (Int32 × XS × PS) :=
  kgr S a0 0 (fun b1 => kgq S b1 3 (fun r4 => kq r4 (kpi S a0 11 (0 : Int32) (fun S18 => kpi S18 a0 13 (0 : Int32) (fun S23 => kpi S23 a0 14 (0 : Int32) (fun S28 => kc (iter (bX7_readLaw_35 Y n a0) n ((1 : Int32), (0 : Int32), S28)) (fun r35 => ks r35 (fun p35_0 => jX7_readLaw_78 Y n p35_0 ) (fun z35_0 => ks z35_0 (fun p35_1 => kc (fX7_wrong Y n p35_1 a0 (1 : Int32)) (fun q190 => kzr q190.1 (some (q190.1, Y, q190.2)))) (fun p35_2 => some p35_2))))))) (fun c7 => kc (fX7_wrong Y n S a0 (5 : Int32)) (fun q12 => kzr q12.1 (some (q12.1, Y, q12.2))))))
theorem wjX7_readLaw_182_35 {C : CT} {ρ : Nat → Nat} {Y : XS} (hC : CK C RX7 cX7_readLaw 4 (some .boolean) 7) (n : Nat) (S : PS) (v0 : Nat) (v1 : Int32) (v2 : Int32)  (hTv0 : Ty Y v0 7) {o : (Int32 × Int32 × PS) ⊕ (PS ⊕ (PS ⊕ (Int32 × XS × PS)))} (hf : jX7_readLaw_182_35 Y n S v0 v1 v2 = some o) (hN : ∀ s', o = .inl s' → UW C (ρ, Y, 0, 0) s'.2.2 35 [(0, .ref (ρ v0)), (1, .int s'.1), (2, .int s'.2.1)] []) (hO0 : ∀ p', o = .inr (.inl p') → UW C (ρ, Y, 0, 0) p' 78 [] []) (hO1 : ∀ p', o = .inr (.inr (.inl p')) → UW C (ρ, Y, 0, 0) p' 188 [(0, .ref (ρ v0))] []) (hB : ∀ q', o = .inr (.inr (.inr q')) → XB C (ρ, Y, 0, 0) (nX q'.2.1 - nX Y) (251 * (nX q'.2.1 - nX Y))) (hR : ∀ q', o = .inr (.inr (.inr q')) → RtA C ρ Y cX7_readLaw (some .boolean) (nX q'.2.1 - nX Y) (251 * (nX q'.2.1 - nX Y)) (fun _ => some (.int q'.1)) q'.2.2 q'.2.1) : UW C (ρ, Y, 0, 0) S 182 [(0, .ref (ρ v0)), (1, .int v1), (2, .int v2)] [] := by
  unfold jX7_readLaw_182_35 at hf
  refine u_iinc (v := v2 + (1 : Int32)) (lv' := [(2, .int (v2 + (1 : Int32))), (0, .ref (ρ v0)), (1, .int v1)]) hC dX7_readLaw_182 2 rfl rfl (by decide) rfl ?_
  refine u_goto (tgt := 35) hC dX7_readLaw_185 (by decide) ?_
  refine u_sub (lv' := [(0, .ref (ρ v0)), (1, .int v1), (2, .int (v2 + (1 : Int32)))]) [1, 2, 0] rfl ?_
  exact hN _ (Option.some.inj hf).symm
theorem wjX7_readLaw_156_35 {C : CT} {ρ : Nat → Nat} {Y : XS} (hC : CK C RX7 cX7_readLaw 4 (some .boolean) 7) (n : Nat) (S : PS) (v0 : Nat) (v2 : Int32)  (hTv0 : Ty Y v0 7) {o : (Int32 × Int32 × PS) ⊕ (PS ⊕ (PS ⊕ (Int32 × XS × PS)))} (hf : jX7_readLaw_156_35 Y n S v0 v2 = some o) (hN : ∀ s', o = .inl s' → UW C (ρ, Y, 0, 0) s'.2.2 35 [(0, .ref (ρ v0)), (1, .int s'.1), (2, .int s'.2.1)] []) (hO0 : ∀ p', o = .inr (.inl p') → UW C (ρ, Y, 0, 0) p' 78 [] []) (hO1 : ∀ p', o = .inr (.inr (.inl p')) → UW C (ρ, Y, 0, 0) p' 188 [(0, .ref (ρ v0))] []) (hB : ∀ q', o = .inr (.inr (.inr q')) → XB C (ρ, Y, 0, 0) (nX q'.2.1 - nX Y) (251 * (nX q'.2.1 - nX Y))) (hR : ∀ q', o = .inr (.inr (.inr q')) → RtA C ρ Y cX7_readLaw (some .boolean) (nX q'.2.1 - nX Y) (251 * (nX q'.2.1 - nX Y)) (fun _ => some (.int q'.1)) q'.2.2 q'.2.1) : UW C (ρ, Y, 0, 0) S 156 [(0, .ref (ρ v0)), (2, .int v2)] [] := by
  unfold jX7_readLaw_156_35 at hf
  refine u_aload_n hC dX7_readLaw_156 0 rfl rfl ?_
  obtain ⟨q157, hq157, hf⟩ := kc_some hf
  refine u_callV hC (ctX7_operator (cL C) hC.tr (cG C) ρ Y n S v0 hTv0 hq157) lk_X7_177 rfl hTv0 (by decide) rfl (by decide) (by decide) rfl rfl (Nat.le_of_ble_eq_true rfl) dX7_readLaw_157 ?_
  refine u_if_eq (tgt := 176) hC dX7_readLaw_160 (by decide) hf (fun h160 hf => ?_) (fun h160 hf => ?_)
  · refine u_aload_n hC dX7_readLaw_176 0 rfl rfl ?_
    refine u_iconst (v := (1 : Int32)) hC dX7_readLaw_177 (by decide) ?_
    obtain ⟨q178, hq178, hf⟩ := kc_some hf
    refine u_callV hC (ctX7_wrong (cL C) hC.tr (cG C) ρ Y n S v0 (1 : Int32) hTv0 hq178) lk_X7_106 rfl hTv0 (by decide) rfl (by decide) (by decide) rfl rfl (Nat.le_of_ble_eq_true rfl) dX7_readLaw_178 ?_
    obtain ⟨hz, hf⟩ := kzr_some hf
    exact hR _ (Option.some.inj hf).symm _ (AG.refl ρ Y) 0 0 (Nat.zero_le _) (Nat.zero_le _) _ _ dX7_readLaw_181 hz
  · refine u_aload_n hC dX7_readLaw_163 0 rfl rfl ?_
    refine u_aload_n hC dX7_readLaw_164 0 rfl rfl ?_
    obtain ⟨q165, hq165, hf⟩ := kc_some hf
    refine u_callV hC (ctX7_operator (cL C) hC.tr (cG C) ρ Y n S v0 hTv0 hq165) lk_X7_177 rfl hTv0 (by decide) rfl (by decide) (by decide) rfl rfl (Nat.le_of_ble_eq_true rfl) dX7_readLaw_165 ?_
    obtain ⟨q168, hq168, hf⟩ := kc_some hf
    refine u_callV hC (ctX7_readOperator (cL C) hC.tr (cG C) ρ Y n S v0 q165 hTv0 hq168) lk_X7_180 rfl hTv0 (by decide) rfl (by decide) (by decide) rfl rfl (Nat.le_of_ble_eq_true rfl) dX7_readLaw_168 ?_
    refine u_iconst (v := (1 : Int32)) hC dX7_readLaw_171 (by decide) ?_
    refine u_istore_n (lv' := [(1, .int (1 : Int32)), (0, .ref (ρ v0)), (2, .int v2)]) hC dX7_readLaw_172 rfl (by decide) rfl ?_
    refine u_goto (tgt := 182) hC dX7_readLaw_173 (by decide) ?_
    refine u_sub (lv' := [(0, .ref (ρ v0)), (1, .int (1 : Int32)), (2, .int v2)]) [1, 0, 2] rfl ?_
    exact wjX7_readLaw_182_35 hC n q168 v0 (1 : Int32) v2  hTv0 hf hN hO0 hO1 hB hR
theorem wjX7_readLaw_133_35 {C : CT} {ρ : Nat → Nat} {Y : XS} (hC : CK C RX7 cX7_readLaw 4 (some .boolean) 7) (n : Nat) (S : PS) (v0 : Nat) (v1 : Int32) (v2 : Int32)  (hTv0 : Ty Y v0 7) {o : (Int32 × Int32 × PS) ⊕ (PS ⊕ (PS ⊕ (Int32 × XS × PS)))} (hf : jX7_readLaw_133_35 Y n S v0 v1 v2 = some o) (hN : ∀ s', o = .inl s' → UW C (ρ, Y, 0, 0) s'.2.2 35 [(0, .ref (ρ v0)), (1, .int s'.1), (2, .int s'.2.1)] []) (hO0 : ∀ p', o = .inr (.inl p') → UW C (ρ, Y, 0, 0) p' 78 [] []) (hO1 : ∀ p', o = .inr (.inr (.inl p')) → UW C (ρ, Y, 0, 0) p' 188 [(0, .ref (ρ v0))] []) (hB : ∀ q', o = .inr (.inr (.inr q')) → XB C (ρ, Y, 0, 0) (nX q'.2.1 - nX Y) (251 * (nX q'.2.1 - nX Y))) (hR : ∀ q', o = .inr (.inr (.inr q')) → RtA C ρ Y cX7_readLaw (some .boolean) (nX q'.2.1 - nX Y) (251 * (nX q'.2.1 - nX Y)) (fun _ => some (.int q'.1)) q'.2.2 q'.2.1) : UW C (ρ, Y, 0, 0) S 133 [(0, .ref (ρ v0)), (1, .int v1), (2, .int v2)] [] := by
  unfold jX7_readLaw_133_35 at hf
  refine u_aload_n hC dX7_readLaw_133 0 rfl rfl ?_
  refine u_bipush (v := (41 : Int32)) hC dX7_readLaw_134 (by decide) ?_
  obtain ⟨q136, hq136, hf⟩ := kc_some hf
  refine u_callV hC (ctX7_isSign (cL C) hC.tr (cG C) ρ Y n S v0 (41 : Int32) hTv0 hq136) lk_X7_110 rfl hTv0 (by decide) rfl (by decide) (by decide) rfl rfl (Nat.le_of_ble_eq_true rfl) dX7_readLaw_136 ?_
  refine u_if_eq (tgt := 156) hC dX7_readLaw_139 (by decide) hf (fun h139 hf => ?_) (fun h139 hf => ?_)
  · refine u_sub (lv' := [(0, .ref (ρ v0)), (2, .int v2)]) [0, 2] rfl ?_
    exact wjX7_readLaw_156_35 hC n S v0 v2  hTv0 hf hN hO0 hO1 hB hR
  · refine u_aload_n hC dX7_readLaw_142 0 rfl rfl ?_
    refine u_gi hC lf_X7_60 rfl hTv0 dX7_readLaw_143 hf (fun x143 hf => ?_)
    refine u_if_le (tgt := 156) hC dX7_readLaw_146 (by decide) hf (fun h146 hf => ?_) (fun h146 hf => ?_)
    · refine u_sub (lv' := [(0, .ref (ρ v0)), (2, .int v2)]) [0, 2] rfl ?_
      exact wjX7_readLaw_156_35 hC n S v0 v2  hTv0 hf hN hO0 hO1 hB hR
    · refine u_aload_n hC dX7_readLaw_149 0 rfl rfl ?_
      obtain ⟨q150, hq150, hf⟩ := kc_some hf
      refine u_callV hC (ctX7_readClose (cL C) hC.tr (cG C) ρ Y n S v0 hTv0 hq150) lk_X7_174 rfl hTv0 (by decide) rfl (by decide) (by decide) rfl rfl (Nat.le_of_ble_eq_true rfl) dX7_readLaw_150 ?_
      refine u_goto (tgt := 182) hC dX7_readLaw_153 (by decide) ?_
      exact wjX7_readLaw_182_35 hC n q150 v0 v1 v2  hTv0 hf hN hO0 hO1 hB hR
theorem wjX7_readLaw_80_35 {C : CT} {ρ : Nat → Nat} {Y : XS} (hC : CK C RX7 cX7_readLaw 4 (some .boolean) 7) (n : Nat) (S : PS) (v0 : Nat) (v2 : Int32) (v3 : Int32)  (hTv0 : Ty Y v0 7) {o : (Int32 × Int32 × PS) ⊕ (PS ⊕ (PS ⊕ (Int32 × XS × PS)))} (hf : jX7_readLaw_80_35 Y n S v0 v2 v3 = some o) (hN : ∀ s', o = .inl s' → UW C (ρ, Y, 0, 0) s'.2.2 35 [(0, .ref (ρ v0)), (1, .int s'.1), (2, .int s'.2.1)] []) (hO0 : ∀ p', o = .inr (.inl p') → UW C (ρ, Y, 0, 0) p' 78 [] []) (hO1 : ∀ p', o = .inr (.inr (.inl p')) → UW C (ρ, Y, 0, 0) p' 188 [(0, .ref (ρ v0))] []) (hB : ∀ q', o = .inr (.inr (.inr q')) → XB C (ρ, Y, 0, 0) (nX q'.2.1 - nX Y) (251 * (nX q'.2.1 - nX Y))) (hR : ∀ q', o = .inr (.inr (.inr q')) → RtA C ρ Y cX7_readLaw (some .boolean) (nX q'.2.1 - nX Y) (251 * (nX q'.2.1 - nX Y)) (fun _ => some (.int q'.1)) q'.2.2 q'.2.1) : UW C (ρ, Y, 0, 0) S 80 [(0, .ref (ρ v0)), (2, .int v2), (3, .int v3)] [] := by
  unfold jX7_readLaw_80_35 at hf
  refine u_iload_n hC dX7_readLaw_80 2 rfl rfl ?_
  refine u_istore_n (lv' := [(1, .int v3), (0, .ref (ρ v0)), (2, .int v2), (3, .int v3)]) hC dX7_readLaw_81 rfl (by decide) rfl ?_
  refine u_goto (tgt := 182) hC dX7_readLaw_82 (by decide) ?_
  refine u_sub (lv' := [(0, .ref (ρ v0)), (1, .int v3), (2, .int v2)]) [1, 0, 2] rfl ?_
  exact wjX7_readLaw_182_35 hC n S v0 v3 v2  hTv0 hf hN hO0 hO1 hB hR
theorem wbX7_readLaw_35 {C : CT} {ρ : Nat → Nat} {Y : XS} (hC : CK C RX7 cX7_readLaw 4 (some .boolean) 7) (n : Nat) (v0 : Nat) (hTv0 : Ty Y v0 7) (s35 : (Int32 × Int32 × PS)) {o : (Int32 × Int32 × PS) ⊕ (PS ⊕ (PS ⊕ (Int32 × XS × PS)))} (hf : bX7_readLaw_35 Y n v0 s35 = some o) (hN : ∀ s', o = .inl s' → UW C (ρ, Y, 0, 0) s'.2.2 35 [(0, .ref (ρ v0)), (1, .int s'.1), (2, .int s'.2.1)] []) (hO0 : ∀ p', o = .inr (.inl p') → UW C (ρ, Y, 0, 0) p' 78 [] []) (hO1 : ∀ p', o = .inr (.inr (.inl p')) → UW C (ρ, Y, 0, 0) p' 188 [(0, .ref (ρ v0))] []) (hB : ∀ q', o = .inr (.inr (.inr q')) → XB C (ρ, Y, 0, 0) (nX q'.2.1 - nX Y) (251 * (nX q'.2.1 - nX Y))) (hR : ∀ q', o = .inr (.inr (.inr q')) → RtA C ρ Y cX7_readLaw (some .boolean) (nX q'.2.1 - nX Y) (251 * (nX q'.2.1 - nX Y)) (fun _ => some (.int q'.1)) q'.2.2 q'.2.1) : UW C (ρ, Y, 0, 0) s35.2.2 35 [(0, .ref (ρ v0)), (1, .int s35.1), (2, .int s35.2.1)] [] := by
  unfold bX7_readLaw_35 at hf
  refine u_iload_n hC dX7_readLaw_35 2 rfl rfl ?_
  refine u_sipush (v := (500 : Int32)) hC dX7_readLaw_36 (by decide) ?_
  refine u_icmp_gt (tgt := 188) hC dX7_readLaw_39 (by decide) hf (fun h39 hf => ?_) (fun h39 hf => ?_)
  · refine u_sub (lv' := [(0, .ref (ρ v0))]) [0] rfl ?_
    exact hO1 _ (Option.some.inj hf).symm
  · refine u_aload_n hC dX7_readLaw_42 0 rfl rfl ?_
    obtain ⟨q43, hq43, hf⟩ := kc_some hf
    refine u_callV hC (ctX7_next (cL C) hC.tr (cG C) ρ Y n s35.2.2 v0 hTv0 hq43) lk_X7_72 rfl hTv0 (by decide) rfl (by decide) (by decide) rfl rfl (Nat.le_of_ble_eq_true rfl) dX7_readLaw_43 ?_
    refine u_iload_n hC dX7_readLaw_46 1 rfl rfl ?_
    refine u_if_eq (tgt := 85) hC dX7_readLaw_47 (by decide) hf (fun h47 hf => ?_) (fun h47 hf => ?_)
    · refine u_aload_n hC dX7_readLaw_85 0 rfl rfl ?_
      refine u_bipush (v := (59 : Int32)) hC dX7_readLaw_86 (by decide) ?_
      obtain ⟨q88, hq88, hf⟩ := kc_some hf
      refine u_callV hC (ctX7_isSign (cL C) hC.tr (cG C) ρ Y n q43 v0 (59 : Int32) hTv0 hq88) lk_X7_110 rfl hTv0 (by decide) rfl (by decide) (by decide) rfl rfl (Nat.le_of_ble_eq_true rfl) dX7_readLaw_88 ?_
      refine u_if_eq (tgt := 133) hC dX7_readLaw_91 (by decide) hf (fun h91 hf => ?_) (fun h91 hf => ?_)
      · exact wjX7_readLaw_133_35 hC n q43 v0 s35.1 s35.2.1  hTv0 hf hN hO0 hO1 hB hR
      · refine u_aload_n hC dX7_readLaw_94 0 rfl rfl ?_
        refine u_gi hC lf_X7_60 rfl hTv0 dX7_readLaw_95 hf (fun x95 hf => ?_)
        refine u_if_ne (tgt := 133) hC dX7_readLaw_98 (by decide) hf (fun h98 hf => ?_) (fun h98 hf => ?_)
        · exact wjX7_readLaw_133_35 hC n q43 v0 s35.1 s35.2.1  hTv0 hf hN hO0 hO1 hB hR
        · refine u_aload_n hC dX7_readLaw_101 0 rfl rfl ?_
          refine u_iconst (v := (1 : Int32)) hC dX7_readLaw_102 (by decide) ?_
          obtain ⟨q103, hq103, hf⟩ := kc_some hf
          refine u_callV hC (ctX7_putWaiting (cL C) hC.tr (cG C) ρ Y n q43 v0 (1 : Int32) hTv0 hq103) lk_X7_159 rfl hTv0 (by decide) rfl (by decide) (by decide) rfl rfl (Nat.le_of_ble_eq_true rfl) dX7_readLaw_103 ?_
          refine u_sub (lv' := [(0, .ref (ρ v0))]) [0] rfl ?_
          obtain ⟨qq, hqq, hf⟩ := kc_some hf
          exact wLawBlk hC n q103 v0 hTv0 hqq (hB _ (Option.some.inj hf).symm) (hR _ (Option.some.inj hf).symm)
    · refine u_aload_n hC dX7_readLaw_50 0 rfl rfl ?_
      refine u_bipush (v := (40 : Int32)) hC dX7_readLaw_51 (by decide) ?_
      obtain ⟨q53, hq53, hf⟩ := kc_some hf
      refine u_callV hC (ctX7_isSign (cL C) hC.tr (cG C) ρ Y n q43 v0 (40 : Int32) hTv0 hq53) lk_X7_110 rfl hTv0 (by decide) rfl (by decide) (by decide) rfl rfl (Nat.le_of_ble_eq_true rfl) dX7_readLaw_53 ?_
      refine u_istore_n (lv' := [(3, .int q53), (0, .ref (ρ v0)), (1, .int s35.1), (2, .int s35.2.1)]) hC dX7_readLaw_56 rfl (by decide) rfl ?_
      refine u_iload_n hC dX7_readLaw_57 0 rfl rfl ?_
      refine u_if_eq (tgt := 71) hC dX7_readLaw_58 (by decide) hf (fun h58 hf => ?_) (fun h58 hf => ?_)
      · refine u_aload_n hC dX7_readLaw_71 1 rfl rfl ?_
        obtain ⟨q72, hq72, hf⟩ := kc_some hf
        refine u_callV hC (ctX7_readPart (cL C) hC.tr (cG C) ρ Y n q43 v0 hTv0 hq72) lk_X7_156 rfl hTv0 (by decide) rfl (by decide) (by decide) rfl rfl (Nat.le_of_ble_eq_true rfl) dX7_readLaw_72 ?_
        refine u_if_ne (tgt := 80) hC dX7_readLaw_75 (by decide) hf (fun h75 hf => ?_) (fun h75 hf => ?_)
        · refine u_sub (lv' := [(0, .ref (ρ v0)), (2, .int s35.2.1), (3, .int q53)]) [1, 3, 0] rfl ?_
          exact wjX7_readLaw_80_35 hC n q72.2 v0 s35.2.1 q53  hTv0 hf hN hO0 hO1 hB hR
        · refine u_sub (lv' := []) [] rfl ?_
          exact hO0 _ (Option.some.inj hf).symm
      · refine u_aload_n hC dX7_readLaw_61 1 rfl rfl ?_
        obtain ⟨q62, hq62, hf⟩ := kc_some hf
        refine u_callV hC (ctX7_readOpen (cL C) hC.tr (cG C) ρ Y n q43 v0 hTv0 hq62) lk_X7_153 rfl hTv0 (by decide) rfl (by decide) (by decide) rfl rfl (Nat.le_of_ble_eq_true rfl) dX7_readLaw_62 ?_
        refine u_if_ne (tgt := 80) hC dX7_readLaw_65 (by decide) hf (fun h65 hf => ?_) (fun h65 hf => ?_)
        · refine u_sub (lv' := [(0, .ref (ρ v0)), (2, .int s35.2.1), (3, .int q53)]) [1, 3, 0] rfl ?_
          exact wjX7_readLaw_80_35 hC n q62.2 v0 s35.2.1 q53  hTv0 hf hN hO0 hO1 hB hR
        · refine u_goto (tgt := 78) hC dX7_readLaw_68 (by decide) ?_
          refine u_sub (lv' := []) [] rfl ?_
          exact hO0 _ (Option.some.inj hf).symm
theorem wjX7_readLaw_78 {C : CT} {ρ : Nat → Nat} {Y : XS} (hC : CK C RX7 cX7_readLaw 4 (some .boolean) 7) (n : Nat) (S : PS)    {o : Int32 × XS × PS} (hf : jX7_readLaw_78 Y n S  = some o) (hB : XB C (ρ, Y, 0, 0) (nX o.2.1 - nX Y) (251 * (nX o.2.1 - nX Y))) (hR : RtA C ρ Y cX7_readLaw (some .boolean) (nX o.2.1 - nX Y) (251 * (nX o.2.1 - nX Y)) (fun _ => some (.int o.1)) o.2.2 o.2.1) : UW C (ρ, Y, 0, 0) S 78 [] [] := by
  unfold jX7_readLaw_78 at hf
  refine u_iconst (v := (0 : Int32)) hC dX7_readLaw_78 (by decide) ?_
  obtain ⟨hz, hf⟩ := kzr_some hf
  cases hf
  exact hR _ (AG.refl ρ Y) 0 0 (Nat.zero_le _) (Nat.zero_le _) _ _ dX7_readLaw_79 hz
theorem wX7_readLaw {C : CT} {ρ : Nat → Nat} {Y : XS} (hC : CK C RX7 cX7_readLaw 4 (some .boolean) 7) (n : Nat) (S : PS) (a0 : Nat) (hTa0 : Ty Y a0 7) {o : Int32 × XS × PS} (hf : fX7_readLaw Y n S a0 = some o) (hB : XB C (ρ, Y, 0, 0) (nX o.2.1 - nX Y) (251 * (nX o.2.1 - nX Y))) (hR : RtA C ρ Y cX7_readLaw (some .boolean) (nX o.2.1 - nX Y) (251 * (nX o.2.1 - nX Y)) (fun _ => some (.int o.1)) o.2.2 o.2.1) : UW C (ρ, Y, 0, 0) S 0 [(0, .ref (ρ a0))] [] := by
  unfold fX7_readLaw at hf
  refine u_aload_n hC dX7_readLaw_0 0 rfl rfl ?_
  refine u_gr hC lf_X7_12 rfl hTa0 dX7_readLaw_1 hf (fun b1 hTb1 hf => ?_)
  refine u_gq hC lf_X7_150 rfl hTb1 dX7_readLaw_4 hf (fun r4 hTr4 hf => ?_)
  refine u_ifnull (tgt := 16) hC dX7_readLaw_7 (by decide) hf (fun he hfn => ?_) (fun c7 he hfn => ?_)
  · subst he
    have hf := hfn
    refine u_aload_n hC dX7_readLaw_16 0 rfl rfl ?_
    refine u_iconst (v := (0 : Int32)) hC dX7_readLaw_17 (by decide) ?_
    refine u_pi hC lf_X7_51 rfl rfl rfl hTa0 dX7_readLaw_18 hf (fun S18 hf => ?_)
    refine u_aload_n hC dX7_readLaw_21 0 rfl rfl ?_
    refine u_iconst (v := (0 : Int32)) hC dX7_readLaw_22 (by decide) ?_
    refine u_pi hC lf_X7_57 rfl rfl rfl hTa0 dX7_readLaw_23 hf (fun S23 hf => ?_)
    refine u_aload_n hC dX7_readLaw_26 0 rfl rfl ?_
    refine u_iconst (v := (0 : Int32)) hC dX7_readLaw_27 (by decide) ?_
    refine u_pi hC lf_X7_60 rfl rfl rfl hTa0 dX7_readLaw_28 hf (fun S28 hf => ?_)
    refine u_iconst (v := (1 : Int32)) hC dX7_readLaw_31 (by decide) ?_
    refine u_istore_n (lv' := [(1, .int (1 : Int32)), (0, .ref (ρ a0))]) hC dX7_readLaw_32 rfl (by decide) rfl ?_
    refine u_iconst (v := (0 : Int32)) hC dX7_readLaw_33 (by decide) ?_
    refine u_istore_n (lv' := [(2, .int (0 : Int32)), (1, .int (1 : Int32)), (0, .ref (ρ a0))]) hC dX7_readLaw_34 rfl (by decide) rfl ?_
    obtain ⟨r35, hr35, hf⟩ := kc_some hf
    have hk35_0 : ∀ p35_0, r35 = (.inl p35_0) → UW C (ρ, Y, 0, 0) p35_0 78 [] [] := by
      intro p35_0 he
      subst he
      have hf := ks_l hf
      exact wjX7_readLaw_78 hC n p35_0    hf hB hR
    have hk35_1 : ∀ p35_1, r35 = (.inr (.inl p35_1)) → UW C (ρ, Y, 0, 0) p35_1 188 [(0, .ref (ρ a0))] [] := by
      intro p35_1 he
      subst he
      have hf := ks_r hf
      have hf := ks_l hf
      refine u_aload_n hC dX7_readLaw_188 0 rfl rfl ?_
      refine u_iconst (v := (1 : Int32)) hC dX7_readLaw_189 (by decide) ?_
      obtain ⟨q190, hq190, hf⟩ := kc_some hf
      refine u_callV hC (ctX7_wrong (cL C) hC.tr (cG C) ρ Y n p35_1 a0 (1 : Int32) hTa0 hq190) lk_X7_106 rfl hTa0 (by decide) rfl (by decide) (by decide) rfl rfl (Nat.le_of_ble_eq_true rfl) dX7_readLaw_190 ?_
      obtain ⟨hz, hf⟩ := kzr_some hf
      cases hf
      exact hR _ (AG.refl ρ Y) 0 0 (Nat.zero_le _) (Nat.zero_le _) _ _ dX7_readLaw_193 hz
    have hk35_2 : ∀ p35_2, r35 = (.inr (.inr p35_2)) → XB C (ρ, Y, 0, 0) (nX p35_2.2.1 - nX Y) (251 * (nX p35_2.2.1 - nX Y)) ∧ RtA C ρ Y cX7_readLaw (some .boolean) (nX p35_2.2.1 - nX Y) (251 * (nX p35_2.2.1 - nX Y)) (fun _ => some (.int p35_2.1)) p35_2.2.2 p35_2.2.1 := by
      intro p35_2 he
      subst he
      have hf := ks_r hf
      have hf := ks_r hf
      cases hf
      exact ⟨hB, hR⟩
    refine u_sub (lv' := [(0, .ref (ρ a0)), (1, .int (1 : Int32)), (2, .int (0 : Int32))]) [2, 1, 0] rfl ?_
    refine iter_ind (P := fun s35 => UW C (ρ, Y, 0, 0) s35.2.2 35 [(0, .ref (ρ a0)), (1, .int s35.1), (2, .int s35.2.1)] []) (fun s35 o' hb hin hout => ?_) n ((1 : Int32), (0 : Int32), S28) hr35
    exact wbX7_readLaw_35 hC n a0 hTa0 s35 hb hin (fun p e => hk35_0 p (hout _ e).symm) (fun p e => hk35_1 p (hout _ e).symm) (fun p e => (hk35_2 p (hout _ e).symm).1) (fun p e => (hk35_2 p (hout _ e).symm).2)
  · subst he
    have hf := hfn
    have hTc7 := hTr4 c7 rfl
    refine u_aload_n hC dX7_readLaw_10 0 rfl rfl ?_
    refine u_iconst (v := (5 : Int32)) hC dX7_readLaw_11 (by decide) ?_
    obtain ⟨q12, hq12, hf⟩ := kc_some hf
    refine u_callV hC (ctX7_wrong (cL C) hC.tr (cG C) ρ Y n S a0 (5 : Int32) hTa0 hq12) lk_X7_106 rfl hTa0 (by decide) rfl (by decide) (by decide) rfl rfl (Nat.le_of_ble_eq_true rfl) dX7_readLaw_12 ?_
    obtain ⟨hz, hf⟩ := kzr_some hf
    cases hf
    exact hR _ (AG.refl ρ Y) 0 0 (Nat.zero_le _) (Nat.zero_le _) _ _ dX7_readLaw_15 hz
theorem ctX7_readLaw (l : Launch) (hl : l.stackTraces = false) (G : GT) (ρ : Nat → Nat) (Y : XS) (n : Nat) (S : PS) (a0 : Nat) (hTa0 : Ty Y a0 7) {o : Int32 × XS × PS} (hf : fX7_readLaw Y n S a0 = some o) : Ma l G yX7_readLaw cX7_readLaw 4 (some .boolean) 7 (nX o.2.1 - nX Y) (251 * (nX o.2.1 - nX Y)) ρ Y [.ref (ρ a0)] S (fun _ => some (.int o.1)) o.2.2 o.2.1 :=
  Ma_of hl (by decide) (Nat.le_of_ble_eq_true rfl) (fun C _ _ hC _ hB hR => wX7_readLaw hC n S a0 hTa0 hf hB hR)
/-- return readLaw() -/
def fLineLaw (Y : XS) (n : Nat) (S : PS) (a0 : Nat) : Option (Int32 × XS × PS) := kc (fX7_readLaw Y n S a0) (fun q => kzr q.1 (some q))
theorem wLineLaw {C : CT} {ρ : Nat → Nat} {Y : XS} (hC : CK C RX7 cX7_readLine 1 (some .boolean) 9) (n : Nat) (S : PS) (a0 : Nat) (hTa0 : Ty Y a0 7) {o : Int32 × XS × PS} (hf : fLineLaw Y n S a0 = some o) (hB : XB C (ρ, Y, 0, 0) (nX o.2.1 - nX Y) (251 * (nX o.2.1 - nX Y))) (hR : RtA C ρ Y cX7_readLine (some .boolean) (nX o.2.1 - nX Y) (251 * (nX o.2.1 - nX Y)) (fun _ => some (.int o.1)) o.2.2 o.2.1) : UW C (ρ, Y, 0, 0) S 81 [(0, .ref (ρ a0))] [] := by
  unfold fLineLaw at hf
  obtain ⟨q, hq, hf⟩ := kc_some hf
  obtain ⟨hz, hf⟩ := kzr_some hf
  cases hf
  refine u_aload_n hC dX7_readLine_81 0 rfl rfl ?_
  refine u_callVA (X := (ρ, Y, 0, 0)) (a := a0) (rest := []) hC (ctX7_readLaw (cL C) hC.tr (cG C) ρ Y n S a0 hTa0 hq) hB lk_X7_103 rfl hTa0 (by decide) rfl (by decide) (by decide) rfl rfl (Nat.le_of_ble_eq_true rfl) dX7_readLine_82 (fun ρ1 hag => ?_)
  refine u_goto (tgt := 93) hC dX7_readLine_85 (by decide) ?_
  exact hR ρ1 hag _ _ (by show 0 + _ ≤ _; omega) (by show 0 + _ ≤ _; omega) _ _ dX7_readLine_93 hz

def jX7_readLine_56 (Y : XS) (n : Nat) (S : PS)  : Option (Int32 × XS × PS) :=
  kzr (0 : Int32) (some ((0 : Int32), Y, S))
def jX7_readLine_27 (Y : XS) (n : Nat) (S : PS)  : Option (Int32 × XS × PS) :=
  kzr (0 : Int32) (some ((0 : Int32), Y, S))
def fX7_readLine (Y : XS) (n : Nat) (S : PS) (a0 : Nat) : Option (Int32 × XS × PS) :=
  kc (fX7_isWord Y n S a0 1) (fun q3 => (if q3 = 0 then kc (fX7_isWord Y n S a0 2) (fun q32 => (if q32 = 0 then kc (fX7_isWord Y n S a0 3) (fun q61 => (if q61 = 0 then kc (fX7_isWord Y n S a0 4) (fun q75 => (if q75 = 0 then kc (fX7_wrong Y n S a0 (1 : Int32)) (fun q90 => kzr q90.1 (some (q90.1, Y, q90.2))) else fLineLaw Y n S a0)) else kc (fX7_readVotes Y n S a0) (fun q68 => kzr q68.1 (some (q68.1, Y, q68.2))))) else kc (fX7_readProject Y n S a0) (fun q39 => (if q39.1 = 0 then jX7_readLine_56 Y n q39.2  else kc (fX7_readLineEnd Y n q39.2 a0) (fun q46 => (if q46.1 = 0 then jX7_readLine_56 Y n q46.2  else kzr (1 : Int32) (some ((1 : Int32), Y, q46.2)))))))) else kc (fX7_readBudget Y n S a0) (fun q10 => (if q10.1 = 0 then jX7_readLine_27 Y n q10.2  else kc (fX7_readLineEnd Y n q10.2 a0) (fun q17 => (if q17.1 = 0 then jX7_readLine_27 Y n q17.2  else kzr (1 : Int32) (some ((1 : Int32), Y, q17.2))))))))
theorem wjX7_readLine_56 {C : CT} {ρ : Nat → Nat} {Y : XS} (hC : CK C RX7 cX7_readLine 1 (some .boolean) 9) (n : Nat) (S : PS)    {o : Int32 × XS × PS} (hf : jX7_readLine_56 Y n S  = some o) (hB : XB C (ρ, Y, 0, 0) (nX o.2.1 - nX Y) (251 * (nX o.2.1 - nX Y))) (hR : RtA C ρ Y cX7_readLine (some .boolean) (nX o.2.1 - nX Y) (251 * (nX o.2.1 - nX Y)) (fun _ => some (.int o.1)) o.2.2 o.2.1) : UW C (ρ, Y, 0, 0) S 56 [] [] := by
  unfold jX7_readLine_56 at hf
  refine u_iconst (v := (0 : Int32)) hC dX7_readLine_56 (by decide) ?_
  obtain ⟨hz, hf⟩ := kzr_some hf
  cases hf
  exact hR _ (AG.refl ρ Y) 0 0 (Nat.zero_le _) (Nat.zero_le _) _ _ dX7_readLine_57 hz
theorem wjX7_readLine_27 {C : CT} {ρ : Nat → Nat} {Y : XS} (hC : CK C RX7 cX7_readLine 1 (some .boolean) 9) (n : Nat) (S : PS)    {o : Int32 × XS × PS} (hf : jX7_readLine_27 Y n S  = some o) (hB : XB C (ρ, Y, 0, 0) (nX o.2.1 - nX Y) (251 * (nX o.2.1 - nX Y))) (hR : RtA C ρ Y cX7_readLine (some .boolean) (nX o.2.1 - nX Y) (251 * (nX o.2.1 - nX Y)) (fun _ => some (.int o.1)) o.2.2 o.2.1) : UW C (ρ, Y, 0, 0) S 27 [] [] := by
  unfold jX7_readLine_27 at hf
  refine u_iconst (v := (0 : Int32)) hC dX7_readLine_27 (by decide) ?_
  obtain ⟨hz, hf⟩ := kzr_some hf
  cases hf
  exact hR _ (AG.refl ρ Y) 0 0 (Nat.zero_le _) (Nat.zero_le _) _ _ dX7_readLine_28 hz
theorem wX7_readLine {C : CT} {ρ : Nat → Nat} {Y : XS} (hC : CK C RX7 cX7_readLine 1 (some .boolean) 9) (n : Nat) (S : PS) (a0 : Nat) (hTa0 : Ty Y a0 7) {o : Int32 × XS × PS} (hf : fX7_readLine Y n S a0 = some o) (hB : XB C (ρ, Y, 0, 0) (nX o.2.1 - nX Y) (251 * (nX o.2.1 - nX Y))) (hR : RtA C ρ Y cX7_readLine (some .boolean) (nX o.2.1 - nX Y) (251 * (nX o.2.1 - nX Y)) (fun _ => some (.int o.1)) o.2.2 o.2.1) : UW C (ρ, Y, 0, 0) S 0 [(0, .ref (ρ a0))] [] := by
  unfold fX7_readLine at hf
  refine u_aload_n hC dX7_readLine_0 0 rfl rfl ?_
  refine u_lds (i := 1) hC (by decide) rfl rfl dX7_readLine_1 ?_
  obtain ⟨q3, hq3, hf⟩ := kc_some hf
  refine u_callV hC (ctX7_isWord (cL C) hC.tr (cG C) ρ Y n S a0 1 hTa0 (show 1 < nStr by decide) hq3) lk_X7_81 rfl hTa0 (by decide) rfl (by decide) (by decide) rfl rfl (Nat.le_of_ble_eq_true rfl) dX7_readLine_3 ?_
  refine u_if_eq (tgt := 29) hC dX7_readLine_6 (by decide) hf (fun h6 hf => ?_) (fun h6 hf => ?_)
  · refine u_aload_n hC dX7_readLine_29 0 rfl rfl ?_
    refine u_lds (i := 2) hC (by decide) rfl rfl dX7_readLine_30 ?_
    obtain ⟨q32, hq32, hf⟩ := kc_some hf
    refine u_callV hC (ctX7_isWord (cL C) hC.tr (cG C) ρ Y n S a0 2 hTa0 (show 2 < nStr by decide) hq32) lk_X7_81 rfl hTa0 (by decide) rfl (by decide) (by decide) rfl rfl (Nat.le_of_ble_eq_true rfl) dX7_readLine_32 ?_
    refine u_if_eq (tgt := 58) hC dX7_readLine_35 (by decide) hf (fun h35 hf => ?_) (fun h35 hf => ?_)
    · refine u_aload_n hC dX7_readLine_58 0 rfl rfl ?_
      refine u_lds (i := 3) hC (by decide) rfl rfl dX7_readLine_59 ?_
      obtain ⟨q61, hq61, hf⟩ := kc_some hf
      refine u_callV hC (ctX7_isWord (cL C) hC.tr (cG C) ρ Y n S a0 3 hTa0 (show 3 < nStr by decide) hq61) lk_X7_81 rfl hTa0 (by decide) rfl (by decide) (by decide) rfl rfl (Nat.le_of_ble_eq_true rfl) dX7_readLine_61 ?_
      refine u_if_eq (tgt := 72) hC dX7_readLine_64 (by decide) hf (fun h64 hf => ?_) (fun h64 hf => ?_)
      · refine u_aload_n hC dX7_readLine_72 0 rfl rfl ?_
        refine u_lds (i := 4) hC (by decide) rfl rfl dX7_readLine_73 ?_
        obtain ⟨q75, hq75, hf⟩ := kc_some hf
        refine u_callV hC (ctX7_isWord (cL C) hC.tr (cG C) ρ Y n S a0 4 hTa0 (show 4 < nStr by decide) hq75) lk_X7_81 rfl hTa0 (by decide) rfl (by decide) (by decide) rfl rfl (Nat.le_of_ble_eq_true rfl) dX7_readLine_75 ?_
        refine u_if_eq (tgt := 88) hC dX7_readLine_78 (by decide) hf (fun h78 hf => ?_) (fun h78 hf => ?_)
        · refine u_aload_n hC dX7_readLine_88 0 rfl rfl ?_
          refine u_iconst (v := (1 : Int32)) hC dX7_readLine_89 (by decide) ?_
          obtain ⟨q90, hq90, hf⟩ := kc_some hf
          refine u_callV hC (ctX7_wrong (cL C) hC.tr (cG C) ρ Y n S a0 (1 : Int32) hTa0 hq90) lk_X7_106 rfl hTa0 (by decide) rfl (by decide) (by decide) rfl rfl (Nat.le_of_ble_eq_true rfl) dX7_readLine_90 ?_
          obtain ⟨hz, hf⟩ := kzr_some hf
          cases hf
          exact hR _ (AG.refl ρ Y) 0 0 (Nat.zero_le _) (Nat.zero_le _) _ _ dX7_readLine_93 hz
        · exact wLineLaw hC n S a0 hTa0 hf hB hR
      · refine u_aload_n hC dX7_readLine_67 0 rfl rfl ?_
        obtain ⟨q68, hq68, hf⟩ := kc_some hf
        refine u_callV hC (ctX7_readVotes (cL C) hC.tr (cG C) ρ Y n S a0 hTa0 hq68) lk_X7_98 rfl hTa0 (by decide) rfl (by decide) (by decide) rfl rfl (Nat.le_of_ble_eq_true rfl) dX7_readLine_68 ?_
        obtain ⟨hz, hf⟩ := kzr_some hf
        cases hf
        exact hR _ (AG.refl ρ Y) 0 0 (Nat.zero_le _) (Nat.zero_le _) _ _ dX7_readLine_71 hz
    · refine u_aload_n hC dX7_readLine_38 0 rfl rfl ?_
      obtain ⟨q39, hq39, hf⟩ := kc_some hf
      refine u_callV hC (ctX7_readProject (cL C) hC.tr (cG C) ρ Y n S a0 hTa0 hq39) lk_X7_93 rfl hTa0 (by decide) rfl (by decide) (by decide) rfl rfl (Nat.le_of_ble_eq_true rfl) dX7_readLine_39 ?_
      refine u_if_eq (tgt := 56) hC dX7_readLine_42 (by decide) hf (fun h42 hf => ?_) (fun h42 hf => ?_)
      · refine u_sub (lv' := []) [] rfl ?_
        exact wjX7_readLine_56 hC n q39.2    hf hB hR
      · refine u_aload_n hC dX7_readLine_45 0 rfl rfl ?_
        obtain ⟨q46, hq46, hf⟩ := kc_some hf
        refine u_callV hC (ctX7_readLineEnd (cL C) hC.tr (cG C) ρ Y n q39.2 a0 hTa0 hq46) lk_X7_88 rfl hTa0 (by decide) rfl (by decide) (by decide) rfl rfl (Nat.le_of_ble_eq_true rfl) dX7_readLine_46 ?_
        refine u_if_eq (tgt := 56) hC dX7_readLine_49 (by decide) hf (fun h49 hf => ?_) (fun h49 hf => ?_)
        · refine u_sub (lv' := []) [] rfl ?_
          exact wjX7_readLine_56 hC n q46.2    hf hB hR
        · refine u_iconst (v := (1 : Int32)) hC dX7_readLine_52 (by decide) ?_
          refine u_goto (tgt := 57) hC dX7_readLine_53 (by decide) ?_
          obtain ⟨hz, hf⟩ := kzr_some hf
          cases hf
          exact hR _ (AG.refl ρ Y) 0 0 (Nat.zero_le _) (Nat.zero_le _) _ _ dX7_readLine_57 hz
  · refine u_aload_n hC dX7_readLine_9 0 rfl rfl ?_
    obtain ⟨q10, hq10, hf⟩ := kc_some hf
    refine u_callV hC (ctX7_readBudget (cL C) hC.tr (cG C) ρ Y n S a0 hTa0 hq10) lk_X7_85 rfl hTa0 (by decide) rfl (by decide) (by decide) rfl rfl (Nat.le_of_ble_eq_true rfl) dX7_readLine_10 ?_
    refine u_if_eq (tgt := 27) hC dX7_readLine_13 (by decide) hf (fun h13 hf => ?_) (fun h13 hf => ?_)
    · refine u_sub (lv' := []) [] rfl ?_
      exact wjX7_readLine_27 hC n q10.2    hf hB hR
    · refine u_aload_n hC dX7_readLine_16 0 rfl rfl ?_
      obtain ⟨q17, hq17, hf⟩ := kc_some hf
      refine u_callV hC (ctX7_readLineEnd (cL C) hC.tr (cG C) ρ Y n q10.2 a0 hTa0 hq17) lk_X7_88 rfl hTa0 (by decide) rfl (by decide) (by decide) rfl rfl (Nat.le_of_ble_eq_true rfl) dX7_readLine_17 ?_
      refine u_if_eq (tgt := 27) hC dX7_readLine_20 (by decide) hf (fun h20 hf => ?_) (fun h20 hf => ?_)
      · refine u_sub (lv' := []) [] rfl ?_
        exact wjX7_readLine_27 hC n q17.2    hf hB hR
      · refine u_iconst (v := (1 : Int32)) hC dX7_readLine_23 (by decide) ?_
        refine u_goto (tgt := 28) hC dX7_readLine_24 (by decide) ?_
        obtain ⟨hz, hf⟩ := kzr_some hf
        cases hf
        exact hR _ (AG.refl ρ Y) 0 0 (Nat.zero_le _) (Nat.zero_le _) _ _ dX7_readLine_28 hz
theorem ctX7_readLine (l : Launch) (hl : l.stackTraces = false) (G : GT) (ρ : Nat → Nat) (Y : XS) (n : Nat) (S : PS) (a0 : Nat) (hTa0 : Ty Y a0 7) {o : Int32 × XS × PS} (hf : fX7_readLine Y n S a0 = some o) : Ma l G yX7_readLine cX7_readLine 1 (some .boolean) 9 (nX o.2.1 - nX Y) (251 * (nX o.2.1 - nX Y)) ρ Y [.ref (ρ a0)] S (fun _ => some (.int o.1)) o.2.2 o.2.1 :=
  Ma_of hl (by decide) (Nat.le_of_ble_eq_true rfl) (fun C _ _ hC _ hB hR => wX7_readLine hC n S a0 hTa0 hf hB hR)
theorem nX_le {ρ ρ' : Nat → Nat} {Y Y' : XS} (h : AG ρ Y ρ' Y') : nX Y ≤ nX Y' := by
  by_cases h0 : nX Y = 0
  · omega
  · have := (h (nX Y - 1) (kd Y (nX Y - 1)) ⟨by omega, rfl⟩).2.1
    omega
/-- the loop of readText: from line to line -/
def bX7_readText (Y : XS) (n : Nat) (a0 : Nat) (s : Int32 × XS × PS) : Option ((Int32 × XS × PS) ⊕ (XS × PS)) :=
  if (500 : Int32) < s.1 then some (.inr s.2) else
  kc (fX7_next s.2.1 n s.2.2 a0) (fun S1 => kgi S1 a0 7 (fun k => if k = 0 then some (.inr (s.2.1, S1)) else
    kc (fX7_readLine s.2.1 n S1 a0) (fun q => if nX q.2.1 ≤ nX Y + 2 then (if q.1 = 0 then some (.inr q.2) else some (.inl (s.1 + 1, q.2))) else none)))
def fX7_readText (Y : XS) (n : Nat) (S : PS) (a0 : Nat) (x1 : Int32) : Option (Int32 × XS × PS) :=
  kgr S a0 0 (fun b1 => kc (fX1_clear Y n S b1) (fun S1 => kgi S1 a0 3 (fun x10 => kpi S1 a0 5 (imin x1 x10) (fun S2 => kpi S2 a0 3 0 (fun S3 => kpi S3 a0 6 0 (fun S4 => kpi S4 a0 4 0 (fun S5 =>
    kc (iter (bX7_readText Y n a0) n ((0 : Int32), Y, S5)) (fun r => kgi r.2 a0 4 (fun x => some (x, r))))))))))
def PrT (C : CT) (ρ : Nat → Nat) (Y : XS) (a0 : Nat) (s : Int32 × XS × PS) : Prop := ∀ ρ1, AG ρ Y ρ1 s.2.1 → nX s.2.1 ≤ nX Y + 2 → UW C (ρ1, s.2.1, nX s.2.1 - nX Y, 251 * (nX s.2.1 - nX Y)) s.2.2 36 [(2, .int s.1), (0, .ref (ρ1 a0))] []
theorem wbX7_readText {C : CT} {ρ : Nat → Nat} {Y : XS} (hC : CK C RX7 cX7_readText 3 (some .int) 10) (n : Nat) (a0 : Nat) (hTa0 : Ty Y a0 7) (hB : XB C (ρ, Y, 0, 0) 2 502) (s : Int32 × XS × PS) {o : (Int32 × XS × PS) ⊕ (XS × PS)} (hf : bX7_readText Y n a0 s = some o) (hN : ∀ s', o = .inl s' → PrT C ρ Y a0 s')
    (hO : ∀ r, o = .inr r → ∀ ρ1, AG ρ Y ρ1 r.1 → nX r.1 ≤ nX Y + 2 → UW C (ρ1, r.1, nX r.1 - nX Y, 251 * (nX r.1 - nX Y)) r.2 70 [(0, .ref (ρ1 a0))] []) : PrT C ρ Y a0 s := by
  intro ρ1 hAG hle
  have hge := nX_le hAG
  have hT1 : Ty s.2.1 a0 7 := (hAG a0 7 hTa0).2
  unfold bX7_readText at hf
  refine u_iload_n hC dX7_readText_36 0 rfl rfl ?_
  refine u_sipush (v := (500 : Int32)) hC dX7_readText_37 (by decide) ?_
  refine u_icmp_gt (tgt := 70) hC dX7_readText_40 (by decide) hf (fun h hf => ?_) (fun h hf => ?_)
  · refine u_sub (lv' := [(0, .ref (ρ1 a0))]) [1] rfl ?_
    exact hO _ (Option.some.inj hf).symm ρ1 hAG hle
  · obtain ⟨S1, hS1, hf⟩ := kc_some hf
    refine u_aload_n hC dX7_readText_43 1 rfl rfl ?_
    refine u_callV (X := (ρ1, s.2.1, nX s.2.1 - nX Y, 251 * (nX s.2.1 - nX Y))) (a := a0) hC (ctX7_next (cL C) hC.tr (cG C) ρ1 s.2.1 n s.2.2 a0 hT1 hS1) lk_X7_72 rfl hT1 (by decide) rfl (by decide) (by decide) rfl rfl (Nat.le_of_ble_eq_true rfl) dX7_readText_44 ?_
    refine u_aload_n hC dX7_readText_47 1 rfl rfl ?_
    refine u_gi (X := (ρ1, s.2.1, nX s.2.1 - nX Y, 251 * (nX s.2.1 - nX Y))) (a := a0) hC lf_X7_38 rfl hT1 dX7_readText_48 hf (fun x hf => ?_)
    refine u_if_eq (tgt := 70) hC dX7_readText_51 (by decide) hf (fun h hf => ?_) (fun h hf => ?_)
    · refine u_sub (lv' := [(0, .ref (ρ1 a0))]) [1] rfl ?_
      exact hO _ (Option.some.inj hf).symm ρ1 hAG hle
    · obtain ⟨q, hq, hf⟩ := kc_some hf
      by_cases hb : nX q.2.1 ≤ nX Y + 2
      · rw [if_pos hb] at hf
        refine u_aload_n hC dX7_readText_54 1 rfl rfl ?_
        refine u_callVA (X := (ρ1, s.2.1, nX s.2.1 - nX Y, 251 * (nX s.2.1 - nX Y))) (a := a0) (rest := []) hC (ctX7_readLine (cL C) hC.tr (cG C) ρ1 s.2.1 n S1 a0 hT1 hq) (by
          obtain ⟨p, l, e, R, s0, m, args, below, meth, c, Q, G, A⟩ := C
          have hb1 : 0 + 2 ≤ R.cells := hB.1
          have hb2 : 0 + 502 ≤ R.slots := hB.2
          exact ⟨by show (nX s.2.1 - nX Y) + (nX q.2.1 - nX s.2.1) ≤ R.cells; omega, by show 251 * (nX s.2.1 - nX Y) + 251 * (nX q.2.1 - nX s.2.1) ≤ R.slots; omega⟩) lk_X7_75 rfl hT1 (by decide) rfl (by decide) (by decide) rfl rfl (Nat.le_of_ble_eq_true rfl) dX7_readText_55 (fun ρ2 hag => ?_)
        replace hag : ∀ a k, Ty s.2.1 a k → ρ2 a = ρ1 a ∧ Ty q.2.1 a k := hag
        have hAG2 := AG.trans hAG hag
        have hge2 := nX_le (fun a k h => hag a k h : AG ρ1 s.2.1 ρ2 q.2.1)
        have e1 : (nX s.2.1 - nX Y) + (nX q.2.1 - nX s.2.1) = nX q.2.1 - nX Y := by omega
        have e2 : 251 * (nX s.2.1 - nX Y) + 251 * (nX q.2.1 - nX s.2.1) = 251 * (nX q.2.1 - nX Y) := by omega
        show UW C (ρ2, q.2.1, (nX s.2.1 - nX Y) + (nX q.2.1 - nX s.2.1), 251 * (nX s.2.1 - nX Y) + 251 * (nX q.2.1 - nX s.2.1)) q.2.2 _ [(2, .int s.1), (0, .ref (ρ1 a0))] [.int q.1]
        rw [e1, e2, ← (hag a0 _ hT1).1]
        refine u_if_ne (tgt := 64) hC dX7_readText_58 (by decide) hf (fun h hf => ?_) (fun h hf => ?_)
        · refine u_iinc (v := s.1 + 1) (lv' := [(2, .int (s.1 + 1)), (0, .ref (ρ2 a0))]) hC dX7_readText_64 0 rfl rfl (by decide) rfl ?_
          refine u_goto (tgt := 36) hC dX7_readText_67 (by decide) ?_
          exact hN _ (Option.some.inj hf).symm ρ2 hAG2 hb
        · refine u_goto (tgt := 70) hC dX7_readText_61 (by decide) ?_
          refine u_sub (lv' := [(0, .ref (ρ2 a0))]) [1] rfl ?_
          exact hO _ (Option.some.inj hf).symm ρ2 hAG2 hb
      · rw [if_neg hb] at hf; cases hf
theorem wX7_readText {C : CT} {ρ : Nat → Nat} {Y : XS} (hC : CK C RX7 cX7_readText 3 (some .int) 10) (n : Nat) (S : PS) (a0 : Nat) (x1 : Int32) (hTa0 : Ty Y a0 7) {o : Int32 × XS × PS} (hf : fX7_readText Y n S a0 x1 = some o) (hB : XB C (ρ, Y, 0, 0) 2 502) (hR : RtA C ρ Y cX7_readText (some .int) 2 502 (fun _ => some (.int o.1)) o.2.2 o.2.1) : UW C (ρ, Y, 0, 0) S 0 [(0, .ref (ρ a0)), (1, .int x1)] [] := by
  unfold fX7_readText at hf
  refine u_aload_n hC dX7_readText_0 0 rfl rfl ?_
  refine u_gr (X := (ρ, Y, 0, 0)) (a := a0) hC lf_X7_12 rfl hTa0 dX7_readText_1 hf (fun b1 hTb1 hf => ?_)
  obtain ⟨S1, hS1, hf⟩ := kc_some hf
  refine u_callV (X := (ρ, Y, 0, 0)) (a := b1) hC (ctX1_clear (cL C) hC.tr (cG C) ρ Y n S b1 hTb1 hS1) lk_X7_63 rfl hTb1 (by decide) rfl (by decide) (by decide) rfl rfl (Nat.le_of_ble_eq_true rfl) dX7_readText_4 ?_
  refine u_aload_n hC dX7_readText_7 0 rfl rfl ?_
  refine u_iload_n hC dX7_readText_8 1 rfl rfl ?_
  refine u_aload_n hC dX7_readText_9 0 rfl rfl ?_
  refine u_gi (X := (ρ, Y, 0, 0)) (a := a0) hC lf_X7_26 rfl hTa0 dX7_readText_10 hf (fun x10 hf => ?_)
  refine u_mmin hC (tb_3 97 rfl rfl) (by decide) (Nat.le_of_ble_eq_true rfl) dX7_readText_13 ?_
  refine u_pi (X := (ρ, Y, 0, 0)) (a := a0) hC lf_X7_32 rfl rfl rfl hTa0 dX7_readText_16 hf (fun S2 hf => ?_)
  refine u_aload_n hC dX7_readText_19 0 rfl rfl ?_
  refine u_iconst (v := (0 : Int32)) hC dX7_readText_20 (by decide) ?_
  refine u_pi (X := (ρ, Y, 0, 0)) (a := a0) hC lf_X7_26 rfl rfl rfl hTa0 dX7_readText_21 hf (fun S3 hf => ?_)
  refine u_aload_n hC dX7_readText_24 0 rfl rfl ?_
  refine u_iconst (v := (0 : Int32)) hC dX7_readText_25 (by decide) ?_
  refine u_pi (X := (ρ, Y, 0, 0)) (a := a0) hC lf_X7_35 rfl rfl rfl hTa0 dX7_readText_26 hf (fun S4 hf => ?_)
  refine u_aload_n hC dX7_readText_29 0 rfl rfl ?_
  refine u_iconst (v := (0 : Int32)) hC dX7_readText_30 (by decide) ?_
  refine u_pi (X := (ρ, Y, 0, 0)) (a := a0) hC lf_X7_29 rfl rfl rfl hTa0 dX7_readText_31 hf (fun S5 hf => ?_)
  refine u_iconst (v := (0 : Int32)) hC dX7_readText_34 (by decide) ?_
  refine u_istore_n (lv' := [(2, .int 0), (0, .ref (ρ a0)), (1, .int x1)]) hC dX7_readText_35 rfl (by decide) rfl ?_
  refine u_sub (lv' := [(2, .int 0), (0, .ref (ρ a0))]) [0, 1] rfl ?_
  obtain ⟨r, hr, hf⟩ := kc_some hf
  have hk : ∀ ρ1, AG ρ Y ρ1 r.1 → nX r.1 ≤ nX Y + 2 → UW C (ρ1, r.1, nX r.1 - nX Y, 251 * (nX r.1 - nX Y)) r.2 70 [(0, .ref (ρ1 a0))] [] := by
    intro ρ1 hAG hle
    have hge := nX_le hAG
    refine u_aload_n hC dX7_readText_70 0 rfl rfl ?_
    refine u_gi (X := (ρ1, r.1, nX r.1 - nX Y, 251 * (nX r.1 - nX Y))) (a := a0) hC lf_X7_29 rfl (hAG a0 7 hTa0).2 dX7_readText_71 hf (fun x hf => ?_)
    cases hf
    exact hR _ hAG _ _ (by omega) (by omega) _ _ dX7_readText_74 trivial
  have hP : PrT C ρ Y a0 ((0 : Int32), Y, S5) := iter_ind (P := PrT C ρ Y a0) (fun s o' hb hin hout => wbX7_readText hC n a0 hTa0 hB s hb hin (fun r' e => by rw [hout r' e]; exact hk)) n _ hr
  have := hP ρ (AG.refl ρ Y) (Nat.le_add_right _ _)
  simp only [Nat.sub_self, Nat.mul_zero] at this
  exact this
theorem ctX7_readText (l : Launch) (hl : l.stackTraces = false) (G : GT) (ρ : Nat → Nat) (Y : XS) (n : Nat) (S : PS) (a0 : Nat) (x1 : Int32) (hTa0 : Ty Y a0 7) {o : Int32 × XS × PS} (hf : fX7_readText Y n S a0 x1 = some o) : Ma l G yX7_readText cX7_readText 3 (some .int) 10 2 502 ρ Y [.ref (ρ a0), .int x1] S (fun _ => some (.int o.1)) o.2.2 o.2.1 :=
  Ma_of hl (by decide) (Nat.le_of_ble_eq_true rfl) (fun C _ _ hC _ hB hR => wX7_readText hC n S a0 x1 hTa0 hf hB hR)

