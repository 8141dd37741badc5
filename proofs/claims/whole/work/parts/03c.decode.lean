theorem dX8_isTrue_51 : decode cX8_isTrue 51 = .ok (.goto 19, 3) := by decide +kernel
theorem dX8_isTrue_54 : decode cX8_isTrue 54 = .ok (.aload_n 1, 1) := by decide +kernel
theorem dX8_isTrue_55 : decode cX8_isTrue 55 = .ok (.iload_n 2, 1) := by decide +kernel
theorem dX8_isTrue_56 : decode cX8_isTrue 56 = .ok (.bipush 6, 2) := by decide +kernel
theorem dX8_isTrue_58 : decode cX8_isTrue 58 = .ok (.invokestatic 74, 3) := by decide +kernel
theorem dX8_isTrue_61 : decode cX8_isTrue 61 = .ok (.iconst 1, 1) := by decide +kernel
theorem dX8_isTrue_62 : decode cX8_isTrue 62 = .ok (.if_icmp .ne 7, 3) := by decide +kernel
theorem dX8_isTrue_65 : decode cX8_isTrue 65 = .ok (.iconst 1, 1) := by decide +kernel
theorem dX8_isTrue_66 : decode cX8_isTrue 66 = .ok (.goto 4, 3) := by decide +kernel
theorem dX8_isTrue_69 : decode cX8_isTrue 69 = .ok (.iconst 0, 1) := by decide +kernel
theorem dX8_isTrue_70 : decode cX8_isTrue 70 = .ok (.ireturn, 1) := by decide +kernel
theorem dX8_fits_0 : decode cX8_fits 0 = .ok (.aload_n 1, 1) := by decide +kernel
theorem dX8_fits_1 : decode cX8_fits 1 = .ok (.iload_n 2, 1) := by decide +kernel
theorem dX8_fits_2 : decode cX8_fits 2 = .ok (.iconst 2, 1) := by decide +kernel
theorem dX8_fits_3 : decode cX8_fits 3 = .ok (.invokestatic 74, 3) := by decide +kernel
theorem dX8_fits_6 : decode cX8_fits 6 = .ok (.aload_n 1, 1) := by decide +kernel
theorem dX8_fits_7 : decode cX8_fits 7 = .ok (.iload_n 3, 1) := by decide +kernel
theorem dX8_fits_8 : decode cX8_fits 8 = .ok (.iconst 2, 1) := by decide +kernel
theorem dX8_fits_9 : decode cX8_fits 9 = .ok (.invokestatic 74, 3) := by decide +kernel
theorem dX8_fits_12 : decode cX8_fits 12 = .ok (.isub, 1) := by decide +kernel
theorem dX8_fits_13 : decode cX8_fits 13 = .ok (.istore 4, 2) := by decide +kernel
theorem dX8_fits_15 : decode cX8_fits 15 = .ok (.aload_n 0, 1) := by decide +kernel
theorem dX8_fits_16 : decode cX8_fits 16 = .ok (.aload_n 1, 1) := by decide +kernel
theorem dX8_fits_17 : decode cX8_fits 17 = .ok (.iload_n 2, 1) := by decide +kernel
theorem dX8_fits_18 : decode cX8_fits 18 = .ok (.iconst 1, 1) := by decide +kernel
theorem dX8_fits_19 : decode cX8_fits 19 = .ok (.invokestatic 74, 3) := by decide +kernel
theorem dX8_fits_22 : decode cX8_fits 22 = .ok (.aload_n 1, 1) := by decide +kernel
theorem dX8_fits_23 : decode cX8_fits 23 = .ok (.iload_n 3, 1) := by decide +kernel
theorem dX8_fits_24 : decode cX8_fits 24 = .ok (.iconst 1, 1) := by decide +kernel
theorem dX8_fits_25 : decode cX8_fits 25 = .ok (.invokestatic 74, 3) := by decide +kernel
theorem dX8_fits_28 : decode cX8_fits 28 = .ok (.aload_n 1, 1) := by decide +kernel
theorem dX8_fits_29 : decode cX8_fits 29 = .ok (.aload_n 1, 1) := by decide +kernel
theorem dX8_fits_30 : decode cX8_fits 30 = .ok (.iload_n 2, 1) := by decide +kernel
theorem dX8_fits_31 : decode cX8_fits 31 = .ok (.iconst 5, 1) := by decide +kernel
theorem dX8_fits_32 : decode cX8_fits 32 = .ok (.invokestatic 74, 3) := by decide +kernel
theorem dX8_fits_35 : decode cX8_fits 35 = .ok (.iconst 1, 1) := by decide +kernel
theorem dX8_fits_36 : decode cX8_fits 36 = .ok (.invokestatic 47, 3) := by decide +kernel
theorem dX8_fits_39 : decode cX8_fits 39 = .ok (.iload 4, 2) := by decide +kernel
theorem dX8_fits_41 : decode cX8_fits 41 = .ok (.ifCond .ge 9, 3) := by decide +kernel
theorem dX8_fits_44 : decode cX8_fits 44 = .ok (.iload 4, 2) := by decide +kernel
theorem dX8_fits_46 : decode cX8_fits 46 = .ok (.ineg, 1) := by decide +kernel
theorem dX8_fits_47 : decode cX8_fits 47 = .ok (.goto 5, 3) := by decide +kernel
theorem dX8_fits_50 : decode cX8_fits 50 = .ok (.iload 4, 2) := by decide +kernel
theorem dX8_fits_52 : decode cX8_fits 52 = .ok (.imul, 1) := by decide +kernel
theorem dX8_fits_53 : decode cX8_fits 53 = .ok (.invokevirtual 77, 3) := by decide +kernel
theorem dX8_fits_56 : decode cX8_fits 56 = .ok (.ireturn, 1) := by decide +kernel
theorem dX8_isFraud_0 : decode cX8_isFraud 0 = .ok (.aload_n 1, 1) := by decide +kernel
theorem dX8_isFraud_1 : decode cX8_isFraud 1 = .ok (.iload_n 2, 1) := by decide +kernel
theorem dX8_isFraud_2 : decode cX8_isFraud 2 = .ok (.iconst 5, 1) := by decide +kernel
theorem dX8_isFraud_3 : decode cX8_isFraud 3 = .ok (.invokestatic 74, 3) := by decide +kernel
theorem dX8_isFraud_6 : decode cX8_isFraud 6 = .ok (.istore_n 3, 1) := by decide +kernel
theorem dX8_isFraud_7 : decode cX8_isFraud 7 = .ok (.iload_n 3, 1) := by decide +kernel
theorem dX8_isFraud_8 : decode cX8_isFraud 8 = .ok (.iconst (-1), 1) := by decide +kernel
theorem dX8_isFraud_9 : decode cX8_isFraud 9 = .ok (.if_icmp .eq 11, 3) := by decide +kernel
theorem dX8_isFraud_12 : decode cX8_isFraud 12 = .ok (.aload_n 1, 1) := by decide +kernel
theorem dX8_isFraud_13 : decode cX8_isFraud 13 = .ok (.iload_n 3, 1) := by decide +kernel
theorem dX8_isFraud_14 : decode cX8_isFraud 14 = .ok (.invokestatic 67, 3) := by decide +kernel
theorem dX8_isFraud_17 : decode cX8_isFraud 17 = .ok (.ifCond .ne 25, 3) := by decide +kernel
theorem dX8_isFraud_20 : decode cX8_isFraud 20 = .ok (.iload_n 3, 1) := by decide +kernel
theorem dX8_isFraud_21 : decode cX8_isFraud 21 = .ok (.iconst (-1), 1) := by decide +kernel
theorem dX8_isFraud_22 : decode cX8_isFraud 22 = .ok (.if_icmp .eq 18, 3) := by decide +kernel
theorem dX8_isFraud_25 : decode cX8_isFraud 25 = .ok (.aload_n 1, 1) := by decide +kernel
theorem dX8_isFraud_26 : decode cX8_isFraud 26 = .ok (.iload_n 2, 1) := by decide +kernel
theorem dX8_isFraud_27 : decode cX8_isFraud 27 = .ok (.bipush 7, 2) := by decide +kernel
theorem dX8_isFraud_29 : decode cX8_isFraud 29 = .ok (.invokestatic 74, 3) := by decide +kernel
theorem dX8_isFraud_32 : decode cX8_isFraud 32 = .ok (.iconst 1, 1) := by decide +kernel
theorem dX8_isFraud_33 : decode cX8_isFraud 33 = .ok (.if_icmp .ne 7, 3) := by decide +kernel
theorem dX8_isFraud_36 : decode cX8_isFraud 36 = .ok (.iconst 1, 1) := by decide +kernel
theorem dX8_isFraud_37 : decode cX8_isFraud 37 = .ok (.goto 4, 3) := by decide +kernel
theorem dX8_isFraud_40 : decode cX8_isFraud 40 = .ok (.iconst 0, 1) := by decide +kernel
theorem dX8_isFraud_41 : decode cX8_isFraud 41 = .ok (.ireturn, 1) := by decide +kernel
theorem dX8_isFraud_42 : decode cX8_isFraud 42 = .ok (.aload_n 0, 1) := by decide +kernel
theorem dX8_isFraud_43 : decode cX8_isFraud 43 = .ok (.aload_n 1, 1) := by decide +kernel
theorem dX8_isFraud_44 : decode cX8_isFraud 44 = .ok (.iload_n 2, 1) := by decide +kernel
theorem dX8_isFraud_45 : decode cX8_isFraud 45 = .ok (.invokevirtual 81, 3) := by decide +kernel
theorem dX8_isFraud_48 : decode cX8_isFraud 48 = .ok (.ifCond .eq 13, 3) := by decide +kernel
theorem dX8_isFraud_51 : decode cX8_isFraud 51 = .ok (.aload_n 1, 1) := by decide +kernel
theorem dX8_isFraud_52 : decode cX8_isFraud 52 = .ok (.iload_n 2, 1) := by decide +kernel
theorem dX8_isFraud_53 : decode cX8_isFraud 53 = .ok (.iconst 4, 1) := by decide +kernel
theorem dX8_isFraud_54 : decode cX8_isFraud 54 = .ok (.invokestatic 74, 3) := by decide +kernel
theorem dX8_isFraud_57 : decode cX8_isFraud 57 = .ok (.iconst 1, 1) := by decide +kernel
theorem dX8_isFraud_58 : decode cX8_isFraud 58 = .ok (.if_icmp .ne 18, 3) := by decide +kernel
theorem dX8_isFraud_61 : decode cX8_isFraud 61 = .ok (.aload_n 0, 1) := by decide +kernel
theorem dX8_isFraud_62 : decode cX8_isFraud 62 = .ok (.aload_n 1, 1) := by decide +kernel
theorem dX8_isFraud_63 : decode cX8_isFraud 63 = .ok (.iload_n 2, 1) := by decide +kernel
theorem dX8_isFraud_64 : decode cX8_isFraud 64 = .ok (.invokevirtual 81, 3) := by decide +kernel
theorem dX8_isFraud_67 : decode cX8_isFraud 67 = .ok (.ifCond .ne 7, 3) := by decide +kernel
theorem dX8_isFraud_70 : decode cX8_isFraud 70 = .ok (.iconst 1, 1) := by decide +kernel
theorem dX8_isFraud_71 : decode cX8_isFraud 71 = .ok (.goto 4, 3) := by decide +kernel
theorem dX8_isFraud_74 : decode cX8_isFraud 74 = .ok (.iconst 0, 1) := by decide +kernel
theorem dX8_isFraud_75 : decode cX8_isFraud 75 = .ok (.ireturn, 1) := by decide +kernel
theorem dX8_isFraud_76 : decode cX8_isFraud 76 = .ok (.iconst 0, 1) := by decide +kernel
theorem dX8_isFraud_77 : decode cX8_isFraud 77 = .ok (.istore 4, 2) := by decide +kernel
theorem dX8_isFraud_79 : decode cX8_isFraud 79 = .ok (.iconst 0, 1) := by decide +kernel
theorem dX8_isFraud_80 : decode cX8_isFraud 80 = .ok (.istore 5, 2) := by decide +kernel
theorem dX8_isFraud_82 : decode cX8_isFraud 82 = .ok (.iconst 0, 1) := by decide +kernel
theorem dX8_isFraud_83 : decode cX8_isFraud 83 = .ok (.istore 6, 2) := by decide +kernel
theorem dX8_isFraud_85 : decode cX8_isFraud 85 = .ok (.iload 6, 2) := by decide +kernel
theorem dX8_isFraud_87 : decode cX8_isFraud 87 = .ok (.aload_n 1, 1) := by decide +kernel
theorem dX8_isFraud_88 : decode cX8_isFraud 88 = .ok (.iconst 1, 1) := by decide +kernel
theorem dX8_isFraud_89 : decode cX8_isFraud 89 = .ok (.iaload, 1) := by decide +kernel
theorem dX8_isFraud_90 : decode cX8_isFraud 90 = .ok (.if_icmp .ge 62, 3) := by decide +kernel
theorem dX8_isFraud_93 : decode cX8_isFraud 93 = .ok (.iload 6, 2) := by decide +kernel
theorem dX8_isFraud_95 : decode cX8_isFraud 95 = .ok (.iload_n 2, 1) := by decide +kernel
theorem dX8_isFraud_96 : decode cX8_isFraud 96 = .ok (.if_icmp .eq 50, 3) := by decide +kernel
theorem dX8_isFraud_99 : decode cX8_isFraud 99 = .ok (.aload_n 1, 1) := by decide +kernel
theorem dX8_isFraud_100 : decode cX8_isFraud 100 = .ok (.iload 6, 2) := by decide +kernel
theorem dX8_isFraud_102 : decode cX8_isFraud 102 = .ok (.iconst 5, 1) := by decide +kernel
theorem dX8_isFraud_103 : decode cX8_isFraud 103 = .ok (.invokestatic 74, 3) := by decide +kernel
theorem dX8_isFraud_106 : decode cX8_isFraud 106 = .ok (.iload_n 3, 1) := by decide +kernel
theorem dX8_isFraud_107 : decode cX8_isFraud 107 = .ok (.if_icmp .ne 39, 3) := by decide +kernel
theorem dX8_isFraud_110 : decode cX8_isFraud 110 = .ok (.aload_n 0, 1) := by decide +kernel
theorem dX8_isFraud_111 : decode cX8_isFraud 111 = .ok (.aload_n 1, 1) := by decide +kernel
theorem dX8_isFraud_112 : decode cX8_isFraud 112 = .ok (.iload 6, 2) := by decide +kernel
theorem dX8_isFraud_114 : decode cX8_isFraud 114 = .ok (.invokevirtual 81, 3) := by decide +kernel
theorem dX8_isFraud_117 : decode cX8_isFraud 117 = .ok (.ifCond .eq 29, 3) := by decide +kernel
theorem dX8_isFraud_120 : decode cX8_isFraud 120 = .ok (.iconst 1, 1) := by decide +kernel
theorem dX8_isFraud_121 : decode cX8_isFraud 121 = .ok (.istore 4, 2) := by decide +kernel
theorem dX8_isFraud_123 : decode cX8_isFraud 123 = .ok (.iload 5, 2) := by decide +kernel
theorem dX8_isFraud_125 : decode cX8_isFraud 125 = .ok (.ifCond .ne 14, 3) := by decide +kernel
theorem dX8_isFraud_128 : decode cX8_isFraud 128 = .ok (.aload_n 0, 1) := by decide +kernel
theorem dX8_isFraud_129 : decode cX8_isFraud 129 = .ok (.aload_n 1, 1) := by decide +kernel
theorem dX8_isFraud_130 : decode cX8_isFraud 130 = .ok (.iload_n 2, 1) := by decide +kernel
theorem dX8_isFraud_131 : decode cX8_isFraud 131 = .ok (.iload 6, 2) := by decide +kernel
theorem dX8_isFraud_133 : decode cX8_isFraud 133 = .ok (.invokevirtual 84, 3) := by decide +kernel
theorem dX8_isFraud_136 : decode cX8_isFraud 136 = .ok (.ifCond .eq 7, 3) := by decide +kernel
theorem dX8_isFraud_139 : decode cX8_isFraud 139 = .ok (.iconst 1, 1) := by decide +kernel
theorem dX8_isFraud_140 : decode cX8_isFraud 140 = .ok (.goto 4, 3) := by decide +kernel
theorem dX8_isFraud_143 : decode cX8_isFraud 143 = .ok (.iconst 0, 1) := by decide +kernel
theorem dX8_isFraud_144 : decode cX8_isFraud 144 = .ok (.istore 5, 2) := by decide +kernel
theorem dX8_isFraud_146 : decode cX8_isFraud 146 = .ok (.iinc 6 1, 3) := by decide +kernel
theorem dX8_isFraud_149 : decode cX8_isFraud 149 = .ok (.goto (-64), 3) := by decide +kernel
theorem dX8_isFraud_152 : decode cX8_isFraud 152 = .ok (.iload 4, 2) := by decide +kernel
theorem dX8_isFraud_154 : decode cX8_isFraud 154 = .ok (.ifCond .eq 12, 3) := by decide +kernel
theorem dX8_isFraud_157 : decode cX8_isFraud 157 = .ok (.iload 5, 2) := by decide +kernel
theorem dX8_isFraud_159 : decode cX8_isFraud 159 = .ok (.ifCond .ne 7, 3) := by decide +kernel
theorem dX8_isFraud_162 : decode cX8_isFraud 162 = .ok (.iconst 1, 1) := by decide +kernel
theorem dX8_isFraud_163 : decode cX8_isFraud 163 = .ok (.goto 4, 3) := by decide +kernel
theorem dX8_isFraud_166 : decode cX8_isFraud 166 = .ok (.iconst 0, 1) := by decide +kernel
theorem dX8_isFraud_167 : decode cX8_isFraud 167 = .ok (.ireturn, 1) := by decide +kernel
theorem dX8_frauds_0 : decode cX8_frauds 0 = .ok (.iconst 0, 1) := by decide +kernel
theorem dX8_frauds_1 : decode cX8_frauds 1 = .ok (.istore_n 2, 1) := by decide +kernel
theorem dX8_frauds_2 : decode cX8_frauds 2 = .ok (.iconst 0, 1) := by decide +kernel
theorem dX8_frauds_3 : decode cX8_frauds 3 = .ok (.istore_n 3, 1) := by decide +kernel
theorem dX8_frauds_4 : decode cX8_frauds 4 = .ok (.iload_n 3, 1) := by decide +kernel
theorem dX8_frauds_5 : decode cX8_frauds 5 = .ok (.aload_n 1, 1) := by decide +kernel
theorem dX8_frauds_6 : decode cX8_frauds 6 = .ok (.iconst 1, 1) := by decide +kernel
theorem dX8_frauds_7 : decode cX8_frauds 7 = .ok (.iaload, 1) := by decide +kernel
theorem dX8_frauds_8 : decode cX8_frauds 8 = .ok (.if_icmp .ge 26, 3) := by decide +kernel
theorem dX8_frauds_11 : decode cX8_frauds 11 = .ok (.iload_n 2, 1) := by decide +kernel
theorem dX8_frauds_12 : decode cX8_frauds 12 = .ok (.aload_n 0, 1) := by decide +kernel
theorem dX8_frauds_13 : decode cX8_frauds 13 = .ok (.aload_n 1, 1) := by decide +kernel
theorem dX8_frauds_14 : decode cX8_frauds 14 = .ok (.iload_n 3, 1) := by decide +kernel
theorem dX8_frauds_15 : decode cX8_frauds 15 = .ok (.invokevirtual 88, 3) := by decide +kernel
theorem dX8_frauds_18 : decode cX8_frauds 18 = .ok (.ifCond .eq 7, 3) := by decide +kernel
theorem dX8_frauds_21 : decode cX8_frauds 21 = .ok (.iconst 1, 1) := by decide +kernel
theorem dX8_frauds_22 : decode cX8_frauds 22 = .ok (.goto 4, 3) := by decide +kernel
theorem dX8_frauds_25 : decode cX8_frauds 25 = .ok (.iconst 0, 1) := by decide +kernel
theorem dX8_frauds_26 : decode cX8_frauds 26 = .ok (.iadd, 1) := by decide +kernel
theorem dX8_frauds_27 : decode cX8_frauds 27 = .ok (.istore_n 2, 1) := by decide +kernel
theorem dX8_frauds_28 : decode cX8_frauds 28 = .ok (.iinc 3 1, 3) := by decide +kernel
theorem dX8_frauds_31 : decode cX8_frauds 31 = .ok (.goto (-27), 3) := by decide +kernel
theorem dX8_frauds_34 : decode cX8_frauds 34 = .ok (.iload_n 2, 1) := by decide +kernel
theorem dX8_frauds_35 : decode cX8_frauds 35 = .ok (.ireturn, 1) := by decide +kernel
theorem dX8_canBeAt_0 : decode cX8_canBeAt 0 = .ok (.aload_n 0, 1) := by decide +kernel
theorem dX8_canBeAt_1 : decode cX8_canBeAt 1 = .ok (.aload_n 1, 1) := by decide +kernel
theorem dX8_canBeAt_2 : decode cX8_canBeAt 2 = .ok (.iload_n 2, 1) := by decide +kernel
theorem dX8_canBeAt_3 : decode cX8_canBeAt 3 = .ok (.iconst 2, 1) := by decide +kernel
theorem dX8_canBeAt_4 : decode cX8_canBeAt 4 = .ok (.invokestatic 47, 3) := by decide +kernel
theorem dX8_canBeAt_7 : decode cX8_canBeAt 7 = .ok (.iload_n 3, 1) := by decide +kernel
theorem dX8_canBeAt_8 : decode cX8_canBeAt 8 = .ok (.aload_n 1, 1) := by decide +kernel
theorem dX8_canBeAt_9 : decode cX8_canBeAt 9 = .ok (.iload_n 2, 1) := by decide +kernel
theorem dX8_canBeAt_10 : decode cX8_canBeAt 10 = .ok (.iconst 1, 1) := by decide +kernel
theorem dX8_canBeAt_11 : decode cX8_canBeAt 11 = .ok (.invokestatic 47, 3) := by decide +kernel
theorem dX8_canBeAt_14 : decode cX8_canBeAt 14 = .ok (.aload_n 1, 1) := by decide +kernel
theorem dX8_canBeAt_15 : decode cX8_canBeAt 15 = .ok (.iconst 2, 1) := by decide +kernel
theorem dX8_canBeAt_16 : decode cX8_canBeAt 16 = .ok (.iaload, 1) := by decide +kernel
theorem dX8_canBeAt_17 : decode cX8_canBeAt 17 = .ok (.aload_n 1, 1) := by decide +kernel
theorem dX8_canBeAt_18 : decode cX8_canBeAt 18 = .ok (.iload_n 2, 1) := by decide +kernel
theorem dX8_canBeAt_19 : decode cX8_canBeAt 19 = .ok (.iconst 3, 1) := by decide +kernel
theorem dX8_canBeAt_20 : decode cX8_canBeAt 20 = .ok (.invokestatic 47, 3) := by decide +kernel
theorem dX8_canBeAt_23 : decode cX8_canBeAt 23 = .ok (.isub, 1) := by decide +kernel
theorem dX8_canBeAt_24 : decode cX8_canBeAt 24 = .ok (.imul, 1) := by decide +kernel
theorem dX8_canBeAt_25 : decode cX8_canBeAt 25 = .ok (.invokevirtual 77, 3) := by decide +kernel
theorem dX8_canBeAt_28 : decode cX8_canBeAt 28 = .ok (.istore 4, 2) := by decide +kernel
theorem dX8_canBeAt_30 : decode cX8_canBeAt 30 = .ok (.iconst 0, 1) := by decide +kernel
theorem dX8_canBeAt_31 : decode cX8_canBeAt 31 = .ok (.istore 5, 2) := by decide +kernel
theorem dX8_canBeAt_33 : decode cX8_canBeAt 33 = .ok (.iload 5, 2) := by decide +kernel
theorem dX8_canBeAt_35 : decode cX8_canBeAt 35 = .ok (.aload_n 1, 1) := by decide +kernel
theorem dX8_canBeAt_36 : decode cX8_canBeAt 36 = .ok (.iconst 1, 1) := by decide +kernel
theorem dX8_canBeAt_37 : decode cX8_canBeAt 37 = .ok (.iaload, 1) := by decide +kernel
theorem dX8_canBeAt_38 : decode cX8_canBeAt 38 = .ok (.if_icmp .ge 67, 3) := by decide +kernel
theorem dX8_canBeAt_41 : decode cX8_canBeAt 41 = .ok (.iload 4, 2) := by decide +kernel
theorem dX8_canBeAt_43 : decode cX8_canBeAt 43 = .ok (.ifCond .eq 62, 3) := by decide +kernel
theorem dX8_canBeAt_46 : decode cX8_canBeAt 46 = .ok (.aload_n 1, 1) := by decide +kernel
theorem dX8_canBeAt_47 : decode cX8_canBeAt 47 = .ok (.iload 5, 2) := by decide +kernel
theorem dX8_canBeAt_49 : decode cX8_canBeAt 49 = .ok (.iconst 5, 1) := by decide +kernel
theorem dX8_canBeAt_50 : decode cX8_canBeAt 50 = .ok (.invokestatic 74, 3) := by decide +kernel
theorem dX8_canBeAt_53 : decode cX8_canBeAt 53 = .ok (.iload_n 2, 1) := by decide +kernel
theorem dX8_canBeAt_54 : decode cX8_canBeAt 54 = .ok (.if_icmp .ne 45, 3) := by decide +kernel
theorem dX8_canBeAt_57 : decode cX8_canBeAt 57 = .ok (.aload_n 0, 1) := by decide +kernel
theorem dX8_canBeAt_58 : decode cX8_canBeAt 58 = .ok (.aload_n 1, 1) := by decide +kernel
theorem dX8_canBeAt_59 : decode cX8_canBeAt 59 = .ok (.iload 5, 2) := by decide +kernel
theorem dX8_canBeAt_61 : decode cX8_canBeAt 61 = .ok (.invokevirtual 88, 3) := by decide +kernel
theorem dX8_canBeAt_64 : decode cX8_canBeAt 64 = .ok (.ifCond .ne 35, 3) := by decide +kernel
theorem dX8_canBeAt_67 : decode cX8_canBeAt 67 = .ok (.aload_n 0, 1) := by decide +kernel
theorem dX8_canBeAt_68 : decode cX8_canBeAt 68 = .ok (.aload_n 1, 1) := by decide +kernel
theorem dX8_canBeAt_69 : decode cX8_canBeAt 69 = .ok (.iload 5, 2) := by decide +kernel
theorem dX8_canBeAt_71 : decode cX8_canBeAt 71 = .ok (.iconst 1, 1) := by decide +kernel
theorem dX8_canBeAt_72 : decode cX8_canBeAt 72 = .ok (.invokestatic 74, 3) := by decide +kernel
theorem dX8_canBeAt_75 : decode cX8_canBeAt 75 = .ok (.iload_n 3, 1) := by decide +kernel
theorem dX8_canBeAt_76 : decode cX8_canBeAt 76 = .ok (.aload_n 1, 1) := by decide +kernel
theorem dX8_canBeAt_77 : decode cX8_canBeAt 77 = .ok (.iload_n 2, 1) := by decide +kernel
theorem dX8_canBeAt_78 : decode cX8_canBeAt 78 = .ok (.iconst 1, 1) := by decide +kernel
theorem dX8_canBeAt_79 : decode cX8_canBeAt 79 = .ok (.invokestatic 47, 3) := by decide +kernel
theorem dX8_canBeAt_82 : decode cX8_canBeAt 82 = .ok (.aload_n 1, 1) := by decide +kernel
theorem dX8_canBeAt_83 : decode cX8_canBeAt 83 = .ok (.iconst 2, 1) := by decide +kernel
theorem dX8_canBeAt_84 : decode cX8_canBeAt 84 = .ok (.iaload, 1) := by decide +kernel
theorem dX8_canBeAt_85 : decode cX8_canBeAt 85 = .ok (.aload_n 1, 1) := by decide +kernel
theorem dX8_canBeAt_86 : decode cX8_canBeAt 86 = .ok (.iload 5, 2) := by decide +kernel
theorem dX8_canBeAt_88 : decode cX8_canBeAt 88 = .ok (.iconst 2, 1) := by decide +kernel
theorem dX8_canBeAt_89 : decode cX8_canBeAt 89 = .ok (.invokestatic 74, 3) := by decide +kernel
theorem dX8_canBeAt_92 : decode cX8_canBeAt 92 = .ok (.isub, 1) := by decide +kernel
theorem dX8_canBeAt_93 : decode cX8_canBeAt 93 = .ok (.imul, 1) := by decide +kernel
theorem dX8_canBeAt_94 : decode cX8_canBeAt 94 = .ok (.invokevirtual 77, 3) := by decide +kernel
theorem dX8_canBeAt_97 : decode cX8_canBeAt 97 = .ok (.istore 4, 2) := by decide +kernel
theorem dX8_canBeAt_99 : decode cX8_canBeAt 99 = .ok (.iinc 5 1, 3) := by decide +kernel
theorem dX8_canBeAt_102 : decode cX8_canBeAt 102 = .ok (.goto (-69), 3) := by decide +kernel
theorem dX8_canBeAt_105 : decode cX8_canBeAt 105 = .ok (.iload 4, 2) := by decide +kernel
theorem dX8_canBeAt_107 : decode cX8_canBeAt 107 = .ok (.ireturn, 1) := by decide +kernel
theorem dX8_loseOn_0 : decode cX8_loseOn 0 = .ok (.aload_n 0, 1) := by decide +kernel
theorem dX8_loseOn_1 : decode cX8_loseOn 1 = .ok (.iconst 0, 1) := by decide +kernel
theorem dX8_loseOn_2 : decode cX8_loseOn 2 = .ok (.iaload, 1) := by decide +kernel
theorem dX8_loseOn_3 : decode cX8_loseOn 3 = .ok (.istore 5, 2) := by decide +kernel
theorem dX8_loseOn_5 : decode cX8_loseOn 5 = .ok (.bipush 40, 2) := by decide +kernel
theorem dX8_loseOn_7 : decode cX8_loseOn 7 = .ok (.bipush 8, 2) := by decide +kernel
theorem dX8_loseOn_9 : decode cX8_loseOn 9 = .ok (.iload 5, 2) := by decide +kernel
theorem dX8_loseOn_11 : decode cX8_loseOn 11 = .ok (.imul, 1) := by decide +kernel
theorem dX8_loseOn_12 : decode cX8_loseOn 12 = .ok (.iadd, 1) := by decide +kernel
theorem dX8_loseOn_13 : decode cX8_loseOn 13 = .ok (.istore 6, 2) := by decide +kernel
theorem dX8_loseOn_15 : decode cX8_loseOn 15 = .ok (.aload_n 0, 1) := by decide +kernel
theorem dX8_loseOn_16 : decode cX8_loseOn 16 = .ok (.iload 6, 2) := by decide +kernel
theorem dX8_loseOn_18 : decode cX8_loseOn 18 = .ok (.iconst 0, 1) := by decide +kernel
theorem dX8_loseOn_19 : decode cX8_loseOn 19 = .ok (.iadd, 1) := by decide +kernel
theorem dX8_loseOn_20 : decode cX8_loseOn 20 = .ok (.iload_n 1, 1) := by decide +kernel
theorem dX8_loseOn_21 : decode cX8_loseOn 21 = .ok (.iastore, 1) := by decide +kernel
theorem dX8_loseOn_22 : decode cX8_loseOn 22 = .ok (.aload_n 0, 1) := by decide +kernel
theorem dX8_loseOn_23 : decode cX8_loseOn 23 = .ok (.iload 6, 2) := by decide +kernel
theorem dX8_loseOn_25 : decode cX8_loseOn 25 = .ok (.iconst 1, 1) := by decide +kernel
theorem dX8_loseOn_26 : decode cX8_loseOn 26 = .ok (.iadd, 1) := by decide +kernel
theorem dX8_loseOn_27 : decode cX8_loseOn 27 = .ok (.iload_n 2, 1) := by decide +kernel
theorem dX8_loseOn_28 : decode cX8_loseOn 28 = .ok (.iastore, 1) := by decide +kernel
theorem dX8_loseOn_29 : decode cX8_loseOn 29 = .ok (.aload_n 0, 1) := by decide +kernel
theorem dX8_loseOn_30 : decode cX8_loseOn 30 = .ok (.iload 6, 2) := by decide +kernel
theorem dX8_loseOn_32 : decode cX8_loseOn 32 = .ok (.iconst 2, 1) := by decide +kernel
theorem dX8_loseOn_33 : decode cX8_loseOn 33 = .ok (.iadd, 1) := by decide +kernel
theorem dX8_loseOn_34 : decode cX8_loseOn 34 = .ok (.iload_n 3, 1) := by decide +kernel
theorem dX8_loseOn_35 : decode cX8_loseOn 35 = .ok (.iastore, 1) := by decide +kernel
theorem dX8_loseOn_36 : decode cX8_loseOn 36 = .ok (.aload_n 0, 1) := by decide +kernel
theorem dX8_loseOn_37 : decode cX8_loseOn 37 = .ok (.iload 6, 2) := by decide +kernel
theorem dX8_loseOn_39 : decode cX8_loseOn 39 = .ok (.iconst 3, 1) := by decide +kernel
theorem dX8_loseOn_40 : decode cX8_loseOn 40 = .ok (.iadd, 1) := by decide +kernel
theorem dX8_loseOn_41 : decode cX8_loseOn 41 = .ok (.aload_n 0, 1) := by decide +kernel
theorem dX8_loseOn_42 : decode cX8_loseOn 42 = .ok (.iconst 2, 1) := by decide +kernel
theorem dX8_loseOn_43 : decode cX8_loseOn 43 = .ok (.iaload, 1) := by decide +kernel
theorem dX8_loseOn_44 : decode cX8_loseOn 44 = .ok (.iastore, 1) := by decide +kernel
theorem dX8_loseOn_45 : decode cX8_loseOn 45 = .ok (.aload_n 0, 1) := by decide +kernel
theorem dX8_loseOn_46 : decode cX8_loseOn 46 = .ok (.iload 6, 2) := by decide +kernel
theorem dX8_loseOn_48 : decode cX8_loseOn 48 = .ok (.iconst 4, 1) := by decide +kernel
theorem dX8_loseOn_49 : decode cX8_loseOn 49 = .ok (.iadd, 1) := by decide +kernel
theorem dX8_loseOn_50 : decode cX8_loseOn 50 = .ok (.iload 4, 2) := by decide +kernel
theorem dX8_loseOn_52 : decode cX8_loseOn 52 = .ok (.iastore, 1) := by decide +kernel
theorem dX8_loseOn_53 : decode cX8_loseOn 53 = .ok (.aload_n 0, 1) := by decide +kernel
theorem dX8_loseOn_54 : decode cX8_loseOn 54 = .ok (.iload 6, 2) := by decide +kernel
theorem dX8_loseOn_56 : decode cX8_loseOn 56 = .ok (.iconst 5, 1) := by decide +kernel
theorem dX8_loseOn_57 : decode cX8_loseOn 57 = .ok (.iadd, 1) := by decide +kernel
theorem dX8_loseOn_58 : decode cX8_loseOn 58 = .ok (.iconst (-1), 1) := by decide +kernel
theorem dX8_loseOn_59 : decode cX8_loseOn 59 = .ok (.iastore, 1) := by decide +kernel
theorem dX8_loseOn_60 : decode cX8_loseOn 60 = .ok (.aload_n 0, 1) := by decide +kernel
theorem dX8_loseOn_61 : decode cX8_loseOn 61 = .ok (.iload 6, 2) := by decide +kernel
theorem dX8_loseOn_63 : decode cX8_loseOn 63 = .ok (.bipush 6, 2) := by decide +kernel
theorem dX8_loseOn_65 : decode cX8_loseOn 65 = .ok (.iadd, 1) := by decide +kernel
theorem dX8_loseOn_66 : decode cX8_loseOn 66 = .ok (.iconst (-1), 1) := by decide +kernel
theorem dX8_loseOn_67 : decode cX8_loseOn 67 = .ok (.iastore, 1) := by decide +kernel
theorem dX8_loseOn_68 : decode cX8_loseOn 68 = .ok (.aload_n 0, 1) := by decide +kernel
theorem dX8_loseOn_69 : decode cX8_loseOn 69 = .ok (.iload 6, 2) := by decide +kernel
theorem dX8_loseOn_71 : decode cX8_loseOn 71 = .ok (.bipush 7, 2) := by decide +kernel
theorem dX8_loseOn_73 : decode cX8_loseOn 73 = .ok (.iadd, 1) := by decide +kernel
theorem dX8_loseOn_74 : decode cX8_loseOn 74 = .ok (.iconst (-1), 1) := by decide +kernel
theorem dX8_loseOn_75 : decode cX8_loseOn 75 = .ok (.iastore, 1) := by decide +kernel
theorem dX8_loseOn_76 : decode cX8_loseOn 76 = .ok (.aload_n 0, 1) := by decide +kernel
theorem dX8_loseOn_77 : decode cX8_loseOn 77 = .ok (.iconst 3, 1) := by decide +kernel
theorem dX8_loseOn_78 : decode cX8_loseOn 78 = .ok (.dup2, 1) := by decide +kernel
theorem dX8_loseOn_79 : decode cX8_loseOn 79 = .ok (.iaload, 1) := by decide +kernel
theorem dX8_loseOn_80 : decode cX8_loseOn 80 = .ok (.iload 4, 2) := by decide +kernel
theorem dX8_loseOn_82 : decode cX8_loseOn 82 = .ok (.iadd, 1) := by decide +kernel
theorem dX8_loseOn_83 : decode cX8_loseOn 83 = .ok (.iastore, 1) := by decide +kernel
theorem dX8_loseOn_84 : decode cX8_loseOn 84 = .ok (.aload_n 0, 1) := by decide +kernel
theorem dX8_loseOn_85 : decode cX8_loseOn 85 = .ok (.iconst 0, 1) := by decide +kernel
theorem dX8_loseOn_86 : decode cX8_loseOn 86 = .ok (.dup2, 1) := by decide +kernel
theorem dX8_loseOn_87 : decode cX8_loseOn 87 = .ok (.iaload, 1) := by decide +kernel
theorem dX8_loseOn_88 : decode cX8_loseOn 88 = .ok (.iconst 1, 1) := by decide +kernel
theorem dX8_loseOn_89 : decode cX8_loseOn 89 = .ok (.iadd, 1) := by decide +kernel
theorem dX8_loseOn_90 : decode cX8_loseOn 90 = .ok (.iastore, 1) := by decide +kernel
theorem dX8_loseOn_91 : decode cX8_loseOn 91 = .ok (.iload 5, 2) := by decide +kernel
theorem dX8_loseOn_93 : decode cX8_loseOn 93 = .ok (.ireturn, 1) := by decide +kernel
theorem dX8_sightOn_0 : decode cX8_sightOn 0 = .ok (.bipush 88, 2) := by decide +kernel
theorem dX8_sightOn_2 : decode cX8_sightOn 2 = .ok (.bipush 8, 2) := by decide +kernel
theorem dX8_sightOn_4 : decode cX8_sightOn 4 = .ok (.aload_n 0, 1) := by decide +kernel
theorem dX8_sightOn_5 : decode cX8_sightOn 5 = .ok (.iconst 1, 1) := by decide +kernel
theorem dX8_sightOn_6 : decode cX8_sightOn 6 = .ok (.iaload, 1) := by decide +kernel
theorem dX8_sightOn_7 : decode cX8_sightOn 7 = .ok (.imul, 1) := by decide +kernel
theorem dX8_sightOn_8 : decode cX8_sightOn 8 = .ok (.iadd, 1) := by decide +kernel
theorem dX8_sightOn_9 : decode cX8_sightOn 9 = .ok (.istore 6, 2) := by decide +kernel
theorem dX8_sightOn_11 : decode cX8_sightOn 11 = .ok (.aload_n 0, 1) := by decide +kernel
theorem dX8_sightOn_12 : decode cX8_sightOn 12 = .ok (.iload 6, 2) := by decide +kernel
theorem dX8_sightOn_14 : decode cX8_sightOn 14 = .ok (.iconst 0, 1) := by decide +kernel
theorem dX8_sightOn_15 : decode cX8_sightOn 15 = .ok (.iadd, 1) := by decide +kernel
theorem dX8_sightOn_16 : decode cX8_sightOn 16 = .ok (.iload_n 1, 1) := by decide +kernel
theorem dX8_sightOn_17 : decode cX8_sightOn 17 = .ok (.iastore, 1) := by decide +kernel
theorem dX8_sightOn_18 : decode cX8_sightOn 18 = .ok (.aload_n 0, 1) := by decide +kernel
theorem dX8_sightOn_19 : decode cX8_sightOn 19 = .ok (.iload 6, 2) := by decide +kernel
theorem dX8_sightOn_21 : decode cX8_sightOn 21 = .ok (.iconst 1, 1) := by decide +kernel
theorem dX8_sightOn_22 : decode cX8_sightOn 22 = .ok (.iadd, 1) := by decide +kernel
theorem dX8_sightOn_23 : decode cX8_sightOn 23 = .ok (.iload_n 2, 1) := by decide +kernel
theorem dX8_sightOn_24 : decode cX8_sightOn 24 = .ok (.iastore, 1) := by decide +kernel
theorem dX8_sightOn_25 : decode cX8_sightOn 25 = .ok (.aload_n 0, 1) := by decide +kernel
theorem dX8_sightOn_26 : decode cX8_sightOn 26 = .ok (.iload 6, 2) := by decide +kernel
theorem dX8_sightOn_28 : decode cX8_sightOn 28 = .ok (.iconst 2, 1) := by decide +kernel
theorem dX8_sightOn_29 : decode cX8_sightOn 29 = .ok (.iadd, 1) := by decide +kernel
theorem dX8_sightOn_30 : decode cX8_sightOn 30 = .ok (.aload_n 0, 1) := by decide +kernel
theorem dX8_sightOn_31 : decode cX8_sightOn 31 = .ok (.iconst 2, 1) := by decide +kernel
theorem dX8_sightOn_32 : decode cX8_sightOn 32 = .ok (.iaload, 1) := by decide +kernel
theorem dX8_sightOn_33 : decode cX8_sightOn 33 = .ok (.iload 4, 2) := by decide +kernel
theorem dX8_sightOn_35 : decode cX8_sightOn 35 = .ok (.isub, 1) := by decide +kernel
theorem dX8_sightOn_36 : decode cX8_sightOn 36 = .ok (.iastore, 1) := by decide +kernel
theorem dX8_sightOn_37 : decode cX8_sightOn 37 = .ok (.aload_n 0, 1) := by decide +kernel
theorem dX8_sightOn_38 : decode cX8_sightOn 38 = .ok (.iload 6, 2) := by decide +kernel
theorem dX8_sightOn_40 : decode cX8_sightOn 40 = .ok (.iconst 3, 1) := by decide +kernel
theorem dX8_sightOn_41 : decode cX8_sightOn 41 = .ok (.iadd, 1) := by decide +kernel
theorem dX8_sightOn_42 : decode cX8_sightOn 42 = .ok (.iload_n 3, 1) := by decide +kernel
theorem dX8_sightOn_43 : decode cX8_sightOn 43 = .ok (.iastore, 1) := by decide +kernel
theorem dX8_sightOn_44 : decode cX8_sightOn 44 = .ok (.aload_n 0, 1) := by decide +kernel
theorem dX8_sightOn_45 : decode cX8_sightOn 45 = .ok (.iload 6, 2) := by decide +kernel
theorem dX8_sightOn_47 : decode cX8_sightOn 47 = .ok (.iconst 4, 1) := by decide +kernel
theorem dX8_sightOn_48 : decode cX8_sightOn 48 = .ok (.iadd, 1) := by decide +kernel
theorem dX8_sightOn_49 : decode cX8_sightOn 49 = .ok (.iload 5, 2) := by decide +kernel
theorem dX8_sightOn_51 : decode cX8_sightOn 51 = .ok (.ifCond .eq 7, 3) := by decide +kernel
theorem dX8_sightOn_54 : decode cX8_sightOn 54 = .ok (.iconst 1, 1) := by decide +kernel
theorem dX8_sightOn_55 : decode cX8_sightOn 55 = .ok (.goto 4, 3) := by decide +kernel
theorem dX8_sightOn_58 : decode cX8_sightOn 58 = .ok (.iconst 0, 1) := by decide +kernel
theorem dX8_sightOn_59 : decode cX8_sightOn 59 = .ok (.iastore, 1) := by decide +kernel
theorem dX8_sightOn_60 : decode cX8_sightOn 60 = .ok (.aload_n 0, 1) := by decide +kernel
theorem dX8_sightOn_61 : decode cX8_sightOn 61 = .ok (.iload 6, 2) := by decide +kernel
theorem dX8_sightOn_63 : decode cX8_sightOn 63 = .ok (.iconst 5, 1) := by decide +kernel
theorem dX8_sightOn_64 : decode cX8_sightOn 64 = .ok (.iadd, 1) := by decide +kernel
theorem dX8_sightOn_65 : decode cX8_sightOn 65 = .ok (.aload_n 0, 1) := by decide +kernel
theorem dX8_sightOn_66 : decode cX8_sightOn 66 = .ok (.iload_n 3, 1) := by decide +kernel
theorem dX8_sightOn_67 : decode cX8_sightOn 67 = .ok (.aload_n 0, 1) := by decide +kernel
theorem dX8_sightOn_68 : decode cX8_sightOn 68 = .ok (.iconst 2, 1) := by decide +kernel
theorem dX8_sightOn_69 : decode cX8_sightOn 69 = .ok (.iaload, 1) := by decide +kernel
theorem dX8_sightOn_70 : decode cX8_sightOn 70 = .ok (.iload 4, 2) := by decide +kernel
theorem dX8_sightOn_72 : decode cX8_sightOn 72 = .ok (.isub, 1) := by decide +kernel
theorem dX8_sightOn_73 : decode cX8_sightOn 73 = .ok (.invokestatic 91, 3) := by decide +kernel
theorem dX8_sightOn_76 : decode cX8_sightOn 76 = .ok (.iastore, 1) := by decide +kernel
theorem dX8_sightOn_77 : decode cX8_sightOn 77 = .ok (.aload_n 0, 1) := by decide +kernel
theorem dX8_sightOn_78 : decode cX8_sightOn 78 = .ok (.iload 6, 2) := by decide +kernel
theorem dX8_sightOn_80 : decode cX8_sightOn 80 = .ok (.bipush 6, 2) := by decide +kernel
theorem dX8_sightOn_82 : decode cX8_sightOn 82 = .ok (.iadd, 1) := by decide +kernel
theorem dX8_sightOn_83 : decode cX8_sightOn 83 = .ok (.iconst 0, 1) := by decide +kernel
theorem dX8_sightOn_84 : decode cX8_sightOn 84 = .ok (.iastore, 1) := by decide +kernel
theorem dX8_sightOn_85 : decode cX8_sightOn 85 = .ok (.aload_n 0, 1) := by decide +kernel
theorem dX8_sightOn_86 : decode cX8_sightOn 86 = .ok (.iload 6, 2) := by decide +kernel
theorem dX8_sightOn_88 : decode cX8_sightOn 88 = .ok (.bipush 7, 2) := by decide +kernel
theorem dX8_sightOn_90 : decode cX8_sightOn 90 = .ok (.iadd, 1) := by decide +kernel
theorem dX8_sightOn_91 : decode cX8_sightOn 91 = .ok (.iconst 0, 1) := by decide +kernel
theorem dX8_sightOn_92 : decode cX8_sightOn 92 = .ok (.iastore, 1) := by decide +kernel
theorem dX8_sightOn_93 : decode cX8_sightOn 93 = .ok (.aload_n 0, 1) := by decide +kernel
theorem dX8_sightOn_94 : decode cX8_sightOn 94 = .ok (.iconst 1, 1) := by decide +kernel
theorem dX8_sightOn_95 : decode cX8_sightOn 95 = .ok (.dup2, 1) := by decide +kernel
theorem dX8_sightOn_96 : decode cX8_sightOn 96 = .ok (.iaload, 1) := by decide +kernel
theorem dX8_sightOn_97 : decode cX8_sightOn 97 = .ok (.iconst 1, 1) := by decide +kernel
theorem dX8_sightOn_98 : decode cX8_sightOn 98 = .ok (.iadd, 1) := by decide +kernel
theorem dX8_sightOn_99 : decode cX8_sightOn 99 = .ok (.iastore, 1) := by decide +kernel
theorem dX8_sightOn_100 : decode cX8_sightOn 100 = .ok (.aload_n 0, 1) := by decide +kernel
theorem dX8_sightOn_101 : decode cX8_sightOn 101 = .ok (.iload 6, 2) := by decide +kernel
theorem dX8_sightOn_103 : decode cX8_sightOn 103 = .ok (.iconst 5, 1) := by decide +kernel
theorem dX8_sightOn_104 : decode cX8_sightOn 104 = .ok (.iadd, 1) := by decide +kernel
theorem dX8_sightOn_105 : decode cX8_sightOn 105 = .ok (.iaload, 1) := by decide +kernel
theorem dX8_sightOn_106 : decode cX8_sightOn 106 = .ok (.ireturn, 1) := by decide +kernel
theorem dX8_helps_0 : decode cX8_helps 0 = .ok (.iconst 0, 1) := by decide +kernel
theorem dX8_helps_1 : decode cX8_helps 1 = .ok (.istore 5, 2) := by decide +kernel
theorem dX8_helps_3 : decode cX8_helps 3 = .ok (.iload 5, 2) := by decide +kernel
theorem dX8_helps_5 : decode cX8_helps 5 = .ok (.bipush 8, 2) := by decide +kernel
theorem dX8_helps_7 : decode cX8_helps 7 = .ok (.if_icmp .ge 27, 3) := by decide +kernel
theorem dX8_helps_10 : decode cX8_helps 10 = .ok (.aload_n 0, 1) := by decide +kernel
theorem dX8_helps_11 : decode cX8_helps 11 = .ok (.getfield 32, 3) := by decide +kernel
theorem dX8_helps_14 : decode cX8_helps 14 = .ok (.iload 5, 2) := by decide +kernel
theorem dX8_helps_16 : decode cX8_helps 16 = .ok (.iload 5, 2) := by decide +kernel
theorem dX8_helps_18 : decode cX8_helps 18 = .ok (.iload_n 3, 1) := by decide +kernel
theorem dX8_helps_19 : decode cX8_helps 19 = .ok (.if_icmp .ne 7, 3) := by decide +kernel
theorem dX8_helps_22 : decode cX8_helps 22 = .ok (.iconst 3, 1) := by decide +kernel
theorem dX8_helps_23 : decode cX8_helps 23 = .ok (.goto 4, 3) := by decide +kernel
theorem dX8_helps_26 : decode cX8_helps 26 = .ok (.iconst 0, 1) := by decide +kernel
theorem dX8_helps_27 : decode cX8_helps 27 = .ok (.iastore, 1) := by decide +kernel
theorem dX8_helps_28 : decode cX8_helps 28 = .ok (.iinc 5 1, 3) := by decide +kernel
theorem dX8_helps_31 : decode cX8_helps 31 = .ok (.goto (-28), 3) := by decide +kernel
theorem dX8_helps_34 : decode cX8_helps 34 = .ok (.iconst 3, 1) := by decide +kernel
theorem dX8_helps_35 : decode cX8_helps 35 = .ok (.istore 5, 2) := by decide +kernel
theorem dX8_helps_37 : decode cX8_helps 37 = .ok (.iconst 0, 1) := by decide +kernel
theorem dX8_helps_38 : decode cX8_helps 38 = .ok (.istore 6, 2) := by decide +kernel
theorem dX8_helps_40 : decode cX8_helps 40 = .ok (.iload 6, 2) := by decide +kernel
theorem dX8_helps_42 : decode cX8_helps 42 = .ok (.aload_n 1, 1) := by decide +kernel
theorem dX8_helps_43 : decode cX8_helps 43 = .ok (.iconst 1, 1) := by decide +kernel
theorem dX8_helps_44 : decode cX8_helps 44 = .ok (.iaload, 1) := by decide +kernel
theorem dX8_helps_45 : decode cX8_helps 45 = .ok (.if_icmp .ge 88, 3) := by decide +kernel
theorem dX8_helps_48 : decode cX8_helps 48 = .ok (.aload_n 1, 1) := by decide +kernel
theorem dX8_helps_49 : decode cX8_helps 49 = .ok (.iload 6, 2) := by decide +kernel
theorem dX8_helps_51 : decode cX8_helps 51 = .ok (.iconst 5, 1) := by decide +kernel
theorem dX8_helps_52 : decode cX8_helps 52 = .ok (.invokestatic 74, 3) := by decide +kernel
theorem dX8_helps_55 : decode cX8_helps 55 = .ok (.iload_n 2, 1) := by decide +kernel
theorem dX8_helps_56 : decode cX8_helps 56 = .ok (.if_icmp .ne 71, 3) := by decide +kernel
theorem dX8_helps_59 : decode cX8_helps 59 = .ok (.aload_n 0, 1) := by decide +kernel
theorem dX8_helps_60 : decode cX8_helps 60 = .ok (.aload_n 1, 1) := by decide +kernel
theorem dX8_helps_61 : decode cX8_helps 61 = .ok (.iload 6, 2) := by decide +kernel
theorem dX8_helps_63 : decode cX8_helps 63 = .ok (.invokevirtual 88, 3) := by decide +kernel
theorem dX8_helps_66 : decode cX8_helps 66 = .ok (.ifCond .ne 61, 3) := by decide +kernel
theorem dX8_helps_69 : decode cX8_helps 69 = .ok (.iconst 1, 1) := by decide +kernel
theorem dX8_helps_70 : decode cX8_helps 70 = .ok (.aload_n 1, 1) := by decide +kernel
theorem dX8_helps_71 : decode cX8_helps 71 = .ok (.iload 6, 2) := by decide +kernel
theorem dX8_helps_73 : decode cX8_helps 73 = .ok (.iconst 4, 1) := by decide +kernel
theorem dX8_helps_74 : decode cX8_helps 74 = .ok (.invokestatic 74, 3) := by decide +kernel
theorem dX8_helps_77 : decode cX8_helps 77 = .ok (.iadd, 1) := by decide +kernel
theorem dX8_helps_78 : decode cX8_helps 78 = .ok (.aload_n 0, 1) := by decide +kernel
theorem dX8_helps_79 : decode cX8_helps 79 = .ok (.aload_n 1, 1) := by decide +kernel
theorem dX8_helps_80 : decode cX8_helps 80 = .ok (.iload 6, 2) := by decide +kernel
theorem dX8_helps_82 : decode cX8_helps 82 = .ok (.iconst 1, 1) := by decide +kernel
theorem dX8_helps_83 : decode cX8_helps 83 = .ok (.invokestatic 74, 3) := by decide +kernel
theorem dX8_helps_86 : decode cX8_helps 86 = .ok (.iload 4, 2) := by decide +kernel
theorem dX8_helps_88 : decode cX8_helps 88 = .ok (.iconst 1, 1) := by decide +kernel
theorem dX8_helps_89 : decode cX8_helps 89 = .ok (.invokevirtual 77, 3) := by decide +kernel
theorem dX8_helps_92 : decode cX8_helps 92 = .ok (.ifCond .eq 7, 3) := by decide +kernel
theorem dX8_helps_95 : decode cX8_helps 95 = .ok (.iconst 1, 1) := by decide +kernel
theorem dX8_helps_96 : decode cX8_helps 96 = .ok (.goto 4, 3) := by decide +kernel
theorem dX8_helps_99 : decode cX8_helps 99 = .ok (.iconst 0, 1) := by decide +kernel
theorem dX8_helps_100 : decode cX8_helps 100 = .ok (.iadd, 1) := by decide +kernel
theorem dX8_helps_101 : decode cX8_helps 101 = .ok (.istore 7, 2) := by decide +kernel
theorem dX8_helps_103 : decode cX8_helps 103 = .ok (.aload_n 0, 1) := by decide +kernel
theorem dX8_helps_104 : decode cX8_helps 104 = .ok (.getfield 32, 3) := by decide +kernel
theorem dX8_helps_107 : decode cX8_helps 107 = .ok (.aload_n 1, 1) := by decide +kernel
theorem dX8_helps_108 : decode cX8_helps 108 = .ok (.iload 6, 2) := by decide +kernel
theorem dX8_helps_110 : decode cX8_helps 110 = .ok (.iconst 0, 1) := by decide +kernel
theorem dX8_helps_111 : decode cX8_helps 111 = .ok (.invokestatic 74, 3) := by decide +kernel
theorem dX8_helps_114 : decode cX8_helps 114 = .ok (.dup2, 1) := by decide +kernel
theorem dX8_helps_115 : decode cX8_helps 115 = .ok (.iaload, 1) := by decide +kernel
theorem dX8_helps_116 : decode cX8_helps 116 = .ok (.iload 7, 2) := by decide +kernel
theorem dX8_helps_118 : decode cX8_helps 118 = .ok (.iadd, 1) := by decide +kernel
theorem dX8_helps_119 : decode cX8_helps 119 = .ok (.iastore, 1) := by decide +kernel
theorem dX8_helps_120 : decode cX8_helps 120 = .ok (.iload 5, 2) := by decide +kernel
theorem dX8_helps_122 : decode cX8_helps 122 = .ok (.iload 7, 2) := by decide +kernel
theorem dX8_helps_124 : decode cX8_helps 124 = .ok (.iadd, 1) := by decide +kernel
theorem dX8_helps_125 : decode cX8_helps 125 = .ok (.istore 5, 2) := by decide +kernel
theorem dX8_helps_127 : decode cX8_helps 127 = .ok (.iinc 6 1, 3) := by decide +kernel
theorem dX8_helps_130 : decode cX8_helps 130 = .ok (.goto (-90), 3) := by decide +kernel
theorem dX8_helps_133 : decode cX8_helps 133 = .ok (.iload 5, 2) := by decide +kernel
theorem dX8_helps_135 : decode cX8_helps 135 = .ok (.ireturn, 1) := by decide +kernel
theorem dX8_findOn_0 : decode cX8_findOn 0 = .ok (.aload_n 0, 1) := by decide +kernel
theorem dX8_findOn_1 : decode cX8_findOn 1 = .ok (.aload_n 1, 1) := by decide +kernel
theorem dX8_findOn_2 : decode cX8_findOn 2 = .ok (.invokevirtual 94, 3) := by decide +kernel
theorem dX8_findOn_5 : decode cX8_findOn 5 = .ok (.aload_n 0, 1) := by decide +kernel
theorem dX8_findOn_6 : decode cX8_findOn 6 = .ok (.aload_n 1, 1) := by decide +kernel
theorem dX8_findOn_7 : decode cX8_findOn 7 = .ok (.iload_n 2, 1) := by decide +kernel
theorem dX8_findOn_8 : decode cX8_findOn 8 = .ok (.iload_n 3, 1) := by decide +kernel
theorem dX8_findOn_9 : decode cX8_findOn 9 = .ok (.iload 4, 2) := by decide +kernel
theorem dX8_findOn_11 : decode cX8_findOn 11 = .ok (.invokevirtual 97, 3) := by decide +kernel
theorem dX8_findOn_14 : decode cX8_findOn 14 = .ok (.istore 5, 2) := by decide +kernel
theorem dX8_findOn_16 : decode cX8_findOn 16 = .ok (.bipush 40, 2) := by decide +kernel
theorem dX8_findOn_18 : decode cX8_findOn 18 = .ok (.bipush 8, 2) := by decide +kernel
theorem dX8_findOn_20 : decode cX8_findOn 20 = .ok (.iload_n 2, 1) := by decide +kernel
theorem dX8_findOn_21 : decode cX8_findOn 21 = .ok (.imul, 1) := by decide +kernel
theorem dX8_findOn_22 : decode cX8_findOn 22 = .ok (.iadd, 1) := by decide +kernel
theorem dX8_findOn_23 : decode cX8_findOn 23 = .ok (.istore 6, 2) := by decide +kernel
theorem dX8_findOn_25 : decode cX8_findOn 25 = .ok (.aload_n 1, 1) := by decide +kernel
theorem dX8_findOn_26 : decode cX8_findOn 26 = .ok (.iload 6, 2) := by decide +kernel
theorem dX8_findOn_28 : decode cX8_findOn 28 = .ok (.iconst 4, 1) := by decide +kernel
theorem dX8_findOn_29 : decode cX8_findOn 29 = .ok (.iadd, 1) := by decide +kernel
theorem dX8_findOn_30 : decode cX8_findOn 30 = .ok (.iaload, 1) := by decide +kernel
theorem dX8_findOn_31 : decode cX8_findOn 31 = .ok (.istore 7, 2) := by decide +kernel
theorem dX8_findOn_33 : decode cX8_findOn 33 = .ok (.iconst 0, 1) := by decide +kernel
theorem dX8_findOn_34 : decode cX8_findOn 34 = .ok (.istore 8, 2) := by decide +kernel
theorem dX8_findOn_36 : decode cX8_findOn 36 = .ok (.iload 8, 2) := by decide +kernel
theorem dX8_findOn_38 : decode cX8_findOn 38 = .ok (.bipush 8, 2) := by decide +kernel
theorem dX8_findOn_40 : decode cX8_findOn 40 = .ok (.if_icmp .ge 55, 3) := by decide +kernel
theorem dX8_findOn_43 : decode cX8_findOn 43 = .ok (.aload_n 1, 1) := by decide +kernel
theorem dX8_findOn_44 : decode cX8_findOn 44 = .ok (.iload 6, 2) := by decide +kernel
theorem dX8_findOn_46 : decode cX8_findOn 46 = .ok (.iconst 4, 1) := by decide +kernel
theorem dX8_findOn_47 : decode cX8_findOn 47 = .ok (.iadd, 1) := by decide +kernel
theorem dX8_findOn_48 : decode cX8_findOn 48 = .ok (.iaload, 1) := by decide +kernel
theorem dX8_findOn_49 : decode cX8_findOn 49 = .ok (.aload_n 0, 1) := by decide +kernel
theorem dX8_findOn_50 : decode cX8_findOn 50 = .ok (.getfield 32, 3) := by decide +kernel
theorem dX8_findOn_53 : decode cX8_findOn 53 = .ok (.iload 8, 2) := by decide +kernel
theorem dX8_findOn_55 : decode cX8_findOn 55 = .ok (.iaload, 1) := by decide +kernel
theorem dX8_findOn_56 : decode cX8_findOn 56 = .ok (.imul, 1) := by decide +kernel
theorem dX8_findOn_57 : decode cX8_findOn 57 = .ok (.iload 5, 2) := by decide +kernel
theorem dX8_findOn_59 : decode cX8_findOn 59 = .ok (.idiv, 1) := by decide +kernel
theorem dX8_findOn_60 : decode cX8_findOn 60 = .ok (.istore 9, 2) := by decide +kernel
theorem dX8_findOn_62 : decode cX8_findOn 62 = .ok (.aload_n 1, 1) := by decide +kernel
theorem dX8_findOn_63 : decode cX8_findOn 63 = .ok (.bipush 8, 2) := by decide +kernel
theorem dX8_findOn_65 : decode cX8_findOn 65 = .ok (.iload 8, 2) := by decide +kernel
theorem dX8_findOn_67 : decode cX8_findOn 67 = .ok (.iadd, 1) := by decide +kernel
theorem dX8_findOn_68 : decode cX8_findOn 68 = .ok (.dup2, 1) := by decide +kernel
theorem dX8_findOn_69 : decode cX8_findOn 69 = .ok (.iaload, 1) := by decide +kernel
theorem dX8_findOn_70 : decode cX8_findOn 70 = .ok (.iload 9, 2) := by decide +kernel
theorem dX8_findOn_72 : decode cX8_findOn 72 = .ok (.iadd, 1) := by decide +kernel
theorem dX8_findOn_73 : decode cX8_findOn 73 = .ok (.iastore, 1) := by decide +kernel
theorem dX8_findOn_74 : decode cX8_findOn 74 = .ok (.aload_n 1, 1) := by decide +kernel
theorem dX8_findOn_75 : decode cX8_findOn 75 = .ok (.iconst 4, 1) := by decide +kernel
theorem dX8_findOn_76 : decode cX8_findOn 76 = .ok (.dup2, 1) := by decide +kernel
theorem dX8_findOn_77 : decode cX8_findOn 77 = .ok (.iaload, 1) := by decide +kernel
theorem dX8_findOn_78 : decode cX8_findOn 78 = .ok (.iload 9, 2) := by decide +kernel
theorem dX8_findOn_80 : decode cX8_findOn 80 = .ok (.iadd, 1) := by decide +kernel
theorem dX8_findOn_81 : decode cX8_findOn 81 = .ok (.iastore, 1) := by decide +kernel
theorem dX8_findOn_82 : decode cX8_findOn 82 = .ok (.iload 7, 2) := by decide +kernel
theorem dX8_findOn_84 : decode cX8_findOn 84 = .ok (.iload 9, 2) := by decide +kernel
theorem dX8_findOn_86 : decode cX8_findOn 86 = .ok (.isub, 1) := by decide +kernel
theorem dX8_findOn_87 : decode cX8_findOn 87 = .ok (.istore 7, 2) := by decide +kernel
theorem dX8_findOn_89 : decode cX8_findOn 89 = .ok (.iinc 8 1, 3) := by decide +kernel
theorem dX8_findOn_92 : decode cX8_findOn 92 = .ok (.goto (-56), 3) := by decide +kernel
theorem dX8_findOn_95 : decode cX8_findOn 95 = .ok (.aload_n 1, 1) := by decide +kernel
theorem dX8_findOn_96 : decode cX8_findOn 96 = .ok (.iconst 5, 1) := by decide +kernel
theorem dX8_findOn_97 : decode cX8_findOn 97 = .ok (.dup2, 1) := by decide +kernel
theorem dX8_findOn_98 : decode cX8_findOn 98 = .ok (.iaload, 1) := by decide +kernel
theorem dX8_findOn_99 : decode cX8_findOn 99 = .ok (.iload 7, 2) := by decide +kernel
theorem dX8_findOn_101 : decode cX8_findOn 101 = .ok (.iadd, 1) := by decide +kernel
theorem dX8_findOn_102 : decode cX8_findOn 102 = .ok (.iastore, 1) := by decide +kernel
theorem dX8_findOn_103 : decode cX8_findOn 103 = .ok (.aload_n 0, 1) := by decide +kernel
theorem dX8_findOn_104 : decode cX8_findOn 104 = .ok (.aload_n 1, 1) := by decide +kernel
theorem dX8_findOn_105 : decode cX8_findOn 105 = .ok (.iload_n 2, 1) := by decide +kernel
theorem dX8_findOn_106 : decode cX8_findOn 106 = .ok (.invokevirtual 101, 3) := by decide +kernel
theorem dX8_findOn_109 : decode cX8_findOn 109 = .ok (.aload_n 1, 1) := by decide +kernel
theorem dX8_findOn_110 : decode cX8_findOn 110 = .ok (.iload 6, 2) := by decide +kernel
theorem dX8_findOn_112 : decode cX8_findOn 112 = .ok (.iconst 5, 1) := by decide +kernel
theorem dX8_findOn_113 : decode cX8_findOn 113 = .ok (.iadd, 1) := by decide +kernel
theorem dX8_findOn_114 : decode cX8_findOn 114 = .ok (.iload 4, 2) := by decide +kernel
theorem dX8_findOn_116 : decode cX8_findOn 116 = .ok (.iastore, 1) := by decide +kernel
theorem dX8_findOn_117 : decode cX8_findOn 117 = .ok (.aload_n 1, 1) := by decide +kernel
theorem dX8_findOn_118 : decode cX8_findOn 118 = .ok (.iload 6, 2) := by decide +kernel
theorem dX8_findOn_120 : decode cX8_findOn 120 = .ok (.bipush 6, 2) := by decide +kernel
theorem dX8_findOn_122 : decode cX8_findOn 122 = .ok (.iadd, 1) := by decide +kernel
theorem dX8_findOn_123 : decode cX8_findOn 123 = .ok (.iload_n 3, 1) := by decide +kernel
theorem dX8_findOn_124 : decode cX8_findOn 124 = .ok (.iastore, 1) := by decide +kernel
theorem dX8_findOn_125 : decode cX8_findOn 125 = .ok (.aload_n 1, 1) := by decide +kernel
theorem dX8_findOn_126 : decode cX8_findOn 126 = .ok (.iload 6, 2) := by decide +kernel
theorem dX8_findOn_128 : decode cX8_findOn 128 = .ok (.bipush 7, 2) := by decide +kernel
theorem dX8_findOn_130 : decode cX8_findOn 130 = .ok (.iadd, 1) := by decide +kernel
theorem dX8_findOn_131 : decode cX8_findOn 131 = .ok (.aload_n 1, 1) := by decide +kernel
theorem dX8_findOn_132 : decode cX8_findOn 132 = .ok (.iconst 2, 1) := by decide +kernel
theorem dX8_findOn_133 : decode cX8_findOn 133 = .ok (.iaload, 1) := by decide +kernel
theorem dX8_findOn_134 : decode cX8_findOn 134 = .ok (.iastore, 1) := by decide +kernel
theorem dX8_findOn_135 : decode cX8_findOn 135 = .ok (.aload_n 1, 1) := by decide +kernel
theorem dX8_findOn_136 : decode cX8_findOn 136 = .ok (.iload 6, 2) := by decide +kernel
theorem dX8_findOn_138 : decode cX8_findOn 138 = .ok (.iconst 4, 1) := by decide +kernel
theorem dX8_findOn_139 : decode cX8_findOn 139 = .ok (.iadd, 1) := by decide +kernel
theorem dX8_findOn_140 : decode cX8_findOn 140 = .ok (.iaload, 1) := by decide +kernel
theorem dX8_findOn_141 : decode cX8_findOn 141 = .ok (.aload_n 0, 1) := by decide +kernel
theorem dX8_findOn_142 : decode cX8_findOn 142 = .ok (.getfield 32, 3) := by decide +kernel
theorem dX8_findOn_145 : decode cX8_findOn 145 = .ok (.iload_n 3, 1) := by decide +kernel
theorem dX8_findOn_146 : decode cX8_findOn 146 = .ok (.iaload, 1) := by decide +kernel
theorem dX8_findOn_147 : decode cX8_findOn 147 = .ok (.imul, 1) := by decide +kernel
theorem dX8_findOn_148 : decode cX8_findOn 148 = .ok (.iload 5, 2) := by decide +kernel
theorem dX8_findOn_150 : decode cX8_findOn 150 = .ok (.idiv, 1) := by decide +kernel
theorem dX8_findOn_151 : decode cX8_findOn 151 = .ok (.ireturn, 1) := by decide +kernel
theorem dX8_settle_0 : decode cX8_settle 0 = .ok (.iconst 0, 1) := by decide +kernel
theorem dX8_settle_1 : decode cX8_settle 1 = .ok (.istore_n 3, 1) := by decide +kernel
theorem dX8_settle_2 : decode cX8_settle 2 = .ok (.iload_n 3, 1) := by decide +kernel
theorem dX8_settle_3 : decode cX8_settle 3 = .ok (.aload_n 1, 1) := by decide +kernel
theorem dX8_settle_4 : decode cX8_settle 4 = .ok (.iconst 1, 1) := by decide +kernel
theorem dX8_settle_5 : decode cX8_settle 5 = .ok (.iaload, 1) := by decide +kernel
theorem dX8_settle_6 : decode cX8_settle 6 = .ok (.if_icmp .ge 71, 3) := by decide +kernel
theorem dX8_settle_9 : decode cX8_settle 9 = .ok (.aload_n 1, 1) := by decide +kernel
theorem dX8_settle_10 : decode cX8_settle 10 = .ok (.iload_n 3, 1) := by decide +kernel
theorem dX8_settle_11 : decode cX8_settle 11 = .ok (.iconst 5, 1) := by decide +kernel
theorem dX8_settle_12 : decode cX8_settle 12 = .ok (.invokestatic 74, 3) := by decide +kernel
theorem dX8_settle_15 : decode cX8_settle 15 = .ok (.iload_n 2, 1) := by decide +kernel
theorem dX8_settle_16 : decode cX8_settle 16 = .ok (.if_icmp .ne 55, 3) := by decide +kernel
theorem dX8_settle_19 : decode cX8_settle 19 = .ok (.aload_n 1, 1) := by decide +kernel
theorem dX8_settle_20 : decode cX8_settle 20 = .ok (.bipush 88, 2) := by decide +kernel
theorem dX8_settle_22 : decode cX8_settle 22 = .ok (.bipush 8, 2) := by decide +kernel
theorem dX8_settle_24 : decode cX8_settle 24 = .ok (.iload_n 3, 1) := by decide +kernel
theorem dX8_settle_25 : decode cX8_settle 25 = .ok (.imul, 1) := by decide +kernel
theorem dX8_settle_26 : decode cX8_settle 26 = .ok (.iadd, 1) := by decide +kernel
theorem dX8_settle_27 : decode cX8_settle 27 = .ok (.bipush 6, 2) := by decide +kernel
theorem dX8_settle_29 : decode cX8_settle 29 = .ok (.iadd, 1) := by decide +kernel
theorem dX8_settle_30 : decode cX8_settle 30 = .ok (.aload_n 0, 1) := by decide +kernel
theorem dX8_settle_31 : decode cX8_settle 31 = .ok (.aload_n 1, 1) := by decide +kernel
theorem dX8_settle_32 : decode cX8_settle 32 = .ok (.iload_n 3, 1) := by decide +kernel
theorem dX8_settle_33 : decode cX8_settle 33 = .ok (.invokevirtual 81, 3) := by decide +kernel
theorem dX8_settle_36 : decode cX8_settle 36 = .ok (.ifCond .eq 7, 3) := by decide +kernel
theorem dX8_settle_39 : decode cX8_settle 39 = .ok (.iconst 1, 1) := by decide +kernel
theorem dX8_settle_40 : decode cX8_settle 40 = .ok (.goto 4, 3) := by decide +kernel
theorem dX8_settle_43 : decode cX8_settle 43 = .ok (.iconst 0, 1) := by decide +kernel
theorem dX8_settle_44 : decode cX8_settle 44 = .ok (.iastore, 1) := by decide +kernel
theorem dX8_settle_45 : decode cX8_settle 45 = .ok (.aload_n 1, 1) := by decide +kernel
theorem dX8_settle_46 : decode cX8_settle 46 = .ok (.bipush 88, 2) := by decide +kernel
theorem dX8_settle_48 : decode cX8_settle 48 = .ok (.bipush 8, 2) := by decide +kernel
theorem dX8_settle_50 : decode cX8_settle 50 = .ok (.iload_n 3, 1) := by decide +kernel
theorem dX8_settle_51 : decode cX8_settle 51 = .ok (.imul, 1) := by decide +kernel
theorem dX8_settle_52 : decode cX8_settle 52 = .ok (.iadd, 1) := by decide +kernel
theorem dX8_settle_53 : decode cX8_settle 53 = .ok (.bipush 7, 2) := by decide +kernel
theorem dX8_settle_55 : decode cX8_settle 55 = .ok (.iadd, 1) := by decide +kernel
theorem dX8_settle_56 : decode cX8_settle 56 = .ok (.aload_n 0, 1) := by decide +kernel
theorem dX8_settle_57 : decode cX8_settle 57 = .ok (.aload_n 1, 1) := by decide +kernel
theorem dX8_settle_58 : decode cX8_settle 58 = .ok (.iload_n 3, 1) := by decide +kernel
theorem dX8_settle_59 : decode cX8_settle 59 = .ok (.invokevirtual 88, 3) := by decide +kernel
theorem dX8_settle_62 : decode cX8_settle 62 = .ok (.ifCond .eq 7, 3) := by decide +kernel
theorem dX8_settle_65 : decode cX8_settle 65 = .ok (.iconst 1, 1) := by decide +kernel
theorem dX8_settle_66 : decode cX8_settle 66 = .ok (.goto 4, 3) := by decide +kernel
theorem dX8_settle_69 : decode cX8_settle 69 = .ok (.iconst 0, 1) := by decide +kernel
theorem dX8_settle_70 : decode cX8_settle 70 = .ok (.iastore, 1) := by decide +kernel
theorem dX8_settle_71 : decode cX8_settle 71 = .ok (.iinc 3 1, 3) := by decide +kernel
theorem dX8_settle_74 : decode cX8_settle 74 = .ok (.goto (-72), 3) := by decide +kernel
theorem dX8_settle_77 : decode cX8_settle 77 = .ok (.return_, 1) := by decide +kernel
theorem dX8_closeOn_0 : decode cX8_closeOn 0 = .ok (.aload_n 0, 1) := by decide +kernel
theorem dX8_closeOn_1 : decode cX8_closeOn 1 = .ok (.iload_n 1, 1) := by decide +kernel
theorem dX8_closeOn_2 : decode cX8_closeOn 2 = .ok (.iload_n 2, 1) := by decide +kernel
theorem dX8_closeOn_3 : decode cX8_closeOn 3 = .ok (.invokestatic 59, 3) := by decide +kernel
theorem dX8_closeOn_6 : decode cX8_closeOn 6 = .ok (.iload_n 3, 1) := by decide +kernel
theorem dX8_closeOn_7 : decode cX8_closeOn 7 = .ok (.ifCond .eq 7, 3) := by decide +kernel
theorem dX8_closeOn_10 : decode cX8_closeOn 10 = .ok (.iconst 1, 1) := by decide +kernel
theorem dX8_closeOn_11 : decode cX8_closeOn 11 = .ok (.goto 4, 3) := by decide +kernel
theorem dX8_closeOn_14 : decode cX8_closeOn 14 = .ok (.iconst 0, 1) := by decide +kernel
theorem dX8_closeOn_15 : decode cX8_closeOn 15 = .ok (.iastore, 1) := by decide +kernel
theorem dX8_closeOn_16 : decode cX8_closeOn 16 = .ok (.aload_n 0, 1) := by decide +kernel
theorem dX8_closeOn_17 : decode cX8_closeOn 17 = .ok (.invokestatic 105, 3) := by decide +kernel
theorem dX8_closeOn_20 : decode cX8_closeOn 20 = .ok (.ireturn, 1) := by decide +kernel
theorem dX8_hoursOn_0 : decode cX8_hoursOn 0 = .ok (.aload_n 0, 1) := by decide +kernel
theorem dX8_hoursOn_1 : decode cX8_hoursOn 1 = .ok (.iconst 3, 1) := by decide +kernel
theorem dX8_hoursOn_2 : decode cX8_hoursOn 2 = .ok (.iaload, 1) := by decide +kernel
theorem dX8_hoursOn_3 : decode cX8_hoursOn 3 = .ok (.istore_n 2, 1) := by decide +kernel
theorem dX8_hoursOn_4 : decode cX8_hoursOn 4 = .ok (.iconst 0, 1) := by decide +kernel
theorem dX8_hoursOn_5 : decode cX8_hoursOn 5 = .ok (.istore_n 3, 1) := by decide +kernel
theorem dX8_hoursOn_6 : decode cX8_hoursOn 6 = .ok (.iload_n 3, 1) := by decide +kernel
theorem dX8_hoursOn_7 : decode cX8_hoursOn 7 = .ok (.iload_n 1, 1) := by decide +kernel
theorem dX8_hoursOn_8 : decode cX8_hoursOn 8 = .ok (.if_icmp .ge 88, 3) := by decide +kernel
theorem dX8_hoursOn_11 : decode cX8_hoursOn 11 = .ok (.aload_n 0, 1) := by decide +kernel
theorem dX8_hoursOn_12 : decode cX8_hoursOn 12 = .ok (.iconst 2, 1) := by decide +kernel
theorem dX8_hoursOn_13 : decode cX8_hoursOn 13 = .ok (.dup2, 1) := by decide +kernel
theorem dX8_hoursOn_14 : decode cX8_hoursOn 14 = .ok (.iaload, 1) := by decide +kernel
theorem dX8_hoursOn_15 : decode cX8_hoursOn 15 = .ok (.iconst 1, 1) := by decide +kernel
theorem dX8_hoursOn_16 : decode cX8_hoursOn 16 = .ok (.iadd, 1) := by decide +kernel
theorem dX8_hoursOn_17 : decode cX8_hoursOn 17 = .ok (.iastore, 1) := by decide +kernel
theorem dX8_hoursOn_18 : decode cX8_hoursOn 18 = .ok (.iconst 0, 1) := by decide +kernel
theorem dX8_hoursOn_19 : decode cX8_hoursOn 19 = .ok (.istore 4, 2) := by decide +kernel
theorem dX8_hoursOn_21 : decode cX8_hoursOn 21 = .ok (.iload 4, 2) := by decide +kernel
theorem dX8_hoursOn_23 : decode cX8_hoursOn 23 = .ok (.aload_n 0, 1) := by decide +kernel
theorem dX8_hoursOn_24 : decode cX8_hoursOn 24 = .ok (.iconst 0, 1) := by decide +kernel
theorem dX8_hoursOn_25 : decode cX8_hoursOn 25 = .ok (.iaload, 1) := by decide +kernel
theorem dX8_hoursOn_26 : decode cX8_hoursOn 26 = .ok (.if_icmp .ge 64, 3) := by decide +kernel
theorem dX8_hoursOn_29 : decode cX8_hoursOn 29 = .ok (.aload_n 0, 1) := by decide +kernel
theorem dX8_hoursOn_30 : decode cX8_hoursOn 30 = .ok (.iload 4, 2) := by decide +kernel
theorem dX8_hoursOn_32 : decode cX8_hoursOn 32 = .ok (.invokestatic 67, 3) := by decide +kernel
theorem dX8_hoursOn_35 : decode cX8_hoursOn 35 = .ok (.ifCond .eq 49, 3) := by decide +kernel
theorem dX8_hoursOn_38 : decode cX8_hoursOn 38 = .ok (.aload_n 0, 1) := by decide +kernel
theorem dX8_hoursOn_39 : decode cX8_hoursOn 39 = .ok (.iconst 2, 1) := by decide +kernel
theorem dX8_hoursOn_40 : decode cX8_hoursOn 40 = .ok (.iaload, 1) := by decide +kernel
theorem dX8_hoursOn_41 : decode cX8_hoursOn 41 = .ok (.aload_n 0, 1) := by decide +kernel
theorem dX8_hoursOn_42 : decode cX8_hoursOn 42 = .ok (.iload 4, 2) := by decide +kernel
theorem dX8_hoursOn_44 : decode cX8_hoursOn 44 = .ok (.iconst 3, 1) := by decide +kernel
theorem dX8_hoursOn_45 : decode cX8_hoursOn 45 = .ok (.invokestatic 47, 3) := by decide +kernel
theorem dX8_hoursOn_48 : decode cX8_hoursOn 48 = .ok (.isub, 1) := by decide +kernel
theorem dX8_hoursOn_49 : decode cX8_hoursOn 49 = .ok (.bipush 24, 2) := by decide +kernel
theorem dX8_hoursOn_51 : decode cX8_hoursOn 51 = .ok (.irem, 1) := by decide +kernel
theorem dX8_hoursOn_52 : decode cX8_hoursOn 52 = .ok (.ifCond .ne 32, 3) := by decide +kernel
theorem dX8_hoursOn_55 : decode cX8_hoursOn 55 = .ok (.aload_n 0, 1) := by decide +kernel
theorem dX8_hoursOn_56 : decode cX8_hoursOn 56 = .ok (.bipush 40, 2) := by decide +kernel
theorem dX8_hoursOn_58 : decode cX8_hoursOn 58 = .ok (.bipush 8, 2) := by decide +kernel
theorem dX8_hoursOn_60 : decode cX8_hoursOn 60 = .ok (.iload 4, 2) := by decide +kernel
theorem dX8_hoursOn_62 : decode cX8_hoursOn 62 = .ok (.imul, 1) := by decide +kernel
theorem dX8_hoursOn_63 : decode cX8_hoursOn 63 = .ok (.iadd, 1) := by decide +kernel
theorem dX8_hoursOn_64 : decode cX8_hoursOn 64 = .ok (.iconst 4, 1) := by decide +kernel
theorem dX8_hoursOn_65 : decode cX8_hoursOn 65 = .ok (.iadd, 1) := by decide +kernel
theorem dX8_hoursOn_66 : decode cX8_hoursOn 66 = .ok (.dup2, 1) := by decide +kernel
theorem dX8_hoursOn_67 : decode cX8_hoursOn 67 = .ok (.iaload, 1) := by decide +kernel
theorem dX8_hoursOn_68 : decode cX8_hoursOn 68 = .ok (.aload_n 0, 1) := by decide +kernel
theorem dX8_hoursOn_69 : decode cX8_hoursOn 69 = .ok (.bipush 6, 2) := by decide +kernel
theorem dX8_hoursOn_71 : decode cX8_hoursOn 71 = .ok (.iaload, 1) := by decide +kernel
theorem dX8_hoursOn_72 : decode cX8_hoursOn 72 = .ok (.iadd, 1) := by decide +kernel
theorem dX8_hoursOn_73 : decode cX8_hoursOn 73 = .ok (.iastore, 1) := by decide +kernel
theorem dX8_hoursOn_74 : decode cX8_hoursOn 74 = .ok (.aload_n 0, 1) := by decide +kernel
theorem dX8_hoursOn_75 : decode cX8_hoursOn 75 = .ok (.iconst 3, 1) := by decide +kernel
theorem dX8_hoursOn_76 : decode cX8_hoursOn 76 = .ok (.dup2, 1) := by decide +kernel
theorem dX8_hoursOn_77 : decode cX8_hoursOn 77 = .ok (.iaload, 1) := by decide +kernel
theorem dX8_hoursOn_78 : decode cX8_hoursOn 78 = .ok (.aload_n 0, 1) := by decide +kernel
theorem dX8_hoursOn_79 : decode cX8_hoursOn 79 = .ok (.bipush 6, 2) := by decide +kernel
theorem dX8_hoursOn_81 : decode cX8_hoursOn 81 = .ok (.iaload, 1) := by decide +kernel
theorem dX8_hoursOn_82 : decode cX8_hoursOn 82 = .ok (.iadd, 1) := by decide +kernel
theorem dX8_hoursOn_83 : decode cX8_hoursOn 83 = .ok (.iastore, 1) := by decide +kernel
theorem dX8_hoursOn_84 : decode cX8_hoursOn 84 = .ok (.iinc 4 1, 3) := by decide +kernel
theorem dX8_hoursOn_87 : decode cX8_hoursOn 87 = .ok (.goto (-66), 3) := by decide +kernel
theorem dX8_hoursOn_90 : decode cX8_hoursOn 90 = .ok (.iinc 3 1, 3) := by decide +kernel
theorem dX8_hoursOn_93 : decode cX8_hoursOn 93 = .ok (.goto (-87), 3) := by decide +kernel
theorem dX8_hoursOn_96 : decode cX8_hoursOn 96 = .ok (.aload_n 0, 1) := by decide +kernel
theorem dX8_hoursOn_97 : decode cX8_hoursOn 97 = .ok (.iconst 3, 1) := by decide +kernel
theorem dX8_hoursOn_98 : decode cX8_hoursOn 98 = .ok (.iaload, 1) := by decide +kernel
theorem dX8_hoursOn_99 : decode cX8_hoursOn 99 = .ok (.iload_n 2, 1) := by decide +kernel
theorem dX8_hoursOn_100 : decode cX8_hoursOn 100 = .ok (.isub, 1) := by decide +kernel
theorem dX8_hoursOn_101 : decode cX8_hoursOn 101 = .ok (.ireturn, 1) := by decide +kernel
theorem dX8_change_0 : decode cX8_change 0 = .ok (.aload_n 0, 1) := by decide +kernel
theorem dX8_change_1 : decode cX8_change 1 = .ok (.bipush 6, 2) := by decide +kernel
theorem dX8_change_3 : decode cX8_change 3 = .ok (.iload_n 1, 1) := by decide +kernel
theorem dX8_change_4 : decode cX8_change 4 = .ok (.iadd, 1) := by decide +kernel
theorem dX8_change_5 : decode cX8_change 5 = .ok (.iaload, 1) := by decide +kernel
theorem dX8_change_6 : decode cX8_change 6 = .ok (.istore_n 3, 1) := by decide +kernel
theorem dX8_change_7 : decode cX8_change 7 = .ok (.aload_n 0, 1) := by decide +kernel
theorem dX8_change_8 : decode cX8_change 8 = .ok (.bipush 6, 2) := by decide +kernel
theorem dX8_change_10 : decode cX8_change 10 = .ok (.iload_n 1, 1) := by decide +kernel
theorem dX8_change_11 : decode cX8_change 11 = .ok (.iadd, 1) := by decide +kernel
theorem dX8_change_12 : decode cX8_change 12 = .ok (.iload_n 2, 1) := by decide +kernel
theorem dX8_change_13 : decode cX8_change 13 = .ok (.iastore, 1) := by decide +kernel
theorem dX8_change_14 : decode cX8_change 14 = .ok (.iload_n 3, 1) := by decide +kernel
theorem dX8_change_15 : decode cX8_change 15 = .ok (.ireturn, 1) := by decide +kernel
theorem dX8_append_0 : decode cX8_append 0 = .ok (.aload_n 0, 1) := by decide +kernel
theorem dX8_append_1 : decode cX8_append 1 = .ok (.iload_n 1, 1) := by decide +kernel
theorem dX8_append_2 : decode cX8_append 2 = .ok (.i2l, 1) := by decide +kernel
theorem dX8_append_3 : decode cX8_append 3 = .ok (.lconst 0, 1) := by decide +kernel
theorem dX8_append_4 : decode cX8_append 4 = .ok (.ldc2_w 109, 3) := by decide +kernel
theorem dX8_append_7 : decode cX8_append 7 = .ok (.invokestatic 43, 3) := by decide +kernel
theorem dX8_append_10 : decode cX8_append 10 = .ok (.ifCond .ne 7, 3) := by decide +kernel
theorem dX8_append_13 : decode cX8_append 13 = .ok (.iconst 1, 1) := by decide +kernel
theorem dX8_append_14 : decode cX8_append 14 = .ok (.goto 17, 3) := by decide +kernel
theorem dX8_append_17 : decode cX8_append 17 = .ok (.aload_n 0, 1) := by decide +kernel
theorem dX8_append_18 : decode cX8_append 18 = .ok (.getfield 111, 3) := by decide +kernel
theorem dX8_append_21 : decode cX8_append 21 = .ok (.bipush 120, 2) := by decide +kernel
theorem dX8_append_23 : decode cX8_append 23 = .ok (.if_icmp .ne 7, 3) := by decide +kernel
theorem dX8_append_26 : decode cX8_append 26 = .ok (.iconst 2, 1) := by decide +kernel
theorem dX8_append_27 : decode cX8_append 27 = .ok (.goto 4, 3) := by decide +kernel
theorem dX8_append_30 : decode cX8_append 30 = .ok (.iconst 0, 1) := by decide +kernel
theorem dX8_append_31 : decode cX8_append 31 = .ok (.invokevirtual 114, 3) := by decide +kernel
theorem dX8_append_34 : decode cX8_append 34 = .ok (.ifCond .eq 5, 3) := by decide +kernel
theorem dX8_append_37 : decode cX8_append 37 = .ok (.iconst 0, 1) := by decide +kernel
theorem dX8_append_38 : decode cX8_append 38 = .ok (.ireturn, 1) := by decide +kernel
theorem dX8_append_39 : decode cX8_append 39 = .ok (.aload_n 0, 1) := by decide +kernel
theorem dX8_append_40 : decode cX8_append 40 = .ok (.getfield 7, 3) := by decide +kernel
theorem dX8_append_43 : decode cX8_append 43 = .ok (.aload_n 0, 1) := by decide +kernel
theorem dX8_append_44 : decode cX8_append 44 = .ok (.getfield 111, 3) := by decide +kernel
theorem dX8_append_47 : decode cX8_append 47 = .ok (.iload_n 1, 1) := by decide +kernel
theorem dX8_append_48 : decode cX8_append 48 = .ok (.iastore, 1) := by decide +kernel
theorem dX8_append_49 : decode cX8_append 49 = .ok (.aload_n 0, 1) := by decide +kernel
theorem dX8_append_50 : decode cX8_append 50 = .ok (.dup, 1) := by decide +kernel
theorem dX8_append_51 : decode cX8_append 51 = .ok (.getfield 111, 3) := by decide +kernel
theorem dX8_append_54 : decode cX8_append 54 = .ok (.iconst 1, 1) := by decide +kernel
theorem dX8_append_55 : decode cX8_append 55 = .ok (.iadd, 1) := by decide +kernel
theorem dX8_append_56 : decode cX8_append 56 = .ok (.putfield 111, 3) := by decide +kernel
theorem dX8_append_59 : decode cX8_append 59 = .ok (.aload_n 0, 1) := by decide +kernel
theorem dX8_append_60 : decode cX8_append 60 = .ok (.getfield 111, 3) := by decide +kernel
theorem dX8_append_63 : decode cX8_append 63 = .ok (.ireturn, 1) := by decide +kernel
theorem dX8_clearText_0 : decode cX8_clearText 0 = .ok (.aload_n 0, 1) := by decide +kernel
theorem dX8_clearText_1 : decode cX8_clearText 1 = .ok (.iconst 0, 1) := by decide +kernel
theorem dX8_clearText_2 : decode cX8_clearText 2 = .ok (.putfield 39, 3) := by decide +kernel
theorem dX8_clearText_5 : decode cX8_clearText 5 = .ok (.aload_n 0, 1) := by decide +kernel
theorem dX8_clearText_6 : decode cX8_clearText 6 = .ok (.getfield 111, 3) := by decide +kernel
theorem dX8_clearText_9 : decode cX8_clearText 9 = .ok (.istore_n 1, 1) := by decide +kernel
theorem dX8_clearText_10 : decode cX8_clearText 10 = .ok (.aload_n 0, 1) := by decide +kernel
theorem dX8_clearText_11 : decode cX8_clearText 11 = .ok (.iconst 0, 1) := by decide +kernel
theorem dX8_clearText_12 : decode cX8_clearText 12 = .ok (.putfield 111, 3) := by decide +kernel
theorem dX8_clearText_15 : decode cX8_clearText 15 = .ok (.iload_n 1, 1) := by decide +kernel
theorem dX8_clearText_16 : decode cX8_clearText 16 = .ok (.ireturn, 1) := by decide +kernel
theorem dX8_figures_0 : decode cX8_figures 0 = .ok (.iconst 0, 1) := by decide +kernel
theorem dX8_figures_1 : decode cX8_figures 1 = .ok (.istore 5, 2) := by decide +kernel
theorem dX8_figures_3 : decode cX8_figures 3 = .ok (.iload_n 2, 1) := by decide +kernel
theorem dX8_figures_4 : decode cX8_figures 4 = .ok (.istore 6, 2) := by decide +kernel
theorem dX8_figures_6 : decode cX8_figures 6 = .ok (.iload 6, 2) := by decide +kernel
theorem dX8_figures_8 : decode cX8_figures 8 = .ok (.ifCond .le 104, 3) := by decide +kernel
theorem dX8_figures_11 : decode cX8_figures 11 = .ok (.iload_n 1, 1) := by decide +kernel
theorem dX8_figures_12 : decode cX8_figures 12 = .ok (.iconst (-1), 1) := by decide +kernel
theorem dX8_figures_13 : decode cX8_figures 13 = .ok (.if_icmp .eq 99, 3) := by decide +kernel
theorem dX8_figures_16 : decode cX8_figures 16 = .ok (.aload_n 0, 1) := by decide +kernel
theorem dX8_figures_17 : decode cX8_figures 17 = .ok (.getfield 118, 3) := by decide +kernel
theorem dX8_figures_20 : decode cX8_figures 20 = .ok (.aload_n 0, 1) := by decide +kernel
theorem dX8_figures_21 : decode cX8_figures 21 = .ok (.getfield 111, 3) := by decide +kernel
theorem dX8_figures_24 : decode cX8_figures 24 = .ok (.if_icmp .ge 18, 3) := by decide +kernel
theorem dX8_figures_27 : decode cX8_figures 27 = .ok (.aload_n 0, 1) := by decide +kernel
theorem dX8_figures_28 : decode cX8_figures 28 = .ok (.getfield 7, 3) := by decide +kernel
theorem dX8_figures_31 : decode cX8_figures 31 = .ok (.aload_n 0, 1) := by decide +kernel
theorem dX8_figures_32 : decode cX8_figures 32 = .ok (.getfield 118, 3) := by decide +kernel
theorem dX8_figures_35 : decode cX8_figures 35 = .ok (.iaload, 1) := by decide +kernel
theorem dX8_figures_36 : decode cX8_figures 36 = .ok (.bipush 48, 2) := by decide +kernel
theorem dX8_figures_38 : decode cX8_figures 38 = .ok (.isub, 1) := by decide +kernel
theorem dX8_figures_39 : decode cX8_figures 39 = .ok (.goto 4, 3) := by decide +kernel
theorem dX8_figures_42 : decode cX8_figures 42 = .ok (.iconst (-1), 1) := by decide +kernel
theorem dX8_figures_43 : decode cX8_figures 43 = .ok (.istore 7, 2) := by decide +kernel
theorem dX8_figures_45 : decode cX8_figures 45 = .ok (.iload 5, 2) := by decide +kernel
theorem dX8_figures_47 : decode cX8_figures 47 = .ok (.iload 7, 2) := by decide +kernel
theorem dX8_figures_49 : decode cX8_figures 49 = .ok (.iload 6, 2) := by decide +kernel
theorem dX8_figures_51 : decode cX8_figures 51 = .ok (.imul, 1) := by decide +kernel
theorem dX8_figures_52 : decode cX8_figures 52 = .ok (.iadd, 1) := by decide +kernel
theorem dX8_figures_53 : decode cX8_figures 53 = .ok (.istore 8, 2) := by decide +kernel
theorem dX8_figures_55 : decode cX8_figures 55 = .ok (.iload 7, 2) := by decide +kernel
theorem dX8_figures_57 : decode cX8_figures 57 = .ok (.i2l, 1) := by decide +kernel
theorem dX8_figures_58 : decode cX8_figures 58 = .ok (.lconst 0, 1) := by decide +kernel
theorem dX8_figures_59 : decode cX8_figures 59 = .ok (.ldc2_w 121, 3) := by decide +kernel
theorem dX8_figures_62 : decode cX8_figures 62 = .ok (.invokestatic 43, 3) := by decide +kernel
theorem dX8_figures_65 : decode cX8_figures 65 = .ok (.ifCond .eq 21, 3) := by decide +kernel
theorem dX8_figures_68 : decode cX8_figures 68 = .ok (.iload 8, 2) := by decide +kernel
theorem dX8_figures_70 : decode cX8_figures 70 = .ok (.iload 4, 2) := by decide +kernel
theorem dX8_figures_72 : decode cX8_figures 72 = .ok (.if_icmp .gt 14, 3) := by decide +kernel
theorem dX8_figures_75 : decode cX8_figures 75 = .ok (.iload 8, 2) := by decide +kernel
theorem dX8_figures_77 : decode cX8_figures 77 = .ok (.iload 6, 2) := by decide +kernel
theorem dX8_figures_79 : decode cX8_figures 79 = .ok (.iadd, 1) := by decide +kernel
theorem dX8_figures_80 : decode cX8_figures 80 = .ok (.iconst 1, 1) := by decide +kernel
theorem dX8_figures_81 : decode cX8_figures 81 = .ok (.isub, 1) := by decide +kernel
theorem dX8_figures_82 : decode cX8_figures 82 = .ok (.iload_n 3, 1) := by decide +kernel
theorem dX8_figures_83 : decode cX8_figures 83 = .ok (.if_icmp .ge 5, 3) := by decide +kernel
theorem dX8_figures_86 : decode cX8_figures 86 = .ok (.iconst (-1), 1) := by decide +kernel
theorem dX8_figures_87 : decode cX8_figures 87 = .ok (.ireturn, 1) := by decide +kernel
theorem dX8_figures_88 : decode cX8_figures 88 = .ok (.iload 8, 2) := by decide +kernel
theorem dX8_figures_90 : decode cX8_figures 90 = .ok (.istore 5, 2) := by decide +kernel
theorem dX8_figures_92 : decode cX8_figures 92 = .ok (.aload_n 0, 1) := by decide +kernel
theorem dX8_figures_93 : decode cX8_figures 93 = .ok (.dup, 1) := by decide +kernel
theorem dX8_figures_94 : decode cX8_figures 94 = .ok (.getfield 118, 3) := by decide +kernel
theorem dX8_figures_97 : decode cX8_figures 97 = .ok (.iconst 1, 1) := by decide +kernel
theorem dX8_figures_98 : decode cX8_figures 98 = .ok (.iadd, 1) := by decide +kernel
theorem dX8_figures_99 : decode cX8_figures 99 = .ok (.putfield 118, 3) := by decide +kernel
theorem dX8_figures_102 : decode cX8_figures 102 = .ok (.iload 6, 2) := by decide +kernel
theorem dX8_figures_104 : decode cX8_figures 104 = .ok (.bipush 10, 2) := by decide +kernel
theorem dX8_figures_106 : decode cX8_figures 106 = .ok (.idiv, 1) := by decide +kernel
theorem dX8_figures_107 : decode cX8_figures 107 = .ok (.istore 6, 2) := by decide +kernel
theorem dX8_figures_109 : decode cX8_figures 109 = .ok (.goto (-103), 3) := by decide +kernel
theorem dX8_figures_112 : decode cX8_figures 112 = .ok (.iload_n 1, 1) := by decide +kernel
theorem dX8_figures_113 : decode cX8_figures 113 = .ok (.iconst (-1), 1) := by decide +kernel
theorem dX8_figures_114 : decode cX8_figures 114 = .ok (.if_icmp .ne 7, 3) := by decide +kernel
theorem dX8_figures_117 : decode cX8_figures 117 = .ok (.iconst (-1), 1) := by decide +kernel
theorem dX8_figures_118 : decode cX8_figures 118 = .ok (.goto 5, 3) := by decide +kernel
theorem dX8_figures_121 : decode cX8_figures 121 = .ok (.iload 5, 2) := by decide +kernel
theorem dX8_figures_123 : decode cX8_figures 123 = .ok (.ireturn, 1) := by decide +kernel
theorem dX8_plusSign_0 : decode cX8_plusSign 0 = .ok (.iload_n 1, 1) := by decide +kernel
theorem dX8_plusSign_1 : decode cX8_plusSign 1 = .ok (.iconst (-1), 1) := by decide +kernel
theorem dX8_plusSign_2 : decode cX8_plusSign 2 = .ok (.if_icmp .eq 46, 3) := by decide +kernel
theorem dX8_plusSign_5 : decode cX8_plusSign 5 = .ok (.aload_n 0, 1) := by decide +kernel
theorem dX8_plusSign_6 : decode cX8_plusSign 6 = .ok (.getfield 118, 3) := by decide +kernel
theorem dX8_plusSign_9 : decode cX8_plusSign 9 = .ok (.aload_n 0, 1) := by decide +kernel
theorem dX8_plusSign_10 : decode cX8_plusSign 10 = .ok (.getfield 111, 3) := by decide +kernel
theorem dX8_plusSign_13 : decode cX8_plusSign 13 = .ok (.if_icmp .ge 35, 3) := by decide +kernel
theorem dX8_plusSign_16 : decode cX8_plusSign 16 = .ok (.aload_n 0, 1) := by decide +kernel
theorem dX8_plusSign_17 : decode cX8_plusSign 17 = .ok (.getfield 7, 3) := by decide +kernel
theorem dX8_plusSign_20 : decode cX8_plusSign 20 = .ok (.aload_n 0, 1) := by decide +kernel
theorem dX8_plusSign_21 : decode cX8_plusSign 21 = .ok (.getfield 118, 3) := by decide +kernel
theorem dX8_plusSign_24 : decode cX8_plusSign 24 = .ok (.iaload, 1) := by decide +kernel
theorem dX8_plusSign_25 : decode cX8_plusSign 25 = .ok (.bipush 43, 2) := by decide +kernel
theorem dX8_plusSign_27 : decode cX8_plusSign 27 = .ok (.if_icmp .eq 17, 3) := by decide +kernel
theorem dX8_plusSign_30 : decode cX8_plusSign 30 = .ok (.aload_n 0, 1) := by decide +kernel
theorem dX8_plusSign_31 : decode cX8_plusSign 31 = .ok (.getfield 7, 3) := by decide +kernel
theorem dX8_plusSign_34 : decode cX8_plusSign 34 = .ok (.aload_n 0, 1) := by decide +kernel
theorem dX8_plusSign_35 : decode cX8_plusSign 35 = .ok (.getfield 118, 3) := by decide +kernel
theorem dX8_plusSign_38 : decode cX8_plusSign 38 = .ok (.iaload, 1) := by decide +kernel
theorem dX8_plusSign_39 : decode cX8_plusSign 39 = .ok (.bipush 45, 2) := by decide +kernel
theorem dX8_plusSign_41 : decode cX8_plusSign 41 = .ok (.if_icmp .ne 7, 3) := by decide +kernel
theorem dX8_plusSign_44 : decode cX8_plusSign 44 = .ok (.iconst 1, 1) := by decide +kernel
theorem dX8_plusSign_45 : decode cX8_plusSign 45 = .ok (.goto 4, 3) := by decide +kernel
theorem dX8_plusSign_48 : decode cX8_plusSign 48 = .ok (.iconst 0, 1) := by decide +kernel
theorem dX8_plusSign_49 : decode cX8_plusSign 49 = .ok (.istore_n 2, 1) := by decide +kernel
theorem dX8_plusSign_50 : decode cX8_plusSign 50 = .ok (.iload_n 2, 1) := by decide +kernel
theorem dX8_plusSign_51 : decode cX8_plusSign 51 = .ok (.ifCond .eq 21, 3) := by decide +kernel
theorem dX8_plusSign_54 : decode cX8_plusSign 54 = .ok (.aload_n 0, 1) := by decide +kernel
theorem dX8_plusSign_55 : decode cX8_plusSign 55 = .ok (.getfield 7, 3) := by decide +kernel
theorem dX8_plusSign_58 : decode cX8_plusSign 58 = .ok (.aload_n 0, 1) := by decide +kernel
theorem dX8_plusSign_59 : decode cX8_plusSign 59 = .ok (.getfield 118, 3) := by decide +kernel
theorem dX8_plusSign_62 : decode cX8_plusSign 62 = .ok (.iaload, 1) := by decide +kernel
theorem dX8_plusSign_63 : decode cX8_plusSign 63 = .ok (.bipush 43, 2) := by decide +kernel
theorem dX8_plusSign_65 : decode cX8_plusSign 65 = .ok (.if_icmp .ne 7, 3) := by decide +kernel
theorem dX8_plusSign_68 : decode cX8_plusSign 68 = .ok (.iconst 1, 1) := by decide +kernel
theorem dX8_plusSign_69 : decode cX8_plusSign 69 = .ok (.goto 4, 3) := by decide +kernel
theorem dX8_plusSign_72 : decode cX8_plusSign 72 = .ok (.iconst 0, 1) := by decide +kernel
theorem dX8_plusSign_73 : decode cX8_plusSign 73 = .ok (.istore_n 3, 1) := by decide +kernel
theorem dX8_plusSign_74 : decode cX8_plusSign 74 = .ok (.aload_n 0, 1) := by decide +kernel
theorem dX8_plusSign_75 : decode cX8_plusSign 75 = .ok (.dup, 1) := by decide +kernel
theorem dX8_plusSign_76 : decode cX8_plusSign 76 = .ok (.getfield 118, 3) := by decide +kernel
theorem dX8_plusSign_79 : decode cX8_plusSign 79 = .ok (.iload_n 2, 1) := by decide +kernel
theorem dX8_plusSign_80 : decode cX8_plusSign 80 = .ok (.ifCond .eq 7, 3) := by decide +kernel
theorem dX8_plusSign_83 : decode cX8_plusSign 83 = .ok (.iconst 1, 1) := by decide +kernel
theorem dX8_plusSign_84 : decode cX8_plusSign 84 = .ok (.goto 4, 3) := by decide +kernel
theorem dX8_plusSign_87 : decode cX8_plusSign 87 = .ok (.iconst 0, 1) := by decide +kernel
theorem dX8_plusSign_88 : decode cX8_plusSign 88 = .ok (.iadd, 1) := by decide +kernel
theorem dX8_plusSign_89 : decode cX8_plusSign 89 = .ok (.putfield 118, 3) := by decide +kernel
theorem dX8_plusSign_92 : decode cX8_plusSign 92 = .ok (.iload_n 2, 1) := by decide +kernel
theorem dX8_plusSign_93 : decode cX8_plusSign 93 = .ok (.ifCond .eq 7, 3) := by decide +kernel
theorem dX8_plusSign_96 : decode cX8_plusSign 96 = .ok (.iload_n 3, 1) := by decide +kernel
theorem dX8_plusSign_97 : decode cX8_plusSign 97 = .ok (.goto 4, 3) := by decide +kernel
theorem dX8_plusSign_100 : decode cX8_plusSign 100 = .ok (.iconst (-1), 1) := by decide +kernel
theorem dX8_plusSign_101 : decode cX8_plusSign 101 = .ok (.ireturn, 1) := by decide +kernel
theorem dX8_done_0 : decode cX8_done 0 = .ok (.aload_n 0, 1) := by decide +kernel
theorem dX8_done_1 : decode cX8_done 1 = .ok (.dup, 1) := by decide +kernel
theorem dX8_done_2 : decode cX8_done 2 = .ok (.getfield 123, 3) := by decide +kernel
theorem dX8_done_5 : decode cX8_done 5 = .ok (.iload_n 1, 1) := by decide +kernel
theorem dX8_done_6 : decode cX8_done 6 = .ok (.ifCond .eq 7, 3) := by decide +kernel
theorem dX8_done_9 : decode cX8_done 9 = .ok (.iconst 0, 1) := by decide +kernel
theorem dX8_done_10 : decode cX8_done 10 = .ok (.goto 4, 3) := by decide +kernel
theorem dX8_done_13 : decode cX8_done 13 = .ok (.iconst 1, 1) := by decide +kernel
theorem dX8_done_14 : decode cX8_done 14 = .ok (.iadd, 1) := by decide +kernel
theorem dX8_done_15 : decode cX8_done 15 = .ok (.putfield 123, 3) := by decide +kernel
theorem dX8_done_18 : decode cX8_done 18 = .ok (.iconst 1, 1) := by decide +kernel
theorem dX8_done_19 : decode cX8_done 19 = .ok (.ireturn, 1) := by decide +kernel
theorem dX8_cornerSign_0 : decode cX8_cornerSign 0 = .ok (.aload_n 0, 1) := by decide +kernel
theorem dX8_cornerSign_1 : decode cX8_cornerSign 1 = .ok (.iload_n 1, 1) := by decide +kernel
theorem dX8_cornerSign_2 : decode cX8_cornerSign 2 = .ok (.bipush 10, 2) := by decide +kernel
theorem dX8_cornerSign_4 : decode cX8_cornerSign 4 = .ok (.iconst 0, 1) := by decide +kernel
theorem dX8_cornerSign_5 : decode cX8_cornerSign 5 = .ok (.bipush 11, 2) := by decide +kernel
theorem dX8_cornerSign_7 : decode cX8_cornerSign 7 = .ok (.invokevirtual 126, 3) := by decide +kernel
theorem dX8_cornerSign_10 : decode cX8_cornerSign 10 = .ok (.ireturn, 1) := by decide +kernel
theorem dX8_finderSign_0 : decode cX8_finderSign 0 = .ok (.aload_n 0, 1) := by decide +kernel
theorem dX8_finderSign_1 : decode cX8_finderSign 1 = .ok (.iload_n 1, 1) := by decide +kernel
theorem dX8_finderSign_2 : decode cX8_finderSign 2 = .ok (.iconst 1, 1) := by decide +kernel
theorem dX8_finderSign_3 : decode cX8_finderSign 3 = .ok (.iconst 0, 1) := by decide +kernel
theorem dX8_finderSign_4 : decode cX8_finderSign 4 = .ok (.bipush 7, 2) := by decide +kernel
theorem dX8_finderSign_6 : decode cX8_finderSign 6 = .ok (.invokevirtual 126, 3) := by decide +kernel
theorem dX8_finderSign_9 : decode cX8_finderSign 9 = .ok (.ireturn, 1) := by decide +kernel
theorem dX8_readLose_0 : decode cX8_readLose 0 = .ok (.aload_n 0, 1) := by decide +kernel
theorem dX8_readLose_1 : decode cX8_readLose 1 = .ok (.iconst 0, 1) := by decide +kernel
theorem dX8_readLose_2 : decode cX8_readLose 2 = .ok (.bipush 100, 2) := by decide +kernel
theorem dX8_readLose_4 : decode cX8_readLose 4 = .ok (.iconst 1, 1) := by decide +kernel
theorem dX8_readLose_5 : decode cX8_readLose 5 = .ok (.sipush 255, 3) := by decide +kernel
theorem dX8_readLose_8 : decode cX8_readLose 8 = .ok (.invokevirtual 126, 3) := by decide +kernel
theorem dX8_readLose_11 : decode cX8_readLose 11 = .ok (.istore_n 2, 1) := by decide +kernel
theorem dX8_readLose_12 : decode cX8_readLose 12 = .ok (.aload_n 0, 1) := by decide +kernel
theorem dX8_readLose_13 : decode cX8_readLose 13 = .ok (.iload_n 2, 1) := by decide +kernel
theorem dX8_readLose_14 : decode cX8_readLose 14 = .ok (.iconst 1, 1) := by decide +kernel
theorem dX8_readLose_15 : decode cX8_readLose 15 = .ok (.iconst 1, 1) := by decide +kernel
theorem dX8_readLose_16 : decode cX8_readLose 16 = .ok (.iconst 3, 1) := by decide +kernel
theorem dX8_readLose_17 : decode cX8_readLose 17 = .ok (.invokevirtual 126, 3) := by decide +kernel
theorem dX8_readLose_20 : decode cX8_readLose 20 = .ok (.istore_n 3, 1) := by decide +kernel
theorem dX8_readLose_21 : decode cX8_readLose 21 = .ok (.aload_n 0, 1) := by decide +kernel
theorem dX8_readLose_22 : decode cX8_readLose 22 = .ok (.iload_n 3, 1) := by decide +kernel
theorem dX8_readLose_23 : decode cX8_readLose 23 = .ok (.invokevirtual 130, 3) := by decide +kernel
theorem dX8_readLose_26 : decode cX8_readLose 26 = .ok (.istore 4, 2) := by decide +kernel
theorem dX8_readLose_28 : decode cX8_readLose 28 = .ok (.aload_n 0, 1) := by decide +kernel
theorem dX8_readLose_29 : decode cX8_readLose 29 = .ok (.iload 4, 2) := by decide +kernel
theorem dX8_readLose_31 : decode cX8_readLose 31 = .ok (.bipush 100, 2) := by decide +kernel
theorem dX8_readLose_33 : decode cX8_readLose 33 = .ok (.iconst 1, 1) := by decide +kernel
theorem dX8_readLose_34 : decode cX8_readLose 34 = .ok (.sipush 500, 3) := by decide +kernel
theorem dX8_readLose_37 : decode cX8_readLose 37 = .ok (.invokevirtual 126, 3) := by decide +kernel
theorem dX8_readLose_40 : decode cX8_readLose 40 = .ok (.istore 5, 2) := by decide +kernel
theorem dX8_readLose_42 : decode cX8_readLose 42 = .ok (.iload 5, 2) := by decide +kernel
theorem dX8_readLose_44 : decode cX8_readLose 44 = .ok (.iconst (-1), 1) := by decide +kernel
theorem dX8_readLose_45 : decode cX8_readLose 45 = .ok (.if_icmp .eq 40, 3) := by decide +kernel
theorem dX8_readLose_48 : decode cX8_readLose 48 = .ok (.aload_n 0, 1) := by decide +kernel
theorem dX8_readLose_49 : decode cX8_readLose 49 = .ok (.aload_n 1, 1) := by decide +kernel
theorem dX8_readLose_50 : decode cX8_readLose 50 = .ok (.iconst 0, 1) := by decide +kernel
theorem dX8_readLose_51 : decode cX8_readLose 51 = .ok (.iaload, 1) := by decide +kernel
theorem dX8_readLose_52 : decode cX8_readLose 52 = .ok (.bipush 6, 2) := by decide +kernel
theorem dX8_readLose_54 : decode cX8_readLose 54 = .ok (.if_icmp .ge 20, 3) := by decide +kernel
theorem dX8_readLose_57 : decode cX8_readLose 57 = .ok (.aload_n 1, 1) := by decide +kernel
theorem dX8_readLose_58 : decode cX8_readLose 58 = .ok (.iload_n 2, 1) := by decide +kernel
theorem dX8_readLose_59 : decode cX8_readLose 59 = .ok (.iload_n 3, 1) := by decide +kernel
theorem dX8_readLose_60 : decode cX8_readLose 60 = .ok (.iload 4, 2) := by decide +kernel
theorem dX8_readLose_62 : decode cX8_readLose 62 = .ok (.iload 5, 2) := by decide +kernel
theorem dX8_readLose_64 : decode cX8_readLose 64 = .ok (.invokestatic 133, 3) := by decide +kernel
theorem dX8_readLose_67 : decode cX8_readLose 67 = .ok (.ifCond .lt 7, 3) := by decide +kernel
theorem dX8_readLose_70 : decode cX8_readLose 70 = .ok (.iconst 1, 1) := by decide +kernel
theorem dX8_readLose_71 : decode cX8_readLose 71 = .ok (.goto 4, 3) := by decide +kernel
theorem dX8_readLose_74 : decode cX8_readLose 74 = .ok (.iconst 0, 1) := by decide +kernel
theorem dX8_readLose_75 : decode cX8_readLose 75 = .ok (.invokevirtual 137, 3) := by decide +kernel
theorem dX8_readLose_78 : decode cX8_readLose 78 = .ok (.ifCond .eq 7, 3) := by decide +kernel
theorem dX8_readLose_81 : decode cX8_readLose 81 = .ok (.iconst 1, 1) := by decide +kernel
theorem dX8_readLose_82 : decode cX8_readLose 82 = .ok (.goto 4, 3) := by decide +kernel
theorem dX8_readLose_85 : decode cX8_readLose 85 = .ok (.iconst 0, 1) := by decide +kernel
theorem dX8_readLose_86 : decode cX8_readLose 86 = .ok (.ireturn, 1) := by decide +kernel
theorem dX8_readSight_0 : decode cX8_readSight 0 = .ok (.aload_n 0, 1) := by decide +kernel
theorem dX8_readSight_1 : decode cX8_readSight 1 = .ok (.iconst 0, 1) := by decide +kernel
theorem dX8_readSight_2 : decode cX8_readSight 2 = .ok (.invokevirtual 141, 3) := by decide +kernel
theorem dX8_readSight_5 : decode cX8_readSight 5 = .ok (.istore_n 2, 1) := by decide +kernel
theorem dX8_readSight_6 : decode cX8_readSight 6 = .ok (.aload_n 0, 1) := by decide +kernel
theorem dX8_readSight_7 : decode cX8_readSight 7 = .ok (.iload_n 2, 1) := by decide +kernel
theorem dX8_readSight_8 : decode cX8_readSight 8 = .ok (.invokevirtual 130, 3) := by decide +kernel
theorem dX8_readSight_11 : decode cX8_readSight 11 = .ok (.istore_n 3, 1) := by decide +kernel
theorem dX8_readSight_12 : decode cX8_readSight 12 = .ok (.aload_n 0, 1) := by decide +kernel
theorem dX8_readSight_13 : decode cX8_readSight 13 = .ok (.iload_n 3, 1) := by decide +kernel
theorem dX8_readSight_14 : decode cX8_readSight 14 = .ok (.bipush 100, 2) := by decide +kernel
theorem dX8_readSight_16 : decode cX8_readSight 16 = .ok (.iconst 0, 1) := by decide +kernel
theorem dX8_readSight_17 : decode cX8_readSight 17 = .ok (.sipush 255, 3) := by decide +kernel
theorem dX8_readSight_20 : decode cX8_readSight 20 = .ok (.invokevirtual 126, 3) := by decide +kernel
theorem dX8_readSight_23 : decode cX8_readSight 23 = .ok (.istore 4, 2) := by decide +kernel
theorem dX8_readSight_25 : decode cX8_readSight 25 = .ok (.aload_n 0, 1) := by decide +kernel
theorem dX8_readSight_26 : decode cX8_readSight 26 = .ok (.iload 4, 2) := by decide +kernel
theorem dX8_readSight_28 : decode cX8_readSight 28 = .ok (.invokevirtual 144, 3) := by decide +kernel
theorem dX8_readSight_31 : decode cX8_readSight 31 = .ok (.istore 5, 2) := by decide +kernel
theorem dX8_readSight_33 : decode cX8_readSight 33 = .ok (.iload 5, 2) := by decide +kernel
theorem dX8_readSight_35 : decode cX8_readSight 35 = .ok (.iconst (-1), 1) := by decide +kernel
theorem dX8_readSight_36 : decode cX8_readSight 36 = .ok (.if_icmp .eq 51, 3) := by decide +kernel
theorem dX8_readSight_39 : decode cX8_readSight 39 = .ok (.aload_n 0, 1) := by decide +kernel
theorem dX8_readSight_40 : decode cX8_readSight 40 = .ok (.aload_n 1, 1) := by decide +kernel
theorem dX8_readSight_41 : decode cX8_readSight 41 = .ok (.iconst 1, 1) := by decide +kernel
theorem dX8_readSight_42 : decode cX8_readSight 42 = .ok (.iaload, 1) := by decide +kernel
theorem dX8_readSight_43 : decode cX8_readSight 43 = .ok (.bipush 20, 2) := by decide +kernel
theorem dX8_readSight_45 : decode cX8_readSight 45 = .ok (.if_icmp .ge 31, 3) := by decide +kernel
theorem dX8_readSight_48 : decode cX8_readSight 48 = .ok (.aload_n 1, 1) := by decide +kernel
theorem dX8_readSight_49 : decode cX8_readSight 49 = .ok (.iload_n 2, 1) := by decide +kernel
theorem dX8_readSight_50 : decode cX8_readSight 50 = .ok (.iload_n 3, 1) := by decide +kernel
theorem dX8_readSight_51 : decode cX8_readSight 51 = .ok (.iload 4, 2) := by decide +kernel
theorem dX8_readSight_53 : decode cX8_readSight 53 = .ok (.iconst 0, 1) := by decide +kernel
theorem dX8_readSight_54 : decode cX8_readSight 54 = .ok (.iload 5, 2) := by decide +kernel
theorem dX8_readSight_56 : decode cX8_readSight 56 = .ok (.iconst 1, 1) := by decide +kernel
theorem dX8_readSight_57 : decode cX8_readSight 57 = .ok (.if_icmp .ne 7, 3) := by decide +kernel
theorem dX8_readSight_60 : decode cX8_readSight 60 = .ok (.iconst 1, 1) := by decide +kernel
theorem dX8_readSight_61 : decode cX8_readSight 61 = .ok (.goto 4, 3) := by decide +kernel
theorem dX8_readSight_64 : decode cX8_readSight 64 = .ok (.iconst 0, 1) := by decide +kernel
theorem dX8_readSight_65 : decode cX8_readSight 65 = .ok (.invokestatic 147, 3) := by decide +kernel
theorem dX8_readSight_68 : decode cX8_readSight 68 = .ok (.iconst (-1), 1) := by decide +kernel
theorem dX8_readSight_69 : decode cX8_readSight 69 = .ok (.if_icmp .lt 7, 3) := by decide +kernel
theorem dX8_readSight_72 : decode cX8_readSight 72 = .ok (.iconst 1, 1) := by decide +kernel
theorem dX8_readSight_73 : decode cX8_readSight 73 = .ok (.goto 4, 3) := by decide +kernel
theorem dX8_readSight_76 : decode cX8_readSight 76 = .ok (.iconst 0, 1) := by decide +kernel
theorem dX8_readSight_77 : decode cX8_readSight 77 = .ok (.invokevirtual 137, 3) := by decide +kernel
theorem dX8_readSight_80 : decode cX8_readSight 80 = .ok (.ifCond .eq 7, 3) := by decide +kernel
theorem dX8_readSight_83 : decode cX8_readSight 83 = .ok (.iconst 1, 1) := by decide +kernel
theorem dX8_readSight_84 : decode cX8_readSight 84 = .ok (.goto 4, 3) := by decide +kernel
theorem dX8_readSight_87 : decode cX8_readSight 87 = .ok (.iconst 0, 1) := by decide +kernel
theorem dX8_readSight_88 : decode cX8_readSight 88 = .ok (.ireturn, 1) := by decide +kernel
theorem dX8_readFind_0 : decode cX8_readFind 0 = .ok (.aload_n 0, 1) := by decide +kernel
theorem dX8_readFind_1 : decode cX8_readFind 1 = .ok (.iconst 0, 1) := by decide +kernel
theorem dX8_readFind_2 : decode cX8_readFind 2 = .ok (.iconst 1, 1) := by decide +kernel
theorem dX8_readFind_3 : decode cX8_readFind 3 = .ok (.iconst 0, 1) := by decide +kernel
theorem dX8_readFind_4 : decode cX8_readFind 4 = .ok (.iconst 5, 1) := by decide +kernel
theorem dX8_readFind_5 : decode cX8_readFind 5 = .ok (.invokevirtual 126, 3) := by decide +kernel
theorem dX8_readFind_8 : decode cX8_readFind 8 = .ok (.istore_n 2, 1) := by decide +kernel
theorem dX8_readFind_9 : decode cX8_readFind 9 = .ok (.aload_n 0, 1) := by decide +kernel
theorem dX8_readFind_10 : decode cX8_readFind 10 = .ok (.iload_n 2, 1) := by decide +kernel
theorem dX8_readFind_11 : decode cX8_readFind 11 = .ok (.invokevirtual 141, 3) := by decide +kernel
theorem dX8_readFind_14 : decode cX8_readFind 14 = .ok (.istore_n 3, 1) := by decide +kernel
theorem dX8_readFind_15 : decode cX8_readFind 15 = .ok (.aload_n 0, 1) := by decide +kernel
theorem dX8_readFind_16 : decode cX8_readFind 16 = .ok (.iload_n 3, 1) := by decide +kernel
theorem dX8_readFind_17 : decode cX8_readFind 17 = .ok (.invokevirtual 130, 3) := by decide +kernel
theorem dX8_readFind_20 : decode cX8_readFind 20 = .ok (.istore 4, 2) := by decide +kernel
theorem dX8_readFind_22 : decode cX8_readFind 22 = .ok (.iload 4, 2) := by decide +kernel
theorem dX8_readFind_24 : decode cX8_readFind 24 = .ok (.iconst (-1), 1) := by decide +kernel
theorem dX8_readFind_25 : decode cX8_readFind 25 = .ok (.if_icmp .eq 47, 3) := by decide +kernel
theorem dX8_readFind_28 : decode cX8_readFind 28 = .ok (.aload_n 0, 1) := by decide +kernel
theorem dX8_readFind_29 : decode cX8_readFind 29 = .ok (.aload_n 1, 1) := by decide +kernel
theorem dX8_readFind_30 : decode cX8_readFind 30 = .ok (.iload_n 2, 1) := by decide +kernel
theorem dX8_readFind_31 : decode cX8_readFind 31 = .ok (.invokestatic 151, 3) := by decide +kernel
theorem dX8_readFind_34 : decode cX8_readFind 34 = .ok (.ifCond .eq 27, 3) := by decide +kernel
theorem dX8_readFind_37 : decode cX8_readFind 37 = .ok (.aload_n 1, 1) := by decide +kernel
theorem dX8_readFind_38 : decode cX8_readFind 38 = .ok (.iload_n 2, 1) := by decide +kernel
theorem dX8_readFind_39 : decode cX8_readFind 39 = .ok (.invokestatic 67, 3) := by decide +kernel
theorem dX8_readFind_42 : decode cX8_readFind 42 = .ok (.ifCond .eq 19, 3) := by decide +kernel
theorem dX8_readFind_45 : decode cX8_readFind 45 = .ok (.aload_n 0, 1) := by decide +kernel
theorem dX8_readFind_46 : decode cX8_readFind 46 = .ok (.aload_n 1, 1) := by decide +kernel
theorem dX8_readFind_47 : decode cX8_readFind 47 = .ok (.iload_n 2, 1) := by decide +kernel
theorem dX8_readFind_48 : decode cX8_readFind 48 = .ok (.iload_n 3, 1) := by decide +kernel
theorem dX8_readFind_49 : decode cX8_readFind 49 = .ok (.iload 4, 2) := by decide +kernel
theorem dX8_readFind_51 : decode cX8_readFind 51 = .ok (.invokevirtual 154, 3) := by decide +kernel
theorem dX8_readFind_54 : decode cX8_readFind 54 = .ok (.ifCond .lt 7, 3) := by decide +kernel
theorem dX8_readFind_57 : decode cX8_readFind 57 = .ok (.iconst 1, 1) := by decide +kernel
theorem dX8_readFind_58 : decode cX8_readFind 58 = .ok (.goto 4, 3) := by decide +kernel
theorem dX8_readFind_61 : decode cX8_readFind 61 = .ok (.iconst 0, 1) := by decide +kernel
theorem dX8_readFind_62 : decode cX8_readFind 62 = .ok (.invokevirtual 137, 3) := by decide +kernel
theorem dX8_readFind_65 : decode cX8_readFind 65 = .ok (.ifCond .eq 7, 3) := by decide +kernel
theorem dX8_readFind_68 : decode cX8_readFind 68 = .ok (.iconst 1, 1) := by decide +kernel
theorem dX8_readFind_69 : decode cX8_readFind 69 = .ok (.goto 4, 3) := by decide +kernel
theorem dX8_readFind_72 : decode cX8_readFind 72 = .ok (.iconst 0, 1) := by decide +kernel
theorem dX8_readFind_73 : decode cX8_readFind 73 = .ok (.ireturn, 1) := by decide +kernel
theorem dX8_readClose_0 : decode cX8_readClose 0 = .ok (.aload_n 0, 1) := by decide +kernel
theorem dX8_readClose_1 : decode cX8_readClose 1 = .ok (.iconst 0, 1) := by decide +kernel
theorem dX8_readClose_2 : decode cX8_readClose 2 = .ok (.invokevirtual 130, 3) := by decide +kernel
theorem dX8_readClose_5 : decode cX8_readClose 5 = .ok (.istore_n 2, 1) := by decide +kernel
theorem dX8_readClose_6 : decode cX8_readClose 6 = .ok (.aload_n 0, 1) := by decide +kernel
theorem dX8_readClose_7 : decode cX8_readClose 7 = .ok (.iload_n 2, 1) := by decide +kernel
theorem dX8_readClose_8 : decode cX8_readClose 8 = .ok (.invokevirtual 130, 3) := by decide +kernel
theorem dX8_readClose_11 : decode cX8_readClose 11 = .ok (.istore_n 3, 1) := by decide +kernel
theorem dX8_readClose_12 : decode cX8_readClose 12 = .ok (.aload_n 0, 1) := by decide +kernel
theorem dX8_readClose_13 : decode cX8_readClose 13 = .ok (.iload_n 3, 1) := by decide +kernel
theorem dX8_readClose_14 : decode cX8_readClose 14 = .ok (.invokevirtual 144, 3) := by decide +kernel
theorem dX8_readClose_17 : decode cX8_readClose 17 = .ok (.istore 4, 2) := by decide +kernel
theorem dX8_readClose_19 : decode cX8_readClose 19 = .ok (.iload 4, 2) := by decide +kernel
theorem dX8_readClose_21 : decode cX8_readClose 21 = .ok (.iconst (-1), 1) := by decide +kernel
theorem dX8_readClose_22 : decode cX8_readClose 22 = .ok (.if_icmp .eq 48, 3) := by decide +kernel
theorem dX8_readClose_25 : decode cX8_readClose 25 = .ok (.aload_n 0, 1) := by decide +kernel
theorem dX8_readClose_26 : decode cX8_readClose 26 = .ok (.iload_n 2, 1) := by decide +kernel
theorem dX8_readClose_27 : decode cX8_readClose 27 = .ok (.iload_n 3, 1) := by decide +kernel
theorem dX8_readClose_28 : decode cX8_readClose 28 = .ok (.invokestatic 59, 3) := by decide +kernel
theorem dX8_readClose_31 : decode cX8_readClose 31 = .ok (.iconst (-1), 1) := by decide +kernel
theorem dX8_readClose_32 : decode cX8_readClose 32 = .ok (.if_icmp .eq 27, 3) := by decide +kernel
theorem dX8_readClose_35 : decode cX8_readClose 35 = .ok (.aload_n 1, 1) := by decide +kernel
theorem dX8_readClose_36 : decode cX8_readClose 36 = .ok (.iload_n 2, 1) := by decide +kernel
theorem dX8_readClose_37 : decode cX8_readClose 37 = .ok (.iload_n 3, 1) := by decide +kernel
theorem dX8_readClose_38 : decode cX8_readClose 38 = .ok (.iload 4, 2) := by decide +kernel
theorem dX8_readClose_40 : decode cX8_readClose 40 = .ok (.iconst 1, 1) := by decide +kernel
theorem dX8_readClose_41 : decode cX8_readClose 41 = .ok (.if_icmp .ne 7, 3) := by decide +kernel
theorem dX8_readClose_44 : decode cX8_readClose 44 = .ok (.iconst 1, 1) := by decide +kernel
theorem dX8_readClose_45 : decode cX8_readClose 45 = .ok (.goto 4, 3) := by decide +kernel
theorem dX8_readClose_48 : decode cX8_readClose 48 = .ok (.iconst 0, 1) := by decide +kernel
theorem dX8_readClose_49 : decode cX8_readClose 49 = .ok (.invokestatic 157, 3) := by decide +kernel
theorem dX8_readClose_52 : decode cX8_readClose 52 = .ok (.ifCond .lt 7, 3) := by decide +kernel
theorem dX8_readClose_55 : decode cX8_readClose 55 = .ok (.iconst 1, 1) := by decide +kernel
theorem dX8_readClose_56 : decode cX8_readClose 56 = .ok (.goto 4, 3) := by decide +kernel
theorem dX8_readClose_59 : decode cX8_readClose 59 = .ok (.iconst 0, 1) := by decide +kernel
theorem dX8_readClose_60 : decode cX8_readClose 60 = .ok (.invokevirtual 137, 3) := by decide +kernel
theorem dX8_readClose_63 : decode cX8_readClose 63 = .ok (.ifCond .eq 7, 3) := by decide +kernel
theorem dX8_readClose_66 : decode cX8_readClose 66 = .ok (.iconst 1, 1) := by decide +kernel
theorem dX8_readClose_67 : decode cX8_readClose 67 = .ok (.goto 4, 3) := by decide +kernel
theorem dX8_readClose_70 : decode cX8_readClose 70 = .ok (.iconst 0, 1) := by decide +kernel
theorem dX8_readClose_71 : decode cX8_readClose 71 = .ok (.ireturn, 1) := by decide +kernel
theorem dX8_readCommand_0 : decode cX8_readCommand 0 = .ok (.aload_n 0, 1) := by decide +kernel
theorem dX8_readCommand_1 : decode cX8_readCommand 1 = .ok (.getfield 7, 3) := by decide +kernel
theorem dX8_readCommand_4 : decode cX8_readCommand 4 = .ok (.aload_n 0, 1) := by decide +kernel
theorem dX8_readCommand_5 : decode cX8_readCommand 5 = .ok (.getfield 118, 3) := by decide +kernel
theorem dX8_readCommand_8 : decode cX8_readCommand 8 = .ok (.iaload, 1) := by decide +kernel
theorem dX8_readCommand_9 : decode cX8_readCommand 9 = .ok (.istore_n 2, 1) := by decide +kernel
theorem dX8_readCommand_10 : decode cX8_readCommand 10 = .ok (.aload_n 0, 1) := by decide +kernel
theorem dX8_readCommand_11 : decode cX8_readCommand 11 = .ok (.dup, 1) := by decide +kernel
theorem dX8_readCommand_12 : decode cX8_readCommand 12 = .ok (.getfield 118, 3) := by decide +kernel
theorem dX8_readCommand_15 : decode cX8_readCommand 15 = .ok (.iconst 1, 1) := by decide +kernel
theorem dX8_readCommand_16 : decode cX8_readCommand 16 = .ok (.iadd, 1) := by decide +kernel
theorem dX8_readCommand_17 : decode cX8_readCommand 17 = .ok (.putfield 118, 3) := by decide +kernel
theorem dX8_readCommand_20 : decode cX8_readCommand 20 = .ok (.iload_n 2, 1) := by decide +kernel
theorem dX8_readCommand_21 : decode cX8_readCommand 21 = .ok (.lookupswitch 117 #[(100, 51), (102, 63), (104, 75), (115, 57), (120, 69)], 51) := by decide +kernel
theorem dX8_readCommand_72 : decode cX8_readCommand 72 = .ok (.aload_n 0, 1) := by decide +kernel
theorem dX8_readCommand_73 : decode cX8_readCommand 73 = .ok (.aload_n 1, 1) := by decide +kernel
theorem dX8_readCommand_74 : decode cX8_readCommand 74 = .ok (.invokevirtual 161, 3) := by decide +kernel
theorem dX8_readCommand_77 : decode cX8_readCommand 77 = .ok (.ireturn, 1) := by decide +kernel
theorem dX8_readCommand_78 : decode cX8_readCommand 78 = .ok (.aload_n 0, 1) := by decide +kernel
theorem dX8_readCommand_79 : decode cX8_readCommand 79 = .ok (.aload_n 1, 1) := by decide +kernel
theorem dX8_readCommand_80 : decode cX8_readCommand 80 = .ok (.invokevirtual 165, 3) := by decide +kernel
theorem dX8_readCommand_83 : decode cX8_readCommand 83 = .ok (.ireturn, 1) := by decide +kernel
theorem dX8_readCommand_84 : decode cX8_readCommand 84 = .ok (.aload_n 0, 1) := by decide +kernel
theorem dX8_readCommand_85 : decode cX8_readCommand 85 = .ok (.aload_n 1, 1) := by decide +kernel
theorem dX8_readCommand_86 : decode cX8_readCommand 86 = .ok (.invokevirtual 168, 3) := by decide +kernel
theorem dX8_readCommand_89 : decode cX8_readCommand 89 = .ok (.ireturn, 1) := by decide +kernel
theorem dX8_readCommand_90 : decode cX8_readCommand 90 = .ok (.aload_n 0, 1) := by decide +kernel
theorem dX8_readCommand_91 : decode cX8_readCommand 91 = .ok (.aload_n 1, 1) := by decide +kernel
theorem dX8_readCommand_92 : decode cX8_readCommand 92 = .ok (.invokevirtual 171, 3) := by decide +kernel
theorem dX8_readCommand_95 : decode cX8_readCommand 95 = .ok (.ireturn, 1) := by decide +kernel
theorem dX8_readCommand_96 : decode cX8_readCommand 96 = .ok (.aload_n 0, 1) := by decide +kernel
theorem dX8_readCommand_97 : decode cX8_readCommand 97 = .ok (.iconst 0, 1) := by decide +kernel
theorem dX8_readCommand_98 : decode cX8_readCommand 98 = .ok (.bipush 10, 2) := by decide +kernel
theorem dX8_readCommand_100 : decode cX8_readCommand 100 = .ok (.iconst 1, 1) := by decide +kernel
theorem dX8_readCommand_101 : decode cX8_readCommand 101 = .ok (.bipush 99, 2) := by decide +kernel
theorem dX8_readCommand_103 : decode cX8_readCommand 103 = .ok (.invokevirtual 126, 3) := by decide +kernel
theorem dX8_readCommand_106 : decode cX8_readCommand 106 = .ok (.istore_n 3, 1) := by decide +kernel
theorem dX8_readCommand_107 : decode cX8_readCommand 107 = .ok (.iload_n 3, 1) := by decide +kernel
theorem dX8_readCommand_108 : decode cX8_readCommand 108 = .ok (.iconst (-1), 1) := by decide +kernel
theorem dX8_readCommand_109 : decode cX8_readCommand 109 = .ok (.if_icmp .eq 27, 3) := by decide +kernel
theorem dX8_readCommand_112 : decode cX8_readCommand 112 = .ok (.aload_n 0, 1) := by decide +kernel
theorem dX8_readCommand_113 : decode cX8_readCommand 113 = .ok (.aload_n 1, 1) := by decide +kernel
theorem dX8_readCommand_114 : decode cX8_readCommand 114 = .ok (.iload_n 3, 1) := by decide +kernel
theorem dX8_readCommand_115 : decode cX8_readCommand 115 = .ok (.invokestatic 174, 3) := by decide +kernel
theorem dX8_readCommand_118 : decode cX8_readCommand 118 = .ok (.ifCond .lt 7, 3) := by decide +kernel
theorem dX8_readCommand_121 : decode cX8_readCommand 121 = .ok (.iconst 1, 1) := by decide +kernel
theorem dX8_readCommand_122 : decode cX8_readCommand 122 = .ok (.goto 4, 3) := by decide +kernel
theorem dX8_readCommand_125 : decode cX8_readCommand 125 = .ok (.iconst 0, 1) := by decide +kernel
theorem dX8_readCommand_126 : decode cX8_readCommand 126 = .ok (.invokevirtual 137, 3) := by decide +kernel
theorem dX8_readCommand_129 : decode cX8_readCommand 129 = .ok (.ifCond .eq 7, 3) := by decide +kernel
theorem dX8_readCommand_132 : decode cX8_readCommand 132 = .ok (.iconst 1, 1) := by decide +kernel
theorem dX8_readCommand_133 : decode cX8_readCommand 133 = .ok (.goto 4, 3) := by decide +kernel
theorem dX8_readCommand_136 : decode cX8_readCommand 136 = .ok (.iconst 0, 1) := by decide +kernel
theorem dX8_readCommand_137 : decode cX8_readCommand 137 = .ok (.ireturn, 1) := by decide +kernel
theorem dX8_readCommand_138 : decode cX8_readCommand 138 = .ok (.aload_n 0, 1) := by decide +kernel
theorem dX8_readCommand_139 : decode cX8_readCommand 139 = .ok (.dup, 1) := by decide +kernel
theorem dX8_readCommand_140 : decode cX8_readCommand 140 = .ok (.getfield 118, 3) := by decide +kernel
theorem dX8_readCommand_143 : decode cX8_readCommand 143 = .ok (.iconst 1, 1) := by decide +kernel
theorem dX8_readCommand_144 : decode cX8_readCommand 144 = .ok (.isub, 1) := by decide +kernel
theorem dX8_readCommand_145 : decode cX8_readCommand 145 = .ok (.putfield 118, 3) := by decide +kernel
theorem dX8_readCommand_148 : decode cX8_readCommand 148 = .ok (.iconst 0, 1) := by decide +kernel
theorem dX8_readCommand_149 : decode cX8_readCommand 149 = .ok (.ireturn, 1) := by decide +kernel
theorem dX8_readText_0 : decode cX8_readText 0 = .ok (.aload_n 1, 1) := by decide +kernel
theorem dX8_readText_1 : decode cX8_readText 1 = .ok (.invokestatic 35, 3) := by decide +kernel
theorem dX8_readText_4 : decode cX8_readText 4 = .ok (.aload_n 0, 1) := by decide +kernel
theorem dX8_readText_5 : decode cX8_readText 5 = .ok (.iconst 0, 1) := by decide +kernel
theorem dX8_readText_6 : decode cX8_readText 6 = .ok (.putfield 123, 3) := by decide +kernel
theorem dX8_readText_9 : decode cX8_readText 9 = .ok (.aload_n 0, 1) := by decide +kernel
theorem dX8_readText_10 : decode cX8_readText 10 = .ok (.iconst 0, 1) := by decide +kernel
theorem dX8_readText_11 : decode cX8_readText 11 = .ok (.putfield 118, 3) := by decide +kernel
theorem dX8_readText_14 : decode cX8_readText 14 = .ok (.aload_n 0, 1) := by decide +kernel
theorem dX8_readText_15 : decode cX8_readText 15 = .ok (.getfield 111, 3) := by decide +kernel
theorem dX8_readText_18 : decode cX8_readText 18 = .ok (.ifCond .eq 14, 3) := by decide +kernel
theorem dX8_readText_21 : decode cX8_readText 21 = .ok (.aload_n 0, 1) := by decide +kernel
theorem dX8_readText_22 : decode cX8_readText 22 = .ok (.getfield 7, 3) := by decide +kernel
theorem dX8_readText_25 : decode cX8_readText 25 = .ok (.iconst 0, 1) := by decide +kernel
theorem dX8_readText_26 : decode cX8_readText 26 = .ok (.iaload, 1) := by decide +kernel
theorem dX8_readText_27 : decode cX8_readText 27 = .ok (.bipush 77, 2) := by decide +kernel
theorem dX8_readText_29 : decode cX8_readText 29 = .ok (.if_icmp .eq 5, 3) := by decide +kernel
theorem dX8_readText_32 : decode cX8_readText 32 = .ok (.iconst 0, 1) := by decide +kernel
theorem dX8_readText_33 : decode cX8_readText 33 = .ok (.ireturn, 1) := by decide +kernel
theorem dX8_readText_34 : decode cX8_readText 34 = .ok (.aload_n 0, 1) := by decide +kernel
theorem dX8_readText_35 : decode cX8_readText 35 = .ok (.iconst 1, 1) := by decide +kernel
theorem dX8_readText_36 : decode cX8_readText 36 = .ok (.putfield 118, 3) := by decide +kernel
theorem dX8_readText_39 : decode cX8_readText 39 = .ok (.aload_n 0, 1) := by decide +kernel
theorem dX8_readText_40 : decode cX8_readText 40 = .ok (.getfield 118, 3) := by decide +kernel
theorem dX8_readText_43 : decode cX8_readText 43 = .ok (.aload_n 0, 1) := by decide +kernel
theorem dX8_readText_44 : decode cX8_readText 44 = .ok (.getfield 111, 3) := by decide +kernel
theorem dX8_readText_47 : decode cX8_readText 47 = .ok (.if_icmp .ge 16, 3) := by decide +kernel
theorem dX8_readText_50 : decode cX8_readText 50 = .ok (.aload_n 0, 1) := by decide +kernel
theorem dX8_readText_51 : decode cX8_readText 51 = .ok (.aload_n 1, 1) := by decide +kernel
theorem dX8_readText_52 : decode cX8_readText 52 = .ok (.invokevirtual 178, 3) := by decide +kernel
theorem dX8_readText_55 : decode cX8_readText 55 = .ok (.ifCond .ne (-16), 3) := by decide +kernel
theorem dX8_readText_58 : decode cX8_readText 58 = .ok (.aload_n 0, 1) := by decide +kernel
theorem dX8_readText_59 : decode cX8_readText 59 = .ok (.getfield 118, 3) := by decide +kernel
theorem dX8_readText_62 : decode cX8_readText 62 = .ok (.ireturn, 1) := by decide +kernel
theorem dX8_readText_63 : decode cX8_readText 63 = .ok (.iconst (-1), 1) := by decide +kernel
theorem dX8_readText_64 : decode cX8_readText 64 = .ok (.ireturn, 1) := by decide +kernel
theorem dX8_errorPosition_0 : decode cX8_errorPosition 0 = .ok (.aload_n 0, 1) := by decide +kernel
theorem dX8_errorPosition_1 : decode cX8_errorPosition 1 = .ok (.iconst 0, 1) := by decide +kernel
theorem dX8_errorPosition_2 : decode cX8_errorPosition 2 = .ok (.putfield 39, 3) := by decide +kernel
theorem dX8_errorPosition_5 : decode cX8_errorPosition 5 = .ok (.aload_n 0, 1) := by decide +kernel
theorem dX8_errorPosition_6 : decode cX8_errorPosition 6 = .ok (.aload_n 0, 1) := by decide +kernel
theorem dX8_errorPosition_7 : decode cX8_errorPosition 7 = .ok (.getfield 16, 3) := by decide +kernel
theorem dX8_errorPosition_10 : decode cX8_errorPosition 10 = .ok (.invokevirtual 181, 3) := by decide +kernel
theorem dX8_errorPosition_13 : decode cX8_errorPosition 13 = .ok (.ireturn, 1) := by decide +kernel
theorem dX8_load_0 : decode cX8_load 0 = .ok (.aload_n 0, 1) := by decide +kernel
theorem dX8_load_1 : decode cX8_load 1 = .ok (.aload_n 0, 1) := by decide +kernel
theorem dX8_load_2 : decode cX8_load 2 = .ok (.aload_n 0, 1) := by decide +kernel
theorem dX8_load_3 : decode cX8_load 3 = .ok (.getfield 16, 3) := by decide +kernel
theorem dX8_load_6 : decode cX8_load 6 = .ok (.invokevirtual 181, 3) := by decide +kernel
theorem dX8_load_9 : decode cX8_load 9 = .ok (.iconst (-1), 1) := by decide +kernel
theorem dX8_load_10 : decode cX8_load 10 = .ok (.if_icmp .ne 7, 3) := by decide +kernel
theorem dX8_load_13 : decode cX8_load 13 = .ok (.iconst 0, 1) := by decide +kernel
theorem dX8_load_14 : decode cX8_load 14 = .ok (.goto 4, 3) := by decide +kernel
theorem dX8_load_17 : decode cX8_load 17 = .ok (.iconst 1, 1) := by decide +kernel
theorem dX8_load_18 : decode cX8_load 18 = .ok (.invokevirtual 114, 3) := by decide +kernel
theorem dX8_load_21 : decode cX8_load 21 = .ok (.ifCond .eq 5, 3) := by decide +kernel
theorem dX8_load_24 : decode cX8_load 24 = .ok (.iconst 0, 1) := by decide +kernel
theorem dX8_load_25 : decode cX8_load 25 = .ok (.ireturn, 1) := by decide +kernel
theorem dX8_load_26 : decode cX8_load 26 = .ok (.aload_n 0, 1) := by decide +kernel
theorem dX8_load_27 : decode cX8_load 27 = .ok (.getfield 16, 3) := by decide +kernel
theorem dX8_load_30 : decode cX8_load 30 = .ok (.iconst 0, 1) := by decide +kernel
theorem dX8_load_31 : decode cX8_load 31 = .ok (.aload_n 0, 1) := by decide +kernel
theorem dX8_load_32 : decode cX8_load 32 = .ok (.getfield 13, 3) := by decide +kernel
theorem dX8_load_35 : decode cX8_load 35 = .ok (.iconst 0, 1) := by decide +kernel
theorem dX8_load_36 : decode cX8_load 36 = .ok (.invokestatic 184, 3) := by decide +kernel
theorem dX8_load_39 : decode cX8_load 39 = .ok (.aload_n 0, 1) := by decide +kernel
theorem dX8_load_40 : decode cX8_load 40 = .ok (.iconst 0, 1) := by decide +kernel
theorem dX8_load_41 : decode cX8_load 41 = .ok (.putfield 188, 3) := by decide +kernel
theorem dX8_load_44 : decode cX8_load 44 = .ok (.aload_n 0, 1) := by decide +kernel
theorem dX8_load_45 : decode cX8_load 45 = .ok (.getfield 25, 3) := by decide +kernel
theorem dX8_load_48 : decode cX8_load 48 = .ok (.iconst 0, 1) := by decide +kernel
theorem dX8_load_49 : decode cX8_load 49 = .ok (.iconst 0, 1) := by decide +kernel
theorem dX8_load_50 : decode cX8_load 50 = .ok (.bastore, 1) := by decide +kernel
theorem dX8_load_51 : decode cX8_load 51 = .ok (.aload_n 0, 1) := by decide +kernel
theorem dX8_load_52 : decode cX8_load 52 = .ok (.getfield 25, 3) := by decide +kernel
theorem dX8_load_55 : decode cX8_load 55 = .ok (.iconst 1, 1) := by decide +kernel
theorem dX8_load_56 : decode cX8_load 56 = .ok (.iconst 0, 1) := by decide +kernel
theorem dX8_load_57 : decode cX8_load 57 = .ok (.bastore, 1) := by decide +kernel
theorem dX8_load_58 : decode cX8_load 58 = .ok (.aload_n 0, 1) := by decide +kernel
theorem dX8_load_59 : decode cX8_load 59 = .ok (.getfield 123, 3) := by decide +kernel
theorem dX8_load_62 : decode cX8_load 62 = .ok (.ireturn, 1) := by decide +kernel
theorem dX8_missing_0 : decode cX8_missing 0 = .ok (.iconst 0, 1) := by decide +kernel
theorem dX8_missing_1 : decode cX8_missing 1 = .ok (.istore_n 1, 1) := by decide +kernel
theorem dX8_missing_2 : decode cX8_missing 2 = .ok (.iconst 0, 1) := by decide +kernel
theorem dX8_missing_3 : decode cX8_missing 3 = .ok (.istore_n 2, 1) := by decide +kernel
theorem dX8_missing_4 : decode cX8_missing 4 = .ok (.iload_n 2, 1) := by decide +kernel
theorem dX8_missing_5 : decode cX8_missing 5 = .ok (.aload_n 0, 1) := by decide +kernel
theorem dX8_missing_6 : decode cX8_missing 6 = .ok (.iconst 0, 1) := by decide +kernel
theorem dX8_missing_7 : decode cX8_missing 7 = .ok (.iaload, 1) := by decide +kernel
theorem dX8_missing_8 : decode cX8_missing 8 = .ok (.if_icmp .ge 25, 3) := by decide +kernel
theorem dX8_missing_11 : decode cX8_missing 11 = .ok (.iload_n 1, 1) := by decide +kernel
theorem dX8_missing_12 : decode cX8_missing 12 = .ok (.aload_n 0, 1) := by decide +kernel
theorem dX8_missing_13 : decode cX8_missing 13 = .ok (.iload_n 2, 1) := by decide +kernel
theorem dX8_missing_14 : decode cX8_missing 14 = .ok (.invokestatic 67, 3) := by decide +kernel
theorem dX8_missing_17 : decode cX8_missing 17 = .ok (.ifCond .eq 7, 3) := by decide +kernel
theorem dX8_missing_20 : decode cX8_missing 20 = .ok (.iconst 1, 1) := by decide +kernel
theorem dX8_missing_21 : decode cX8_missing 21 = .ok (.goto 4, 3) := by decide +kernel
theorem dX8_missing_24 : decode cX8_missing 24 = .ok (.iconst 0, 1) := by decide +kernel
theorem dX8_missing_25 : decode cX8_missing 25 = .ok (.iadd, 1) := by decide +kernel
theorem dX8_missing_26 : decode cX8_missing 26 = .ok (.istore_n 1, 1) := by decide +kernel
theorem dX8_missing_27 : decode cX8_missing 27 = .ok (.iinc 2 1, 3) := by decide +kernel
theorem dX8_missing_30 : decode cX8_missing 30 = .ok (.goto (-26), 3) := by decide +kernel
theorem dX8_missing_33 : decode cX8_missing 33 = .ok (.iload_n 1, 1) := by decide +kernel
theorem dX8_missing_34 : decode cX8_missing 34 = .ok (.ireturn, 1) := by decide +kernel
theorem dX8_rewards_0 : decode cX8_rewards 0 = .ok (.iconst 0, 1) := by decide +kernel
theorem dX8_rewards_1 : decode cX8_rewards 1 = .ok (.istore_n 1, 1) := by decide +kernel
theorem dX8_rewards_2 : decode cX8_rewards 2 = .ok (.iconst 0, 1) := by decide +kernel
theorem dX8_rewards_3 : decode cX8_rewards 3 = .ok (.istore_n 2, 1) := by decide +kernel
theorem dX8_rewards_4 : decode cX8_rewards 4 = .ok (.iload_n 2, 1) := by decide +kernel
theorem dX8_rewards_5 : decode cX8_rewards 5 = .ok (.aload_n 0, 1) := by decide +kernel
theorem dX8_rewards_6 : decode cX8_rewards 6 = .ok (.iconst 0, 1) := by decide +kernel
theorem dX8_rewards_7 : decode cX8_rewards 7 = .ok (.iaload, 1) := by decide +kernel
theorem dX8_rewards_8 : decode cX8_rewards 8 = .ok (.if_icmp .ge 30, 3) := by decide +kernel
theorem dX8_rewards_11 : decode cX8_rewards 11 = .ok (.iload_n 1, 1) := by decide +kernel
theorem dX8_rewards_12 : decode cX8_rewards 12 = .ok (.aload_n 0, 1) := by decide +kernel
theorem dX8_rewards_13 : decode cX8_rewards 13 = .ok (.iload_n 2, 1) := by decide +kernel
theorem dX8_rewards_14 : decode cX8_rewards 14 = .ok (.invokestatic 67, 3) := by decide +kernel
theorem dX8_rewards_17 : decode cX8_rewards 17 = .ok (.ifCond .eq 12, 3) := by decide +kernel
theorem dX8_rewards_20 : decode cX8_rewards 20 = .ok (.aload_n 0, 1) := by decide +kernel
theorem dX8_rewards_21 : decode cX8_rewards 21 = .ok (.iload_n 2, 1) := by decide +kernel
theorem dX8_rewards_22 : decode cX8_rewards 22 = .ok (.iconst 4, 1) := by decide +kernel
theorem dX8_rewards_23 : decode cX8_rewards 23 = .ok (.invokestatic 47, 3) := by decide +kernel
theorem dX8_rewards_26 : decode cX8_rewards 26 = .ok (.goto 4, 3) := by decide +kernel
theorem dX8_rewards_29 : decode cX8_rewards 29 = .ok (.iconst 0, 1) := by decide +kernel
theorem dX8_rewards_30 : decode cX8_rewards 30 = .ok (.iadd, 1) := by decide +kernel
theorem dX8_rewards_31 : decode cX8_rewards 31 = .ok (.istore_n 1, 1) := by decide +kernel
theorem dX8_rewards_32 : decode cX8_rewards 32 = .ok (.iinc 2 1, 3) := by decide +kernel
theorem dX8_rewards_35 : decode cX8_rewards 35 = .ok (.goto (-31), 3) := by decide +kernel
theorem dX8_rewards_38 : decode cX8_rewards 38 = .ok (.iload_n 1, 1) := by decide +kernel
theorem dX8_rewards_39 : decode cX8_rewards 39 = .ok (.ireturn, 1) := by decide +kernel
theorem dX8_meaningless_0 : decode cX8_meaningless 0 = .ok (.iconst 0, 1) := by decide +kernel
theorem dX8_meaningless_1 : decode cX8_meaningless 1 = .ok (.istore_n 1, 1) := by decide +kernel
theorem dX8_meaningless_2 : decode cX8_meaningless 2 = .ok (.iconst 0, 1) := by decide +kernel
theorem dX8_meaningless_3 : decode cX8_meaningless 3 = .ok (.istore_n 2, 1) := by decide +kernel
theorem dX8_meaningless_4 : decode cX8_meaningless 4 = .ok (.iload_n 2, 1) := by decide +kernel
theorem dX8_meaningless_5 : decode cX8_meaningless 5 = .ok (.aload_n 0, 1) := by decide +kernel
theorem dX8_meaningless_6 : decode cX8_meaningless 6 = .ok (.iconst 1, 1) := by decide +kernel
theorem dX8_meaningless_7 : decode cX8_meaningless 7 = .ok (.iaload, 1) := by decide +kernel
theorem dX8_meaningless_8 : decode cX8_meaningless 8 = .ok (.if_icmp .ge 27, 3) := by decide +kernel
theorem dX8_meaningless_11 : decode cX8_meaningless 11 = .ok (.iload_n 1, 1) := by decide +kernel
theorem dX8_meaningless_12 : decode cX8_meaningless 12 = .ok (.aload_n 0, 1) := by decide +kernel
theorem dX8_meaningless_13 : decode cX8_meaningless 13 = .ok (.iload_n 2, 1) := by decide +kernel
theorem dX8_meaningless_14 : decode cX8_meaningless 14 = .ok (.iconst 5, 1) := by decide +kernel
theorem dX8_meaningless_15 : decode cX8_meaningless 15 = .ok (.invokestatic 74, 3) := by decide +kernel
theorem dX8_meaningless_18 : decode cX8_meaningless 18 = .ok (.iconst (-1), 1) := by decide +kernel
theorem dX8_meaningless_19 : decode cX8_meaningless 19 = .ok (.if_icmp .ne 7, 3) := by decide +kernel
theorem dX8_meaningless_22 : decode cX8_meaningless 22 = .ok (.iconst 1, 1) := by decide +kernel
theorem dX8_meaningless_23 : decode cX8_meaningless 23 = .ok (.goto 4, 3) := by decide +kernel
theorem dX8_meaningless_26 : decode cX8_meaningless 26 = .ok (.iconst 0, 1) := by decide +kernel
theorem dX8_meaningless_27 : decode cX8_meaningless 27 = .ok (.iadd, 1) := by decide +kernel
theorem dX8_meaningless_28 : decode cX8_meaningless 28 = .ok (.istore_n 1, 1) := by decide +kernel
theorem dX8_meaningless_29 : decode cX8_meaningless 29 = .ok (.iinc 2 1, 3) := by decide +kernel
theorem dX8_meaningless_32 : decode cX8_meaningless 32 = .ok (.goto (-28), 3) := by decide +kernel
theorem dX8_meaningless_35 : decode cX8_meaningless 35 = .ok (.iload_n 1, 1) := by decide +kernel
theorem dX8_meaningless_36 : decode cX8_meaningless 36 = .ok (.ireturn, 1) := by decide +kernel
theorem dX8_about_0 : decode cX8_about 0 = .ok (.aload_n 0, 1) := by decide +kernel
theorem dX8_about_1 : decode cX8_about 1 = .ok (.iload_n 1, 1) := by decide +kernel
theorem dX8_about_2 : decode cX8_about 2 = .ok (.i2l, 1) := by decide +kernel
theorem dX8_about_3 : decode cX8_about 3 = .ok (.lconst 0, 1) := by decide +kernel
theorem dX8_about_4 : decode cX8_about 4 = .ok (.ldc2_w 191, 3) := by decide +kernel
theorem dX8_about_7 : decode cX8_about 7 = .ok (.invokestatic 43, 3) := by decide +kernel
theorem dX8_about_10 : decode cX8_about 10 = .ok (.ifCond .eq 7, 3) := by decide +kernel
theorem dX8_about_13 : decode cX8_about 13 = .ok (.iconst 0, 1) := by decide +kernel
theorem dX8_about_14 : decode cX8_about 14 = .ok (.goto 4, 3) := by decide +kernel
theorem dX8_about_17 : decode cX8_about 17 = .ok (.iconst 1, 1) := by decide +kernel
theorem dX8_about_18 : decode cX8_about 18 = .ok (.invokevirtual 114, 3) := by decide +kernel
theorem dX8_about_21 : decode cX8_about 21 = .ok (.ifCond .eq 5, 3) := by decide +kernel
theorem dX8_about_24 : decode cX8_about 24 = .ok (.iconst 0, 1) := by decide +kernel
theorem dX8_about_25 : decode cX8_about 25 = .ok (.ireturn, 1) := by decide +kernel
theorem dX8_about_26 : decode cX8_about 26 = .ok (.aload_n 0, 1) := by decide +kernel
theorem dX8_about_27 : decode cX8_about 27 = .ok (.aload_n 0, 1) := by decide +kernel
theorem dX8_about_28 : decode cX8_about 28 = .ok (.getfield 13, 3) := by decide +kernel
theorem dX8_about_31 : decode cX8_about 31 = .ok (.invokevirtual 94, 3) := by decide +kernel
theorem dX8_about_34 : decode cX8_about 34 = .ok (.iload_n 1, 1) := by decide +kernel
theorem dX8_about_35 : decode cX8_about 35 = .ok (.tableswitch 112 0 10 #[57, 64, 72, 112, 112, 112, 112, 79, 87, 96, 104], 57) := by decide +kernel
theorem dX8_about_92 : decode cX8_about 92 = .ok (.aload_n 0, 1) := by decide +kernel
theorem dX8_about_93 : decode cX8_about 93 = .ok (.getfield 13, 3) := by decide +kernel
theorem dX8_about_96 : decode cX8_about 96 = .ok (.iconst 0, 1) := by decide +kernel
theorem dX8_about_97 : decode cX8_about 97 = .ok (.iaload, 1) := by decide +kernel
theorem dX8_about_98 : decode cX8_about 98 = .ok (.ireturn, 1) := by decide +kernel
theorem dX8_about_99 : decode cX8_about 99 = .ok (.aload_n 0, 1) := by decide +kernel
theorem dX8_about_100 : decode cX8_about 100 = .ok (.getfield 13, 3) := by decide +kernel
theorem dX8_about_103 : decode cX8_about 103 = .ok (.invokestatic 193, 3) := by decide +kernel
theorem dX8_about_106 : decode cX8_about 106 = .ok (.ireturn, 1) := by decide +kernel
theorem dX8_about_107 : decode cX8_about 107 = .ok (.aload_n 0, 1) := by decide +kernel
theorem dX8_about_108 : decode cX8_about 108 = .ok (.getfield 13, 3) := by decide +kernel
theorem dX8_about_111 : decode cX8_about 111 = .ok (.iconst 1, 1) := by decide +kernel
theorem dX8_about_112 : decode cX8_about 112 = .ok (.iaload, 1) := by decide +kernel
theorem dX8_about_113 : decode cX8_about 113 = .ok (.ireturn, 1) := by decide +kernel
theorem dX8_about_114 : decode cX8_about 114 = .ok (.aload_n 0, 1) := by decide +kernel
theorem dX8_about_115 : decode cX8_about 115 = .ok (.getfield 13, 3) := by decide +kernel
theorem dX8_about_118 : decode cX8_about 118 = .ok (.invokestatic 196, 3) := by decide +kernel
theorem dX8_about_121 : decode cX8_about 121 = .ok (.ireturn, 1) := by decide +kernel
theorem dX8_about_122 : decode cX8_about 122 = .ok (.aload_n 0, 1) := by decide +kernel
theorem dX8_about_123 : decode cX8_about 123 = .ok (.aload_n 0, 1) := by decide +kernel
theorem dX8_about_124 : decode cX8_about 124 = .ok (.getfield 13, 3) := by decide +kernel
theorem dX8_about_127 : decode cX8_about 127 = .ok (.invokevirtual 199, 3) := by decide +kernel
theorem dX8_about_130 : decode cX8_about 130 = .ok (.ireturn, 1) := by decide +kernel
theorem dX8_about_131 : decode cX8_about 131 = .ok (.aload_n 0, 1) := by decide +kernel
theorem dX8_about_132 : decode cX8_about 132 = .ok (.getfield 13, 3) := by decide +kernel
theorem dX8_about_135 : decode cX8_about 135 = .ok (.invokestatic 202, 3) := by decide +kernel
theorem dX8_about_138 : decode cX8_about 138 = .ok (.ireturn, 1) := by decide +kernel
theorem dX8_about_139 : decode cX8_about 139 = .ok (.aload_n 0, 1) := by decide +kernel
theorem dX8_about_140 : decode cX8_about 140 = .ok (.getfield 13, 3) := by decide +kernel
theorem dX8_about_143 : decode cX8_about 143 = .ok (.invokestatic 105, 3) := by decide +kernel
theorem dX8_about_146 : decode cX8_about 146 = .ok (.ireturn, 1) := by decide +kernel
theorem dX8_about_147 : decode cX8_about 147 = .ok (.aload_n 0, 1) := by decide +kernel
theorem dX8_about_148 : decode cX8_about 148 = .ok (.getfield 13, 3) := by decide +kernel
theorem dX8_about_151 : decode cX8_about 151 = .ok (.iload_n 1, 1) := by decide +kernel
theorem dX8_about_152 : decode cX8_about 152 = .ok (.iconst 1, 1) := by decide +kernel
theorem dX8_about_153 : decode cX8_about 153 = .ok (.isub, 1) := by decide +kernel
theorem dX8_about_154 : decode cX8_about 154 = .ok (.iaload, 1) := by decide +kernel
theorem dX8_about_155 : decode cX8_about 155 = .ok (.ireturn, 1) := by decide +kernel
theorem dX8_dogOf_0 : decode cX8_dogOf 0 = .ok (.aload_n 0, 1) := by decide +kernel
theorem dX8_dogOf_1 : decode cX8_dogOf 1 = .ok (.aload_n 0, 1) := by decide +kernel
theorem dX8_dogOf_2 : decode cX8_dogOf 2 = .ok (.getfield 13, 3) := by decide +kernel
theorem dX8_dogOf_5 : decode cX8_dogOf 5 = .ok (.iload_n 1, 1) := by decide +kernel
theorem dX8_dogOf_6 : decode cX8_dogOf 6 = .ok (.invokestatic 151, 3) := by decide +kernel
theorem dX8_dogOf_9 : decode cX8_dogOf 9 = .ok (.ifCond .ne 7, 3) := by decide +kernel
theorem dX8_dogOf_12 : decode cX8_dogOf 12 = .ok (.iconst 1, 1) := by decide +kernel
theorem dX8_dogOf_13 : decode cX8_dogOf 13 = .ok (.goto 20, 3) := by decide +kernel
theorem dX8_dogOf_16 : decode cX8_dogOf 16 = .ok (.iload_n 2, 1) := by decide +kernel
theorem dX8_dogOf_17 : decode cX8_dogOf 17 = .ok (.i2l, 1) := by decide +kernel
theorem dX8_dogOf_18 : decode cX8_dogOf 18 = .ok (.lconst 0, 1) := by decide +kernel
theorem dX8_dogOf_19 : decode cX8_dogOf 19 = .ok (.ldc2_w 191, 3) := by decide +kernel
theorem dX8_dogOf_22 : decode cX8_dogOf 22 = .ok (.invokestatic 43, 3) := by decide +kernel
theorem dX8_dogOf_25 : decode cX8_dogOf 25 = .ok (.ifCond .eq 7, 3) := by decide +kernel
theorem dX8_dogOf_28 : decode cX8_dogOf 28 = .ok (.iconst 0, 1) := by decide +kernel
theorem dX8_dogOf_29 : decode cX8_dogOf 29 = .ok (.goto 4, 3) := by decide +kernel
theorem dX8_dogOf_32 : decode cX8_dogOf 32 = .ok (.iconst 2, 1) := by decide +kernel
theorem dX8_dogOf_33 : decode cX8_dogOf 33 = .ok (.invokevirtual 114, 3) := by decide +kernel
theorem dX8_dogOf_36 : decode cX8_dogOf 36 = .ok (.ifCond .eq 5, 3) := by decide +kernel
theorem dX8_dogOf_39 : decode cX8_dogOf 39 = .ok (.iconst 0, 1) := by decide +kernel
theorem dX8_dogOf_40 : decode cX8_dogOf 40 = .ok (.ireturn, 1) := by decide +kernel
theorem dX8_dogOf_41 : decode cX8_dogOf 41 = .ok (.aload_n 0, 1) := by decide +kernel
theorem dX8_dogOf_42 : decode cX8_dogOf 42 = .ok (.aload_n 0, 1) := by decide +kernel
theorem dX8_dogOf_43 : decode cX8_dogOf 43 = .ok (.getfield 13, 3) := by decide +kernel
theorem dX8_dogOf_46 : decode cX8_dogOf 46 = .ok (.invokevirtual 94, 3) := by decide +kernel
theorem dX8_dogOf_49 : decode cX8_dogOf 49 = .ok (.iconst 0, 1) := by decide +kernel
theorem dX8_dogOf_50 : decode cX8_dogOf 50 = .ok (.istore_n 3, 1) := by decide +kernel
theorem dX8_dogOf_51 : decode cX8_dogOf 51 = .ok (.iconst 0, 1) := by decide +kernel
theorem dX8_dogOf_52 : decode cX8_dogOf 52 = .ok (.istore 4, 2) := by decide +kernel
theorem dX8_dogOf_54 : decode cX8_dogOf 54 = .ok (.iconst 0, 1) := by decide +kernel
theorem dX8_dogOf_55 : decode cX8_dogOf 55 = .ok (.istore 5, 2) := by decide +kernel
theorem dX8_dogOf_57 : decode cX8_dogOf 57 = .ok (.iload 5, 2) := by decide +kernel
theorem dX8_dogOf_59 : decode cX8_dogOf 59 = .ok (.aload_n 0, 1) := by decide +kernel
theorem dX8_dogOf_60 : decode cX8_dogOf 60 = .ok (.getfield 13, 3) := by decide +kernel
theorem dX8_dogOf_63 : decode cX8_dogOf 63 = .ok (.iconst 1, 1) := by decide +kernel
theorem dX8_dogOf_64 : decode cX8_dogOf 64 = .ok (.iaload, 1) := by decide +kernel
theorem dX8_dogOf_65 : decode cX8_dogOf 65 = .ok (.if_icmp .ge 71, 3) := by decide +kernel
theorem dX8_dogOf_68 : decode cX8_dogOf 68 = .ok (.aload_n 0, 1) := by decide +kernel
theorem dX8_dogOf_69 : decode cX8_dogOf 69 = .ok (.getfield 13, 3) := by decide +kernel
theorem dX8_dogOf_72 : decode cX8_dogOf 72 = .ok (.iload 5, 2) := by decide +kernel
theorem dX8_dogOf_74 : decode cX8_dogOf 74 = .ok (.iconst 5, 1) := by decide +kernel
theorem dX8_dogOf_75 : decode cX8_dogOf 75 = .ok (.invokestatic 74, 3) := by decide +kernel
theorem dX8_dogOf_78 : decode cX8_dogOf 78 = .ok (.iload_n 1, 1) := by decide +kernel
theorem dX8_dogOf_79 : decode cX8_dogOf 79 = .ok (.if_icmp .ne 7, 3) := by decide +kernel
theorem dX8_dogOf_82 : decode cX8_dogOf 82 = .ok (.iconst 1, 1) := by decide +kernel
theorem dX8_dogOf_83 : decode cX8_dogOf 83 = .ok (.goto 4, 3) := by decide +kernel
theorem dX8_dogOf_86 : decode cX8_dogOf 86 = .ok (.iconst 0, 1) := by decide +kernel
theorem dX8_dogOf_87 : decode cX8_dogOf 87 = .ok (.istore 6, 2) := by decide +kernel
theorem dX8_dogOf_89 : decode cX8_dogOf 89 = .ok (.iload_n 3, 1) := by decide +kernel
theorem dX8_dogOf_90 : decode cX8_dogOf 90 = .ok (.iload 6, 2) := by decide +kernel
theorem dX8_dogOf_92 : decode cX8_dogOf 92 = .ok (.ifCond .eq 7, 3) := by decide +kernel
theorem dX8_dogOf_95 : decode cX8_dogOf 95 = .ok (.iconst 1, 1) := by decide +kernel
theorem dX8_dogOf_96 : decode cX8_dogOf 96 = .ok (.goto 4, 3) := by decide +kernel
theorem dX8_dogOf_99 : decode cX8_dogOf 99 = .ok (.iconst 0, 1) := by decide +kernel
theorem dX8_dogOf_100 : decode cX8_dogOf 100 = .ok (.iadd, 1) := by decide +kernel
theorem dX8_dogOf_101 : decode cX8_dogOf 101 = .ok (.istore_n 3, 1) := by decide +kernel
theorem dX8_dogOf_102 : decode cX8_dogOf 102 = .ok (.iload 4, 2) := by decide +kernel
theorem dX8_dogOf_104 : decode cX8_dogOf 104 = .ok (.iload 6, 2) := by decide +kernel
theorem dX8_dogOf_106 : decode cX8_dogOf 106 = .ok (.ifCond .eq 20, 3) := by decide +kernel
theorem dX8_dogOf_109 : decode cX8_dogOf 109 = .ok (.aload_n 0, 1) := by decide +kernel
theorem dX8_dogOf_110 : decode cX8_dogOf 110 = .ok (.aload_n 0, 1) := by decide +kernel
theorem dX8_dogOf_111 : decode cX8_dogOf 111 = .ok (.getfield 13, 3) := by decide +kernel
theorem dX8_dogOf_114 : decode cX8_dogOf 114 = .ok (.iload 5, 2) := by decide +kernel
theorem dX8_dogOf_116 : decode cX8_dogOf 116 = .ok (.invokevirtual 88, 3) := by decide +kernel
theorem dX8_dogOf_119 : decode cX8_dogOf 119 = .ok (.ifCond .ne 7, 3) := by decide +kernel
theorem dX8_dogOf_122 : decode cX8_dogOf 122 = .ok (.iconst 1, 1) := by decide +kernel
theorem dX8_dogOf_123 : decode cX8_dogOf 123 = .ok (.goto 4, 3) := by decide +kernel
theorem dX8_dogOf_126 : decode cX8_dogOf 126 = .ok (.iconst 0, 1) := by decide +kernel
theorem dX8_dogOf_127 : decode cX8_dogOf 127 = .ok (.iadd, 1) := by decide +kernel
theorem dX8_dogOf_128 : decode cX8_dogOf 128 = .ok (.istore 4, 2) := by decide +kernel
theorem dX8_dogOf_130 : decode cX8_dogOf 130 = .ok (.iinc 5 1, 3) := by decide +kernel
theorem dX8_dogOf_133 : decode cX8_dogOf 133 = .ok (.goto (-76), 3) := by decide +kernel
theorem dX8_dogOf_136 : decode cX8_dogOf 136 = .ok (.iload_n 2, 1) := by decide +kernel
theorem dX8_dogOf_137 : decode cX8_dogOf 137 = .ok (.tableswitch 73 5 10 #[39, 56, 58, 61, 61, 61], 39) := by decide +kernel
theorem dX8_dogOf_176 : decode cX8_dogOf 176 = .ok (.aload_n 0, 1) := by decide +kernel
theorem dX8_dogOf_177 : decode cX8_dogOf 177 = .ok (.getfield 13, 3) := by decide +kernel
theorem dX8_dogOf_180 : decode cX8_dogOf 180 = .ok (.iload_n 1, 1) := by decide +kernel
theorem dX8_dogOf_181 : decode cX8_dogOf 181 = .ok (.invokestatic 67, 3) := by decide +kernel
theorem dX8_dogOf_184 : decode cX8_dogOf 184 = .ok (.ifCond .eq 7, 3) := by decide +kernel
theorem dX8_dogOf_187 : decode cX8_dogOf 187 = .ok (.iconst 1, 1) := by decide +kernel
theorem dX8_dogOf_188 : decode cX8_dogOf 188 = .ok (.goto 4, 3) := by decide +kernel
theorem dX8_dogOf_191 : decode cX8_dogOf 191 = .ok (.iconst 0, 1) := by decide +kernel
theorem dX8_dogOf_192 : decode cX8_dogOf 192 = .ok (.ireturn, 1) := by decide +kernel
theorem dX8_dogOf_193 : decode cX8_dogOf 193 = .ok (.iload_n 3, 1) := by decide +kernel
theorem dX8_dogOf_194 : decode cX8_dogOf 194 = .ok (.ireturn, 1) := by decide +kernel
theorem dX8_dogOf_195 : decode cX8_dogOf 195 = .ok (.iload 4, 2) := by decide +kernel
theorem dX8_dogOf_197 : decode cX8_dogOf 197 = .ok (.ireturn, 1) := by decide +kernel
theorem dX8_dogOf_198 : decode cX8_dogOf 198 = .ok (.aload_n 0, 1) := by decide +kernel
theorem dX8_dogOf_199 : decode cX8_dogOf 199 = .ok (.getfield 13, 3) := by decide +kernel
theorem dX8_dogOf_202 : decode cX8_dogOf 202 = .ok (.iload_n 1, 1) := by decide +kernel
theorem dX8_dogOf_203 : decode cX8_dogOf 203 = .ok (.iload_n 2, 1) := by decide +kernel
theorem dX8_dogOf_204 : decode cX8_dogOf 204 = .ok (.iconst 3, 1) := by decide +kernel
theorem dX8_dogOf_205 : decode cX8_dogOf 205 = .ok (.isub, 1) := by decide +kernel
theorem dX8_dogOf_206 : decode cX8_dogOf 206 = .ok (.invokestatic 47, 3) := by decide +kernel
theorem dX8_dogOf_209 : decode cX8_dogOf 209 = .ok (.ireturn, 1) := by decide +kernel
theorem dX8_dogOf_210 : decode cX8_dogOf 210 = .ok (.aload_n 0, 1) := by decide +kernel
theorem dX8_dogOf_211 : decode cX8_dogOf 211 = .ok (.getfield 13, 3) := by decide +kernel
theorem dX8_dogOf_214 : decode cX8_dogOf 214 = .ok (.iload_n 1, 1) := by decide +kernel
theorem dX8_dogOf_215 : decode cX8_dogOf 215 = .ok (.iload_n 2, 1) := by decide +kernel
theorem dX8_dogOf_216 : decode cX8_dogOf 216 = .ok (.invokestatic 47, 3) := by decide +kernel
theorem dX8_dogOf_219 : decode cX8_dogOf 219 = .ok (.ireturn, 1) := by decide +kernel
theorem dX8_sightingOf_0 : decode cX8_sightingOf 0 = .ok (.aload_n 0, 1) := by decide +kernel
theorem dX8_sightingOf_1 : decode cX8_sightingOf 1 = .ok (.iload_n 1, 1) := by decide +kernel
theorem dX8_sightingOf_2 : decode cX8_sightingOf 2 = .ok (.i2l, 1) := by decide +kernel
theorem dX8_sightingOf_3 : decode cX8_sightingOf 3 = .ok (.lconst 0, 1) := by decide +kernel
theorem dX8_sightingOf_4 : decode cX8_sightingOf 4 = .ok (.aload_n 0, 1) := by decide +kernel
theorem dX8_sightingOf_5 : decode cX8_sightingOf 5 = .ok (.getfield 13, 3) := by decide +kernel
theorem dX8_sightingOf_8 : decode cX8_sightingOf 8 = .ok (.iconst 1, 1) := by decide +kernel
theorem dX8_sightingOf_9 : decode cX8_sightingOf 9 = .ok (.iaload, 1) := by decide +kernel
theorem dX8_sightingOf_10 : decode cX8_sightingOf 10 = .ok (.iconst 1, 1) := by decide +kernel
theorem dX8_sightingOf_11 : decode cX8_sightingOf 11 = .ok (.isub, 1) := by decide +kernel
theorem dX8_sightingOf_12 : decode cX8_sightingOf 12 = .ok (.i2l, 1) := by decide +kernel
theorem dX8_sightingOf_13 : decode cX8_sightingOf 13 = .ok (.invokestatic 43, 3) := by decide +kernel
theorem dX8_sightingOf_16 : decode cX8_sightingOf 16 = .ok (.ifCond .ne 7, 3) := by decide +kernel
theorem dX8_sightingOf_19 : decode cX8_sightingOf 19 = .ok (.iconst 1, 1) := by decide +kernel
theorem dX8_sightingOf_20 : decode cX8_sightingOf 20 = .ok (.goto 20, 3) := by decide +kernel
theorem dX8_sightingOf_23 : decode cX8_sightingOf 23 = .ok (.iload_n 2, 1) := by decide +kernel
theorem dX8_sightingOf_24 : decode cX8_sightingOf 24 = .ok (.i2l, 1) := by decide +kernel
theorem dX8_sightingOf_25 : decode cX8_sightingOf 25 = .ok (.lconst 0, 1) := by decide +kernel
theorem dX8_sightingOf_26 : decode cX8_sightingOf 26 = .ok (.ldc2_w 57, 3) := by decide +kernel
theorem dX8_sightingOf_29 : decode cX8_sightingOf 29 = .ok (.invokestatic 43, 3) := by decide +kernel
theorem dX8_sightingOf_32 : decode cX8_sightingOf 32 = .ok (.ifCond .eq 7, 3) := by decide +kernel
theorem dX8_sightingOf_35 : decode cX8_sightingOf 35 = .ok (.iconst 0, 1) := by decide +kernel
theorem dX8_sightingOf_36 : decode cX8_sightingOf 36 = .ok (.goto 4, 3) := by decide +kernel
theorem dX8_sightingOf_39 : decode cX8_sightingOf 39 = .ok (.iconst 2, 1) := by decide +kernel
theorem dX8_sightingOf_40 : decode cX8_sightingOf 40 = .ok (.invokevirtual 114, 3) := by decide +kernel
theorem dX8_sightingOf_43 : decode cX8_sightingOf 43 = .ok (.ifCond .eq 5, 3) := by decide +kernel
theorem dX8_sightingOf_46 : decode cX8_sightingOf 46 = .ok (.iconst 0, 1) := by decide +kernel
theorem dX8_sightingOf_47 : decode cX8_sightingOf 47 = .ok (.ireturn, 1) := by decide +kernel
theorem dX8_sightingOf_48 : decode cX8_sightingOf 48 = .ok (.aload_n 0, 1) := by decide +kernel
theorem dX8_sightingOf_49 : decode cX8_sightingOf 49 = .ok (.aload_n 0, 1) := by decide +kernel
theorem dX8_sightingOf_50 : decode cX8_sightingOf 50 = .ok (.getfield 13, 3) := by decide +kernel
theorem dX8_sightingOf_53 : decode cX8_sightingOf 53 = .ok (.invokevirtual 94, 3) := by decide +kernel
theorem dX8_sightingOf_56 : decode cX8_sightingOf 56 = .ok (.aload_n 0, 1) := by decide +kernel
theorem dX8_sightingOf_57 : decode cX8_sightingOf 57 = .ok (.getfield 13, 3) := by decide +kernel
theorem dX8_sightingOf_60 : decode cX8_sightingOf 60 = .ok (.iload_n 1, 1) := by decide +kernel
theorem dX8_sightingOf_61 : decode cX8_sightingOf 61 = .ok (.iconst 5, 1) := by decide +kernel
theorem dX8_sightingOf_62 : decode cX8_sightingOf 62 = .ok (.invokestatic 74, 3) := by decide +kernel
theorem dX8_sightingOf_65 : decode cX8_sightingOf 65 = .ok (.istore_n 3, 1) := by decide +kernel
theorem dX8_sightingOf_66 : decode cX8_sightingOf 66 = .ok (.iload_n 2, 1) := by decide +kernel
theorem dX8_sightingOf_67 : decode cX8_sightingOf 67 = .ok (.tableswitch 97 6 8 #[25, 52, 79], 25) := by decide +kernel
theorem dX8_sightingOf_92 : decode cX8_sightingOf 92 = .ok (.iload_n 3, 1) := by decide +kernel
theorem dX8_sightingOf_93 : decode cX8_sightingOf 93 = .ok (.iconst (-1), 1) := by decide +kernel
theorem dX8_sightingOf_94 : decode cX8_sightingOf 94 = .ok (.if_icmp .ne 7, 3) := by decide +kernel
theorem dX8_sightingOf_97 : decode cX8_sightingOf 97 = .ok (.iconst (-1), 1) := by decide +kernel
theorem dX8_sightingOf_98 : decode cX8_sightingOf 98 = .ok (.goto 20, 3) := by decide +kernel
theorem dX8_sightingOf_101 : decode cX8_sightingOf 101 = .ok (.aload_n 0, 1) := by decide +kernel
theorem dX8_sightingOf_102 : decode cX8_sightingOf 102 = .ok (.getfield 13, 3) := by decide +kernel
theorem dX8_sightingOf_105 : decode cX8_sightingOf 105 = .ok (.iload_n 3, 1) := by decide +kernel
theorem dX8_sightingOf_106 : decode cX8_sightingOf 106 = .ok (.aload_n 0, 1) := by decide +kernel
theorem dX8_sightingOf_107 : decode cX8_sightingOf 107 = .ok (.getfield 13, 3) := by decide +kernel
theorem dX8_sightingOf_110 : decode cX8_sightingOf 110 = .ok (.iload_n 1, 1) := by decide +kernel
theorem dX8_sightingOf_111 : decode cX8_sightingOf 111 = .ok (.iconst 3, 1) := by decide +kernel
theorem dX8_sightingOf_112 : decode cX8_sightingOf 112 = .ok (.invokestatic 74, 3) := by decide +kernel
theorem dX8_sightingOf_115 : decode cX8_sightingOf 115 = .ok (.invokestatic 71, 3) := by decide +kernel
theorem dX8_sightingOf_118 : decode cX8_sightingOf 118 = .ok (.ireturn, 1) := by decide +kernel
theorem dX8_sightingOf_119 : decode cX8_sightingOf 119 = .ok (.iload_n 3, 1) := by decide +kernel
theorem dX8_sightingOf_120 : decode cX8_sightingOf 120 = .ok (.iconst (-1), 1) := by decide +kernel
theorem dX8_sightingOf_121 : decode cX8_sightingOf 121 = .ok (.if_icmp .ne 7, 3) := by decide +kernel
theorem dX8_sightingOf_124 : decode cX8_sightingOf 124 = .ok (.iconst (-1), 1) := by decide +kernel
theorem dX8_sightingOf_125 : decode cX8_sightingOf 125 = .ok (.goto 20, 3) := by decide +kernel
theorem dX8_sightingOf_128 : decode cX8_sightingOf 128 = .ok (.aload_n 0, 1) := by decide +kernel
theorem dX8_sightingOf_129 : decode cX8_sightingOf 129 = .ok (.aload_n 0, 1) := by decide +kernel
theorem dX8_sightingOf_130 : decode cX8_sightingOf 130 = .ok (.getfield 13, 3) := by decide +kernel
theorem dX8_sightingOf_133 : decode cX8_sightingOf 133 = .ok (.iload_n 1, 1) := by decide +kernel
theorem dX8_sightingOf_134 : decode cX8_sightingOf 134 = .ok (.invokevirtual 81, 3) := by decide +kernel
theorem dX8_sightingOf_137 : decode cX8_sightingOf 137 = .ok (.ifCond .eq 7, 3) := by decide +kernel
theorem dX8_sightingOf_140 : decode cX8_sightingOf 140 = .ok (.iconst 1, 1) := by decide +kernel
theorem dX8_sightingOf_141 : decode cX8_sightingOf 141 = .ok (.goto 4, 3) := by decide +kernel
theorem dX8_sightingOf_144 : decode cX8_sightingOf 144 = .ok (.iconst 0, 1) := by decide +kernel
theorem dX8_sightingOf_145 : decode cX8_sightingOf 145 = .ok (.ireturn, 1) := by decide +kernel
theorem dX8_sightingOf_146 : decode cX8_sightingOf 146 = .ok (.aload_n 0, 1) := by decide +kernel
theorem dX8_sightingOf_147 : decode cX8_sightingOf 147 = .ok (.aload_n 0, 1) := by decide +kernel
theorem dX8_sightingOf_148 : decode cX8_sightingOf 148 = .ok (.getfield 13, 3) := by decide +kernel
theorem dX8_sightingOf_151 : decode cX8_sightingOf 151 = .ok (.iload_n 1, 1) := by decide +kernel
theorem dX8_sightingOf_152 : decode cX8_sightingOf 152 = .ok (.invokevirtual 88, 3) := by decide +kernel
theorem dX8_sightingOf_155 : decode cX8_sightingOf 155 = .ok (.ifCond .eq 7, 3) := by decide +kernel
theorem dX8_sightingOf_158 : decode cX8_sightingOf 158 = .ok (.iconst 1, 1) := by decide +kernel
theorem dX8_sightingOf_159 : decode cX8_sightingOf 159 = .ok (.goto 4, 3) := by decide +kernel
theorem dX8_sightingOf_162 : decode cX8_sightingOf 162 = .ok (.iconst 0, 1) := by decide +kernel
theorem dX8_sightingOf_163 : decode cX8_sightingOf 163 = .ok (.ireturn, 1) := by decide +kernel
theorem dX8_sightingOf_164 : decode cX8_sightingOf 164 = .ok (.aload_n 0, 1) := by decide +kernel
theorem dX8_sightingOf_165 : decode cX8_sightingOf 165 = .ok (.getfield 13, 3) := by decide +kernel
theorem dX8_sightingOf_168 : decode cX8_sightingOf 168 = .ok (.iload_n 1, 1) := by decide +kernel
theorem dX8_sightingOf_169 : decode cX8_sightingOf 169 = .ok (.iload_n 2, 1) := by decide +kernel
theorem dX8_sightingOf_170 : decode cX8_sightingOf 170 = .ok (.invokestatic 74, 3) := by decide +kernel
theorem dX8_sightingOf_173 : decode cX8_sightingOf 173 = .ok (.ireturn, 1) := by decide +kernel
theorem dX8_purse_0 : decode cX8_purse 0 = .ok (.aload_n 0, 1) := by decide +kernel
theorem dX8_purse_1 : decode cX8_purse 1 = .ok (.iload_n 1, 1) := by decide +kernel
theorem dX8_purse_2 : decode cX8_purse 2 = .ok (.invokestatic 205, 3) := by decide +kernel
theorem dX8_purse_5 : decode cX8_purse 5 = .ok (.ifCond .eq 7, 3) := by decide +kernel
theorem dX8_purse_8 : decode cX8_purse 8 = .ok (.iconst 0, 1) := by decide +kernel
theorem dX8_purse_9 : decode cX8_purse 9 = .ok (.goto 4, 3) := by decide +kernel
theorem dX8_purse_12 : decode cX8_purse 12 = .ok (.iconst 1, 1) := by decide +kernel
theorem dX8_purse_13 : decode cX8_purse 13 = .ok (.invokevirtual 114, 3) := by decide +kernel
theorem dX8_purse_16 : decode cX8_purse 16 = .ok (.ifCond .eq 5, 3) := by decide +kernel
theorem dX8_purse_19 : decode cX8_purse 19 = .ok (.iconst 0, 1) := by decide +kernel
theorem dX8_purse_20 : decode cX8_purse 20 = .ok (.ireturn, 1) := by decide +kernel
theorem dX8_purse_21 : decode cX8_purse 21 = .ok (.aload_n 0, 1) := by decide +kernel
theorem dX8_purse_22 : decode cX8_purse 22 = .ok (.getfield 13, 3) := by decide +kernel
theorem dX8_purse_25 : decode cX8_purse 25 = .ok (.bipush 8, 2) := by decide +kernel
theorem dX8_purse_27 : decode cX8_purse 27 = .ok (.iload_n 1, 1) := by decide +kernel
theorem dX8_purse_28 : decode cX8_purse 28 = .ok (.iadd, 1) := by decide +kernel
theorem dX8_purse_29 : decode cX8_purse 29 = .ok (.iaload, 1) := by decide +kernel
theorem dX8_purse_30 : decode cX8_purse 30 = .ok (.ireturn, 1) := by decide +kernel
theorem dX8_apart_0 : decode cX8_apart 0 = .ok (.aload_n 0, 1) := by decide +kernel
theorem dX8_apart_1 : decode cX8_apart 1 = .ok (.iload_n 1, 1) := by decide +kernel
theorem dX8_apart_2 : decode cX8_apart 2 = .ok (.invokestatic 208, 3) := by decide +kernel
theorem dX8_apart_5 : decode cX8_apart 5 = .ok (.ifCond .eq 10, 3) := by decide +kernel
theorem dX8_apart_8 : decode cX8_apart 8 = .ok (.iload_n 2, 1) := by decide +kernel
theorem dX8_apart_9 : decode cX8_apart 9 = .ok (.invokestatic 208, 3) := by decide +kernel
theorem dX8_apart_12 : decode cX8_apart 12 = .ok (.ifCond .ne 7, 3) := by decide +kernel
theorem dX8_apart_15 : decode cX8_apart 15 = .ok (.iconst 1, 1) := by decide +kernel
theorem dX8_apart_16 : decode cX8_apart 16 = .ok (.goto 18, 3) := by decide +kernel
theorem dX8_apart_19 : decode cX8_apart 19 = .ok (.iload_n 3, 1) := by decide +kernel
theorem dX8_apart_20 : decode cX8_apart 20 = .ok (.i2l, 1) := by decide +kernel
theorem dX8_apart_21 : decode cX8_apart 21 = .ok (.lconst 0, 1) := by decide +kernel
theorem dX8_apart_22 : decode cX8_apart 22 = .ok (.lconst 1, 1) := by decide +kernel
theorem dX8_apart_23 : decode cX8_apart 23 = .ok (.invokestatic 43, 3) := by decide +kernel
theorem dX8_apart_26 : decode cX8_apart 26 = .ok (.ifCond .eq 7, 3) := by decide +kernel
theorem dX8_apart_29 : decode cX8_apart 29 = .ok (.iconst 0, 1) := by decide +kernel
theorem dX8_apart_30 : decode cX8_apart 30 = .ok (.goto 4, 3) := by decide +kernel
theorem dX8_apart_33 : decode cX8_apart 33 = .ok (.iconst 2, 1) := by decide +kernel
theorem dX8_apart_34 : decode cX8_apart 34 = .ok (.invokevirtual 114, 3) := by decide +kernel
theorem dX8_apart_37 : decode cX8_apart 37 = .ok (.ifCond .eq 5, 3) := by decide +kernel
theorem dX8_apart_40 : decode cX8_apart 40 = .ok (.iconst 0, 1) := by decide +kernel
theorem dX8_apart_41 : decode cX8_apart 41 = .ok (.ireturn, 1) := by decide +kernel
theorem dX8_apart_42 : decode cX8_apart 42 = .ok (.aload_n 0, 1) := by decide +kernel
theorem dX8_apart_43 : decode cX8_apart 43 = .ok (.aload_n 0, 1) := by decide +kernel
theorem dX8_apart_44 : decode cX8_apart 44 = .ok (.getfield 13, 3) := by decide +kernel
theorem dX8_apart_47 : decode cX8_apart 47 = .ok (.invokevirtual 94, 3) := by decide +kernel
theorem dX8_apart_50 : decode cX8_apart 50 = .ok (.aload_n 0, 1) := by decide +kernel
theorem dX8_apart_51 : decode cX8_apart 51 = .ok (.getfield 29, 3) := by decide +kernel
theorem dX8_apart_54 : decode cX8_apart 54 = .ok (.bipush 12, 2) := by decide +kernel
theorem dX8_apart_56 : decode cX8_apart 56 = .ok (.iload_n 1, 1) := by decide +kernel
theorem dX8_apart_57 : decode cX8_apart 57 = .ok (.imul, 1) := by decide +kernel
theorem dX8_apart_58 : decode cX8_apart 58 = .ok (.iload_n 2, 1) := by decide +kernel
theorem dX8_apart_59 : decode cX8_apart 59 = .ok (.iadd, 1) := by decide +kernel
theorem dX8_apart_60 : decode cX8_apart 60 = .ok (.iaload, 1) := by decide +kernel
theorem dX8_apart_61 : decode cX8_apart 61 = .ok (.bipush 99, 2) := by decide +kernel
theorem dX8_apart_63 : decode cX8_apart 63 = .ok (.if_icmp .ge 17, 3) := by decide +kernel
theorem dX8_apart_66 : decode cX8_apart 66 = .ok (.aload_n 0, 1) := by decide +kernel
theorem dX8_apart_67 : decode cX8_apart 67 = .ok (.getfield 29, 3) := by decide +kernel
theorem dX8_apart_70 : decode cX8_apart 70 = .ok (.bipush 12, 2) := by decide +kernel
theorem dX8_apart_72 : decode cX8_apart 72 = .ok (.iload_n 1, 1) := by decide +kernel
theorem dX8_apart_73 : decode cX8_apart 73 = .ok (.imul, 1) := by decide +kernel
theorem dX8_apart_74 : decode cX8_apart 74 = .ok (.iload_n 2, 1) := by decide +kernel
theorem dX8_apart_75 : decode cX8_apart 75 = .ok (.iadd, 1) := by decide +kernel
theorem dX8_apart_76 : decode cX8_apart 76 = .ok (.iaload, 1) := by decide +kernel
theorem dX8_apart_77 : decode cX8_apart 77 = .ok (.goto 4, 3) := by decide +kernel
theorem dX8_apart_80 : decode cX8_apart 80 = .ok (.iconst (-1), 1) := by decide +kernel
theorem dX8_apart_81 : decode cX8_apart 81 = .ok (.ireturn, 1) := by decide +kernel
theorem dX8_remember_0 : decode cX8_remember 0 = .ok (.aload_n 0, 1) := by decide +kernel
theorem dX8_remember_1 : decode cX8_remember 1 = .ok (.getfield 188, 3) := by decide +kernel
theorem dX8_remember_4 : decode cX8_remember 4 = .ok (.bipush 14, 2) := by decide +kernel
theorem dX8_remember_6 : decode cX8_remember 6 = .ok (.if_icmp .ne 44, 3) := by decide +kernel
theorem dX8_remember_9 : decode cX8_remember 9 = .ok (.iconst 0, 1) := by decide +kernel
theorem dX8_remember_10 : decode cX8_remember 10 = .ok (.istore_n 1, 1) := by decide +kernel
theorem dX8_remember_11 : decode cX8_remember 11 = .ok (.iload_n 1, 1) := by decide +kernel
theorem dX8_remember_12 : decode cX8_remember 12 = .ok (.sipush 3224, 3) := by decide +kernel
theorem dX8_remember_15 : decode cX8_remember 15 = .ok (.if_icmp .ge 25, 3) := by decide +kernel
theorem dX8_remember_18 : decode cX8_remember 18 = .ok (.aload_n 0, 1) := by decide +kernel
theorem dX8_remember_19 : decode cX8_remember 19 = .ok (.getfield 19, 3) := by decide +kernel
theorem dX8_remember_22 : decode cX8_remember 22 = .ok (.iload_n 1, 1) := by decide +kernel
theorem dX8_remember_23 : decode cX8_remember 23 = .ok (.aload_n 0, 1) := by decide +kernel
theorem dX8_remember_24 : decode cX8_remember 24 = .ok (.getfield 19, 3) := by decide +kernel
theorem dX8_remember_27 : decode cX8_remember 27 = .ok (.iload_n 1, 1) := by decide +kernel
theorem dX8_remember_28 : decode cX8_remember 28 = .ok (.sipush 248, 3) := by decide +kernel
theorem dX8_remember_31 : decode cX8_remember 31 = .ok (.iadd, 1) := by decide +kernel
theorem dX8_remember_32 : decode cX8_remember 32 = .ok (.iaload, 1) := by decide +kernel
theorem dX8_remember_33 : decode cX8_remember 33 = .ok (.iastore, 1) := by decide +kernel
theorem dX8_remember_34 : decode cX8_remember 34 = .ok (.iinc 1 1, 3) := by decide +kernel
theorem dX8_remember_37 : decode cX8_remember 37 = .ok (.goto (-26), 3) := by decide +kernel
theorem dX8_remember_40 : decode cX8_remember 40 = .ok (.aload_n 0, 1) := by decide +kernel
theorem dX8_remember_41 : decode cX8_remember 41 = .ok (.dup, 1) := by decide +kernel
theorem dX8_remember_42 : decode cX8_remember 42 = .ok (.getfield 188, 3) := by decide +kernel
theorem dX8_remember_45 : decode cX8_remember 45 = .ok (.iconst 1, 1) := by decide +kernel
theorem dX8_remember_46 : decode cX8_remember 46 = .ok (.isub, 1) := by decide +kernel
theorem dX8_remember_47 : decode cX8_remember 47 = .ok (.putfield 188, 3) := by decide +kernel
theorem dX8_remember_50 : decode cX8_remember 50 = .ok (.aload_n 0, 1) := by decide +kernel
theorem dX8_remember_51 : decode cX8_remember 51 = .ok (.getfield 13, 3) := by decide +kernel
theorem dX8_remember_54 : decode cX8_remember 54 = .ok (.iconst 0, 1) := by decide +kernel
theorem dX8_remember_55 : decode cX8_remember 55 = .ok (.aload_n 0, 1) := by decide +kernel
theorem dX8_remember_56 : decode cX8_remember 56 = .ok (.getfield 19, 3) := by decide +kernel
theorem dX8_remember_59 : decode cX8_remember 59 = .ok (.sipush 248, 3) := by decide +kernel
theorem dX8_remember_62 : decode cX8_remember 62 = .ok (.aload_n 0, 1) := by decide +kernel
theorem dX8_remember_63 : decode cX8_remember 63 = .ok (.getfield 188, 3) := by decide +kernel
theorem dX8_remember_66 : decode cX8_remember 66 = .ok (.imul, 1) := by decide +kernel
theorem dX8_remember_67 : decode cX8_remember 67 = .ok (.invokestatic 184, 3) := by decide +kernel
theorem dX8_remember_70 : decode cX8_remember 70 = .ok (.aload_n 0, 1) := by decide +kernel
theorem dX8_remember_71 : decode cX8_remember 71 = .ok (.dup, 1) := by decide +kernel
theorem dX8_remember_72 : decode cX8_remember 72 = .ok (.getfield 188, 3) := by decide +kernel
theorem dX8_remember_75 : decode cX8_remember 75 = .ok (.iconst 1, 1) := by decide +kernel
theorem dX8_remember_76 : decode cX8_remember 76 = .ok (.iadd, 1) := by decide +kernel
theorem dX8_remember_77 : decode cX8_remember 77 = .ok (.putfield 188, 3) := by decide +kernel
theorem dX8_remember_80 : decode cX8_remember 80 = .ok (.return_, 1) := by decide +kernel
theorem dX8_lose_0 : decode cX8_lose 0 = .ok (.iload_n 1, 1) := by decide +kernel
theorem dX8_lose_1 : decode cX8_lose 1 = .ok (.i2l, 1) := by decide +kernel
theorem dX8_lose_2 : decode cX8_lose 2 = .ok (.lconst 1, 1) := by decide +kernel
theorem dX8_lose_3 : decode cX8_lose 3 = .ok (.ldc2_w 109, 3) := by decide +kernel
theorem dX8_lose_6 : decode cX8_lose 6 = .ok (.invokestatic 43, 3) := by decide +kernel
theorem dX8_lose_9 : decode cX8_lose 9 = .ok (.ifCond .eq 32, 3) := by decide +kernel
theorem dX8_lose_12 : decode cX8_lose 12 = .ok (.iload_n 2, 1) := by decide +kernel
theorem dX8_lose_13 : decode cX8_lose 13 = .ok (.i2l, 1) := by decide +kernel
theorem dX8_lose_14 : decode cX8_lose 14 = .ok (.lconst 1, 1) := by decide +kernel
theorem dX8_lose_15 : decode cX8_lose 15 = .ok (.ldc2_w 211, 3) := by decide +kernel
theorem dX8_lose_18 : decode cX8_lose 18 = .ok (.invokestatic 43, 3) := by decide +kernel
theorem dX8_lose_21 : decode cX8_lose 21 = .ok (.ifCond .eq 20, 3) := by decide +kernel
theorem dX8_lose_24 : decode cX8_lose 24 = .ok (.iload 4, 2) := by decide +kernel
theorem dX8_lose_26 : decode cX8_lose 26 = .ok (.i2l, 1) := by decide +kernel
theorem dX8_lose_27 : decode cX8_lose 27 = .ok (.lconst 1, 1) := by decide +kernel
theorem dX8_lose_28 : decode cX8_lose 28 = .ok (.ldc2_w 213, 3) := by decide +kernel
theorem dX8_lose_31 : decode cX8_lose 31 = .ok (.invokestatic 43, 3) := by decide +kernel
theorem dX8_lose_34 : decode cX8_lose 34 = .ok (.ifCond .eq 7, 3) := by decide +kernel
theorem dX8_lose_37 : decode cX8_lose 37 = .ok (.iconst 1, 1) := by decide +kernel
theorem dX8_lose_38 : decode cX8_lose 38 = .ok (.goto 4, 3) := by decide +kernel
theorem dX8_lose_41 : decode cX8_lose 41 = .ok (.iconst 0, 1) := by decide +kernel
theorem dX8_lose_42 : decode cX8_lose 42 = .ok (.istore 5, 2) := by decide +kernel
theorem dX8_lose_44 : decode cX8_lose 44 = .ok (.aload_n 0, 1) := by decide +kernel
theorem dX8_lose_45 : decode cX8_lose 45 = .ok (.iload_n 3, 1) := by decide +kernel
theorem dX8_lose_46 : decode cX8_lose 46 = .ok (.invokestatic 208, 3) := by decide +kernel
theorem dX8_lose_49 : decode cX8_lose 49 = .ok (.ifCond .ne 7, 3) := by decide +kernel
theorem dX8_lose_52 : decode cX8_lose 52 = .ok (.iconst 1, 1) := by decide +kernel
theorem dX8_lose_53 : decode cX8_lose 53 = .ok (.goto 28, 3) := by decide +kernel
theorem dX8_lose_56 : decode cX8_lose 56 = .ok (.iload 5, 2) := by decide +kernel
theorem dX8_lose_58 : decode cX8_lose 58 = .ok (.ifCond .ne 7, 3) := by decide +kernel
theorem dX8_lose_61 : decode cX8_lose 61 = .ok (.iconst 2, 1) := by decide +kernel
theorem dX8_lose_62 : decode cX8_lose 62 = .ok (.goto 19, 3) := by decide +kernel
theorem dX8_lose_65 : decode cX8_lose 65 = .ok (.aload_n 0, 1) := by decide +kernel
theorem dX8_lose_66 : decode cX8_lose 66 = .ok (.getfield 13, 3) := by decide +kernel
theorem dX8_lose_69 : decode cX8_lose 69 = .ok (.iconst 0, 1) := by decide +kernel
theorem dX8_lose_70 : decode cX8_lose 70 = .ok (.iaload, 1) := by decide +kernel
theorem dX8_lose_71 : decode cX8_lose 71 = .ok (.bipush 6, 2) := by decide +kernel
theorem dX8_lose_73 : decode cX8_lose 73 = .ok (.if_icmp .ge 7, 3) := by decide +kernel
theorem dX8_lose_76 : decode cX8_lose 76 = .ok (.iconst 0, 1) := by decide +kernel
theorem dX8_lose_77 : decode cX8_lose 77 = .ok (.goto 4, 3) := by decide +kernel
theorem dX8_lose_80 : decode cX8_lose 80 = .ok (.iconst 3, 1) := by decide +kernel
theorem dX8_lose_81 : decode cX8_lose 81 = .ok (.invokevirtual 114, 3) := by decide +kernel
theorem dX8_lose_84 : decode cX8_lose 84 = .ok (.ifCond .eq 5, 3) := by decide +kernel
theorem dX8_lose_87 : decode cX8_lose 87 = .ok (.iconst 0, 1) := by decide +kernel
theorem dX8_lose_88 : decode cX8_lose 88 = .ok (.ireturn, 1) := by decide +kernel
theorem dX8_lose_89 : decode cX8_lose 89 = .ok (.aload_n 0, 1) := by decide +kernel
theorem dX8_lose_90 : decode cX8_lose 90 = .ok (.invokevirtual 215, 3) := by decide +kernel
theorem dX8_lose_93 : decode cX8_lose 93 = .ok (.aload_n 0, 1) := by decide +kernel
theorem dX8_lose_94 : decode cX8_lose 94 = .ok (.getfield 13, 3) := by decide +kernel
theorem dX8_lose_97 : decode cX8_lose 97 = .ok (.iload_n 1, 1) := by decide +kernel
theorem dX8_lose_98 : decode cX8_lose 98 = .ok (.iload_n 2, 1) := by decide +kernel
theorem dX8_lose_99 : decode cX8_lose 99 = .ok (.iload_n 3, 1) := by decide +kernel
theorem dX8_lose_100 : decode cX8_lose 100 = .ok (.iload 4, 2) := by decide +kernel
theorem dX8_lose_102 : decode cX8_lose 102 = .ok (.invokestatic 133, 3) := by decide +kernel
theorem dX8_lose_105 : decode cX8_lose 105 = .ok (.ireturn, 1) := by decide +kernel
theorem dX8_sight_0 : decode cX8_sight 0 = .ok (.iload_n 3, 1) := by decide +kernel
theorem dX8_sight_1 : decode cX8_sight 1 = .ok (.i2l, 1) := by decide +kernel
theorem dX8_sight_2 : decode cX8_sight 2 = .ok (.lconst 0, 1) := by decide +kernel
theorem dX8_sight_3 : decode cX8_sight 3 = .ok (.ldc2_w 109, 3) := by decide +kernel
theorem dX8_sight_6 : decode cX8_sight 6 = .ok (.invokestatic 43, 3) := by decide +kernel
theorem dX8_sight_9 : decode cX8_sight 9 = .ok (.ifCond .eq 31, 3) := by decide +kernel
theorem dX8_sight_12 : decode cX8_sight 12 = .ok (.iload 4, 2) := by decide +kernel
theorem dX8_sight_14 : decode cX8_sight 14 = .ok (.i2l, 1) := by decide +kernel
theorem dX8_sight_15 : decode cX8_sight 15 = .ok (.lconst 0, 1) := by decide +kernel
theorem dX8_sight_16 : decode cX8_sight 16 = .ok (.ldc2_w 218, 3) := by decide +kernel
theorem dX8_sight_19 : decode cX8_sight 19 = .ok (.invokestatic 43, 3) := by decide +kernel
theorem dX8_sight_22 : decode cX8_sight 22 = .ok (.ifCond .eq 18, 3) := by decide +kernel
theorem dX8_sight_25 : decode cX8_sight 25 = .ok (.iload 4, 2) := by decide +kernel
theorem dX8_sight_27 : decode cX8_sight 27 = .ok (.aload_n 0, 1) := by decide +kernel
theorem dX8_sight_28 : decode cX8_sight 28 = .ok (.getfield 13, 3) := by decide +kernel
theorem dX8_sight_31 : decode cX8_sight 31 = .ok (.iconst 2, 1) := by decide +kernel
theorem dX8_sight_32 : decode cX8_sight 32 = .ok (.iaload, 1) := by decide +kernel
theorem dX8_sight_33 : decode cX8_sight 33 = .ok (.if_icmp .gt 7, 3) := by decide +kernel
theorem dX8_sight_36 : decode cX8_sight 36 = .ok (.iconst 1, 1) := by decide +kernel
theorem dX8_sight_37 : decode cX8_sight 37 = .ok (.goto 4, 3) := by decide +kernel
theorem dX8_sight_40 : decode cX8_sight 40 = .ok (.iconst 0, 1) := by decide +kernel
theorem dX8_sight_41 : decode cX8_sight 41 = .ok (.istore 6, 2) := by decide +kernel
theorem dX8_sight_43 : decode cX8_sight 43 = .ok (.aload_n 0, 1) := by decide +kernel
theorem dX8_sight_44 : decode cX8_sight 44 = .ok (.iload_n 1, 1) := by decide +kernel
theorem dX8_sight_45 : decode cX8_sight 45 = .ok (.invokestatic 205, 3) := by decide +kernel
theorem dX8_sight_48 : decode cX8_sight 48 = .ok (.ifCond .eq 10, 3) := by decide +kernel
theorem dX8_sight_51 : decode cX8_sight 51 = .ok (.iload_n 2, 1) := by decide +kernel
theorem dX8_sight_52 : decode cX8_sight 52 = .ok (.invokestatic 208, 3) := by decide +kernel
theorem dX8_sight_55 : decode cX8_sight 55 = .ok (.ifCond .ne 7, 3) := by decide +kernel
theorem dX8_sight_58 : decode cX8_sight 58 = .ok (.iconst 1, 1) := by decide +kernel
theorem dX8_sight_59 : decode cX8_sight 59 = .ok (.goto 28, 3) := by decide +kernel
theorem dX8_sight_62 : decode cX8_sight 62 = .ok (.iload 6, 2) := by decide +kernel
theorem dX8_sight_64 : decode cX8_sight 64 = .ok (.ifCond .ne 7, 3) := by decide +kernel
theorem dX8_sight_67 : decode cX8_sight 67 = .ok (.iconst 2, 1) := by decide +kernel
theorem dX8_sight_68 : decode cX8_sight 68 = .ok (.goto 19, 3) := by decide +kernel
theorem dX8_sight_71 : decode cX8_sight 71 = .ok (.aload_n 0, 1) := by decide +kernel
theorem dX8_sight_72 : decode cX8_sight 72 = .ok (.getfield 13, 3) := by decide +kernel
theorem dX8_sight_75 : decode cX8_sight 75 = .ok (.iconst 1, 1) := by decide +kernel
theorem dX8_sight_76 : decode cX8_sight 76 = .ok (.iaload, 1) := by decide +kernel
theorem dX8_sight_77 : decode cX8_sight 77 = .ok (.bipush 20, 2) := by decide +kernel
theorem dX8_sight_79 : decode cX8_sight 79 = .ok (.if_icmp .ge 7, 3) := by decide +kernel
theorem dX8_sight_82 : decode cX8_sight 82 = .ok (.iconst 0, 1) := by decide +kernel
theorem dX8_sight_83 : decode cX8_sight 83 = .ok (.goto 4, 3) := by decide +kernel
theorem dX8_sight_86 : decode cX8_sight 86 = .ok (.iconst 3, 1) := by decide +kernel
theorem dX8_sight_87 : decode cX8_sight 87 = .ok (.invokevirtual 114, 3) := by decide +kernel
theorem dX8_sight_90 : decode cX8_sight 90 = .ok (.ifCond .eq 5, 3) := by decide +kernel
theorem dX8_sight_93 : decode cX8_sight 93 = .ok (.iconst 0, 1) := by decide +kernel
theorem dX8_sight_94 : decode cX8_sight 94 = .ok (.ireturn, 1) := by decide +kernel
theorem dX8_sight_95 : decode cX8_sight 95 = .ok (.aload_n 0, 1) := by decide +kernel
theorem dX8_sight_96 : decode cX8_sight 96 = .ok (.invokevirtual 215, 3) := by decide +kernel
theorem dX8_sight_99 : decode cX8_sight 99 = .ok (.aload_n 0, 1) := by decide +kernel
theorem dX8_sight_100 : decode cX8_sight 100 = .ok (.getfield 13, 3) := by decide +kernel
theorem dX8_sight_103 : decode cX8_sight 103 = .ok (.iload_n 1, 1) := by decide +kernel
theorem dX8_sight_104 : decode cX8_sight 104 = .ok (.iload_n 2, 1) := by decide +kernel
theorem dX8_sight_105 : decode cX8_sight 105 = .ok (.iload_n 3, 1) := by decide +kernel
theorem dX8_sight_106 : decode cX8_sight 106 = .ok (.iload 4, 2) := by decide +kernel
theorem dX8_sight_108 : decode cX8_sight 108 = .ok (.iload 5, 2) := by decide +kernel
theorem dX8_sight_110 : decode cX8_sight 110 = .ok (.invokestatic 147, 3) := by decide +kernel
theorem dX8_sight_113 : decode cX8_sight 113 = .ok (.ireturn, 1) := by decide +kernel
theorem dX8_find_0 : decode cX8_find 0 = .ok (.aload_n 0, 1) := by decide +kernel
theorem dX8_find_1 : decode cX8_find 1 = .ok (.aload_n 0, 1) := by decide +kernel
theorem dX8_find_2 : decode cX8_find 2 = .ok (.getfield 13, 3) := by decide +kernel
theorem dX8_find_5 : decode cX8_find 5 = .ok (.iload_n 1, 1) := by decide +kernel
theorem dX8_find_6 : decode cX8_find 6 = .ok (.invokestatic 151, 3) := by decide +kernel
theorem dX8_find_9 : decode cX8_find 9 = .ok (.ifCond .eq 17, 3) := by decide +kernel
theorem dX8_find_12 : decode cX8_find 12 = .ok (.iload_n 2, 1) := by decide +kernel
theorem dX8_find_13 : decode cX8_find 13 = .ok (.invokestatic 205, 3) := by decide +kernel
theorem dX8_find_16 : decode cX8_find 16 = .ok (.ifCond .eq 10, 3) := by decide +kernel
theorem dX8_find_19 : decode cX8_find 19 = .ok (.iload_n 3, 1) := by decide +kernel
theorem dX8_find_20 : decode cX8_find 20 = .ok (.invokestatic 208, 3) := by decide +kernel
theorem dX8_find_23 : decode cX8_find 23 = .ok (.ifCond .ne 7, 3) := by decide +kernel
theorem dX8_find_26 : decode cX8_find 26 = .ok (.iconst 1, 1) := by decide +kernel
theorem dX8_find_27 : decode cX8_find 27 = .ok (.goto 19, 3) := by decide +kernel
theorem dX8_find_30 : decode cX8_find 30 = .ok (.aload_n 0, 1) := by decide +kernel
theorem dX8_find_31 : decode cX8_find 31 = .ok (.getfield 13, 3) := by decide +kernel
theorem dX8_find_34 : decode cX8_find 34 = .ok (.iload_n 1, 1) := by decide +kernel
theorem dX8_find_35 : decode cX8_find 35 = .ok (.invokestatic 67, 3) := by decide +kernel
theorem dX8_find_38 : decode cX8_find 38 = .ok (.ifCond .eq 7, 3) := by decide +kernel
theorem dX8_find_41 : decode cX8_find 41 = .ok (.iconst 0, 1) := by decide +kernel
theorem dX8_find_42 : decode cX8_find 42 = .ok (.goto 4, 3) := by decide +kernel
theorem dX8_find_45 : decode cX8_find 45 = .ok (.iconst 2, 1) := by decide +kernel
theorem dX8_find_46 : decode cX8_find 46 = .ok (.invokevirtual 114, 3) := by decide +kernel
theorem dX8_find_49 : decode cX8_find 49 = .ok (.ifCond .eq 5, 3) := by decide +kernel
theorem dX8_find_52 : decode cX8_find 52 = .ok (.iconst 0, 1) := by decide +kernel
theorem dX8_find_53 : decode cX8_find 53 = .ok (.ireturn, 1) := by decide +kernel
theorem dX8_find_54 : decode cX8_find 54 = .ok (.aload_n 0, 1) := by decide +kernel
theorem dX8_find_55 : decode cX8_find 55 = .ok (.invokevirtual 215, 3) := by decide +kernel
theorem dX8_find_58 : decode cX8_find 58 = .ok (.aload_n 0, 1) := by decide +kernel
theorem dX8_find_59 : decode cX8_find 59 = .ok (.aload_n 0, 1) := by decide +kernel
theorem dX8_find_60 : decode cX8_find 60 = .ok (.getfield 13, 3) := by decide +kernel
theorem dX8_find_63 : decode cX8_find 63 = .ok (.iload_n 1, 1) := by decide +kernel
theorem dX8_find_64 : decode cX8_find 64 = .ok (.iload_n 2, 1) := by decide +kernel
theorem dX8_find_65 : decode cX8_find 65 = .ok (.iload_n 3, 1) := by decide +kernel
theorem dX8_find_66 : decode cX8_find 66 = .ok (.invokevirtual 154, 3) := by decide +kernel
theorem dX8_find_69 : decode cX8_find 69 = .ok (.ireturn, 1) := by decide +kernel
theorem dX8_close_0 : decode cX8_close 0 = .ok (.aload_n 0, 1) := by decide +kernel
theorem dX8_close_1 : decode cX8_close 1 = .ok (.iload_n 1, 1) := by decide +kernel
theorem dX8_close_2 : decode cX8_close 2 = .ok (.invokestatic 208, 3) := by decide +kernel
theorem dX8_close_5 : decode cX8_close 5 = .ok (.ifCond .eq 10, 3) := by decide +kernel
theorem dX8_close_8 : decode cX8_close 8 = .ok (.iload_n 2, 1) := by decide +kernel
theorem dX8_close_9 : decode cX8_close 9 = .ok (.invokestatic 208, 3) := by decide +kernel
theorem dX8_close_12 : decode cX8_close 12 = .ok (.ifCond .ne 7, 3) := by decide +kernel
theorem dX8_close_15 : decode cX8_close 15 = .ok (.iconst 1, 1) := by decide +kernel
theorem dX8_close_16 : decode cX8_close 16 = .ok (.goto 17, 3) := by decide +kernel
theorem dX8_close_19 : decode cX8_close 19 = .ok (.iload_n 1, 1) := by decide +kernel
theorem dX8_close_20 : decode cX8_close 20 = .ok (.iload_n 2, 1) := by decide +kernel
theorem dX8_close_21 : decode cX8_close 21 = .ok (.invokestatic 59, 3) := by decide +kernel
theorem dX8_close_24 : decode cX8_close 24 = .ok (.iconst (-1), 1) := by decide +kernel
theorem dX8_close_25 : decode cX8_close 25 = .ok (.if_icmp .ne 7, 3) := by decide +kernel
theorem dX8_close_28 : decode cX8_close 28 = .ok (.iconst 2, 1) := by decide +kernel
theorem dX8_close_29 : decode cX8_close 29 = .ok (.goto 4, 3) := by decide +kernel
theorem dX8_close_32 : decode cX8_close 32 = .ok (.iconst 0, 1) := by decide +kernel
theorem dX8_close_33 : decode cX8_close 33 = .ok (.invokevirtual 114, 3) := by decide +kernel
theorem dX8_close_36 : decode cX8_close 36 = .ok (.ifCond .eq 5, 3) := by decide +kernel
theorem dX8_close_39 : decode cX8_close 39 = .ok (.iconst 0, 1) := by decide +kernel
theorem dX8_close_40 : decode cX8_close 40 = .ok (.ireturn, 1) := by decide +kernel
theorem dX8_close_41 : decode cX8_close 41 = .ok (.aload_n 0, 1) := by decide +kernel
theorem dX8_close_42 : decode cX8_close 42 = .ok (.invokevirtual 215, 3) := by decide +kernel
theorem dX8_close_45 : decode cX8_close 45 = .ok (.aload_n 0, 1) := by decide +kernel
theorem dX8_close_46 : decode cX8_close 46 = .ok (.getfield 13, 3) := by decide +kernel
theorem dX8_close_49 : decode cX8_close 49 = .ok (.iload_n 1, 1) := by decide +kernel
theorem dX8_close_50 : decode cX8_close 50 = .ok (.iload_n 2, 1) := by decide +kernel
theorem dX8_close_51 : decode cX8_close 51 = .ok (.iload_n 3, 1) := by decide +kernel
theorem dX8_close_52 : decode cX8_close 52 = .ok (.invokestatic 157, 3) := by decide +kernel
theorem dX8_close_55 : decode cX8_close 55 = .ok (.ireturn, 1) := by decide +kernel
theorem dX8_hours_0 : decode cX8_hours 0 = .ok (.aload_n 0, 1) := by decide +kernel
theorem dX8_hours_1 : decode cX8_hours 1 = .ok (.iload_n 1, 1) := by decide +kernel
theorem dX8_hours_2 : decode cX8_hours 2 = .ok (.i2l, 1) := by decide +kernel
theorem dX8_hours_3 : decode cX8_hours 3 = .ok (.lconst 1, 1) := by decide +kernel
theorem dX8_hours_4 : decode cX8_hours 4 = .ok (.ldc2_w 218, 3) := by decide +kernel
theorem dX8_hours_7 : decode cX8_hours 7 = .ok (.invokestatic 43, 3) := by decide +kernel
theorem dX8_hours_10 : decode cX8_hours 10 = .ok (.ifCond .eq 7, 3) := by decide +kernel
theorem dX8_hours_13 : decode cX8_hours 13 = .ok (.iconst 0, 1) := by decide +kernel
theorem dX8_hours_14 : decode cX8_hours 14 = .ok (.goto 4, 3) := by decide +kernel
theorem dX8_hours_17 : decode cX8_hours 17 = .ok (.iconst 1, 1) := by decide +kernel
theorem dX8_hours_18 : decode cX8_hours 18 = .ok (.invokevirtual 114, 3) := by decide +kernel
theorem dX8_hours_21 : decode cX8_hours 21 = .ok (.ifCond .eq 5, 3) := by decide +kernel
theorem dX8_hours_24 : decode cX8_hours 24 = .ok (.iconst 0, 1) := by decide +kernel
theorem dX8_hours_25 : decode cX8_hours 25 = .ok (.ireturn, 1) := by decide +kernel
theorem dX8_hours_26 : decode cX8_hours 26 = .ok (.aload_n 0, 1) := by decide +kernel
theorem dX8_hours_27 : decode cX8_hours 27 = .ok (.invokevirtual 215, 3) := by decide +kernel
theorem dX8_hours_30 : decode cX8_hours 30 = .ok (.aload_n 0, 1) := by decide +kernel
theorem dX8_hours_31 : decode cX8_hours 31 = .ok (.getfield 13, 3) := by decide +kernel
theorem dX8_hours_34 : decode cX8_hours 34 = .ok (.iload_n 1, 1) := by decide +kernel
theorem dX8_hours_35 : decode cX8_hours 35 = .ok (.invokestatic 174, 3) := by decide +kernel
theorem dX8_hours_38 : decode cX8_hours 38 = .ok (.ireturn, 1) := by decide +kernel
theorem dX8_set_0 : decode cX8_set 0 = .ok (.aload_n 0, 1) := by decide +kernel
theorem dX8_set_1 : decode cX8_set 1 = .ok (.iload_n 1, 1) := by decide +kernel
theorem dX8_set_2 : decode cX8_set 2 = .ok (.iload_n 2, 1) := by decide +kernel
theorem dX8_set_3 : decode cX8_set 3 = .ok (.invokestatic 220, 3) := by decide +kernel
theorem dX8_set_6 : decode cX8_set 6 = .ok (.ifCond .eq 7, 3) := by decide +kernel
theorem dX8_set_9 : decode cX8_set 9 = .ok (.iconst 0, 1) := by decide +kernel
theorem dX8_set_10 : decode cX8_set 10 = .ok (.goto 4, 3) := by decide +kernel
theorem dX8_set_13 : decode cX8_set 13 = .ok (.iconst 1, 1) := by decide +kernel
theorem dX8_set_14 : decode cX8_set 14 = .ok (.invokevirtual 114, 3) := by decide +kernel
theorem dX8_set_17 : decode cX8_set 17 = .ok (.ifCond .eq 5, 3) := by decide +kernel
theorem dX8_set_20 : decode cX8_set 20 = .ok (.iconst 0, 1) := by decide +kernel
theorem dX8_set_21 : decode cX8_set 21 = .ok (.ireturn, 1) := by decide +kernel
theorem dX8_set_22 : decode cX8_set 22 = .ok (.aload_n 0, 1) := by decide +kernel
theorem dX8_set_23 : decode cX8_set 23 = .ok (.invokevirtual 215, 3) := by decide +kernel
theorem dX8_set_26 : decode cX8_set 26 = .ok (.aload_n 0, 1) := by decide +kernel
theorem dX8_set_27 : decode cX8_set 27 = .ok (.getfield 13, 3) := by decide +kernel
theorem dX8_set_30 : decode cX8_set 30 = .ok (.iload_n 1, 1) := by decide +kernel
theorem dX8_set_31 : decode cX8_set 31 = .ok (.iload_n 2, 1) := by decide +kernel
theorem dX8_set_32 : decode cX8_set 32 = .ok (.invokestatic 224, 3) := by decide +kernel
theorem dX8_set_35 : decode cX8_set 35 = .ok (.ireturn, 1) := by decide +kernel
theorem dX8_undo_0 : decode cX8_undo 0 = .ok (.aload_n 0, 1) := by decide +kernel
theorem dX8_undo_1 : decode cX8_undo 1 = .ok (.aload_n 0, 1) := by decide +kernel
theorem dX8_undo_2 : decode cX8_undo 2 = .ok (.getfield 188, 3) := by decide +kernel
theorem dX8_undo_5 : decode cX8_undo 5 = .ok (.ifCond .ne 7, 3) := by decide +kernel
theorem dX8_undo_8 : decode cX8_undo 8 = .ok (.iconst 1, 1) := by decide +kernel
theorem dX8_undo_9 : decode cX8_undo 9 = .ok (.goto 4, 3) := by decide +kernel
theorem dX8_undo_12 : decode cX8_undo 12 = .ok (.iconst 0, 1) := by decide +kernel
theorem dX8_undo_13 : decode cX8_undo 13 = .ok (.invokevirtual 114, 3) := by decide +kernel
theorem dX8_undo_16 : decode cX8_undo 16 = .ok (.ifCond .eq 5, 3) := by decide +kernel
theorem dX8_undo_19 : decode cX8_undo 19 = .ok (.iconst 0, 1) := by decide +kernel
theorem dX8_undo_20 : decode cX8_undo 20 = .ok (.ireturn, 1) := by decide +kernel
theorem dX8_undo_21 : decode cX8_undo 21 = .ok (.aload_n 0, 1) := by decide +kernel
theorem dX8_undo_22 : decode cX8_undo 22 = .ok (.dup, 1) := by decide +kernel
theorem dX8_undo_23 : decode cX8_undo 23 = .ok (.getfield 188, 3) := by decide +kernel
theorem dX8_undo_26 : decode cX8_undo 26 = .ok (.iconst 1, 1) := by decide +kernel
theorem dX8_undo_27 : decode cX8_undo 27 = .ok (.isub, 1) := by decide +kernel
theorem dX8_undo_28 : decode cX8_undo 28 = .ok (.putfield 188, 3) := by decide +kernel
theorem dX8_undo_31 : decode cX8_undo 31 = .ok (.aload_n 0, 1) := by decide +kernel
theorem dX8_undo_32 : decode cX8_undo 32 = .ok (.getfield 19, 3) := by decide +kernel
theorem dX8_undo_35 : decode cX8_undo 35 = .ok (.sipush 248, 3) := by decide +kernel
theorem dX8_undo_38 : decode cX8_undo 38 = .ok (.aload_n 0, 1) := by decide +kernel
theorem dX8_undo_39 : decode cX8_undo 39 = .ok (.getfield 188, 3) := by decide +kernel
theorem dX8_undo_42 : decode cX8_undo 42 = .ok (.imul, 1) := by decide +kernel
theorem dX8_undo_43 : decode cX8_undo 43 = .ok (.aload_n 0, 1) := by decide +kernel
theorem dX8_undo_44 : decode cX8_undo 44 = .ok (.getfield 13, 3) := by decide +kernel
theorem dX8_undo_47 : decode cX8_undo 47 = .ok (.iconst 0, 1) := by decide +kernel
theorem dX8_undo_48 : decode cX8_undo 48 = .ok (.invokestatic 184, 3) := by decide +kernel
theorem dX8_undo_51 : decode cX8_undo 51 = .ok (.aload_n 0, 1) := by decide +kernel
theorem dX8_undo_52 : decode cX8_undo 52 = .ok (.getfield 188, 3) := by decide +kernel
theorem dX8_undo_55 : decode cX8_undo 55 = .ok (.ireturn, 1) := by decide +kernel
theorem dX8_canBe_0 : decode cX8_canBe 0 = .ok (.aload_n 0, 1) := by decide +kernel
theorem dX8_canBe_1 : decode cX8_canBe 1 = .ok (.aload_n 0, 1) := by decide +kernel
theorem dX8_canBe_2 : decode cX8_canBe 2 = .ok (.getfield 13, 3) := by decide +kernel
theorem dX8_canBe_5 : decode cX8_canBe 5 = .ok (.iload_n 1, 1) := by decide +kernel
theorem dX8_canBe_6 : decode cX8_canBe 6 = .ok (.invokestatic 151, 3) := by decide +kernel
theorem dX8_canBe_9 : decode cX8_canBe 9 = .ok (.ifCond .ne 7, 3) := by decide +kernel
theorem dX8_canBe_12 : decode cX8_canBe 12 = .ok (.iconst 1, 1) := by decide +kernel
theorem dX8_canBe_13 : decode cX8_canBe 13 = .ok (.goto 19, 3) := by decide +kernel
theorem dX8_canBe_16 : decode cX8_canBe 16 = .ok (.aload_n 0, 1) := by decide +kernel
theorem dX8_canBe_17 : decode cX8_canBe 17 = .ok (.getfield 13, 3) := by decide +kernel
theorem dX8_canBe_20 : decode cX8_canBe 20 = .ok (.iload_n 1, 1) := by decide +kernel
theorem dX8_canBe_21 : decode cX8_canBe 21 = .ok (.invokestatic 67, 3) := by decide +kernel
theorem dX8_canBe_24 : decode cX8_canBe 24 = .ok (.ifCond .eq 7, 3) := by decide +kernel
theorem dX8_canBe_27 : decode cX8_canBe 27 = .ok (.iconst 0, 1) := by decide +kernel
theorem dX8_canBe_28 : decode cX8_canBe 28 = .ok (.goto 4, 3) := by decide +kernel
theorem dX8_canBe_31 : decode cX8_canBe 31 = .ok (.iconst 2, 1) := by decide +kernel
theorem dX8_canBe_32 : decode cX8_canBe 32 = .ok (.invokevirtual 114, 3) := by decide +kernel
theorem dX8_canBe_35 : decode cX8_canBe 35 = .ok (.ifCond .eq 5, 3) := by decide +kernel
theorem dX8_canBe_38 : decode cX8_canBe 38 = .ok (.iconst 0, 1) := by decide +kernel
theorem dX8_canBe_39 : decode cX8_canBe 39 = .ok (.ireturn, 1) := by decide +kernel
theorem dX8_canBe_40 : decode cX8_canBe 40 = .ok (.aload_n 0, 1) := by decide +kernel
theorem dX8_canBe_41 : decode cX8_canBe 41 = .ok (.aload_n 0, 1) := by decide +kernel
theorem dX8_canBe_42 : decode cX8_canBe 42 = .ok (.getfield 13, 3) := by decide +kernel
theorem dX8_canBe_45 : decode cX8_canBe 45 = .ok (.invokevirtual 94, 3) := by decide +kernel
theorem dX8_canBe_48 : decode cX8_canBe 48 = .ok (.iconst 0, 1) := by decide +kernel
theorem dX8_canBe_49 : decode cX8_canBe 49 = .ok (.istore_n 2, 1) := by decide +kernel
theorem dX8_canBe_50 : decode cX8_canBe 50 = .ok (.iconst 0, 1) := by decide +kernel
theorem dX8_canBe_51 : decode cX8_canBe 51 = .ok (.istore_n 3, 1) := by decide +kernel
theorem dX8_canBe_52 : decode cX8_canBe 52 = .ok (.iload_n 3, 1) := by decide +kernel
theorem dX8_canBe_53 : decode cX8_canBe 53 = .ok (.bipush 12, 2) := by decide +kernel
theorem dX8_canBe_55 : decode cX8_canBe 55 = .ok (.if_icmp .ge 32, 3) := by decide +kernel
theorem dX8_canBe_58 : decode cX8_canBe 58 = .ok (.iload_n 2, 1) := by decide +kernel
theorem dX8_canBe_59 : decode cX8_canBe 59 = .ok (.aload_n 0, 1) := by decide +kernel
theorem dX8_canBe_60 : decode cX8_canBe 60 = .ok (.aload_n 0, 1) := by decide +kernel
theorem dX8_canBe_61 : decode cX8_canBe 61 = .ok (.getfield 13, 3) := by decide +kernel
theorem dX8_canBe_64 : decode cX8_canBe 64 = .ok (.iload_n 1, 1) := by decide +kernel
theorem dX8_canBe_65 : decode cX8_canBe 65 = .ok (.iload_n 3, 1) := by decide +kernel
theorem dX8_canBe_66 : decode cX8_canBe 66 = .ok (.invokevirtual 227, 3) := by decide +kernel
theorem dX8_canBe_69 : decode cX8_canBe 69 = .ok (.ifCond .eq 9, 3) := by decide +kernel
theorem dX8_canBe_72 : decode cX8_canBe 72 = .ok (.iconst 1, 1) := by decide +kernel
theorem dX8_canBe_73 : decode cX8_canBe 73 = .ok (.iload_n 3, 1) := by decide +kernel
theorem dX8_canBe_74 : decode cX8_canBe 74 = .ok (.ishl, 1) := by decide +kernel
theorem dX8_canBe_75 : decode cX8_canBe 75 = .ok (.goto 4, 3) := by decide +kernel
theorem dX8_canBe_78 : decode cX8_canBe 78 = .ok (.iconst 0, 1) := by decide +kernel
theorem dX8_canBe_79 : decode cX8_canBe 79 = .ok (.ior, 1) := by decide +kernel
theorem dX8_canBe_80 : decode cX8_canBe 80 = .ok (.istore_n 2, 1) := by decide +kernel
theorem dX8_canBe_81 : decode cX8_canBe 81 = .ok (.iinc 3 1, 3) := by decide +kernel
theorem dX8_canBe_84 : decode cX8_canBe 84 = .ok (.goto (-32), 3) := by decide +kernel
theorem dX8_canBe_87 : decode cX8_canBe 87 = .ok (.iload_n 2, 1) := by decide +kernel
theorem dX8_canBe_88 : decode cX8_canBe 88 = .ok (.ireturn, 1) := by decide +kernel
theorem dX8_watch_0 : decode cX8_watch 0 = .ok (.aload_n 0, 1) := by decide +kernel
theorem dX8_watch_1 : decode cX8_watch 1 = .ok (.iconst 0, 1) := by decide +kernel
theorem dX8_watch_2 : decode cX8_watch 2 = .ok (.putfield 39, 3) := by decide +kernel
theorem dX8_watch_5 : decode cX8_watch 5 = .ok (.aload_n 0, 1) := by decide +kernel
theorem dX8_watch_6 : decode cX8_watch 6 = .ok (.aload_n 0, 1) := by decide +kernel
theorem dX8_watch_7 : decode cX8_watch 7 = .ok (.getfield 13, 3) := by decide +kernel
theorem dX8_watch_10 : decode cX8_watch 10 = .ok (.invokevirtual 94, 3) := by decide +kernel
theorem dX8_watch_13 : decode cX8_watch 13 = .ok (.iconst (-1), 1) := by decide +kernel
theorem dX8_watch_14 : decode cX8_watch 14 = .ok (.istore_n 1, 1) := by decide +kernel
theorem dX8_watch_15 : decode cX8_watch 15 = .ok (.iconst (-1), 1) := by decide +kernel
theorem dX8_watch_16 : decode cX8_watch 16 = .ok (.istore_n 2, 1) := by decide +kernel
theorem dX8_watch_17 : decode cX8_watch 17 = .ok (.iconst 0, 1) := by decide +kernel
theorem dX8_watch_18 : decode cX8_watch 18 = .ok (.istore_n 3, 1) := by decide +kernel
theorem dX8_watch_19 : decode cX8_watch 19 = .ok (.iload_n 3, 1) := by decide +kernel
theorem dX8_watch_20 : decode cX8_watch 20 = .ok (.bipush 12, 2) := by decide +kernel
theorem dX8_watch_22 : decode cX8_watch 22 = .ok (.if_icmp .ge 115, 3) := by decide +kernel
theorem dX8_watch_25 : decode cX8_watch 25 = .ok (.aload_n 0, 1) := by decide +kernel
theorem dX8_watch_26 : decode cX8_watch 26 = .ok (.getfield 13, 3) := by decide +kernel
theorem dX8_watch_29 : decode cX8_watch 29 = .ok (.invokestatic 193, 3) := by decide +kernel
theorem dX8_watch_32 : decode cX8_watch 32 = .ok (.ifCond .le 105, 3) := by decide +kernel
theorem dX8_watch_35 : decode cX8_watch 35 = .ok (.iconst 0, 1) := by decide +kernel
theorem dX8_watch_36 : decode cX8_watch 36 = .ok (.istore 4, 2) := by decide +kernel
theorem dX8_watch_38 : decode cX8_watch 38 = .ok (.iconst 0, 1) := by decide +kernel
theorem dX8_watch_39 : decode cX8_watch 39 = .ok (.istore 5, 2) := by decide +kernel
theorem dX8_watch_41 : decode cX8_watch 41 = .ok (.iload 5, 2) := by decide +kernel
theorem dX8_watch_43 : decode cX8_watch 43 = .ok (.aload_n 0, 1) := by decide +kernel
theorem dX8_watch_44 : decode cX8_watch 44 = .ok (.getfield 13, 3) := by decide +kernel
theorem dX8_watch_47 : decode cX8_watch 47 = .ok (.iconst 0, 1) := by decide +kernel
theorem dX8_watch_48 : decode cX8_watch 48 = .ok (.iaload, 1) := by decide +kernel
theorem dX8_watch_49 : decode cX8_watch 49 = .ok (.if_icmp .ge 57, 3) := by decide +kernel
theorem dX8_watch_52 : decode cX8_watch 52 = .ok (.iload 4, 2) := by decide +kernel
theorem dX8_watch_54 : decode cX8_watch 54 = .ok (.aload_n 0, 1) := by decide +kernel
theorem dX8_watch_55 : decode cX8_watch 55 = .ok (.getfield 13, 3) := by decide +kernel
theorem dX8_watch_58 : decode cX8_watch 58 = .ok (.iload 5, 2) := by decide +kernel
theorem dX8_watch_60 : decode cX8_watch 60 = .ok (.invokestatic 67, 3) := by decide +kernel
theorem dX8_watch_63 : decode cX8_watch 63 = .ok (.ifCond .eq 33, 3) := by decide +kernel
theorem dX8_watch_66 : decode cX8_watch 66 = .ok (.aload_n 0, 1) := by decide +kernel
theorem dX8_watch_67 : decode cX8_watch 67 = .ok (.aload_n 0, 1) := by decide +kernel
theorem dX8_watch_68 : decode cX8_watch 68 = .ok (.getfield 13, 3) := by decide +kernel
theorem dX8_watch_71 : decode cX8_watch 71 = .ok (.iload 5, 2) := by decide +kernel
theorem dX8_watch_73 : decode cX8_watch 73 = .ok (.iload_n 3, 1) := by decide +kernel
theorem dX8_watch_74 : decode cX8_watch 74 = .ok (.invokevirtual 227, 3) := by decide +kernel
theorem dX8_watch_77 : decode cX8_watch 77 = .ok (.ifCond .eq 19, 3) := by decide +kernel
theorem dX8_watch_80 : decode cX8_watch 80 = .ok (.ldc 230, 2) := by decide +kernel
theorem dX8_watch_82 : decode cX8_watch 82 = .ok (.aload_n 0, 1) := by decide +kernel
theorem dX8_watch_83 : decode cX8_watch 83 = .ok (.getfield 13, 3) := by decide +kernel
theorem dX8_watch_86 : decode cX8_watch 86 = .ok (.iload 5, 2) := by decide +kernel
theorem dX8_watch_88 : decode cX8_watch 88 = .ok (.iconst 4, 1) := by decide +kernel
theorem dX8_watch_89 : decode cX8_watch 89 = .ok (.invokestatic 47, 3) := by decide +kernel
theorem dX8_watch_92 : decode cX8_watch 92 = .ok (.iadd, 1) := by decide +kernel
theorem dX8_watch_93 : decode cX8_watch 93 = .ok (.goto 4, 3) := by decide +kernel
theorem dX8_watch_96 : decode cX8_watch 96 = .ok (.iconst 0, 1) := by decide +kernel
theorem dX8_watch_97 : decode cX8_watch 97 = .ok (.iadd, 1) := by decide +kernel
theorem dX8_watch_98 : decode cX8_watch 98 = .ok (.istore 4, 2) := by decide +kernel
theorem dX8_watch_100 : decode cX8_watch 100 = .ok (.iinc 5 1, 3) := by decide +kernel
theorem dX8_watch_103 : decode cX8_watch 103 = .ok (.goto (-62), 3) := by decide +kernel
theorem dX8_watch_106 : decode cX8_watch 106 = .ok (.iload 4, 2) := by decide +kernel
theorem dX8_watch_108 : decode cX8_watch 108 = .ok (.iload_n 2, 1) := by decide +kernel
theorem dX8_watch_109 : decode cX8_watch 109 = .ok (.if_icmp .le 7, 3) := by decide +kernel
theorem dX8_watch_112 : decode cX8_watch 112 = .ok (.iload_n 3, 1) := by decide +kernel
theorem dX8_watch_113 : decode cX8_watch 113 = .ok (.goto 4, 3) := by decide +kernel
theorem dX8_watch_116 : decode cX8_watch 116 = .ok (.iload_n 1, 1) := by decide +kernel
theorem dX8_watch_117 : decode cX8_watch 117 = .ok (.istore_n 1, 1) := by decide +kernel
theorem dX8_watch_118 : decode cX8_watch 118 = .ok (.iload 4, 2) := by decide +kernel
theorem dX8_watch_120 : decode cX8_watch 120 = .ok (.iload_n 2, 1) := by decide +kernel
theorem dX8_watch_121 : decode cX8_watch 121 = .ok (.if_icmp .le 8, 3) := by decide +kernel
theorem dX8_watch_124 : decode cX8_watch 124 = .ok (.iload 4, 2) := by decide +kernel
theorem dX8_watch_126 : decode cX8_watch 126 = .ok (.goto 4, 3) := by decide +kernel
theorem dX8_watch_129 : decode cX8_watch 129 = .ok (.iload_n 2, 1) := by decide +kernel
theorem dX8_watch_130 : decode cX8_watch 130 = .ok (.istore_n 2, 1) := by decide +kernel
theorem dX8_watch_131 : decode cX8_watch 131 = .ok (.iinc 3 1, 3) := by decide +kernel
theorem dX8_watch_134 : decode cX8_watch 134 = .ok (.goto (-115), 3) := by decide +kernel
theorem dX8_watch_137 : decode cX8_watch 137 = .ok (.iload_n 1, 1) := by decide +kernel
theorem dX8_watch_138 : decode cX8_watch 138 = .ok (.ireturn, 1) := by decide +kernel
theorem dX8_meant_0 : decode cX8_meant 0 = .ok (.aload_n 0, 1) := by decide +kernel
theorem dX8_meant_1 : decode cX8_meant 1 = .ok (.iload_n 1, 1) := by decide +kernel
theorem dX8_meant_2 : decode cX8_meant 2 = .ok (.i2l, 1) := by decide +kernel
theorem dX8_meant_3 : decode cX8_meant 3 = .ok (.lconst 0, 1) := by decide +kernel
theorem dX8_meant_4 : decode cX8_meant 4 = .ok (.ldc2_w 109, 3) := by decide +kernel
theorem dX8_meant_7 : decode cX8_meant 7 = .ok (.invokestatic 43, 3) := by decide +kernel
theorem dX8_meant_10 : decode cX8_meant 10 = .ok (.ifCond .eq 7, 3) := by decide +kernel
theorem dX8_meant_13 : decode cX8_meant 13 = .ok (.iconst 0, 1) := by decide +kernel
theorem dX8_meant_14 : decode cX8_meant 14 = .ok (.goto 4, 3) := by decide +kernel
theorem dX8_meant_17 : decode cX8_meant 17 = .ok (.iconst 1, 1) := by decide +kernel
theorem dX8_meant_18 : decode cX8_meant 18 = .ok (.invokevirtual 114, 3) := by decide +kernel
theorem dX8_meant_21 : decode cX8_meant 21 = .ok (.ifCond .eq 5, 3) := by decide +kernel
theorem dX8_meant_24 : decode cX8_meant 24 = .ok (.iconst 0, 1) := by decide +kernel
theorem dX8_meant_25 : decode cX8_meant 25 = .ok (.ireturn, 1) := by decide +kernel
theorem dX8_meant_26 : decode cX8_meant 26 = .ok (.aload_n 0, 1) := by decide +kernel
theorem dX8_meant_27 : decode cX8_meant 27 = .ok (.getfield 13, 3) := by decide +kernel
theorem dX8_meant_30 : decode cX8_meant 30 = .ok (.iload_n 1, 1) := by decide +kernel
theorem dX8_meant_31 : decode cX8_meant 31 = .ok (.aload_n 0, 1) := by decide +kernel
theorem dX8_meant_32 : decode cX8_meant 32 = .ok (.getfield 13, 3) := by decide +kernel
theorem dX8_meant_35 : decode cX8_meant 35 = .ok (.iconst 2, 1) := by decide +kernel
theorem dX8_meant_36 : decode cX8_meant 36 = .ok (.iaload, 1) := by decide +kernel
theorem dX8_meant_37 : decode cX8_meant 37 = .ok (.invokestatic 91, 3) := by decide +kernel
theorem dX8_meant_40 : decode cX8_meant 40 = .ok (.ireturn, 1) := by decide +kernel
theorem dX8_ifFound_0 : decode cX8_ifFound 0 = .ok (.aload_n 0, 1) := by decide +kernel
theorem dX8_ifFound_1 : decode cX8_ifFound 1 = .ok (.aload_n 0, 1) := by decide +kernel
theorem dX8_ifFound_2 : decode cX8_ifFound 2 = .ok (.getfield 13, 3) := by decide +kernel
theorem dX8_ifFound_5 : decode cX8_ifFound 5 = .ok (.iload_n 1, 1) := by decide +kernel
theorem dX8_ifFound_6 : decode cX8_ifFound 6 = .ok (.invokestatic 151, 3) := by decide +kernel
theorem dX8_ifFound_9 : decode cX8_ifFound 9 = .ok (.ifCond .eq 25, 3) := by decide +kernel
theorem dX8_ifFound_12 : decode cX8_ifFound 12 = .ok (.iload_n 2, 1) := by decide +kernel
theorem dX8_ifFound_13 : decode cX8_ifFound 13 = .ok (.invokestatic 205, 3) := by decide +kernel
theorem dX8_ifFound_16 : decode cX8_ifFound 16 = .ok (.ifCond .eq 18, 3) := by decide +kernel
theorem dX8_ifFound_19 : decode cX8_ifFound 19 = .ok (.iload_n 3, 1) := by decide +kernel
theorem dX8_ifFound_20 : decode cX8_ifFound 20 = .ok (.invokestatic 208, 3) := by decide +kernel
theorem dX8_ifFound_23 : decode cX8_ifFound 23 = .ok (.ifCond .eq 11, 3) := by decide +kernel
theorem dX8_ifFound_26 : decode cX8_ifFound 26 = .ok (.iload 4, 2) := by decide +kernel
theorem dX8_ifFound_28 : decode cX8_ifFound 28 = .ok (.invokestatic 205, 3) := by decide +kernel
theorem dX8_ifFound_31 : decode cX8_ifFound 31 = .ok (.ifCond .ne 7, 3) := by decide +kernel
theorem dX8_ifFound_34 : decode cX8_ifFound 34 = .ok (.iconst 1, 1) := by decide +kernel
theorem dX8_ifFound_35 : decode cX8_ifFound 35 = .ok (.goto 19, 3) := by decide +kernel
theorem dX8_ifFound_38 : decode cX8_ifFound 38 = .ok (.aload_n 0, 1) := by decide +kernel
theorem dX8_ifFound_39 : decode cX8_ifFound 39 = .ok (.getfield 13, 3) := by decide +kernel
theorem dX8_ifFound_42 : decode cX8_ifFound 42 = .ok (.iload_n 1, 1) := by decide +kernel
theorem dX8_ifFound_43 : decode cX8_ifFound 43 = .ok (.invokestatic 67, 3) := by decide +kernel
theorem dX8_ifFound_46 : decode cX8_ifFound 46 = .ok (.ifCond .eq 7, 3) := by decide +kernel
theorem dX8_ifFound_49 : decode cX8_ifFound 49 = .ok (.iconst 0, 1) := by decide +kernel
theorem dX8_ifFound_50 : decode cX8_ifFound 50 = .ok (.goto 4, 3) := by decide +kernel
theorem dX8_ifFound_53 : decode cX8_ifFound 53 = .ok (.iconst 2, 1) := by decide +kernel
theorem dX8_ifFound_54 : decode cX8_ifFound 54 = .ok (.invokevirtual 114, 3) := by decide +kernel
theorem dX8_ifFound_57 : decode cX8_ifFound 57 = .ok (.ifCond .eq 5, 3) := by decide +kernel
theorem dX8_ifFound_60 : decode cX8_ifFound 60 = .ok (.iconst 0, 1) := by decide +kernel
theorem dX8_ifFound_61 : decode cX8_ifFound 61 = .ok (.ireturn, 1) := by decide +kernel
theorem dX8_ifFound_62 : decode cX8_ifFound 62 = .ok (.aload_n 0, 1) := by decide +kernel
theorem dX8_ifFound_63 : decode cX8_ifFound 63 = .ok (.aload_n 0, 1) := by decide +kernel
theorem dX8_ifFound_64 : decode cX8_ifFound 64 = .ok (.getfield 13, 3) := by decide +kernel
theorem dX8_ifFound_67 : decode cX8_ifFound 67 = .ok (.invokevirtual 94, 3) := by decide +kernel
theorem dX8_ifFound_70 : decode cX8_ifFound 70 = .ok (.aload_n 0, 1) := by decide +kernel
theorem dX8_ifFound_71 : decode cX8_ifFound 71 = .ok (.aload_n 0, 1) := by decide +kernel
theorem dX8_ifFound_72 : decode cX8_ifFound 72 = .ok (.getfield 13, 3) := by decide +kernel
theorem dX8_ifFound_75 : decode cX8_ifFound 75 = .ok (.iload_n 1, 1) := by decide +kernel
theorem dX8_ifFound_76 : decode cX8_ifFound 76 = .ok (.iload_n 2, 1) := by decide +kernel
theorem dX8_ifFound_77 : decode cX8_ifFound 77 = .ok (.iload_n 3, 1) := by decide +kernel
theorem dX8_ifFound_78 : decode cX8_ifFound 78 = .ok (.invokevirtual 97, 3) := by decide +kernel
theorem dX8_ifFound_81 : decode cX8_ifFound 81 = .ok (.istore 5, 2) := by decide +kernel
theorem dX8_ifFound_83 : decode cX8_ifFound 83 = .ok (.aload_n 0, 1) := by decide +kernel
theorem dX8_ifFound_84 : decode cX8_ifFound 84 = .ok (.getfield 13, 3) := by decide +kernel
theorem dX8_ifFound_87 : decode cX8_ifFound 87 = .ok (.iload_n 1, 1) := by decide +kernel
theorem dX8_ifFound_88 : decode cX8_ifFound 88 = .ok (.iconst 4, 1) := by decide +kernel
theorem dX8_ifFound_89 : decode cX8_ifFound 89 = .ok (.invokestatic 47, 3) := by decide +kernel
theorem dX8_ifFound_92 : decode cX8_ifFound 92 = .ok (.aload_n 0, 1) := by decide +kernel
theorem dX8_ifFound_93 : decode cX8_ifFound 93 = .ok (.getfield 32, 3) := by decide +kernel
theorem dX8_ifFound_96 : decode cX8_ifFound 96 = .ok (.iload 4, 2) := by decide +kernel
theorem dX8_ifFound_98 : decode cX8_ifFound 98 = .ok (.iaload, 1) := by decide +kernel
theorem dX8_ifFound_99 : decode cX8_ifFound 99 = .ok (.imul, 1) := by decide +kernel
theorem dX8_ifFound_100 : decode cX8_ifFound 100 = .ok (.iload 5, 2) := by decide +kernel
theorem dX8_ifFound_102 : decode cX8_ifFound 102 = .ok (.idiv, 1) := by decide +kernel
theorem dX8_ifFound_103 : decode cX8_ifFound 103 = .ok (.ireturn, 1) := by decide +kernel
theorem dX8_canBeNow_0 : decode cX8_canBeNow 0 = .ok (.aload_n 0, 1) := by decide +kernel
theorem dX8_canBeNow_1 : decode cX8_canBeNow 1 = .ok (.aload_n 0, 1) := by decide +kernel
theorem dX8_canBeNow_2 : decode cX8_canBeNow 2 = .ok (.getfield 16, 3) := by decide +kernel
theorem dX8_canBeNow_5 : decode cX8_canBeNow 5 = .ok (.invokevirtual 94, 3) := by decide +kernel
theorem dX8_canBeNow_8 : decode cX8_canBeNow 8 = .ok (.aload_n 0, 1) := by decide +kernel
theorem dX8_canBeNow_9 : decode cX8_canBeNow 9 = .ok (.aload_n 0, 1) := by decide +kernel
theorem dX8_canBeNow_10 : decode cX8_canBeNow 10 = .ok (.getfield 16, 3) := by decide +kernel
theorem dX8_canBeNow_13 : decode cX8_canBeNow 13 = .ok (.iload_n 1, 1) := by decide +kernel
theorem dX8_canBeNow_14 : decode cX8_canBeNow 14 = .ok (.iload_n 2, 1) := by decide +kernel
theorem dX8_canBeNow_15 : decode cX8_canBeNow 15 = .ok (.invokevirtual 227, 3) := by decide +kernel
theorem dX8_canBeNow_18 : decode cX8_canBeNow 18 = .ok (.ireturn, 1) := by decide +kernel
theorem dX8_fraudsNow_0 : decode cX8_fraudsNow 0 = .ok (.aload_n 0, 1) := by decide +kernel
theorem dX8_fraudsNow_1 : decode cX8_fraudsNow 1 = .ok (.aload_n 0, 1) := by decide +kernel
theorem dX8_fraudsNow_2 : decode cX8_fraudsNow 2 = .ok (.getfield 16, 3) := by decide +kernel
theorem dX8_fraudsNow_5 : decode cX8_fraudsNow 5 = .ok (.invokevirtual 94, 3) := by decide +kernel
theorem dX8_fraudsNow_8 : decode cX8_fraudsNow 8 = .ok (.aload_n 0, 1) := by decide +kernel
theorem dX8_fraudsNow_9 : decode cX8_fraudsNow 9 = .ok (.aload_n 0, 1) := by decide +kernel
theorem dX8_fraudsNow_10 : decode cX8_fraudsNow 10 = .ok (.getfield 16, 3) := by decide +kernel
theorem dX8_fraudsNow_13 : decode cX8_fraudsNow 13 = .ok (.invokevirtual 199, 3) := by decide +kernel
theorem dX8_fraudsNow_16 : decode cX8_fraudsNow 16 = .ok (.ireturn, 1) := by decide +kernel
theorem dX8_command_0 : decode cX8_command 0 = .ok (.iload_n 2, 1) := by decide +kernel
theorem dX8_command_1 : decode cX8_command 1 = .ok (.sipush 10000, 3) := by decide +kernel
theorem dX8_command_4 : decode cX8_command 4 = .ok (.idiv, 1) := by decide +kernel
theorem dX8_command_5 : decode cX8_command 5 = .ok (.istore_n 3, 1) := by decide +kernel
theorem dX8_command_6 : decode cX8_command 6 = .ok (.iload_n 2, 1) := by decide +kernel
theorem dX8_command_7 : decode cX8_command 7 = .ok (.sipush 1000, 3) := by decide +kernel
theorem dX8_command_10 : decode cX8_command 10 = .ok (.idiv, 1) := by decide +kernel
theorem dX8_command_11 : decode cX8_command 11 = .ok (.bipush 10, 2) := by decide +kernel
theorem dX8_command_13 : decode cX8_command 13 = .ok (.irem, 1) := by decide +kernel
theorem dX8_command_14 : decode cX8_command 14 = .ok (.istore 4, 2) := by decide +kernel
theorem dX8_command_16 : decode cX8_command 16 = .ok (.iload_n 2, 1) := by decide +kernel
theorem dX8_command_17 : decode cX8_command 17 = .ok (.sipush 1000, 3) := by decide +kernel
theorem dX8_command_20 : decode cX8_command 20 = .ok (.idiv, 1) := by decide +kernel
theorem dX8_command_21 : decode cX8_command 21 = .ok (.istore 5, 2) := by decide +kernel
theorem dX8_command_23 : decode cX8_command 23 = .ok (.iload_n 2, 1) := by decide +kernel
theorem dX8_command_24 : decode cX8_command 24 = .ok (.bipush 100, 2) := by decide +kernel
theorem dX8_command_26 : decode cX8_command 26 = .ok (.idiv, 1) := by decide +kernel
theorem dX8_command_27 : decode cX8_command 27 = .ok (.bipush 100, 2) := by decide +kernel
theorem dX8_command_29 : decode cX8_command 29 = .ok (.irem, 1) := by decide +kernel
theorem dX8_command_30 : decode cX8_command 30 = .ok (.istore 6, 2) := by decide +kernel
theorem dX8_command_32 : decode cX8_command 32 = .ok (.iload_n 2, 1) := by decide +kernel
theorem dX8_command_33 : decode cX8_command 33 = .ok (.bipush 10, 2) := by decide +kernel
theorem dX8_command_35 : decode cX8_command 35 = .ok (.idiv, 1) := by decide +kernel
theorem dX8_command_36 : decode cX8_command 36 = .ok (.bipush 100, 2) := by decide +kernel
theorem dX8_command_38 : decode cX8_command 38 = .ok (.irem, 1) := by decide +kernel
theorem dX8_command_39 : decode cX8_command 39 = .ok (.istore 7, 2) := by decide +kernel
theorem dX8_command_41 : decode cX8_command 41 = .ok (.iload_n 2, 1) := by decide +kernel
theorem dX8_command_42 : decode cX8_command 42 = .ok (.bipush 10, 2) := by decide +kernel
theorem dX8_command_44 : decode cX8_command 44 = .ok (.idiv, 1) := by decide +kernel
theorem dX8_command_45 : decode cX8_command 45 = .ok (.bipush 10, 2) := by decide +kernel
theorem dX8_command_47 : decode cX8_command 47 = .ok (.irem, 1) := by decide +kernel
theorem dX8_command_48 : decode cX8_command 48 = .ok (.istore 8, 2) := by decide +kernel
theorem dX8_command_50 : decode cX8_command 50 = .ok (.iload_n 2, 1) := by decide +kernel
theorem dX8_command_51 : decode cX8_command 51 = .ok (.bipush 10, 2) := by decide +kernel
theorem dX8_command_53 : decode cX8_command 53 = .ok (.irem, 1) := by decide +kernel
theorem dX8_command_54 : decode cX8_command 54 = .ok (.istore 9, 2) := by decide +kernel
theorem dX8_command_56 : decode cX8_command 56 = .ok (.iload_n 2, 1) := by decide +kernel
theorem dX8_command_57 : decode cX8_command 57 = .ok (.sipush 1000, 3) := by decide +kernel
theorem dX8_command_60 : decode cX8_command 60 = .ok (.irem, 1) := by decide +kernel
theorem dX8_command_61 : decode cX8_command 61 = .ok (.istore 10, 2) := by decide +kernel
theorem dX8_command_63 : decode cX8_command 63 = .ok (.iload_n 2, 1) := by decide +kernel
theorem dX8_command_64 : decode cX8_command 64 = .ok (.bipush 100, 2) := by decide +kernel
theorem dX8_command_66 : decode cX8_command 66 = .ok (.irem, 1) := by decide +kernel
theorem dX8_command_67 : decode cX8_command 67 = .ok (.istore 11, 2) := by decide +kernel
theorem dX8_command_69 : decode cX8_command 69 = .ok (.iload_n 1, 1) := by decide +kernel
theorem dX8_command_70 : decode cX8_command 70 = .ok (.tableswitch 444 1 9 #[50, 79, 143, 208, 272, 305, 356, 376, 412], 50) := by decide +kernel
theorem dX8_command_120 : decode cX8_command 120 = .ok (.iload_n 2, 1) := by decide +kernel
theorem dX8_command_121 : decode cX8_command 121 = .ok (.i2l, 1) := by decide +kernel
theorem dX8_command_122 : decode cX8_command 122 = .ok (.lconst 1, 1) := by decide +kernel
theorem dX8_command_123 : decode cX8_command 123 = .ok (.ldc2_w 218, 3) := by decide +kernel
theorem dX8_command_126 : decode cX8_command 126 = .ok (.invokestatic 43, 3) := by decide +kernel
theorem dX8_command_129 : decode cX8_command 129 = .ok (.ifCond .eq 18, 3) := by decide +kernel
theorem dX8_command_132 : decode cX8_command 132 = .ok (.aload_n 0, 1) := by decide +kernel
theorem dX8_command_133 : decode cX8_command 133 = .ok (.getfield 16, 3) := by decide +kernel
theorem dX8_command_136 : decode cX8_command 136 = .ok (.iload_n 2, 1) := by decide +kernel
theorem dX8_command_137 : decode cX8_command 137 = .ok (.invokestatic 174, 3) := by decide +kernel
theorem dX8_command_140 : decode cX8_command 140 = .ok (.ifCond .lt 7, 3) := by decide +kernel
theorem dX8_command_143 : decode cX8_command 143 = .ok (.iconst 1, 1) := by decide +kernel
theorem dX8_command_144 : decode cX8_command 144 = .ok (.goto 4, 3) := by decide +kernel
theorem dX8_command_147 : decode cX8_command 147 = .ok (.iconst 0, 1) := by decide +kernel
theorem dX8_command_148 : decode cX8_command 148 = .ok (.ireturn, 1) := by decide +kernel
theorem dX8_command_149 : decode cX8_command 149 = .ok (.iload 9, 2) := by decide +kernel
theorem dX8_command_151 : decode cX8_command 151 = .ok (.ifCond .ne 60, 3) := by decide +kernel
theorem dX8_command_154 : decode cX8_command 154 = .ok (.iload 8, 2) := by decide +kernel
theorem dX8_command_156 : decode cX8_command 156 = .ok (.bipush 8, 2) := by decide +kernel
theorem dX8_command_158 : decode cX8_command 158 = .ok (.if_icmp .ge 53, 3) := by decide +kernel
theorem dX8_command_161 : decode cX8_command 161 = .ok (.iload_n 3, 1) := by decide +kernel
theorem dX8_command_162 : decode cX8_command 162 = .ok (.invokestatic 205, 3) := by decide +kernel
theorem dX8_command_165 : decode cX8_command 165 = .ok (.ifCond .eq 46, 3) := by decide +kernel
theorem dX8_command_168 : decode cX8_command 168 = .ok (.iload 6, 2) := by decide +kernel
theorem dX8_command_170 : decode cX8_command 170 = .ok (.invokestatic 208, 3) := by decide +kernel
theorem dX8_command_173 : decode cX8_command 173 = .ok (.ifCond .eq 38, 3) := by decide +kernel
theorem dX8_command_176 : decode cX8_command 176 = .ok (.aload_n 0, 1) := by decide +kernel
theorem dX8_command_177 : decode cX8_command 177 = .ok (.getfield 16, 3) := by decide +kernel
theorem dX8_command_180 : decode cX8_command 180 = .ok (.iconst 1, 1) := by decide +kernel
theorem dX8_command_181 : decode cX8_command 181 = .ok (.iaload, 1) := by decide +kernel
theorem dX8_command_182 : decode cX8_command 182 = .ok (.bipush 20, 2) := by decide +kernel
theorem dX8_command_184 : decode cX8_command 184 = .ok (.if_icmp .ge 27, 3) := by decide +kernel
theorem dX8_command_187 : decode cX8_command 187 = .ok (.aload_n 0, 1) := by decide +kernel
theorem dX8_command_188 : decode cX8_command 188 = .ok (.getfield 16, 3) := by decide +kernel
theorem dX8_command_191 : decode cX8_command 191 = .ok (.iload_n 3, 1) := by decide +kernel
theorem dX8_command_192 : decode cX8_command 192 = .ok (.iload 6, 2) := by decide +kernel
theorem dX8_command_194 : decode cX8_command 194 = .ok (.iconst 1, 1) := by decide +kernel
theorem dX8_command_195 : decode cX8_command 195 = .ok (.iload 8, 2) := by decide +kernel
theorem dX8_command_197 : decode cX8_command 197 = .ok (.ishl, 1) := by decide +kernel
theorem dX8_command_198 : decode cX8_command 198 = .ok (.iconst 0, 1) := by decide +kernel
theorem dX8_command_199 : decode cX8_command 199 = .ok (.iconst 0, 1) := by decide +kernel
theorem dX8_command_200 : decode cX8_command 200 = .ok (.invokestatic 147, 3) := by decide +kernel
theorem dX8_command_203 : decode cX8_command 203 = .ok (.iconst (-1), 1) := by decide +kernel
theorem dX8_command_204 : decode cX8_command 204 = .ok (.if_icmp .eq 7, 3) := by decide +kernel
theorem dX8_command_207 : decode cX8_command 207 = .ok (.iconst 1, 1) := by decide +kernel
theorem dX8_command_208 : decode cX8_command 208 = .ok (.goto 4, 3) := by decide +kernel
theorem dX8_command_211 : decode cX8_command 211 = .ok (.iconst 0, 1) := by decide +kernel
theorem dX8_command_212 : decode cX8_command 212 = .ok (.ireturn, 1) := by decide +kernel
theorem dX8_command_213 : decode cX8_command 213 = .ok (.iload 9, 2) := by decide +kernel
theorem dX8_command_215 : decode cX8_command 215 = .ok (.ifCond .ne 61, 3) := by decide +kernel
theorem dX8_command_218 : decode cX8_command 218 = .ok (.aload_n 0, 1) := by decide +kernel
theorem dX8_command_219 : decode cX8_command 219 = .ok (.getfield 16, 3) := by decide +kernel
theorem dX8_command_222 : decode cX8_command 222 = .ok (.iload_n 3, 1) := by decide +kernel
theorem dX8_command_223 : decode cX8_command 223 = .ok (.invokestatic 151, 3) := by decide +kernel
theorem dX8_command_226 : decode cX8_command 226 = .ok (.ifCond .eq 50, 3) := by decide +kernel
theorem dX8_command_229 : decode cX8_command 229 = .ok (.iload 4, 2) := by decide +kernel
theorem dX8_command_231 : decode cX8_command 231 = .ok (.invokestatic 205, 3) := by decide +kernel
theorem dX8_command_234 : decode cX8_command 234 = .ok (.ifCond .eq 42, 3) := by decide +kernel
theorem dX8_command_237 : decode cX8_command 237 = .ok (.iload 7, 2) := by decide +kernel
theorem dX8_command_239 : decode cX8_command 239 = .ok (.invokestatic 208, 3) := by decide +kernel
theorem dX8_command_242 : decode cX8_command 242 = .ok (.ifCond .eq 34, 3) := by decide +kernel
theorem dX8_command_245 : decode cX8_command 245 = .ok (.aload_n 0, 1) := by decide +kernel
theorem dX8_command_246 : decode cX8_command 246 = .ok (.getfield 16, 3) := by decide +kernel
theorem dX8_command_249 : decode cX8_command 249 = .ok (.iload_n 3, 1) := by decide +kernel
theorem dX8_command_250 : decode cX8_command 250 = .ok (.invokestatic 67, 3) := by decide +kernel
theorem dX8_command_253 : decode cX8_command 253 = .ok (.ifCond .eq 23, 3) := by decide +kernel
theorem dX8_command_256 : decode cX8_command 256 = .ok (.aload_n 0, 1) := by decide +kernel
theorem dX8_command_257 : decode cX8_command 257 = .ok (.aload_n 0, 1) := by decide +kernel
theorem dX8_command_258 : decode cX8_command 258 = .ok (.getfield 16, 3) := by decide +kernel
theorem dX8_command_261 : decode cX8_command 261 = .ok (.iload_n 3, 1) := by decide +kernel
theorem dX8_command_262 : decode cX8_command 262 = .ok (.iload 4, 2) := by decide +kernel
theorem dX8_command_264 : decode cX8_command 264 = .ok (.iload 7, 2) := by decide +kernel
theorem dX8_command_266 : decode cX8_command 266 = .ok (.invokevirtual 154, 3) := by decide +kernel
theorem dX8_command_269 : decode cX8_command 269 = .ok (.ifCond .lt 7, 3) := by decide +kernel
theorem dX8_command_272 : decode cX8_command 272 = .ok (.iconst 1, 1) := by decide +kernel
theorem dX8_command_273 : decode cX8_command 273 = .ok (.goto 4, 3) := by decide +kernel
theorem dX8_command_276 : decode cX8_command 276 = .ok (.iconst 0, 1) := by decide +kernel
theorem dX8_command_277 : decode cX8_command 277 = .ok (.ireturn, 1) := by decide +kernel
theorem dX8_command_278 : decode cX8_command 278 = .ok (.iload 9, 2) := by decide +kernel
theorem dX8_command_280 : decode cX8_command 280 = .ok (.iconst 2, 1) := by decide +kernel
theorem dX8_command_281 : decode cX8_command 281 = .ok (.if_icmp .ge 59, 3) := by decide +kernel
theorem dX8_command_284 : decode cX8_command 284 = .ok (.iload 5, 2) := by decide +kernel
theorem dX8_command_286 : decode cX8_command 286 = .ok (.invokestatic 208, 3) := by decide +kernel
theorem dX8_command_289 : decode cX8_command 289 = .ok (.ifCond .eq 51, 3) := by decide +kernel
theorem dX8_command_292 : decode cX8_command 292 = .ok (.iload 7, 2) := by decide +kernel
theorem dX8_command_294 : decode cX8_command 294 = .ok (.invokestatic 208, 3) := by decide +kernel
theorem dX8_command_297 : decode cX8_command 297 = .ok (.ifCond .eq 43, 3) := by decide +kernel
theorem dX8_command_300 : decode cX8_command 300 = .ok (.iload 5, 2) := by decide +kernel
theorem dX8_command_302 : decode cX8_command 302 = .ok (.iload 7, 2) := by decide +kernel
theorem dX8_command_304 : decode cX8_command 304 = .ok (.invokestatic 59, 3) := by decide +kernel
theorem dX8_command_307 : decode cX8_command 307 = .ok (.iconst (-1), 1) := by decide +kernel
theorem dX8_command_308 : decode cX8_command 308 = .ok (.if_icmp .eq 32, 3) := by decide +kernel
theorem dX8_command_311 : decode cX8_command 311 = .ok (.aload_n 0, 1) := by decide +kernel
theorem dX8_command_312 : decode cX8_command 312 = .ok (.getfield 16, 3) := by decide +kernel
theorem dX8_command_315 : decode cX8_command 315 = .ok (.iload 5, 2) := by decide +kernel
theorem dX8_command_317 : decode cX8_command 317 = .ok (.iload 7, 2) := by decide +kernel
theorem dX8_command_319 : decode cX8_command 319 = .ok (.iload 9, 2) := by decide +kernel
theorem dX8_command_321 : decode cX8_command 321 = .ok (.iconst 1, 1) := by decide +kernel
theorem dX8_command_322 : decode cX8_command 322 = .ok (.if_icmp .ne 7, 3) := by decide +kernel
theorem dX8_command_325 : decode cX8_command 325 = .ok (.iconst 1, 1) := by decide +kernel
theorem dX8_command_326 : decode cX8_command 326 = .ok (.goto 4, 3) := by decide +kernel
theorem dX8_command_329 : decode cX8_command 329 = .ok (.iconst 0, 1) := by decide +kernel
theorem dX8_command_330 : decode cX8_command 330 = .ok (.invokestatic 157, 3) := by decide +kernel
theorem dX8_command_333 : decode cX8_command 333 = .ok (.ifCond .lt 7, 3) := by decide +kernel
theorem dX8_command_336 : decode cX8_command 336 = .ok (.iconst 1, 1) := by decide +kernel
theorem dX8_command_337 : decode cX8_command 337 = .ok (.goto 4, 3) := by decide +kernel
theorem dX8_command_340 : decode cX8_command 340 = .ok (.iconst 0, 1) := by decide +kernel
theorem dX8_command_341 : decode cX8_command 341 = .ok (.ireturn, 1) := by decide +kernel
theorem dX8_command_342 : decode cX8_command 342 = .ok (.iload 6, 2) := by decide +kernel
theorem dX8_command_344 : decode cX8_command 344 = .ok (.ifCond .ne 29, 3) := by decide +kernel
theorem dX8_command_347 : decode cX8_command 347 = .ok (.iload_n 3, 1) := by decide +kernel
theorem dX8_command_348 : decode cX8_command 348 = .ok (.iload 11, 2) := by decide +kernel
theorem dX8_command_350 : decode cX8_command 350 = .ok (.invokestatic 220, 3) := by decide +kernel
theorem dX8_command_353 : decode cX8_command 353 = .ok (.ifCond .eq 20, 3) := by decide +kernel
theorem dX8_command_356 : decode cX8_command 356 = .ok (.aload_n 0, 1) := by decide +kernel
theorem dX8_command_357 : decode cX8_command 357 = .ok (.getfield 16, 3) := by decide +kernel
theorem dX8_command_360 : decode cX8_command 360 = .ok (.iload_n 3, 1) := by decide +kernel
theorem dX8_command_361 : decode cX8_command 361 = .ok (.iload 11, 2) := by decide +kernel
theorem dX8_command_363 : decode cX8_command 363 = .ok (.invokestatic 224, 3) := by decide +kernel
theorem dX8_command_366 : decode cX8_command 366 = .ok (.ifCond .lt 7, 3) := by decide +kernel
theorem dX8_command_369 : decode cX8_command 369 = .ok (.iconst 1, 1) := by decide +kernel
theorem dX8_command_370 : decode cX8_command 370 = .ok (.goto 4, 3) := by decide +kernel
theorem dX8_command_373 : decode cX8_command 373 = .ok (.iconst 0, 1) := by decide +kernel
theorem dX8_command_374 : decode cX8_command 374 = .ok (.ireturn, 1) := by decide +kernel
theorem dX8_command_375 : decode cX8_command 375 = .ok (.iload 11, 2) := by decide +kernel
theorem dX8_command_377 : decode cX8_command 377 = .ok (.ifCond .ne 47, 3) := by decide +kernel
theorem dX8_command_380 : decode cX8_command 380 = .ok (.aload_n 0, 1) := by decide +kernel
theorem dX8_command_381 : decode cX8_command 381 = .ok (.getfield 16, 3) := by decide +kernel
theorem dX8_command_384 : decode cX8_command 384 = .ok (.iload_n 3, 1) := by decide +kernel
theorem dX8_command_385 : decode cX8_command 385 = .ok (.invokestatic 151, 3) := by decide +kernel
theorem dX8_command_388 : decode cX8_command 388 = .ok (.ifCond .eq 36, 3) := by decide +kernel
theorem dX8_command_391 : decode cX8_command 391 = .ok (.iload 6, 2) := by decide +kernel
theorem dX8_command_393 : decode cX8_command 393 = .ok (.invokestatic 208, 3) := by decide +kernel
theorem dX8_command_396 : decode cX8_command 396 = .ok (.ifCond .eq 28, 3) := by decide +kernel
theorem dX8_command_399 : decode cX8_command 399 = .ok (.aload_n 0, 1) := by decide +kernel
theorem dX8_command_400 : decode cX8_command 400 = .ok (.getfield 16, 3) := by decide +kernel
theorem dX8_command_403 : decode cX8_command 403 = .ok (.iload_n 3, 1) := by decide +kernel
theorem dX8_command_404 : decode cX8_command 404 = .ok (.invokestatic 67, 3) := by decide +kernel
theorem dX8_command_407 : decode cX8_command 407 = .ok (.ifCond .eq 17, 3) := by decide +kernel
theorem dX8_command_410 : decode cX8_command 410 = .ok (.aload_n 0, 1) := by decide +kernel
theorem dX8_command_411 : decode cX8_command 411 = .ok (.iload_n 3, 1) := by decide +kernel
theorem dX8_command_412 : decode cX8_command 412 = .ok (.iload 6, 2) := by decide +kernel
theorem dX8_command_414 : decode cX8_command 414 = .ok (.invokevirtual 231, 3) := by decide +kernel
theorem dX8_command_417 : decode cX8_command 417 = .ok (.ifCond .eq 7, 3) := by decide +kernel
theorem dX8_command_420 : decode cX8_command 420 = .ok (.iconst 1, 1) := by decide +kernel
theorem dX8_command_421 : decode cX8_command 421 = .ok (.goto 4, 3) := by decide +kernel
theorem dX8_command_424 : decode cX8_command 424 = .ok (.iconst 0, 1) := by decide +kernel
theorem dX8_command_425 : decode cX8_command 425 = .ok (.ireturn, 1) := by decide +kernel
theorem dX8_command_426 : decode cX8_command 426 = .ok (.iload_n 2, 1) := by decide +kernel
theorem dX8_command_427 : decode cX8_command 427 = .ok (.bipush 100, 2) := by decide +kernel
theorem dX8_command_429 : decode cX8_command 429 = .ok (.if_icmp .ge 15, 3) := by decide +kernel
theorem dX8_command_432 : decode cX8_command 432 = .ok (.aload_n 0, 1) := by decide +kernel
theorem dX8_command_433 : decode cX8_command 433 = .ok (.invokevirtual 234, 3) := by decide +kernel
theorem dX8_command_436 : decode cX8_command 436 = .ok (.iload_n 2, 1) := by decide +kernel
theorem dX8_command_437 : decode cX8_command 437 = .ok (.if_icmp .gt 7, 3) := by decide +kernel
theorem dX8_command_440 : decode cX8_command 440 = .ok (.iconst 1, 1) := by decide +kernel
theorem dX8_command_441 : decode cX8_command 441 = .ok (.goto 4, 3) := by decide +kernel
theorem dX8_command_444 : decode cX8_command 444 = .ok (.iconst 0, 1) := by decide +kernel
theorem dX8_command_445 : decode cX8_command 445 = .ok (.ireturn, 1) := by decide +kernel
theorem dX8_command_446 : decode cX8_command 446 = .ok (.iload 4, 2) := by decide +kernel
theorem dX8_command_448 : decode cX8_command 448 = .ok (.ifCond .ne 32, 3) := by decide +kernel
theorem dX8_command_451 : decode cX8_command 451 = .ok (.aload_n 0, 1) := by decide +kernel
theorem dX8_command_452 : decode cX8_command 452 = .ok (.getfield 16, 3) := by decide +kernel
theorem dX8_command_455 : decode cX8_command 455 = .ok (.iload_n 3, 1) := by decide +kernel
theorem dX8_command_456 : decode cX8_command 456 = .ok (.invokestatic 151, 3) := by decide +kernel
theorem dX8_command_459 : decode cX8_command 459 = .ok (.ifCond .eq 21, 3) := by decide +kernel
theorem dX8_command_462 : decode cX8_command 462 = .ok (.aload_n 0, 1) := by decide +kernel
theorem dX8_command_463 : decode cX8_command 463 = .ok (.getfield 16, 3) := by decide +kernel
theorem dX8_command_466 : decode cX8_command 466 = .ok (.iload_n 3, 1) := by decide +kernel
theorem dX8_command_467 : decode cX8_command 467 = .ok (.iconst 4, 1) := by decide +kernel
theorem dX8_command_468 : decode cX8_command 468 = .ok (.invokestatic 47, 3) := by decide +kernel
theorem dX8_command_471 : decode cX8_command 471 = .ok (.iload 10, 2) := by decide +kernel
theorem dX8_command_473 : decode cX8_command 473 = .ok (.if_icmp .lt 7, 3) := by decide +kernel
theorem dX8_command_476 : decode cX8_command 476 = .ok (.iconst 1, 1) := by decide +kernel
theorem dX8_command_477 : decode cX8_command 477 = .ok (.goto 4, 3) := by decide +kernel
theorem dX8_command_480 : decode cX8_command 480 = .ok (.iconst 0, 1) := by decide +kernel
theorem dX8_command_481 : decode cX8_command 481 = .ok (.ireturn, 1) := by decide +kernel
theorem dX8_command_482 : decode cX8_command 482 = .ok (.iload 4, 2) := by decide +kernel
theorem dX8_command_484 : decode cX8_command 484 = .ok (.ifCond .ne 28, 3) := by decide +kernel
theorem dX8_command_487 : decode cX8_command 487 = .ok (.iload_n 3, 1) := by decide +kernel
theorem dX8_command_488 : decode cX8_command 488 = .ok (.invokestatic 205, 3) := by decide +kernel
theorem dX8_command_491 : decode cX8_command 491 = .ok (.ifCond .eq 21, 3) := by decide +kernel
theorem dX8_command_494 : decode cX8_command 494 = .ok (.aload_n 0, 1) := by decide +kernel
theorem dX8_command_495 : decode cX8_command 495 = .ok (.getfield 16, 3) := by decide +kernel
theorem dX8_command_498 : decode cX8_command 498 = .ok (.bipush 8, 2) := by decide +kernel
theorem dX8_command_500 : decode cX8_command 500 = .ok (.iload_n 3, 1) := by decide +kernel
theorem dX8_command_501 : decode cX8_command 501 = .ok (.iadd, 1) := by decide +kernel
theorem dX8_command_502 : decode cX8_command 502 = .ok (.iaload, 1) := by decide +kernel
theorem dX8_command_503 : decode cX8_command 503 = .ok (.iload 10, 2) := by decide +kernel
theorem dX8_command_505 : decode cX8_command 505 = .ok (.if_icmp .lt 7, 3) := by decide +kernel
theorem dX8_command_508 : decode cX8_command 508 = .ok (.iconst 1, 1) := by decide +kernel
theorem dX8_command_509 : decode cX8_command 509 = .ok (.goto 4, 3) := by decide +kernel
theorem dX8_command_512 : decode cX8_command 512 = .ok (.iconst 0, 1) := by decide +kernel
theorem dX8_command_513 : decode cX8_command 513 = .ok (.ireturn, 1) := by decide +kernel
theorem dX8_command_514 : decode cX8_command 514 = .ok (.iconst 0, 1) := by decide +kernel
theorem dX8_command_515 : decode cX8_command 515 = .ok (.ireturn, 1) := by decide +kernel
theorem dX8_runScript_0 : decode cX8_runScript 0 = .ok (.lconst 1, 1) := by decide +kernel
theorem dX8_runScript_1 : decode cX8_runScript 1 = .ok (.lstore 4, 2) := by decide +kernel
theorem dX8_runScript_3 : decode cX8_runScript 3 = .ok (.iconst 0, 1) := by decide +kernel
theorem dX8_runScript_4 : decode cX8_runScript 4 = .ok (.istore 6, 2) := by decide +kernel
theorem dX8_runScript_6 : decode cX8_runScript 6 = .ok (.iload 6, 2) := by decide +kernel
theorem dX8_runScript_8 : decode cX8_runScript 8 = .ok (.iload_n 1, 1) := by decide +kernel
theorem dX8_runScript_9 : decode cX8_runScript 9 = .ok (.if_icmp .ge 23, 3) := by decide +kernel
theorem dX8_runScript_12 : decode cX8_runScript 12 = .ok (.iload 6, 2) := by decide +kernel
theorem dX8_runScript_14 : decode cX8_runScript 14 = .ok (.iconst 3, 1) := by decide +kernel
theorem dX8_runScript_15 : decode cX8_runScript 15 = .ok (.if_icmp .ge 17, 3) := by decide +kernel
theorem dX8_runScript_18 : decode cX8_runScript 18 = .ok (.lload 4, 2) := by decide +kernel
theorem dX8_runScript_20 : decode cX8_runScript 20 = .ok (.ldc2_w 238, 3) := by decide +kernel
theorem dX8_runScript_23 : decode cX8_runScript 23 = .ok (.lmul, 1) := by decide +kernel
theorem dX8_runScript_24 : decode cX8_runScript 24 = .ok (.lstore 4, 2) := by decide +kernel
theorem dX8_runScript_26 : decode cX8_runScript 26 = .ok (.iinc 6 1, 3) := by decide +kernel
theorem dX8_runScript_29 : decode cX8_runScript 29 = .ok (.goto (-23), 3) := by decide +kernel
theorem dX8_runScript_32 : decode cX8_runScript 32 = .ok (.aload_n 0, 1) := by decide +kernel
theorem dX8_runScript_33 : decode cX8_runScript 33 = .ok (.iload_n 1, 1) := by decide +kernel
theorem dX8_runScript_34 : decode cX8_runScript 34 = .ok (.i2l, 1) := by decide +kernel
theorem dX8_runScript_35 : decode cX8_runScript 35 = .ok (.lconst 1, 1) := by decide +kernel
theorem dX8_runScript_36 : decode cX8_runScript 36 = .ok (.ldc2_w 211, 3) := by decide +kernel
theorem dX8_runScript_39 : decode cX8_runScript 39 = .ok (.invokestatic 43, 3) := by decide +kernel
theorem dX8_runScript_42 : decode cX8_runScript 42 = .ok (.ifCond .eq 19, 3) := by decide +kernel
theorem dX8_runScript_45 : decode cX8_runScript 45 = .ok (.lload_n 2, 1) := by decide +kernel
theorem dX8_runScript_46 : decode cX8_runScript 46 = .ok (.lconst 0, 1) := by decide +kernel
theorem dX8_runScript_47 : decode cX8_runScript 47 = .ok (.lload 4, 2) := by decide +kernel
theorem dX8_runScript_49 : decode cX8_runScript 49 = .ok (.lconst 1, 1) := by decide +kernel
theorem dX8_runScript_50 : decode cX8_runScript 50 = .ok (.lsub, 1) := by decide +kernel
theorem dX8_runScript_51 : decode cX8_runScript 51 = .ok (.invokestatic 43, 3) := by decide +kernel
theorem dX8_runScript_54 : decode cX8_runScript 54 = .ok (.ifCond .eq 7, 3) := by decide +kernel
theorem dX8_runScript_57 : decode cX8_runScript 57 = .ok (.iconst 0, 1) := by decide +kernel
theorem dX8_runScript_58 : decode cX8_runScript 58 = .ok (.goto 4, 3) := by decide +kernel
theorem dX8_runScript_61 : decode cX8_runScript 61 = .ok (.iconst 1, 1) := by decide +kernel
theorem dX8_runScript_62 : decode cX8_runScript 62 = .ok (.invokevirtual 114, 3) := by decide +kernel
theorem dX8_runScript_65 : decode cX8_runScript 65 = .ok (.ifCond .eq 5, 3) := by decide +kernel
theorem dX8_runScript_68 : decode cX8_runScript 68 = .ok (.iconst 0, 1) := by decide +kernel
theorem dX8_runScript_69 : decode cX8_runScript 69 = .ok (.ireturn, 1) := by decide +kernel
theorem dX8_runScript_70 : decode cX8_runScript 70 = .ok (.aload_n 0, 1) := by decide +kernel
theorem dX8_runScript_71 : decode cX8_runScript 71 = .ok (.getfield 13, 3) := by decide +kernel
theorem dX8_runScript_74 : decode cX8_runScript 74 = .ok (.iconst 0, 1) := by decide +kernel
theorem dX8_runScript_75 : decode cX8_runScript 75 = .ok (.aload_n 0, 1) := by decide +kernel
theorem dX8_runScript_76 : decode cX8_runScript 76 = .ok (.getfield 16, 3) := by decide +kernel
theorem dX8_runScript_79 : decode cX8_runScript 79 = .ok (.iconst 0, 1) := by decide +kernel
theorem dX8_runScript_80 : decode cX8_runScript 80 = .ok (.invokestatic 184, 3) := by decide +kernel
theorem dX8_runScript_83 : decode cX8_runScript 83 = .ok (.iconst 0, 1) := by decide +kernel
theorem dX8_runScript_84 : decode cX8_runScript 84 = .ok (.istore 6, 2) := by decide +kernel
theorem dX8_runScript_86 : decode cX8_runScript 86 = .ok (.iload 6, 2) := by decide +kernel
theorem dX8_runScript_88 : decode cX8_runScript 88 = .ok (.iload_n 1, 1) := by decide +kernel
theorem dX8_runScript_89 : decode cX8_runScript 89 = .ok (.if_icmp .ge 48, 3) := by decide +kernel
theorem dX8_runScript_92 : decode cX8_runScript 92 = .ok (.lload 4, 2) := by decide +kernel
theorem dX8_runScript_94 : decode cX8_runScript 94 = .ok (.ldc2_w 238, 3) := by decide +kernel
theorem dX8_runScript_97 : decode cX8_runScript 97 = .ok (.ldiv, 1) := by decide +kernel
theorem dX8_runScript_98 : decode cX8_runScript 98 = .ok (.lstore 4, 2) := by decide +kernel
theorem dX8_runScript_100 : decode cX8_runScript 100 = .ok (.lload_n 2, 1) := by decide +kernel
theorem dX8_runScript_101 : decode cX8_runScript 101 = .ok (.lload 4, 2) := by decide +kernel
theorem dX8_runScript_103 : decode cX8_runScript 103 = .ok (.ldiv, 1) := by decide +kernel
theorem dX8_runScript_104 : decode cX8_runScript 104 = .ok (.ldc2_w 238, 3) := by decide +kernel
theorem dX8_runScript_107 : decode cX8_runScript 107 = .ok (.lrem, 1) := by decide +kernel
theorem dX8_runScript_108 : decode cX8_runScript 108 = .ok (.l2i, 1) := by decide +kernel
theorem dX8_runScript_109 : decode cX8_runScript 109 = .ok (.istore 7, 2) := by decide +kernel
theorem dX8_runScript_111 : decode cX8_runScript 111 = .ok (.aload_n 0, 1) := by decide +kernel
theorem dX8_runScript_112 : decode cX8_runScript 112 = .ok (.iload 7, 2) := by decide +kernel
theorem dX8_runScript_114 : decode cX8_runScript 114 = .ok (.ldc 240, 2) := by decide +kernel
theorem dX8_runScript_116 : decode cX8_runScript 116 = .ok (.idiv, 1) := by decide +kernel
theorem dX8_runScript_117 : decode cX8_runScript 117 = .ok (.iload 7, 2) := by decide +kernel
theorem dX8_runScript_119 : decode cX8_runScript 119 = .ok (.ldc 240, 2) := by decide +kernel
theorem dX8_runScript_121 : decode cX8_runScript 121 = .ok (.irem, 1) := by decide +kernel
theorem dX8_runScript_122 : decode cX8_runScript 122 = .ok (.invokevirtual 241, 3) := by decide +kernel
theorem dX8_runScript_125 : decode cX8_runScript 125 = .ok (.ifCond .ne 6, 3) := by decide +kernel
theorem dX8_runScript_128 : decode cX8_runScript 128 = .ok (.iload 6, 2) := by decide +kernel
theorem dX8_runScript_130 : decode cX8_runScript 130 = .ok (.ireturn, 1) := by decide +kernel
theorem dX8_runScript_131 : decode cX8_runScript 131 = .ok (.iinc 6 1, 3) := by decide +kernel
theorem dX8_runScript_134 : decode cX8_runScript 134 = .ok (.goto (-48), 3) := by decide +kernel
theorem dX8_runScript_137 : decode cX8_runScript 137 = .ok (.iconst (-1), 1) := by decide +kernel
theorem dX8_runScript_138 : decode cX8_runScript 138 = .ok (.ireturn, 1) := by decide +kernel
theorem dX8_turnOf_0 : decode cX8_turnOf 0 = .ok (.iload_n 2, 1) := by decide +kernel
theorem dX8_turnOf_1 : decode cX8_turnOf 1 = .ok (.ifCond .ne 54, 3) := by decide +kernel
theorem dX8_turnOf_4 : decode cX8_turnOf 4 = .ok (.aload_n 1, 1) := by decide +kernel
theorem dX8_turnOf_5 : decode cX8_turnOf 5 = .ok (.iconst 0, 1) := by decide +kernel
theorem dX8_turnOf_6 : decode cX8_turnOf 6 = .ok (.iaload, 1) := by decide +kernel
theorem dX8_turnOf_7 : decode cX8_turnOf 7 = .ok (.bipush 6, 2) := by decide +kernel
theorem dX8_turnOf_9 : decode cX8_turnOf 9 = .ok (.if_icmp .ge 266, 3) := by decide +kernel
theorem dX8_turnOf_12 : decode cX8_turnOf 12 = .ok (.aload_n 1, 1) := by decide +kernel
theorem dX8_turnOf_13 : decode cX8_turnOf 13 = .ok (.iconst 1, 1) := by decide +kernel
theorem dX8_turnOf_14 : decode cX8_turnOf 14 = .ok (.iload_n 3, 1) := by decide +kernel
theorem dX8_turnOf_15 : decode cX8_turnOf 15 = .ok (.sipush 255, 3) := by decide +kernel
theorem dX8_turnOf_18 : decode cX8_turnOf 18 = .ok (.irem, 1) := by decide +kernel
theorem dX8_turnOf_19 : decode cX8_turnOf 19 = .ok (.iadd, 1) := by decide +kernel
theorem dX8_turnOf_20 : decode cX8_turnOf 20 = .ok (.iconst 1, 1) := by decide +kernel
theorem dX8_turnOf_21 : decode cX8_turnOf 21 = .ok (.iload_n 3, 1) := by decide +kernel
theorem dX8_turnOf_22 : decode cX8_turnOf 22 = .ok (.sipush 256, 3) := by decide +kernel
theorem dX8_turnOf_25 : decode cX8_turnOf 25 = .ok (.idiv, 1) := by decide +kernel
theorem dX8_turnOf_26 : decode cX8_turnOf 26 = .ok (.iconst 3, 1) := by decide +kernel
theorem dX8_turnOf_27 : decode cX8_turnOf 27 = .ok (.irem, 1) := by decide +kernel
theorem dX8_turnOf_28 : decode cX8_turnOf 28 = .ok (.iadd, 1) := by decide +kernel
theorem dX8_turnOf_29 : decode cX8_turnOf 29 = .ok (.iload_n 3, 1) := by decide +kernel
theorem dX8_turnOf_30 : decode cX8_turnOf 30 = .ok (.sipush 1024, 3) := by decide +kernel
theorem dX8_turnOf_33 : decode cX8_turnOf 33 = .ok (.idiv, 1) := by decide +kernel
theorem dX8_turnOf_34 : decode cX8_turnOf 34 = .ok (.bipush 12, 2) := by decide +kernel
theorem dX8_turnOf_36 : decode cX8_turnOf 36 = .ok (.irem, 1) := by decide +kernel
theorem dX8_turnOf_37 : decode cX8_turnOf 37 = .ok (.iconst 1, 1) := by decide +kernel
theorem dX8_turnOf_38 : decode cX8_turnOf 38 = .ok (.iload_n 3, 1) := by decide +kernel
theorem dX8_turnOf_39 : decode cX8_turnOf 39 = .ok (.sipush 16384, 3) := by decide +kernel
theorem dX8_turnOf_42 : decode cX8_turnOf 42 = .ok (.idiv, 1) := by decide +kernel
theorem dX8_turnOf_43 : decode cX8_turnOf 43 = .ok (.sipush 500, 3) := by decide +kernel
theorem dX8_turnOf_46 : decode cX8_turnOf 46 = .ok (.irem, 1) := by decide +kernel
theorem dX8_turnOf_47 : decode cX8_turnOf 47 = .ok (.iadd, 1) := by decide +kernel
theorem dX8_turnOf_48 : decode cX8_turnOf 48 = .ok (.invokestatic 133, 3) := by decide +kernel
theorem dX8_turnOf_51 : decode cX8_turnOf 51 = .ok (.pop, 1) := by decide +kernel
theorem dX8_turnOf_52 : decode cX8_turnOf 52 = .ok (.goto 223, 3) := by decide +kernel
theorem dX8_turnOf_55 : decode cX8_turnOf 55 = .ok (.iload_n 2, 1) := by decide +kernel
theorem dX8_turnOf_56 : decode cX8_turnOf 56 = .ok (.iconst 4, 1) := by decide +kernel
theorem dX8_turnOf_57 : decode cX8_turnOf 57 = .ok (.if_icmp .ge 74, 3) := by decide +kernel
theorem dX8_turnOf_60 : decode cX8_turnOf 60 = .ok (.aload_n 1, 1) := by decide +kernel
theorem dX8_turnOf_61 : decode cX8_turnOf 61 = .ok (.iconst 1, 1) := by decide +kernel
theorem dX8_turnOf_62 : decode cX8_turnOf 62 = .ok (.iaload, 1) := by decide +kernel
theorem dX8_turnOf_63 : decode cX8_turnOf 63 = .ok (.bipush 20, 2) := by decide +kernel
theorem dX8_turnOf_65 : decode cX8_turnOf 65 = .ok (.if_icmp .ge 210, 3) := by decide +kernel
theorem dX8_turnOf_68 : decode cX8_turnOf 68 = .ok (.iload_n 3, 1) := by decide +kernel
theorem dX8_turnOf_69 : decode cX8_turnOf 69 = .ok (.ldc 244, 2) := by decide +kernel
theorem dX8_turnOf_71 : decode cX8_turnOf 71 = .ok (.idiv, 1) := by decide +kernel
theorem dX8_turnOf_72 : decode cX8_turnOf 72 = .ok (.bipush 6, 2) := by decide +kernel
theorem dX8_turnOf_74 : decode cX8_turnOf 74 = .ok (.irem, 1) := by decide +kernel
theorem dX8_turnOf_75 : decode cX8_turnOf 75 = .ok (.aload_n 1, 1) := by decide +kernel
theorem dX8_turnOf_76 : decode cX8_turnOf 76 = .ok (.iconst 2, 1) := by decide +kernel
theorem dX8_turnOf_77 : decode cX8_turnOf 77 = .ok (.iaload, 1) := by decide +kernel
theorem dX8_turnOf_78 : decode cX8_turnOf 78 = .ok (.if_icmp .gt 197, 3) := by decide +kernel
theorem dX8_turnOf_81 : decode cX8_turnOf 81 = .ok (.aload_n 1, 1) := by decide +kernel
theorem dX8_turnOf_82 : decode cX8_turnOf 82 = .ok (.iload_n 3, 1) := by decide +kernel
theorem dX8_turnOf_83 : decode cX8_turnOf 83 = .ok (.bipush 8, 2) := by decide +kernel
theorem dX8_turnOf_85 : decode cX8_turnOf 85 = .ok (.irem, 1) := by decide +kernel
theorem dX8_turnOf_86 : decode cX8_turnOf 86 = .ok (.iload_n 3, 1) := by decide +kernel
theorem dX8_turnOf_87 : decode cX8_turnOf 87 = .ok (.bipush 8, 2) := by decide +kernel
theorem dX8_turnOf_89 : decode cX8_turnOf 89 = .ok (.idiv, 1) := by decide +kernel
theorem dX8_turnOf_90 : decode cX8_turnOf 90 = .ok (.bipush 12, 2) := by decide +kernel
theorem dX8_turnOf_92 : decode cX8_turnOf 92 = .ok (.irem, 1) := by decide +kernel
theorem dX8_turnOf_93 : decode cX8_turnOf 93 = .ok (.iload_n 3, 1) := by decide +kernel
theorem dX8_turnOf_94 : decode cX8_turnOf 94 = .ok (.sipush 128, 3) := by decide +kernel
theorem dX8_turnOf_97 : decode cX8_turnOf 97 = .ok (.idiv, 1) := by decide +kernel
theorem dX8_turnOf_98 : decode cX8_turnOf 98 = .ok (.sipush 256, 3) := by decide +kernel
theorem dX8_turnOf_101 : decode cX8_turnOf 101 = .ok (.irem, 1) := by decide +kernel
theorem dX8_turnOf_102 : decode cX8_turnOf 102 = .ok (.iload_n 3, 1) := by decide +kernel
theorem dX8_turnOf_103 : decode cX8_turnOf 103 = .ok (.ldc 244, 2) := by decide +kernel
theorem dX8_turnOf_105 : decode cX8_turnOf 105 = .ok (.idiv, 1) := by decide +kernel
theorem dX8_turnOf_106 : decode cX8_turnOf 106 = .ok (.bipush 6, 2) := by decide +kernel
theorem dX8_turnOf_108 : decode cX8_turnOf 108 = .ok (.irem, 1) := by decide +kernel
theorem dX8_turnOf_109 : decode cX8_turnOf 109 = .ok (.iload_n 3, 1) := by decide +kernel
theorem dX8_turnOf_110 : decode cX8_turnOf 110 = .ok (.ldc 245, 2) := by decide +kernel
theorem dX8_turnOf_112 : decode cX8_turnOf 112 = .ok (.idiv, 1) := by decide +kernel
theorem dX8_turnOf_113 : decode cX8_turnOf 113 = .ok (.iconst 2, 1) := by decide +kernel
theorem dX8_turnOf_114 : decode cX8_turnOf 114 = .ok (.irem, 1) := by decide +kernel
theorem dX8_turnOf_115 : decode cX8_turnOf 115 = .ok (.iconst 1, 1) := by decide +kernel
theorem dX8_turnOf_116 : decode cX8_turnOf 116 = .ok (.if_icmp .ne 7, 3) := by decide +kernel
theorem dX8_turnOf_119 : decode cX8_turnOf 119 = .ok (.iconst 1, 1) := by decide +kernel
theorem dX8_turnOf_120 : decode cX8_turnOf 120 = .ok (.goto 4, 3) := by decide +kernel
theorem dX8_turnOf_123 : decode cX8_turnOf 123 = .ok (.iconst 0, 1) := by decide +kernel
theorem dX8_turnOf_124 : decode cX8_turnOf 124 = .ok (.invokestatic 147, 3) := by decide +kernel
theorem dX8_turnOf_127 : decode cX8_turnOf 127 = .ok (.pop, 1) := by decide +kernel
theorem dX8_turnOf_128 : decode cX8_turnOf 128 = .ok (.goto 147, 3) := by decide +kernel
theorem dX8_turnOf_131 : decode cX8_turnOf 131 = .ok (.iload_n 2, 1) := by decide +kernel
theorem dX8_turnOf_132 : decode cX8_turnOf 132 = .ok (.iconst 4, 1) := by decide +kernel
theorem dX8_turnOf_133 : decode cX8_turnOf 133 = .ok (.if_icmp .ne 52, 3) := by decide +kernel
theorem dX8_turnOf_136 : decode cX8_turnOf 136 = .ok (.aload_n 1, 1) := by decide +kernel
theorem dX8_turnOf_137 : decode cX8_turnOf 137 = .ok (.iload_n 3, 1) := by decide +kernel
theorem dX8_turnOf_138 : decode cX8_turnOf 138 = .ok (.bipush 6, 2) := by decide +kernel
theorem dX8_turnOf_140 : decode cX8_turnOf 140 = .ok (.irem, 1) := by decide +kernel
theorem dX8_turnOf_141 : decode cX8_turnOf 141 = .ok (.invokestatic 151, 3) := by decide +kernel
theorem dX8_turnOf_144 : decode cX8_turnOf 144 = .ok (.ifCond .eq 131, 3) := by decide +kernel
theorem dX8_turnOf_147 : decode cX8_turnOf 147 = .ok (.aload_n 1, 1) := by decide +kernel
theorem dX8_turnOf_148 : decode cX8_turnOf 148 = .ok (.iload_n 3, 1) := by decide +kernel
theorem dX8_turnOf_149 : decode cX8_turnOf 149 = .ok (.bipush 6, 2) := by decide +kernel
theorem dX8_turnOf_151 : decode cX8_turnOf 151 = .ok (.irem, 1) := by decide +kernel
theorem dX8_turnOf_152 : decode cX8_turnOf 152 = .ok (.invokestatic 67, 3) := by decide +kernel
theorem dX8_turnOf_155 : decode cX8_turnOf 155 = .ok (.ifCond .eq 120, 3) := by decide +kernel
theorem dX8_turnOf_158 : decode cX8_turnOf 158 = .ok (.aload_n 0, 1) := by decide +kernel
theorem dX8_turnOf_159 : decode cX8_turnOf 159 = .ok (.aload_n 1, 1) := by decide +kernel
theorem dX8_turnOf_160 : decode cX8_turnOf 160 = .ok (.iload_n 3, 1) := by decide +kernel
theorem dX8_turnOf_161 : decode cX8_turnOf 161 = .ok (.bipush 6, 2) := by decide +kernel
theorem dX8_turnOf_163 : decode cX8_turnOf 163 = .ok (.irem, 1) := by decide +kernel
theorem dX8_turnOf_164 : decode cX8_turnOf 164 = .ok (.iload_n 3, 1) := by decide +kernel
theorem dX8_turnOf_165 : decode cX8_turnOf 165 = .ok (.bipush 8, 2) := by decide +kernel
theorem dX8_turnOf_167 : decode cX8_turnOf 167 = .ok (.idiv, 1) := by decide +kernel
theorem dX8_turnOf_168 : decode cX8_turnOf 168 = .ok (.bipush 8, 2) := by decide +kernel
theorem dX8_turnOf_170 : decode cX8_turnOf 170 = .ok (.irem, 1) := by decide +kernel
theorem dX8_turnOf_171 : decode cX8_turnOf 171 = .ok (.iload_n 3, 1) := by decide +kernel
theorem dX8_turnOf_172 : decode cX8_turnOf 172 = .ok (.bipush 64, 2) := by decide +kernel
theorem dX8_turnOf_174 : decode cX8_turnOf 174 = .ok (.idiv, 1) := by decide +kernel
theorem dX8_turnOf_175 : decode cX8_turnOf 175 = .ok (.bipush 12, 2) := by decide +kernel
theorem dX8_turnOf_177 : decode cX8_turnOf 177 = .ok (.irem, 1) := by decide +kernel
theorem dX8_turnOf_178 : decode cX8_turnOf 178 = .ok (.invokevirtual 154, 3) := by decide +kernel
theorem dX8_turnOf_181 : decode cX8_turnOf 181 = .ok (.pop, 1) := by decide +kernel
theorem dX8_turnOf_182 : decode cX8_turnOf 182 = .ok (.goto 93, 3) := by decide +kernel
theorem dX8_turnOf_185 : decode cX8_turnOf 185 = .ok (.iload_n 2, 1) := by decide +kernel
theorem dX8_turnOf_186 : decode cX8_turnOf 186 = .ok (.iconst 5, 1) := by decide +kernel
theorem dX8_turnOf_187 : decode cX8_turnOf 187 = .ok (.if_icmp .ne 77, 3) := by decide +kernel
theorem dX8_turnOf_190 : decode cX8_turnOf 190 = .ok (.iload_n 3, 1) := by decide +kernel
theorem dX8_turnOf_191 : decode cX8_turnOf 191 = .ok (.bipush 12, 2) := by decide +kernel
theorem dX8_turnOf_193 : decode cX8_turnOf 193 = .ok (.irem, 1) := by decide +kernel
theorem dX8_turnOf_194 : decode cX8_turnOf 194 = .ok (.istore 4, 2) := by decide +kernel
theorem dX8_turnOf_196 : decode cX8_turnOf 196 = .ok (.iload_n 3, 1) := by decide +kernel
theorem dX8_turnOf_197 : decode cX8_turnOf 197 = .ok (.bipush 16, 2) := by decide +kernel
theorem dX8_turnOf_199 : decode cX8_turnOf 199 = .ok (.idiv, 1) := by decide +kernel
theorem dX8_turnOf_200 : decode cX8_turnOf 200 = .ok (.iconst 2, 1) := by decide +kernel
theorem dX8_turnOf_201 : decode cX8_turnOf 201 = .ok (.irem, 1) := by decide +kernel
theorem dX8_turnOf_202 : decode cX8_turnOf 202 = .ok (.ifCond .ne 10, 3) := by decide +kernel
theorem dX8_turnOf_205 : decode cX8_turnOf 205 = .ok (.iload 4, 2) := by decide +kernel
theorem dX8_turnOf_207 : decode cX8_turnOf 207 = .ok (.iconst 1, 1) := by decide +kernel
theorem dX8_turnOf_208 : decode cX8_turnOf 208 = .ok (.iadd, 1) := by decide +kernel
theorem dX8_turnOf_209 : decode cX8_turnOf 209 = .ok (.goto 7, 3) := by decide +kernel
theorem dX8_turnOf_212 : decode cX8_turnOf 212 = .ok (.iload 4, 2) := by decide +kernel
theorem dX8_turnOf_214 : decode cX8_turnOf 214 = .ok (.iconst 4, 1) := by decide +kernel
theorem dX8_turnOf_215 : decode cX8_turnOf 215 = .ok (.iadd, 1) := by decide +kernel
theorem dX8_turnOf_216 : decode cX8_turnOf 216 = .ok (.istore 5, 2) := by decide +kernel
theorem dX8_turnOf_218 : decode cX8_turnOf 218 = .ok (.iload 5, 2) := by decide +kernel
theorem dX8_turnOf_220 : decode cX8_turnOf 220 = .ok (.invokestatic 208, 3) := by decide +kernel
theorem dX8_turnOf_223 : decode cX8_turnOf 223 = .ok (.ifCond .eq 38, 3) := by decide +kernel
theorem dX8_turnOf_226 : decode cX8_turnOf 226 = .ok (.iload 4, 2) := by decide +kernel
theorem dX8_turnOf_228 : decode cX8_turnOf 228 = .ok (.iload 5, 2) := by decide +kernel
theorem dX8_turnOf_230 : decode cX8_turnOf 230 = .ok (.invokestatic 59, 3) := by decide +kernel
theorem dX8_turnOf_233 : decode cX8_turnOf 233 = .ok (.iconst (-1), 1) := by decide +kernel
theorem dX8_turnOf_234 : decode cX8_turnOf 234 = .ok (.if_icmp .eq 27, 3) := by decide +kernel
theorem dX8_turnOf_237 : decode cX8_turnOf 237 = .ok (.aload_n 1, 1) := by decide +kernel
theorem dX8_turnOf_238 : decode cX8_turnOf 238 = .ok (.iload 4, 2) := by decide +kernel
theorem dX8_turnOf_240 : decode cX8_turnOf 240 = .ok (.iload 5, 2) := by decide +kernel
theorem dX8_turnOf_242 : decode cX8_turnOf 242 = .ok (.iload_n 3, 1) := by decide +kernel
theorem dX8_turnOf_243 : decode cX8_turnOf 243 = .ok (.bipush 64, 2) := by decide +kernel
theorem dX8_turnOf_245 : decode cX8_turnOf 245 = .ok (.idiv, 1) := by decide +kernel
theorem dX8_turnOf_246 : decode cX8_turnOf 246 = .ok (.iconst 2, 1) := by decide +kernel
theorem dX8_turnOf_247 : decode cX8_turnOf 247 = .ok (.irem, 1) := by decide +kernel
theorem dX8_turnOf_248 : decode cX8_turnOf 248 = .ok (.iconst 1, 1) := by decide +kernel
theorem dX8_turnOf_249 : decode cX8_turnOf 249 = .ok (.if_icmp .ne 7, 3) := by decide +kernel
theorem dX8_turnOf_252 : decode cX8_turnOf 252 = .ok (.iconst 1, 1) := by decide +kernel
theorem dX8_turnOf_253 : decode cX8_turnOf 253 = .ok (.goto 4, 3) := by decide +kernel
theorem dX8_turnOf_256 : decode cX8_turnOf 256 = .ok (.iconst 0, 1) := by decide +kernel
theorem dX8_turnOf_257 : decode cX8_turnOf 257 = .ok (.invokestatic 157, 3) := by decide +kernel
theorem dX8_turnOf_260 : decode cX8_turnOf 260 = .ok (.pop, 1) := by decide +kernel
theorem dX8_turnOf_261 : decode cX8_turnOf 261 = .ok (.goto 14, 3) := by decide +kernel
theorem dX8_turnOf_264 : decode cX8_turnOf 264 = .ok (.aload_n 1, 1) := by decide +kernel
theorem dX8_turnOf_265 : decode cX8_turnOf 265 = .ok (.iconst 1, 1) := by decide +kernel
theorem dX8_turnOf_266 : decode cX8_turnOf 266 = .ok (.iload_n 3, 1) := by decide +kernel
theorem dX8_turnOf_267 : decode cX8_turnOf 267 = .ok (.bipush 30, 2) := by decide +kernel
theorem dX8_turnOf_269 : decode cX8_turnOf 269 = .ok (.irem, 1) := by decide +kernel
theorem dX8_turnOf_270 : decode cX8_turnOf 270 = .ok (.iadd, 1) := by decide +kernel
theorem dX8_turnOf_271 : decode cX8_turnOf 271 = .ok (.invokestatic 174, 3) := by decide +kernel
theorem dX8_turnOf_274 : decode cX8_turnOf 274 = .ok (.pop, 1) := by decide +kernel
theorem dX8_turnOf_275 : decode cX8_turnOf 275 = .ok (.return_, 1) := by decide +kernel
theorem dX8_simulate_0 : decode cX8_simulate 0 = .ok (.aload_n 0, 1) := by decide +kernel
theorem dX8_simulate_1 : decode cX8_simulate 1 = .ok (.iload_n 3, 1) := by decide +kernel
theorem dX8_simulate_2 : decode cX8_simulate 2 = .ok (.i2l, 1) := by decide +kernel
theorem dX8_simulate_3 : decode cX8_simulate 3 = .ok (.lconst 1, 1) := by decide +kernel
theorem dX8_simulate_4 : decode cX8_simulate 4 = .ok (.ldc2_w 246, 3) := by decide +kernel
theorem dX8_simulate_7 : decode cX8_simulate 7 = .ok (.invokestatic 43, 3) := by decide +kernel
theorem dX8_simulate_10 : decode cX8_simulate 10 = .ok (.ifCond .eq 7, 3) := by decide +kernel
theorem dX8_simulate_13 : decode cX8_simulate 13 = .ok (.iconst 0, 1) := by decide +kernel
theorem dX8_simulate_14 : decode cX8_simulate 14 = .ok (.goto 4, 3) := by decide +kernel
theorem dX8_simulate_17 : decode cX8_simulate 17 = .ok (.iconst 1, 1) := by decide +kernel
theorem dX8_simulate_18 : decode cX8_simulate 18 = .ok (.invokevirtual 114, 3) := by decide +kernel
theorem dX8_simulate_21 : decode cX8_simulate 21 = .ok (.ifCond .eq 5, 3) := by decide +kernel
theorem dX8_simulate_24 : decode cX8_simulate 24 = .ok (.iconst 0, 1) := by decide +kernel
theorem dX8_simulate_25 : decode cX8_simulate 25 = .ok (.ireturn, 1) := by decide +kernel
theorem dX8_simulate_26 : decode cX8_simulate 26 = .ok (.aload_n 0, 1) := by decide +kernel
theorem dX8_simulate_27 : decode cX8_simulate 27 = .ok (.getfield 13, 3) := by decide +kernel
theorem dX8_simulate_30 : decode cX8_simulate 30 = .ok (.iconst 0, 1) := by decide +kernel
theorem dX8_simulate_31 : decode cX8_simulate 31 = .ok (.aload_n 0, 1) := by decide +kernel
theorem dX8_simulate_32 : decode cX8_simulate 32 = .ok (.getfield 16, 3) := by decide +kernel
theorem dX8_simulate_35 : decode cX8_simulate 35 = .ok (.iconst 0, 1) := by decide +kernel
theorem dX8_simulate_36 : decode cX8_simulate 36 = .ok (.invokestatic 184, 3) := by decide +kernel
theorem dX8_simulate_39 : decode cX8_simulate 39 = .ok (.lload_n 1, 1) := by decide +kernel
theorem dX8_simulate_40 : decode cX8_simulate 40 = .ok (.lstore 4, 2) := by decide +kernel
theorem dX8_simulate_42 : decode cX8_simulate 42 = .ok (.iconst 0, 1) := by decide +kernel
theorem dX8_simulate_43 : decode cX8_simulate 43 = .ok (.istore 6, 2) := by decide +kernel
theorem dX8_simulate_45 : decode cX8_simulate 45 = .ok (.iload 6, 2) := by decide +kernel
theorem dX8_simulate_47 : decode cX8_simulate 47 = .ok (.iload_n 3, 1) := by decide +kernel
theorem dX8_simulate_48 : decode cX8_simulate 48 = .ok (.if_icmp .ge 47, 3) := by decide +kernel
theorem dX8_simulate_51 : decode cX8_simulate 51 = .ok (.lload 4, 2) := by decide +kernel
theorem dX8_simulate_53 : decode cX8_simulate 53 = .ok (.ldc2_w 248, 3) := by decide +kernel
theorem dX8_simulate_56 : decode cX8_simulate 56 = .ok (.lmul, 1) := by decide +kernel
theorem dX8_simulate_57 : decode cX8_simulate 57 = .ok (.ldc2_w 250, 3) := by decide +kernel
theorem dX8_simulate_60 : decode cX8_simulate 60 = .ok (.ladd, 1) := by decide +kernel
theorem dX8_simulate_61 : decode cX8_simulate 61 = .ok (.lstore 4, 2) := by decide +kernel
theorem dX8_simulate_63 : decode cX8_simulate 63 = .ok (.lload 4, 2) := by decide +kernel
theorem dX8_simulate_65 : decode cX8_simulate 65 = .ok (.bipush 33, 2) := by decide +kernel
theorem dX8_simulate_67 : decode cX8_simulate 67 = .ok (.lushr, 1) := by decide +kernel
theorem dX8_simulate_68 : decode cX8_simulate 68 = .ok (.l2i, 1) := by decide +kernel
theorem dX8_simulate_69 : decode cX8_simulate 69 = .ok (.istore 7, 2) := by decide +kernel
theorem dX8_simulate_71 : decode cX8_simulate 71 = .ok (.aload_n 0, 1) := by decide +kernel
theorem dX8_simulate_72 : decode cX8_simulate 72 = .ok (.aload_n 0, 1) := by decide +kernel
theorem dX8_simulate_73 : decode cX8_simulate 73 = .ok (.getfield 16, 3) := by decide +kernel
theorem dX8_simulate_76 : decode cX8_simulate 76 = .ok (.iload 7, 2) := by decide +kernel
theorem dX8_simulate_78 : decode cX8_simulate 78 = .ok (.bipush 8, 2) := by decide +kernel
theorem dX8_simulate_80 : decode cX8_simulate 80 = .ok (.irem, 1) := by decide +kernel
theorem dX8_simulate_81 : decode cX8_simulate 81 = .ok (.iload 7, 2) := by decide +kernel
theorem dX8_simulate_83 : decode cX8_simulate 83 = .ok (.bipush 8, 2) := by decide +kernel
theorem dX8_simulate_85 : decode cX8_simulate 85 = .ok (.idiv, 1) := by decide +kernel
theorem dX8_simulate_86 : decode cX8_simulate 86 = .ok (.invokevirtual 252, 3) := by decide +kernel
theorem dX8_simulate_89 : decode cX8_simulate 89 = .ok (.iinc 6 1, 3) := by decide +kernel
theorem dX8_simulate_92 : decode cX8_simulate 92 = .ok (.goto (-47), 3) := by decide +kernel
theorem dX8_simulate_95 : decode cX8_simulate 95 = .ok (.sipush 1000, 3) := by decide +kernel
theorem dX8_simulate_98 : decode cX8_simulate 98 = .ok (.aload_n 0, 1) := by decide +kernel
theorem dX8_simulate_99 : decode cX8_simulate 99 = .ok (.getfield 16, 3) := by decide +kernel
theorem dX8_simulate_102 : decode cX8_simulate 102 = .ok (.iconst 4, 1) := by decide +kernel
theorem dX8_simulate_103 : decode cX8_simulate 103 = .ok (.iaload, 1) := by decide +kernel
theorem dX8_simulate_104 : decode cX8_simulate 104 = .ok (.aload_n 0, 1) := by decide +kernel
theorem dX8_simulate_105 : decode cX8_simulate 105 = .ok (.getfield 13, 3) := by decide +kernel
theorem dX8_simulate_108 : decode cX8_simulate 108 = .ok (.iconst 4, 1) := by decide +kernel
theorem dX8_simulate_109 : decode cX8_simulate 109 = .ok (.iaload, 1) := by decide +kernel
theorem dX8_simulate_110 : decode cX8_simulate 110 = .ok (.isub, 1) := by decide +kernel
theorem dX8_simulate_111 : decode cX8_simulate 111 = .ok (.sipush 1000, 3) := by decide +kernel
theorem dX8_simulate_114 : decode cX8_simulate 114 = .ok (.irem, 1) := by decide +kernel
theorem dX8_simulate_115 : decode cX8_simulate 115 = .ok (.imul, 1) := by decide +kernel
theorem dX8_simulate_116 : decode cX8_simulate 116 = .ok (.bipush 10, 2) := by decide +kernel
theorem dX8_simulate_118 : decode cX8_simulate 118 = .ok (.aload_n 0, 1) := by decide +kernel
theorem dX8_simulate_119 : decode cX8_simulate 119 = .ok (.invokevirtual 234, 3) := by decide +kernel
theorem dX8_simulate_122 : decode cX8_simulate 122 = .ok (.imul, 1) := by decide +kernel
theorem dX8_simulate_123 : decode cX8_simulate 123 = .ok (.iadd, 1) := by decide +kernel
theorem dX8_simulate_124 : decode cX8_simulate 124 = .ok (.aload_n 0, 1) := by decide +kernel
theorem dX8_simulate_125 : decode cX8_simulate 125 = .ok (.getfield 16, 3) := by decide +kernel
theorem dX8_simulate_128 : decode cX8_simulate 128 = .ok (.invokestatic 193, 3) := by decide +kernel
theorem dX8_simulate_131 : decode cX8_simulate 131 = .ok (.iadd, 1) := by decide +kernel
theorem dX8_simulate_132 : decode cX8_simulate 132 = .ok (.ireturn, 1) := by decide +kernel
theorem dX8_save_0 : decode cX8_save 0 = .ok (.aload_n 0, 1) := by decide +kernel
theorem dX8_save_1 : decode cX8_save 1 = .ok (.iload_n 1, 1) := by decide +kernel
theorem dX8_save_2 : decode cX8_save 2 = .ok (.i2l, 1) := by decide +kernel
theorem dX8_save_3 : decode cX8_save 3 = .ok (.lconst 0, 1) := by decide +kernel
theorem dX8_save_4 : decode cX8_save 4 = .ok (.lconst 1, 1) := by decide +kernel
theorem dX8_save_5 : decode cX8_save 5 = .ok (.invokestatic 43, 3) := by decide +kernel
theorem dX8_save_8 : decode cX8_save 8 = .ok (.ifCond .eq 7, 3) := by decide +kernel
theorem dX8_save_11 : decode cX8_save 11 = .ok (.iconst 0, 1) := by decide +kernel
theorem dX8_save_12 : decode cX8_save 12 = .ok (.goto 4, 3) := by decide +kernel
theorem dX8_save_15 : decode cX8_save 15 = .ok (.iconst 1, 1) := by decide +kernel
theorem dX8_save_16 : decode cX8_save 16 = .ok (.invokevirtual 114, 3) := by decide +kernel
theorem dX8_save_19 : decode cX8_save 19 = .ok (.ifCond .eq 5, 3) := by decide +kernel
theorem dX8_save_22 : decode cX8_save 22 = .ok (.iconst 0, 1) := by decide +kernel
theorem dX8_save_23 : decode cX8_save 23 = .ok (.ireturn, 1) := by decide +kernel
theorem dX8_save_24 : decode cX8_save 24 = .ok (.aload_n 0, 1) := by decide +kernel
theorem dX8_save_25 : decode cX8_save 25 = .ok (.getfield 13, 3) := by decide +kernel
theorem dX8_save_28 : decode cX8_save 28 = .ok (.iconst 0, 1) := by decide +kernel
theorem dX8_save_29 : decode cX8_save 29 = .ok (.aload_n 0, 1) := by decide +kernel
theorem dX8_save_30 : decode cX8_save 30 = .ok (.getfield 22, 3) := by decide +kernel
theorem dX8_save_33 : decode cX8_save 33 = .ok (.sipush 248, 3) := by decide +kernel
theorem dX8_save_36 : decode cX8_save 36 = .ok (.iload_n 1, 1) := by decide +kernel
theorem dX8_save_37 : decode cX8_save 37 = .ok (.imul, 1) := by decide +kernel
theorem dX8_save_38 : decode cX8_save 38 = .ok (.invokestatic 184, 3) := by decide +kernel
theorem dX8_save_41 : decode cX8_save 41 = .ok (.aload_n 0, 1) := by decide +kernel
theorem dX8_save_42 : decode cX8_save 42 = .ok (.getfield 25, 3) := by decide +kernel
theorem dX8_save_45 : decode cX8_save 45 = .ok (.iload_n 1, 1) := by decide +kernel
theorem dX8_save_46 : decode cX8_save 46 = .ok (.iconst 1, 1) := by decide +kernel
theorem dX8_save_47 : decode cX8_save 47 = .ok (.bastore, 1) := by decide +kernel
theorem dX8_save_48 : decode cX8_save 48 = .ok (.aload_n 0, 1) := by decide +kernel
theorem dX8_save_49 : decode cX8_save 49 = .ok (.getfield 13, 3) := by decide +kernel
theorem dX8_save_52 : decode cX8_save 52 = .ok (.iconst 2, 1) := by decide +kernel
theorem dX8_save_53 : decode cX8_save 53 = .ok (.iaload, 1) := by decide +kernel
theorem dX8_save_54 : decode cX8_save 54 = .ok (.ireturn, 1) := by decide +kernel
theorem dX8_restore_0 : decode cX8_restore 0 = .ok (.aload_n 0, 1) := by decide +kernel
theorem dX8_restore_1 : decode cX8_restore 1 = .ok (.iload_n 1, 1) := by decide +kernel
theorem dX8_restore_2 : decode cX8_restore 2 = .ok (.i2l, 1) := by decide +kernel
theorem dX8_restore_3 : decode cX8_restore 3 = .ok (.lconst 0, 1) := by decide +kernel
theorem dX8_restore_4 : decode cX8_restore 4 = .ok (.lconst 1, 1) := by decide +kernel
theorem dX8_restore_5 : decode cX8_restore 5 = .ok (.invokestatic 43, 3) := by decide +kernel
theorem dX8_restore_8 : decode cX8_restore 8 = .ok (.ifCond .ne 7, 3) := by decide +kernel
theorem dX8_restore_11 : decode cX8_restore 11 = .ok (.iconst 1, 1) := by decide +kernel
theorem dX8_restore_12 : decode cX8_restore 12 = .ok (.goto 17, 3) := by decide +kernel
theorem dX8_restore_15 : decode cX8_restore 15 = .ok (.aload_n 0, 1) := by decide +kernel
theorem dX8_restore_16 : decode cX8_restore 16 = .ok (.getfield 25, 3) := by decide +kernel
theorem dX8_restore_19 : decode cX8_restore 19 = .ok (.iload_n 1, 1) := by decide +kernel
theorem dX8_restore_20 : decode cX8_restore 20 = .ok (.baload, 1) := by decide +kernel
theorem dX8_restore_21 : decode cX8_restore 21 = .ok (.ifCond .ne 7, 3) := by decide +kernel
theorem dX8_restore_24 : decode cX8_restore 24 = .ok (.iconst 2, 1) := by decide +kernel
theorem dX8_restore_25 : decode cX8_restore 25 = .ok (.goto 4, 3) := by decide +kernel
theorem dX8_restore_28 : decode cX8_restore 28 = .ok (.iconst 0, 1) := by decide +kernel
theorem dX8_restore_29 : decode cX8_restore 29 = .ok (.invokevirtual 114, 3) := by decide +kernel
theorem dX8_restore_32 : decode cX8_restore 32 = .ok (.ifCond .eq 5, 3) := by decide +kernel
theorem dX8_restore_35 : decode cX8_restore 35 = .ok (.iconst 0, 1) := by decide +kernel
theorem dX8_restore_36 : decode cX8_restore 36 = .ok (.ireturn, 1) := by decide +kernel
theorem dX8_restore_37 : decode cX8_restore 37 = .ok (.aload_n 0, 1) := by decide +kernel
theorem dX8_restore_38 : decode cX8_restore 38 = .ok (.getfield 22, 3) := by decide +kernel
theorem dX8_restore_41 : decode cX8_restore 41 = .ok (.sipush 248, 3) := by decide +kernel
theorem dX8_restore_44 : decode cX8_restore 44 = .ok (.iload_n 1, 1) := by decide +kernel
theorem dX8_restore_45 : decode cX8_restore 45 = .ok (.imul, 1) := by decide +kernel
theorem dX8_restore_46 : decode cX8_restore 46 = .ok (.aload_n 0, 1) := by decide +kernel
theorem dX8_restore_47 : decode cX8_restore 47 = .ok (.getfield 13, 3) := by decide +kernel
theorem dX8_restore_50 : decode cX8_restore 50 = .ok (.iconst 0, 1) := by decide +kernel
theorem dX8_restore_51 : decode cX8_restore 51 = .ok (.invokestatic 184, 3) := by decide +kernel
theorem dX8_restore_54 : decode cX8_restore 54 = .ok (.aload_n 0, 1) := by decide +kernel
theorem dX8_restore_55 : decode cX8_restore 55 = .ok (.iconst 0, 1) := by decide +kernel
theorem dX8_restore_56 : decode cX8_restore 56 = .ok (.putfield 188, 3) := by decide +kernel
theorem dX8_restore_59 : decode cX8_restore 59 = .ok (.aload_n 0, 1) := by decide +kernel
theorem dX8_restore_60 : decode cX8_restore 60 = .ok (.getfield 13, 3) := by decide +kernel
theorem dX8_restore_63 : decode cX8_restore 63 = .ok (.iconst 2, 1) := by decide +kernel
theorem dX8_restore_64 : decode cX8_restore 64 = .ok (.iaload, 1) := by decide +kernel
theorem dX8_restore_65 : decode cX8_restore 65 = .ok (.ireturn, 1) := by decide +kernel
theorem dJ6_bitCount_0f7a4_0 : decode cJ6_bitCount_0f7a4 0 = .ok (.iload_n 0, 1) := by decide +kernel
theorem dJ6_bitCount_0f7a4_1 : decode cJ6_bitCount_0f7a4 1 = .ok (.iload_n 0, 1) := by decide +kernel
theorem dJ6_bitCount_0f7a4_2 : decode cJ6_bitCount_0f7a4 2 = .ok (.iconst 1, 1) := by decide +kernel
theorem dJ6_bitCount_0f7a4_3 : decode cJ6_bitCount_0f7a4 3 = .ok (.iushr, 1) := by decide +kernel
theorem dJ6_bitCount_0f7a4_4 : decode cJ6_bitCount_0f7a4 4 = .ok (.ldc_w 265, 3) := by decide +kernel
theorem dJ6_bitCount_0f7a4_7 : decode cJ6_bitCount_0f7a4 7 = .ok (.iand, 1) := by decide +kernel
theorem dJ6_bitCount_0f7a4_8 : decode cJ6_bitCount_0f7a4 8 = .ok (.isub, 1) := by decide +kernel
theorem dJ6_bitCount_0f7a4_9 : decode cJ6_bitCount_0f7a4 9 = .ok (.istore_n 0, 1) := by decide +kernel
theorem dJ6_bitCount_0f7a4_10 : decode cJ6_bitCount_0f7a4 10 = .ok (.iload_n 0, 1) := by decide +kernel
theorem dJ6_bitCount_0f7a4_11 : decode cJ6_bitCount_0f7a4 11 = .ok (.ldc_w 266, 3) := by decide +kernel
theorem dJ6_bitCount_0f7a4_14 : decode cJ6_bitCount_0f7a4 14 = .ok (.iand, 1) := by decide +kernel
theorem dJ6_bitCount_0f7a4_15 : decode cJ6_bitCount_0f7a4 15 = .ok (.iload_n 0, 1) := by decide +kernel
theorem dJ6_bitCount_0f7a4_16 : decode cJ6_bitCount_0f7a4 16 = .ok (.iconst 2, 1) := by decide +kernel
theorem dJ6_bitCount_0f7a4_17 : decode cJ6_bitCount_0f7a4 17 = .ok (.iushr, 1) := by decide +kernel
theorem dJ6_bitCount_0f7a4_18 : decode cJ6_bitCount_0f7a4 18 = .ok (.ldc_w 266, 3) := by decide +kernel
theorem dJ6_bitCount_0f7a4_21 : decode cJ6_bitCount_0f7a4 21 = .ok (.iand, 1) := by decide +kernel
theorem dJ6_bitCount_0f7a4_22 : decode cJ6_bitCount_0f7a4 22 = .ok (.iadd, 1) := by decide +kernel
theorem dJ6_bitCount_0f7a4_23 : decode cJ6_bitCount_0f7a4 23 = .ok (.istore_n 0, 1) := by decide +kernel
theorem dJ6_bitCount_0f7a4_24 : decode cJ6_bitCount_0f7a4 24 = .ok (.iload_n 0, 1) := by decide +kernel
theorem dJ6_bitCount_0f7a4_25 : decode cJ6_bitCount_0f7a4 25 = .ok (.iload_n 0, 1) := by decide +kernel
theorem dJ6_bitCount_0f7a4_26 : decode cJ6_bitCount_0f7a4 26 = .ok (.iconst 4, 1) := by decide +kernel
theorem dJ6_bitCount_0f7a4_27 : decode cJ6_bitCount_0f7a4 27 = .ok (.iushr, 1) := by decide +kernel
theorem dJ6_bitCount_0f7a4_28 : decode cJ6_bitCount_0f7a4 28 = .ok (.iadd, 1) := by decide +kernel
theorem dJ6_bitCount_0f7a4_29 : decode cJ6_bitCount_0f7a4 29 = .ok (.ldc_w 267, 3) := by decide +kernel
theorem dJ6_bitCount_0f7a4_32 : decode cJ6_bitCount_0f7a4 32 = .ok (.iand, 1) := by decide +kernel
theorem dJ6_bitCount_0f7a4_33 : decode cJ6_bitCount_0f7a4 33 = .ok (.istore_n 0, 1) := by decide +kernel
theorem dJ6_bitCount_0f7a4_34 : decode cJ6_bitCount_0f7a4 34 = .ok (.iload_n 0, 1) := by decide +kernel
theorem dJ6_bitCount_0f7a4_35 : decode cJ6_bitCount_0f7a4 35 = .ok (.iload_n 0, 1) := by decide +kernel
theorem dJ6_bitCount_0f7a4_36 : decode cJ6_bitCount_0f7a4 36 = .ok (.bipush 8, 2) := by decide +kernel
theorem dJ6_bitCount_0f7a4_38 : decode cJ6_bitCount_0f7a4 38 = .ok (.iushr, 1) := by decide +kernel
theorem dJ6_bitCount_0f7a4_39 : decode cJ6_bitCount_0f7a4 39 = .ok (.iadd, 1) := by decide +kernel
theorem dJ6_bitCount_0f7a4_40 : decode cJ6_bitCount_0f7a4 40 = .ok (.istore_n 0, 1) := by decide +kernel
theorem dJ6_bitCount_0f7a4_41 : decode cJ6_bitCount_0f7a4 41 = .ok (.iload_n 0, 1) := by decide +kernel
theorem dJ6_bitCount_0f7a4_42 : decode cJ6_bitCount_0f7a4 42 = .ok (.iload_n 0, 1) := by decide +kernel
theorem dJ6_bitCount_0f7a4_43 : decode cJ6_bitCount_0f7a4 43 = .ok (.bipush 16, 2) := by decide +kernel
theorem dJ6_bitCount_0f7a4_45 : decode cJ6_bitCount_0f7a4 45 = .ok (.iushr, 1) := by decide +kernel
theorem dJ6_bitCount_0f7a4_46 : decode cJ6_bitCount_0f7a4 46 = .ok (.iadd, 1) := by decide +kernel
theorem dJ6_bitCount_0f7a4_47 : decode cJ6_bitCount_0f7a4 47 = .ok (.istore_n 0, 1) := by decide +kernel
theorem dJ6_bitCount_0f7a4_48 : decode cJ6_bitCount_0f7a4 48 = .ok (.iload_n 0, 1) := by decide +kernel
theorem dJ6_bitCount_0f7a4_49 : decode cJ6_bitCount_0f7a4 49 = .ok (.bipush 63, 2) := by decide +kernel
theorem dJ6_bitCount_0f7a4_51 : decode cJ6_bitCount_0f7a4 51 = .ok (.iand, 1) := by decide +kernel
theorem dJ6_bitCount_0f7a4_52 : decode cJ6_bitCount_0f7a4 52 = .ok (.ireturn, 1) := by decide +kernel
theorem dJ9_abs_0f7a4_0 : decode cJ9_abs_0f7a4 0 = .ok (.iload_n 0, 1) := by decide +kernel
theorem dJ9_abs_0f7a4_1 : decode cJ9_abs_0f7a4 1 = .ok (.ifCond .ge 8, 3) := by decide +kernel
theorem dJ9_abs_0f7a4_4 : decode cJ9_abs_0f7a4 4 = .ok (.iload_n 0, 1) := by decide +kernel
theorem dJ9_abs_0f7a4_5 : decode cJ9_abs_0f7a4 5 = .ok (.ineg, 1) := by decide +kernel
theorem dJ9_abs_0f7a4_6 : decode cJ9_abs_0f7a4 6 = .ok (.goto 4, 3) := by decide +kernel
theorem dJ9_abs_0f7a4_9 : decode cJ9_abs_0f7a4 9 = .ok (.iload_n 0, 1) := by decide +kernel
theorem dJ9_abs_0f7a4_10 : decode cJ9_abs_0f7a4 10 = .ok (.ireturn, 1) := by decide +kernel
theorem dJ9_max_7cf53_0 : decode cJ9_max_7cf53 0 = .ok (.iload_n 0, 1) := by decide +kernel
theorem dJ9_max_7cf53_1 : decode cJ9_max_7cf53 1 = .ok (.iload_n 1, 1) := by decide +kernel
theorem dJ9_max_7cf53_2 : decode cJ9_max_7cf53 2 = .ok (.if_icmp .lt 7, 3) := by decide +kernel
theorem dJ9_max_7cf53_5 : decode cJ9_max_7cf53 5 = .ok (.iload_n 0, 1) := by decide +kernel
theorem dJ9_max_7cf53_6 : decode cJ9_max_7cf53 6 = .ok (.goto 4, 3) := by decide +kernel
theorem dJ9_max_7cf53_9 : decode cJ9_max_7cf53 9 = .ok (.iload_n 1, 1) := by decide +kernel
theorem dJ9_max_7cf53_10 : decode cJ9_max_7cf53 10 = .ok (.ireturn, 1) := by decide +kernel
theorem dJ9_min_7cf53_0 : decode cJ9_min_7cf53 0 = .ok (.iload_n 0, 1) := by decide +kernel
theorem dJ9_min_7cf53_1 : decode cJ9_min_7cf53 1 = .ok (.iload_n 1, 1) := by decide +kernel
theorem dJ9_min_7cf53_2 : decode cJ9_min_7cf53 2 = .ok (.if_icmp .gt 7, 3) := by decide +kernel
theorem dJ9_min_7cf53_5 : decode cJ9_min_7cf53 5 = .ok (.iload_n 0, 1) := by decide +kernel
theorem dJ9_min_7cf53_6 : decode cJ9_min_7cf53 6 = .ok (.goto 4, 3) := by decide +kernel
theorem dJ9_min_7cf53_9 : decode cJ9_min_7cf53 9 = .ok (.iload_n 1, 1) := by decide +kernel
theorem dJ9_min_7cf53_10 : decode cJ9_min_7cf53 10 = .ok (.ireturn, 1) := by decide +kernel
theorem dJ7_fill_53178_0 : decode cJ7_fill_53178 0 = .ok (.iconst 0, 1) := by decide +kernel
theorem dJ7_fill_53178_1 : decode cJ7_fill_53178 1 = .ok (.istore_n 2, 1) := by decide +kernel
theorem dJ7_fill_53178_2 : decode cJ7_fill_53178 2 = .ok (.aload_n 0, 1) := by decide +kernel
theorem dJ7_fill_53178_3 : decode cJ7_fill_53178 3 = .ok (.arraylength, 1) := by decide +kernel
theorem dJ7_fill_53178_4 : decode cJ7_fill_53178 4 = .ok (.istore_n 3, 1) := by decide +kernel
theorem dJ7_fill_53178_5 : decode cJ7_fill_53178 5 = .ok (.iload_n 2, 1) := by decide +kernel
theorem dJ7_fill_53178_6 : decode cJ7_fill_53178 6 = .ok (.iload_n 3, 1) := by decide +kernel
theorem dJ7_fill_53178_7 : decode cJ7_fill_53178 7 = .ok (.if_icmp .ge 13, 3) := by decide +kernel
theorem dJ7_fill_53178_10 : decode cJ7_fill_53178 10 = .ok (.aload_n 0, 1) := by decide +kernel
theorem dJ7_fill_53178_11 : decode cJ7_fill_53178 11 = .ok (.iload_n 2, 1) := by decide +kernel
theorem dJ7_fill_53178_12 : decode cJ7_fill_53178 12 = .ok (.iload_n 1, 1) := by decide +kernel
theorem dJ7_fill_53178_13 : decode cJ7_fill_53178 13 = .ok (.iastore, 1) := by decide +kernel
theorem dJ7_fill_53178_14 : decode cJ7_fill_53178 14 = .ok (.iinc 2 1, 3) := by decide +kernel
theorem dJ7_fill_53178_17 : decode cJ7_fill_53178 17 = .ok (.goto (-12), 3) := by decide +kernel
theorem dJ7_fill_53178_20 : decode cJ7_fill_53178 20 = .ok (.return_, 1) := by decide +kernel
theorem dL_append_0 : decode cL_append 0 = .ok (.aload_n 2, 1) := by decide +kernel
theorem dL_append_1 : decode cL_append 1 = .ok (.iconst 0, 1) := by decide +kernel
theorem dL_append_2 : decode cL_append 2 = .ok (.aload_n 0, 1) := by decide +kernel
theorem dL_append_3 : decode cL_append 3 = .ok (.iload_n 1, 1) := by decide +kernel
theorem dL_append_4 : decode cL_append 4 = .ok (.invokevirtual 7, 3) := by decide +kernel
theorem dL_append_7 : decode cL_append 7 = .ok (.i2l, 1) := by decide +kernel
theorem dL_append_8 : decode cL_append 8 = .ok (.lastore, 1) := by decide +kernel
theorem dL_append_9 : decode cL_append 9 = .ok (.goto 9, 3) := by decide +kernel
theorem dL_append_12 : decode cL_append 12 = .ok (.astore_n 3, 1) := by decide +kernel
theorem dL_append_13 : decode cL_append 13 = .ok (.iconst 1, 1) := by decide +kernel
theorem dL_append_14 : decode cL_append 14 = .ok (.ireturn, 1) := by decide +kernel
theorem dL_append_15 : decode cL_append 15 = .ok (.astore_n 3, 1) := by decide +kernel
theorem dL_append_16 : decode cL_append 16 = .ok (.iconst 2, 1) := by decide +kernel
theorem dL_append_17 : decode cL_append 17 = .ok (.ireturn, 1) := by decide +kernel
theorem dL_append_18 : decode cL_append 18 = .ok (.iconst 0, 1) := by decide +kernel
theorem dL_append_19 : decode cL_append 19 = .ok (.ireturn, 1) := by decide +kernel
theorem dL_load_0 : decode cL_load 0 = .ok (.aload_n 1, 1) := by decide +kernel
theorem dL_load_1 : decode cL_load 1 = .ok (.iconst 0, 1) := by decide +kernel
theorem dL_load_2 : decode cL_load 2 = .ok (.aload_n 0, 1) := by decide +kernel
theorem dL_load_3 : decode cL_load 3 = .ok (.invokevirtual 17, 3) := by decide +kernel
theorem dL_load_6 : decode cL_load 6 = .ok (.i2l, 1) := by decide +kernel
theorem dL_load_7 : decode cL_load 7 = .ok (.lastore, 1) := by decide +kernel
theorem dL_load_8 : decode cL_load 8 = .ok (.goto 6, 3) := by decide +kernel
theorem dL_load_11 : decode cL_load 11 = .ok (.astore_n 2, 1) := by decide +kernel
theorem dL_load_12 : decode cL_load 12 = .ok (.iconst 1, 1) := by decide +kernel
theorem dL_load_13 : decode cL_load 13 = .ok (.ireturn, 1) := by decide +kernel
theorem dL_load_14 : decode cL_load 14 = .ok (.iconst 0, 1) := by decide +kernel
theorem dL_load_15 : decode cL_load 15 = .ok (.ireturn, 1) := by decide +kernel
theorem dL_about_0 : decode cL_about 0 = .ok (.aload_n 2, 1) := by decide +kernel
theorem dL_about_1 : decode cL_about 1 = .ok (.iconst 0, 1) := by decide +kernel
theorem dL_about_2 : decode cL_about 2 = .ok (.aload_n 0, 1) := by decide +kernel
theorem dL_about_3 : decode cL_about 3 = .ok (.iload_n 1, 1) := by decide +kernel
theorem dL_about_4 : decode cL_about 4 = .ok (.invokevirtual 21, 3) := by decide +kernel
theorem dL_about_7 : decode cL_about 7 = .ok (.i2l, 1) := by decide +kernel
theorem dL_about_8 : decode cL_about 8 = .ok (.lastore, 1) := by decide +kernel
theorem dL_about_9 : decode cL_about 9 = .ok (.goto 6, 3) := by decide +kernel
theorem dL_about_12 : decode cL_about 12 = .ok (.astore_n 3, 1) := by decide +kernel
theorem dL_about_13 : decode cL_about 13 = .ok (.iconst 1, 1) := by decide +kernel
theorem dL_about_14 : decode cL_about 14 = .ok (.ireturn, 1) := by decide +kernel
theorem dL_about_15 : decode cL_about 15 = .ok (.iconst 0, 1) := by decide +kernel
theorem dL_about_16 : decode cL_about 16 = .ok (.ireturn, 1) := by decide +kernel
theorem dL_dogOf_0 : decode cL_dogOf 0 = .ok (.aload_n 3, 1) := by decide +kernel
theorem dL_dogOf_1 : decode cL_dogOf 1 = .ok (.iconst 0, 1) := by decide +kernel
theorem dL_dogOf_2 : decode cL_dogOf 2 = .ok (.aload_n 0, 1) := by decide +kernel
theorem dL_dogOf_3 : decode cL_dogOf 3 = .ok (.iload_n 1, 1) := by decide +kernel
theorem dL_dogOf_4 : decode cL_dogOf 4 = .ok (.iload_n 2, 1) := by decide +kernel
theorem dL_dogOf_5 : decode cL_dogOf 5 = .ok (.invokevirtual 24, 3) := by decide +kernel
theorem dL_dogOf_8 : decode cL_dogOf 8 = .ok (.i2l, 1) := by decide +kernel
theorem dL_dogOf_9 : decode cL_dogOf 9 = .ok (.lastore, 1) := by decide +kernel
theorem dL_dogOf_10 : decode cL_dogOf 10 = .ok (.goto 11, 3) := by decide +kernel
theorem dL_dogOf_13 : decode cL_dogOf 13 = .ok (.astore 4, 2) := by decide +kernel
theorem dL_dogOf_15 : decode cL_dogOf 15 = .ok (.iconst 1, 1) := by decide +kernel
theorem dL_dogOf_16 : decode cL_dogOf 16 = .ok (.ireturn, 1) := by decide +kernel
theorem dL_dogOf_17 : decode cL_dogOf 17 = .ok (.astore 4, 2) := by decide +kernel
theorem dL_dogOf_19 : decode cL_dogOf 19 = .ok (.iconst 2, 1) := by decide +kernel
theorem dL_dogOf_20 : decode cL_dogOf 20 = .ok (.ireturn, 1) := by decide +kernel
theorem dL_dogOf_21 : decode cL_dogOf 21 = .ok (.iconst 0, 1) := by decide +kernel
theorem dL_dogOf_22 : decode cL_dogOf 22 = .ok (.ireturn, 1) := by decide +kernel
theorem dL_sightingOf_0 : decode cL_sightingOf 0 = .ok (.aload_n 3, 1) := by decide +kernel
theorem dL_sightingOf_1 : decode cL_sightingOf 1 = .ok (.iconst 0, 1) := by decide +kernel
theorem dL_sightingOf_2 : decode cL_sightingOf 2 = .ok (.aload_n 0, 1) := by decide +kernel
theorem dL_sightingOf_3 : decode cL_sightingOf 3 = .ok (.iload_n 1, 1) := by decide +kernel
theorem dL_sightingOf_4 : decode cL_sightingOf 4 = .ok (.iload_n 2, 1) := by decide +kernel
theorem dL_sightingOf_5 : decode cL_sightingOf 5 = .ok (.invokevirtual 30, 3) := by decide +kernel
theorem dL_sightingOf_8 : decode cL_sightingOf 8 = .ok (.i2l, 1) := by decide +kernel
theorem dL_sightingOf_9 : decode cL_sightingOf 9 = .ok (.lastore, 1) := by decide +kernel
theorem dL_sightingOf_10 : decode cL_sightingOf 10 = .ok (.goto 11, 3) := by decide +kernel
theorem dL_sightingOf_13 : decode cL_sightingOf 13 = .ok (.astore 4, 2) := by decide +kernel
theorem dL_sightingOf_15 : decode cL_sightingOf 15 = .ok (.iconst 1, 1) := by decide +kernel
theorem dL_sightingOf_16 : decode cL_sightingOf 16 = .ok (.ireturn, 1) := by decide +kernel
theorem dL_sightingOf_17 : decode cL_sightingOf 17 = .ok (.astore 4, 2) := by decide +kernel
theorem dL_sightingOf_19 : decode cL_sightingOf 19 = .ok (.iconst 2, 1) := by decide +kernel
theorem dL_sightingOf_20 : decode cL_sightingOf 20 = .ok (.ireturn, 1) := by decide +kernel
theorem dL_sightingOf_21 : decode cL_sightingOf 21 = .ok (.iconst 0, 1) := by decide +kernel
theorem dL_sightingOf_22 : decode cL_sightingOf 22 = .ok (.ireturn, 1) := by decide +kernel
theorem dL_purse_0 : decode cL_purse 0 = .ok (.aload_n 2, 1) := by decide +kernel
theorem dL_purse_1 : decode cL_purse 1 = .ok (.iconst 0, 1) := by decide +kernel
theorem dL_purse_2 : decode cL_purse 2 = .ok (.aload_n 0, 1) := by decide +kernel
theorem dL_purse_3 : decode cL_purse 3 = .ok (.iload_n 1, 1) := by decide +kernel
theorem dL_purse_4 : decode cL_purse 4 = .ok (.invokevirtual 33, 3) := by decide +kernel
theorem dL_purse_7 : decode cL_purse 7 = .ok (.i2l, 1) := by decide +kernel
theorem dL_purse_8 : decode cL_purse 8 = .ok (.lastore, 1) := by decide +kernel
theorem dL_purse_9 : decode cL_purse 9 = .ok (.goto 6, 3) := by decide +kernel
theorem dL_purse_12 : decode cL_purse 12 = .ok (.astore_n 3, 1) := by decide +kernel
theorem dL_purse_13 : decode cL_purse 13 = .ok (.iconst 1, 1) := by decide +kernel
theorem dL_purse_14 : decode cL_purse 14 = .ok (.ireturn, 1) := by decide +kernel
theorem dL_purse_15 : decode cL_purse 15 = .ok (.iconst 0, 1) := by decide +kernel
theorem dL_purse_16 : decode cL_purse 16 = .ok (.ireturn, 1) := by decide +kernel
theorem dL_apart_0 : decode cL_apart 0 = .ok (.aload 4, 2) := by decide +kernel
theorem dL_apart_2 : decode cL_apart 2 = .ok (.iconst 0, 1) := by decide +kernel
theorem dL_apart_3 : decode cL_apart 3 = .ok (.aload_n 0, 1) := by decide +kernel
theorem dL_apart_4 : decode cL_apart 4 = .ok (.iload_n 1, 1) := by decide +kernel
theorem dL_apart_5 : decode cL_apart 5 = .ok (.iload_n 2, 1) := by decide +kernel
theorem dL_apart_6 : decode cL_apart 6 = .ok (.iload_n 3, 1) := by decide +kernel
theorem dL_apart_7 : decode cL_apart 7 = .ok (.invokevirtual 36, 3) := by decide +kernel
theorem dL_apart_10 : decode cL_apart 10 = .ok (.i2l, 1) := by decide +kernel
theorem dL_apart_11 : decode cL_apart 11 = .ok (.lastore, 1) := by decide +kernel
theorem dL_apart_12 : decode cL_apart 12 = .ok (.goto 11, 3) := by decide +kernel
theorem dL_apart_15 : decode cL_apart 15 = .ok (.astore 5, 2) := by decide +kernel
theorem dL_apart_17 : decode cL_apart 17 = .ok (.iconst 1, 1) := by decide +kernel
theorem dL_apart_18 : decode cL_apart 18 = .ok (.ireturn, 1) := by decide +kernel
theorem dL_apart_19 : decode cL_apart 19 = .ok (.astore 5, 2) := by decide +kernel
theorem dL_apart_21 : decode cL_apart 21 = .ok (.iconst 2, 1) := by decide +kernel
theorem dL_apart_22 : decode cL_apart 22 = .ok (.ireturn, 1) := by decide +kernel
theorem dL_apart_23 : decode cL_apart 23 = .ok (.iconst 0, 1) := by decide +kernel
theorem dL_apart_24 : decode cL_apart 24 = .ok (.ireturn, 1) := by decide +kernel
theorem dL_lose_0 : decode cL_lose 0 = .ok (.aload 5, 2) := by decide +kernel
theorem dL_lose_2 : decode cL_lose 2 = .ok (.iconst 0, 1) := by decide +kernel
theorem dL_lose_3 : decode cL_lose 3 = .ok (.aload_n 0, 1) := by decide +kernel
theorem dL_lose_4 : decode cL_lose 4 = .ok (.iload_n 1, 1) := by decide +kernel
theorem dL_lose_5 : decode cL_lose 5 = .ok (.iload_n 2, 1) := by decide +kernel
theorem dL_lose_6 : decode cL_lose 6 = .ok (.iload_n 3, 1) := by decide +kernel
theorem dL_lose_7 : decode cL_lose 7 = .ok (.iload 4, 2) := by decide +kernel
theorem dL_lose_9 : decode cL_lose 9 = .ok (.invokevirtual 40, 3) := by decide +kernel
theorem dL_lose_12 : decode cL_lose 12 = .ok (.i2l, 1) := by decide +kernel
theorem dL_lose_13 : decode cL_lose 13 = .ok (.lastore, 1) := by decide +kernel
theorem dL_lose_14 : decode cL_lose 14 = .ok (.goto 15, 3) := by decide +kernel
theorem dL_lose_17 : decode cL_lose 17 = .ok (.astore 6, 2) := by decide +kernel
theorem dL_lose_19 : decode cL_lose 19 = .ok (.iconst 1, 1) := by decide +kernel
theorem dL_lose_20 : decode cL_lose 20 = .ok (.ireturn, 1) := by decide +kernel
theorem dL_lose_21 : decode cL_lose 21 = .ok (.astore 6, 2) := by decide +kernel
theorem dL_lose_23 : decode cL_lose 23 = .ok (.iconst 2, 1) := by decide +kernel
theorem dL_lose_24 : decode cL_lose 24 = .ok (.ireturn, 1) := by decide +kernel
theorem dL_lose_25 : decode cL_lose 25 = .ok (.astore 6, 2) := by decide +kernel
theorem dL_lose_27 : decode cL_lose 27 = .ok (.iconst 3, 1) := by decide +kernel
theorem dL_lose_28 : decode cL_lose 28 = .ok (.ireturn, 1) := by decide +kernel
theorem dL_lose_29 : decode cL_lose 29 = .ok (.iconst 0, 1) := by decide +kernel
theorem dL_lose_30 : decode cL_lose 30 = .ok (.ireturn, 1) := by decide +kernel
theorem dL_sight_0 : decode cL_sight 0 = .ok (.aload 6, 2) := by decide +kernel
theorem dL_sight_2 : decode cL_sight 2 = .ok (.iconst 0, 1) := by decide +kernel
theorem dL_sight_3 : decode cL_sight 3 = .ok (.aload_n 0, 1) := by decide +kernel
theorem dL_sight_4 : decode cL_sight 4 = .ok (.iload_n 1, 1) := by decide +kernel
theorem dL_sight_5 : decode cL_sight 5 = .ok (.iload_n 2, 1) := by decide +kernel
theorem dL_sight_6 : decode cL_sight 6 = .ok (.iload_n 3, 1) := by decide +kernel
theorem dL_sight_7 : decode cL_sight 7 = .ok (.iload 4, 2) := by decide +kernel
theorem dL_sight_9 : decode cL_sight 9 = .ok (.iload 5, 2) := by decide +kernel
theorem dL_sight_11 : decode cL_sight 11 = .ok (.invokevirtual 44, 3) := by decide +kernel
theorem dL_sight_14 : decode cL_sight 14 = .ok (.i2l, 1) := by decide +kernel
theorem dL_sight_15 : decode cL_sight 15 = .ok (.lastore, 1) := by decide +kernel
theorem dL_sight_16 : decode cL_sight 16 = .ok (.goto 15, 3) := by decide +kernel
theorem dL_sight_19 : decode cL_sight 19 = .ok (.astore 7, 2) := by decide +kernel
theorem dL_sight_21 : decode cL_sight 21 = .ok (.iconst 1, 1) := by decide +kernel
theorem dL_sight_22 : decode cL_sight 22 = .ok (.ireturn, 1) := by decide +kernel
theorem dL_sight_23 : decode cL_sight 23 = .ok (.astore 7, 2) := by decide +kernel
theorem dL_sight_25 : decode cL_sight 25 = .ok (.iconst 2, 1) := by decide +kernel
theorem dL_sight_26 : decode cL_sight 26 = .ok (.ireturn, 1) := by decide +kernel
theorem dL_sight_27 : decode cL_sight 27 = .ok (.astore 7, 2) := by decide +kernel
theorem dL_sight_29 : decode cL_sight 29 = .ok (.iconst 3, 1) := by decide +kernel
theorem dL_sight_30 : decode cL_sight 30 = .ok (.ireturn, 1) := by decide +kernel
theorem dL_sight_31 : decode cL_sight 31 = .ok (.iconst 0, 1) := by decide +kernel
theorem dL_sight_32 : decode cL_sight 32 = .ok (.ireturn, 1) := by decide +kernel
theorem dL_find_0 : decode cL_find 0 = .ok (.aload 4, 2) := by decide +kernel
theorem dL_find_2 : decode cL_find 2 = .ok (.iconst 0, 1) := by decide +kernel
theorem dL_find_3 : decode cL_find 3 = .ok (.aload_n 0, 1) := by decide +kernel
theorem dL_find_4 : decode cL_find 4 = .ok (.iload_n 1, 1) := by decide +kernel
theorem dL_find_5 : decode cL_find 5 = .ok (.iload_n 2, 1) := by decide +kernel
theorem dL_find_6 : decode cL_find 6 = .ok (.iload_n 3, 1) := by decide +kernel
theorem dL_find_7 : decode cL_find 7 = .ok (.invokevirtual 48, 3) := by decide +kernel
theorem dL_find_10 : decode cL_find 10 = .ok (.i2l, 1) := by decide +kernel
theorem dL_find_11 : decode cL_find 11 = .ok (.lastore, 1) := by decide +kernel
theorem dL_find_12 : decode cL_find 12 = .ok (.goto 11, 3) := by decide +kernel
theorem dL_find_15 : decode cL_find 15 = .ok (.astore 5, 2) := by decide +kernel
theorem dL_find_17 : decode cL_find 17 = .ok (.iconst 1, 1) := by decide +kernel
theorem dL_find_18 : decode cL_find 18 = .ok (.ireturn, 1) := by decide +kernel
theorem dL_find_19 : decode cL_find 19 = .ok (.astore 5, 2) := by decide +kernel
theorem dL_find_21 : decode cL_find 21 = .ok (.iconst 2, 1) := by decide +kernel
theorem dL_find_22 : decode cL_find 22 = .ok (.ireturn, 1) := by decide +kernel
theorem dL_find_23 : decode cL_find 23 = .ok (.iconst 0, 1) := by decide +kernel
theorem dL_find_24 : decode cL_find 24 = .ok (.ireturn, 1) := by decide +kernel
theorem dL_close_0 : decode cL_close 0 = .ok (.aload 4, 2) := by decide +kernel
theorem dL_close_2 : decode cL_close 2 = .ok (.iconst 0, 1) := by decide +kernel
theorem dL_close_3 : decode cL_close 3 = .ok (.aload_n 0, 1) := by decide +kernel
theorem dL_close_4 : decode cL_close 4 = .ok (.iload_n 1, 1) := by decide +kernel
theorem dL_close_5 : decode cL_close 5 = .ok (.iload_n 2, 1) := by decide +kernel
theorem dL_close_6 : decode cL_close 6 = .ok (.iload_n 3, 1) := by decide +kernel
theorem dL_close_7 : decode cL_close 7 = .ok (.invokevirtual 51, 3) := by decide +kernel
theorem dL_close_10 : decode cL_close 10 = .ok (.i2l, 1) := by decide +kernel
theorem dL_close_11 : decode cL_close 11 = .ok (.lastore, 1) := by decide +kernel
theorem dL_close_12 : decode cL_close 12 = .ok (.goto 11, 3) := by decide +kernel
theorem dL_close_15 : decode cL_close 15 = .ok (.astore 5, 2) := by decide +kernel
theorem dL_close_17 : decode cL_close 17 = .ok (.iconst 1, 1) := by decide +kernel
theorem dL_close_18 : decode cL_close 18 = .ok (.ireturn, 1) := by decide +kernel
theorem dL_close_19 : decode cL_close 19 = .ok (.astore 5, 2) := by decide +kernel
theorem dL_close_21 : decode cL_close 21 = .ok (.iconst 2, 1) := by decide +kernel
theorem dL_close_22 : decode cL_close 22 = .ok (.ireturn, 1) := by decide +kernel
theorem dL_close_23 : decode cL_close 23 = .ok (.iconst 0, 1) := by decide +kernel
theorem dL_close_24 : decode cL_close 24 = .ok (.ireturn, 1) := by decide +kernel
theorem dL_hours_0 : decode cL_hours 0 = .ok (.aload_n 2, 1) := by decide +kernel
theorem dL_hours_1 : decode cL_hours 1 = .ok (.iconst 0, 1) := by decide +kernel
theorem dL_hours_2 : decode cL_hours 2 = .ok (.aload_n 0, 1) := by decide +kernel
theorem dL_hours_3 : decode cL_hours 3 = .ok (.iload_n 1, 1) := by decide +kernel
theorem dL_hours_4 : decode cL_hours 4 = .ok (.invokevirtual 55, 3) := by decide +kernel
theorem dL_hours_7 : decode cL_hours 7 = .ok (.i2l, 1) := by decide +kernel
theorem dL_hours_8 : decode cL_hours 8 = .ok (.lastore, 1) := by decide +kernel
theorem dL_hours_9 : decode cL_hours 9 = .ok (.goto 6, 3) := by decide +kernel
theorem dL_hours_12 : decode cL_hours 12 = .ok (.astore_n 3, 1) := by decide +kernel
theorem dL_hours_13 : decode cL_hours 13 = .ok (.iconst 1, 1) := by decide +kernel
theorem dL_hours_14 : decode cL_hours 14 = .ok (.ireturn, 1) := by decide +kernel
theorem dL_hours_15 : decode cL_hours 15 = .ok (.iconst 0, 1) := by decide +kernel
theorem dL_hours_16 : decode cL_hours 16 = .ok (.ireturn, 1) := by decide +kernel
theorem dL_set_0 : decode cL_set 0 = .ok (.aload_n 3, 1) := by decide +kernel
theorem dL_set_1 : decode cL_set 1 = .ok (.iconst 0, 1) := by decide +kernel
theorem dL_set_2 : decode cL_set 2 = .ok (.aload_n 0, 1) := by decide +kernel
theorem dL_set_3 : decode cL_set 3 = .ok (.iload_n 1, 1) := by decide +kernel
theorem dL_set_4 : decode cL_set 4 = .ok (.iload_n 2, 1) := by decide +kernel
theorem dL_set_5 : decode cL_set 5 = .ok (.invokevirtual 58, 3) := by decide +kernel
theorem dL_set_8 : decode cL_set 8 = .ok (.i2l, 1) := by decide +kernel
theorem dL_set_9 : decode cL_set 9 = .ok (.lastore, 1) := by decide +kernel
theorem dL_set_10 : decode cL_set 10 = .ok (.goto 7, 3) := by decide +kernel
theorem dL_set_13 : decode cL_set 13 = .ok (.astore 4, 2) := by decide +kernel
theorem dL_set_15 : decode cL_set 15 = .ok (.iconst 1, 1) := by decide +kernel
theorem dL_set_16 : decode cL_set 16 = .ok (.ireturn, 1) := by decide +kernel
theorem dL_set_17 : decode cL_set 17 = .ok (.iconst 0, 1) := by decide +kernel
theorem dL_set_18 : decode cL_set 18 = .ok (.ireturn, 1) := by decide +kernel
theorem dL_undo_0 : decode cL_undo 0 = .ok (.aload_n 1, 1) := by decide +kernel
theorem dL_undo_1 : decode cL_undo 1 = .ok (.iconst 0, 1) := by decide +kernel
theorem dL_undo_2 : decode cL_undo 2 = .ok (.aload_n 0, 1) := by decide +kernel
theorem dL_undo_3 : decode cL_undo 3 = .ok (.invokevirtual 61, 3) := by decide +kernel
theorem dL_undo_6 : decode cL_undo 6 = .ok (.i2l, 1) := by decide +kernel
theorem dL_undo_7 : decode cL_undo 7 = .ok (.lastore, 1) := by decide +kernel
theorem dL_undo_8 : decode cL_undo 8 = .ok (.goto 6, 3) := by decide +kernel
theorem dL_undo_11 : decode cL_undo 11 = .ok (.astore_n 2, 1) := by decide +kernel
theorem dL_undo_12 : decode cL_undo 12 = .ok (.iconst 1, 1) := by decide +kernel
theorem dL_undo_13 : decode cL_undo 13 = .ok (.ireturn, 1) := by decide +kernel
theorem dL_undo_14 : decode cL_undo 14 = .ok (.iconst 0, 1) := by decide +kernel
theorem dL_undo_15 : decode cL_undo 15 = .ok (.ireturn, 1) := by decide +kernel
theorem dL_canBe_0 : decode cL_canBe 0 = .ok (.aload_n 2, 1) := by decide +kernel
theorem dL_canBe_1 : decode cL_canBe 1 = .ok (.iconst 0, 1) := by decide +kernel
theorem dL_canBe_2 : decode cL_canBe 2 = .ok (.aload_n 0, 1) := by decide +kernel
theorem dL_canBe_3 : decode cL_canBe 3 = .ok (.iload_n 1, 1) := by decide +kernel
theorem dL_canBe_4 : decode cL_canBe 4 = .ok (.invokevirtual 64, 3) := by decide +kernel
theorem dL_canBe_7 : decode cL_canBe 7 = .ok (.i2l, 1) := by decide +kernel
theorem dL_canBe_8 : decode cL_canBe 8 = .ok (.lastore, 1) := by decide +kernel
theorem dL_canBe_9 : decode cL_canBe 9 = .ok (.goto 9, 3) := by decide +kernel
theorem dL_canBe_12 : decode cL_canBe 12 = .ok (.astore_n 3, 1) := by decide +kernel
theorem dL_canBe_13 : decode cL_canBe 13 = .ok (.iconst 1, 1) := by decide +kernel
theorem dL_canBe_14 : decode cL_canBe 14 = .ok (.ireturn, 1) := by decide +kernel
theorem dL_canBe_15 : decode cL_canBe 15 = .ok (.astore_n 3, 1) := by decide +kernel
theorem dL_canBe_16 : decode cL_canBe 16 = .ok (.iconst 2, 1) := by decide +kernel
theorem dL_canBe_17 : decode cL_canBe 17 = .ok (.ireturn, 1) := by decide +kernel
theorem dL_canBe_18 : decode cL_canBe 18 = .ok (.iconst 0, 1) := by decide +kernel
theorem dL_canBe_19 : decode cL_canBe 19 = .ok (.ireturn, 1) := by decide +kernel
theorem dL_meant_0 : decode cL_meant 0 = .ok (.aload_n 2, 1) := by decide +kernel
theorem dL_meant_1 : decode cL_meant 1 = .ok (.iconst 0, 1) := by decide +kernel
theorem dL_meant_2 : decode cL_meant 2 = .ok (.aload_n 0, 1) := by decide +kernel
theorem dL_meant_3 : decode cL_meant 3 = .ok (.iload_n 1, 1) := by decide +kernel
theorem dL_meant_4 : decode cL_meant 4 = .ok (.invokevirtual 67, 3) := by decide +kernel
theorem dL_meant_7 : decode cL_meant 7 = .ok (.i2l, 1) := by decide +kernel
theorem dL_meant_8 : decode cL_meant 8 = .ok (.lastore, 1) := by decide +kernel
theorem dL_meant_9 : decode cL_meant 9 = .ok (.goto 6, 3) := by decide +kernel
theorem dL_meant_12 : decode cL_meant 12 = .ok (.astore_n 3, 1) := by decide +kernel
theorem dL_meant_13 : decode cL_meant 13 = .ok (.iconst 1, 1) := by decide +kernel
theorem dL_meant_14 : decode cL_meant 14 = .ok (.ireturn, 1) := by decide +kernel
theorem dL_meant_15 : decode cL_meant 15 = .ok (.iconst 0, 1) := by decide +kernel
theorem dL_meant_16 : decode cL_meant 16 = .ok (.ireturn, 1) := by decide +kernel
theorem dL_ifFound_0 : decode cL_ifFound 0 = .ok (.aload 5, 2) := by decide +kernel
theorem dL_ifFound_2 : decode cL_ifFound 2 = .ok (.iconst 0, 1) := by decide +kernel
theorem dL_ifFound_3 : decode cL_ifFound 3 = .ok (.aload_n 0, 1) := by decide +kernel
theorem dL_ifFound_4 : decode cL_ifFound 4 = .ok (.iload_n 1, 1) := by decide +kernel
theorem dL_ifFound_5 : decode cL_ifFound 5 = .ok (.iload_n 2, 1) := by decide +kernel
theorem dL_ifFound_6 : decode cL_ifFound 6 = .ok (.iload_n 3, 1) := by decide +kernel
theorem dL_ifFound_7 : decode cL_ifFound 7 = .ok (.iload 4, 2) := by decide +kernel
theorem dL_ifFound_9 : decode cL_ifFound 9 = .ok (.invokevirtual 70, 3) := by decide +kernel
theorem dL_ifFound_12 : decode cL_ifFound 12 = .ok (.i2l, 1) := by decide +kernel
theorem dL_ifFound_13 : decode cL_ifFound 13 = .ok (.lastore, 1) := by decide +kernel
theorem dL_ifFound_14 : decode cL_ifFound 14 = .ok (.goto 11, 3) := by decide +kernel
theorem dL_ifFound_17 : decode cL_ifFound 17 = .ok (.astore 6, 2) := by decide +kernel
theorem dL_ifFound_19 : decode cL_ifFound 19 = .ok (.iconst 1, 1) := by decide +kernel
theorem dL_ifFound_20 : decode cL_ifFound 20 = .ok (.ireturn, 1) := by decide +kernel
theorem dL_ifFound_21 : decode cL_ifFound 21 = .ok (.astore 6, 2) := by decide +kernel
theorem dL_ifFound_23 : decode cL_ifFound 23 = .ok (.iconst 2, 1) := by decide +kernel
theorem dL_ifFound_24 : decode cL_ifFound 24 = .ok (.ireturn, 1) := by decide +kernel
theorem dL_ifFound_25 : decode cL_ifFound 25 = .ok (.iconst 0, 1) := by decide +kernel
theorem dL_ifFound_26 : decode cL_ifFound 26 = .ok (.ireturn, 1) := by decide +kernel
theorem dL_runScript_0 : decode cL_runScript 0 = .ok (.aload 4, 2) := by decide +kernel
theorem dL_runScript_2 : decode cL_runScript 2 = .ok (.iconst 0, 1) := by decide +kernel
theorem dL_runScript_3 : decode cL_runScript 3 = .ok (.aload_n 0, 1) := by decide +kernel
theorem dL_runScript_4 : decode cL_runScript 4 = .ok (.iload_n 1, 1) := by decide +kernel
theorem dL_runScript_5 : decode cL_runScript 5 = .ok (.lload_n 2, 1) := by decide +kernel
theorem dL_runScript_6 : decode cL_runScript 6 = .ok (.invokevirtual 73, 3) := by decide +kernel
theorem dL_runScript_9 : decode cL_runScript 9 = .ok (.i2l, 1) := by decide +kernel
theorem dL_runScript_10 : decode cL_runScript 10 = .ok (.lastore, 1) := by decide +kernel
theorem dL_runScript_11 : decode cL_runScript 11 = .ok (.goto 7, 3) := by decide +kernel
theorem dL_runScript_14 : decode cL_runScript 14 = .ok (.astore 5, 2) := by decide +kernel
theorem dL_runScript_16 : decode cL_runScript 16 = .ok (.iconst 1, 1) := by decide +kernel
theorem dL_runScript_17 : decode cL_runScript 17 = .ok (.ireturn, 1) := by decide +kernel
theorem dL_runScript_18 : decode cL_runScript 18 = .ok (.iconst 0, 1) := by decide +kernel
theorem dL_runScript_19 : decode cL_runScript 19 = .ok (.ireturn, 1) := by decide +kernel
theorem dL_simulate_0 : decode cL_simulate 0 = .ok (.aload 4, 2) := by decide +kernel
theorem dL_simulate_2 : decode cL_simulate 2 = .ok (.iconst 0, 1) := by decide +kernel
theorem dL_simulate_3 : decode cL_simulate 3 = .ok (.aload_n 0, 1) := by decide +kernel
theorem dL_simulate_4 : decode cL_simulate 4 = .ok (.lload_n 1, 1) := by decide +kernel
theorem dL_simulate_5 : decode cL_simulate 5 = .ok (.iload_n 3, 1) := by decide +kernel
theorem dL_simulate_6 : decode cL_simulate 6 = .ok (.invokevirtual 77, 3) := by decide +kernel
theorem dL_simulate_9 : decode cL_simulate 9 = .ok (.i2l, 1) := by decide +kernel
theorem dL_simulate_10 : decode cL_simulate 10 = .ok (.lastore, 1) := by decide +kernel
theorem dL_simulate_11 : decode cL_simulate 11 = .ok (.goto 7, 3) := by decide +kernel
theorem dL_simulate_14 : decode cL_simulate 14 = .ok (.astore 5, 2) := by decide +kernel
theorem dL_simulate_16 : decode cL_simulate 16 = .ok (.iconst 1, 1) := by decide +kernel
theorem dL_simulate_17 : decode cL_simulate 17 = .ok (.ireturn, 1) := by decide +kernel
theorem dL_simulate_18 : decode cL_simulate 18 = .ok (.iconst 0, 1) := by decide +kernel
theorem dL_simulate_19 : decode cL_simulate 19 = .ok (.ireturn, 1) := by decide +kernel
theorem dL_save_0 : decode cL_save 0 = .ok (.aload_n 2, 1) := by decide +kernel
theorem dL_save_1 : decode cL_save 1 = .ok (.iconst 0, 1) := by decide +kernel
theorem dL_save_2 : decode cL_save 2 = .ok (.aload_n 0, 1) := by decide +kernel
theorem dL_save_3 : decode cL_save 3 = .ok (.iload_n 1, 1) := by decide +kernel
theorem dL_save_4 : decode cL_save 4 = .ok (.invokevirtual 81, 3) := by decide +kernel
theorem dL_save_7 : decode cL_save 7 = .ok (.i2l, 1) := by decide +kernel
theorem dL_save_8 : decode cL_save 8 = .ok (.lastore, 1) := by decide +kernel
theorem dL_save_9 : decode cL_save 9 = .ok (.goto 6, 3) := by decide +kernel
theorem dL_save_12 : decode cL_save 12 = .ok (.astore_n 3, 1) := by decide +kernel
theorem dL_save_13 : decode cL_save 13 = .ok (.iconst 1, 1) := by decide +kernel
theorem dL_save_14 : decode cL_save 14 = .ok (.ireturn, 1) := by decide +kernel
theorem dL_save_15 : decode cL_save 15 = .ok (.iconst 0, 1) := by decide +kernel
theorem dL_save_16 : decode cL_save 16 = .ok (.ireturn, 1) := by decide +kernel
theorem dL_restore_0 : decode cL_restore 0 = .ok (.aload_n 2, 1) := by decide +kernel
theorem dL_restore_1 : decode cL_restore 1 = .ok (.iconst 0, 1) := by decide +kernel
theorem dL_restore_2 : decode cL_restore 2 = .ok (.aload_n 0, 1) := by decide +kernel
theorem dL_restore_3 : decode cL_restore 3 = .ok (.iload_n 1, 1) := by decide +kernel
theorem dL_restore_4 : decode cL_restore 4 = .ok (.invokevirtual 84, 3) := by decide +kernel
theorem dL_restore_7 : decode cL_restore 7 = .ok (.i2l, 1) := by decide +kernel
theorem dL_restore_8 : decode cL_restore 8 = .ok (.lastore, 1) := by decide +kernel
theorem dL_restore_9 : decode cL_restore 9 = .ok (.goto 9, 3) := by decide +kernel
theorem dL_restore_12 : decode cL_restore 12 = .ok (.astore_n 3, 1) := by decide +kernel
theorem dL_restore_13 : decode cL_restore 13 = .ok (.iconst 1, 1) := by decide +kernel
theorem dL_restore_14 : decode cL_restore 14 = .ok (.ireturn, 1) := by decide +kernel
theorem dL_restore_15 : decode cL_restore 15 = .ok (.astore_n 3, 1) := by decide +kernel
theorem dL_restore_16 : decode cL_restore 16 = .ok (.iconst 2, 1) := by decide +kernel
theorem dL_restore_17 : decode cL_restore 17 = .ok (.ireturn, 1) := by decide +kernel
theorem dL_restore_18 : decode cL_restore 18 = .ok (.iconst 0, 1) := by decide +kernel
theorem dL_restore_19 : decode cL_restore 19 = .ok (.ireturn, 1) := by decide +kernel
theorem dL_law_0 : decode cL_law 0 = .ok (.new 8, 3) := by decide +kernel
theorem dL_law_3 : decode cL_law 3 = .ok (.dup, 1) := by decide +kernel
theorem dL_law_4 : decode cL_law 4 = .ok (.invokespecial 87, 3) := by decide +kernel
theorem dL_law_7 : decode cL_law 7 = .ok (.astore_n 1, 1) := by decide +kernel
theorem dL_law_8 : decode cL_law 8 = .ok (.new 88, 3) := by decide +kernel
theorem dL_law_11 : decode cL_law 11 = .ok (.dup, 1) := by decide +kernel
theorem dL_law_12 : decode cL_law 12 = .ok (.invokespecial 90, 3) := by decide +kernel
theorem dL_law_15 : decode cL_law 15 = .ok (.astore_n 2, 1) := by decide +kernel
theorem dL_law_16 : decode cL_law 16 = .ok (.iconst 1, 1) := by decide +kernel
theorem dL_law_17 : decode cL_law 17 = .ok (.newarray .long, 2) := by decide +kernel
theorem dL_law_19 : decode cL_law 19 = .ok (.astore_n 3, 1) := by decide +kernel
theorem dL_law_20 : decode cL_law 20 = .ok (.iconst 0, 1) := by decide +kernel
theorem dL_law_21 : decode cL_law 21 = .ok (.istore 4, 2) := by decide +kernel
theorem dL_law_23 : decode cL_law 23 = .ok (.iload 4, 2) := by decide +kernel
theorem dL_law_25 : decode cL_law 25 = .ok (.aload_n 0, 1) := by decide +kernel
theorem dL_law_26 : decode cL_law 26 = .ok (.arraylength, 1) := by decide +kernel
theorem dL_law_27 : decode cL_law 27 = .ok (.bipush 6, 2) := by decide +kernel
theorem dL_law_29 : decode cL_law 29 = .ok (.isub, 1) := by decide +kernel
theorem dL_law_30 : decode cL_law 30 = .ok (.if_icmp .gt 1667, 3) := by decide +kernel
theorem dL_law_33 : decode cL_law 33 = .ok (.aload_n 0, 1) := by decide +kernel
theorem dL_law_34 : decode cL_law 34 = .ok (.iload 4, 2) := by decide +kernel
theorem dL_law_36 : decode cL_law 36 = .ok (.iaload, 1) := by decide +kernel
theorem dL_law_37 : decode cL_law 37 = .ok (.bipush 31, 2) := by decide +kernel
theorem dL_law_39 : decode cL_law 39 = .ok (.iand, 1) := by decide +kernel
theorem dL_law_40 : decode cL_law 40 = .ok (.tableswitch 1651 0 23 #[112, 168, 181, 194, 238, 294, 362, 430, 486, 566, 658, 778, 858, 954, 1010, 1078, 1122, 1178, 1191, 1247, 1339, 1439, 1539, 1595], 112) := by decide +kernel
theorem dL_law_152 : decode cL_law 152 = .ok (.aload_n 1, 1) := by decide +kernel
theorem dL_law_153 : decode cL_law 153 = .ok (.aload_n 0, 1) := by decide +kernel
theorem dL_law_154 : decode cL_law 154 = .ok (.iload 4, 2) := by decide +kernel
theorem dL_law_156 : decode cL_law 156 = .ok (.iconst 1, 1) := by decide +kernel
theorem dL_law_157 : decode cL_law 157 = .ok (.iadd, 1) := by decide +kernel
theorem dL_law_158 : decode cL_law 158 = .ok (.iaload, 1) := by decide +kernel
theorem dL_law_159 : decode cL_law 159 = .ok (.aload_n 3, 1) := by decide +kernel
theorem dL_law_160 : decode cL_law 160 = .ok (.invokestatic 91, 3) := by decide +kernel
theorem dL_law_163 : decode cL_law 163 = .ok (.istore 5, 2) := by decide +kernel
theorem dL_law_165 : decode cL_law 165 = .ok (.aload_n 2, 1) := by decide +kernel
theorem dL_law_166 : decode cL_law 166 = .ok (.aload_n 0, 1) := by decide +kernel
theorem dL_law_167 : decode cL_law 167 = .ok (.iload 4, 2) := by decide +kernel
theorem dL_law_169 : decode cL_law 169 = .ok (.iconst 1, 1) := by decide +kernel
theorem dL_law_170 : decode cL_law 170 = .ok (.iadd, 1) := by decide +kernel
theorem dL_law_171 : decode cL_law 171 = .ok (.iaload, 1) := by decide +kernel
theorem dL_law_172 : decode cL_law 172 = .ok (.invokevirtual 96, 3) := by decide +kernel
theorem dL_law_175 : decode cL_law 175 = .ok (.istore 6, 2) := by decide +kernel
theorem dL_law_177 : decode cL_law 177 = .ok (.aload_n 2, 1) := by decide +kernel
theorem dL_law_178 : decode cL_law 178 = .ok (.invokevirtual 97, 3) := by decide +kernel
theorem dL_law_181 : decode cL_law 181 = .ok (.iload 5, 2) := by decide +kernel
theorem dL_law_183 : decode cL_law 183 = .ok (.if_icmp .eq 5, 3) := by decide +kernel
theorem dL_law_186 : decode cL_law 186 = .ok (.iconst 0, 1) := by decide +kernel
theorem dL_law_187 : decode cL_law 187 = .ok (.ireturn, 1) := by decide +kernel
theorem dL_law_188 : decode cL_law 188 = .ok (.iload 5, 2) := by decide +kernel
theorem dL_law_190 : decode cL_law 190 = .ok (.ifCond .ne 15, 3) := by decide +kernel
theorem dL_law_193 : decode cL_law 193 = .ok (.aload_n 3, 1) := by decide +kernel
theorem dL_law_194 : decode cL_law 194 = .ok (.iconst 0, 1) := by decide +kernel
theorem dL_law_195 : decode cL_law 195 = .ok (.laload, 1) := by decide +kernel
theorem dL_law_196 : decode cL_law 196 = .ok (.iload 6, 2) := by decide +kernel
theorem dL_law_198 : decode cL_law 198 = .ok (.i2l, 1) := by decide +kernel
theorem dL_law_199 : decode cL_law 199 = .ok (.lcmp, 1) := by decide +kernel
theorem dL_law_200 : decode cL_law 200 = .ok (.ifCond .eq 5, 3) := by decide +kernel
theorem dL_law_203 : decode cL_law 203 = .ok (.iconst 0, 1) := by decide +kernel
theorem dL_law_204 : decode cL_law 204 = .ok (.ireturn, 1) := by decide +kernel
theorem dL_law_205 : decode cL_law 205 = .ok (.goto 1486, 3) := by decide +kernel
theorem dL_law_208 : decode cL_law 208 = .ok (.aload_n 1, 1) := by decide +kernel
theorem dL_law_209 : decode cL_law 209 = .ok (.invokevirtual 100, 3) := by decide +kernel
theorem dL_law_212 : decode cL_law 212 = .ok (.aload_n 2, 1) := by decide +kernel
theorem dL_law_213 : decode cL_law 213 = .ok (.invokevirtual 103, 3) := by decide +kernel
theorem dL_law_216 : decode cL_law 216 = .ok (.if_icmp .eq 1475, 3) := by decide +kernel
theorem dL_law_219 : decode cL_law 219 = .ok (.iconst 0, 1) := by decide +kernel
theorem dL_law_220 : decode cL_law 220 = .ok (.ireturn, 1) := by decide +kernel
theorem dL_law_221 : decode cL_law 221 = .ok (.aload_n 1, 1) := by decide +kernel
theorem dL_law_222 : decode cL_law 222 = .ok (.invokevirtual 104, 3) := by decide +kernel
theorem dL_law_225 : decode cL_law 225 = .ok (.aload_n 2, 1) := by decide +kernel
theorem dL_law_226 : decode cL_law 226 = .ok (.invokevirtual 107, 3) := by decide +kernel
theorem dL_law_229 : decode cL_law 229 = .ok (.if_icmp .eq 1462, 3) := by decide +kernel
theorem dL_law_232 : decode cL_law 232 = .ok (.iconst 0, 1) := by decide +kernel
theorem dL_law_233 : decode cL_law 233 = .ok (.ireturn, 1) := by decide +kernel
theorem dL_law_234 : decode cL_law 234 = .ok (.aload_n 1, 1) := by decide +kernel
theorem dL_law_235 : decode cL_law 235 = .ok (.aload_n 3, 1) := by decide +kernel
theorem dL_law_236 : decode cL_law 236 = .ok (.invokestatic 108, 3) := by decide +kernel
theorem dL_law_239 : decode cL_law 239 = .ok (.istore 5, 2) := by decide +kernel
theorem dL_law_241 : decode cL_law 241 = .ok (.aload_n 2, 1) := by decide +kernel
theorem dL_law_242 : decode cL_law 242 = .ok (.invokevirtual 111, 3) := by decide +kernel
theorem dL_law_245 : decode cL_law 245 = .ok (.istore 6, 2) := by decide +kernel
theorem dL_law_247 : decode cL_law 247 = .ok (.aload_n 2, 1) := by decide +kernel
theorem dL_law_248 : decode cL_law 248 = .ok (.invokevirtual 97, 3) := by decide +kernel
theorem dL_law_251 : decode cL_law 251 = .ok (.iload 5, 2) := by decide +kernel
theorem dL_law_253 : decode cL_law 253 = .ok (.if_icmp .eq 5, 3) := by decide +kernel
theorem dL_law_256 : decode cL_law 256 = .ok (.iconst 0, 1) := by decide +kernel
theorem dL_law_257 : decode cL_law 257 = .ok (.ireturn, 1) := by decide +kernel
theorem dL_law_258 : decode cL_law 258 = .ok (.iload 5, 2) := by decide +kernel
theorem dL_law_260 : decode cL_law 260 = .ok (.ifCond .ne 15, 3) := by decide +kernel
theorem dL_law_263 : decode cL_law 263 = .ok (.aload_n 3, 1) := by decide +kernel
theorem dL_law_264 : decode cL_law 264 = .ok (.iconst 0, 1) := by decide +kernel
theorem dL_law_265 : decode cL_law 265 = .ok (.laload, 1) := by decide +kernel
theorem dL_law_266 : decode cL_law 266 = .ok (.iload 6, 2) := by decide +kernel
theorem dL_law_268 : decode cL_law 268 = .ok (.i2l, 1) := by decide +kernel
theorem dL_law_269 : decode cL_law 269 = .ok (.lcmp, 1) := by decide +kernel
theorem dL_law_270 : decode cL_law 270 = .ok (.ifCond .eq 5, 3) := by decide +kernel
theorem dL_law_273 : decode cL_law 273 = .ok (.iconst 0, 1) := by decide +kernel
theorem dL_law_274 : decode cL_law 274 = .ok (.ireturn, 1) := by decide +kernel
theorem dL_law_275 : decode cL_law 275 = .ok (.goto 1416, 3) := by decide +kernel
theorem dL_law_278 : decode cL_law 278 = .ok (.aload_n 1, 1) := by decide +kernel
theorem dL_law_279 : decode cL_law 279 = .ok (.aload_n 0, 1) := by decide +kernel
theorem dL_law_280 : decode cL_law 280 = .ok (.iload 4, 2) := by decide +kernel
theorem dL_law_282 : decode cL_law 282 = .ok (.iconst 1, 1) := by decide +kernel
theorem dL_law_283 : decode cL_law 283 = .ok (.iadd, 1) := by decide +kernel
theorem dL_law_284 : decode cL_law 284 = .ok (.iaload, 1) := by decide +kernel
theorem dL_law_285 : decode cL_law 285 = .ok (.aload_n 3, 1) := by decide +kernel
theorem dL_law_286 : decode cL_law 286 = .ok (.invokestatic 112, 3) := by decide +kernel
theorem dL_law_289 : decode cL_law 289 = .ok (.istore 5, 2) := by decide +kernel
theorem dL_law_291 : decode cL_law 291 = .ok (.aload_n 2, 1) := by decide +kernel
theorem dL_law_292 : decode cL_law 292 = .ok (.aload_n 0, 1) := by decide +kernel
theorem dL_law_293 : decode cL_law 293 = .ok (.iload 4, 2) := by decide +kernel
theorem dL_law_295 : decode cL_law 295 = .ok (.iconst 1, 1) := by decide +kernel
theorem dL_law_296 : decode cL_law 296 = .ok (.iadd, 1) := by decide +kernel
theorem dL_law_297 : decode cL_law 297 = .ok (.iaload, 1) := by decide +kernel
theorem dL_law_298 : decode cL_law 298 = .ok (.invokevirtual 114, 3) := by decide +kernel
theorem dL_law_301 : decode cL_law 301 = .ok (.istore 6, 2) := by decide +kernel
theorem dL_law_303 : decode cL_law 303 = .ok (.aload_n 2, 1) := by decide +kernel
theorem dL_law_304 : decode cL_law 304 = .ok (.invokevirtual 97, 3) := by decide +kernel
theorem dL_law_307 : decode cL_law 307 = .ok (.iload 5, 2) := by decide +kernel
theorem dL_law_309 : decode cL_law 309 = .ok (.if_icmp .eq 5, 3) := by decide +kernel
theorem dL_law_312 : decode cL_law 312 = .ok (.iconst 0, 1) := by decide +kernel
theorem dL_law_313 : decode cL_law 313 = .ok (.ireturn, 1) := by decide +kernel
theorem dL_law_314 : decode cL_law 314 = .ok (.iload 5, 2) := by decide +kernel
theorem dL_law_316 : decode cL_law 316 = .ok (.ifCond .ne 15, 3) := by decide +kernel
theorem dL_law_319 : decode cL_law 319 = .ok (.aload_n 3, 1) := by decide +kernel
theorem dL_law_320 : decode cL_law 320 = .ok (.iconst 0, 1) := by decide +kernel
theorem dL_law_321 : decode cL_law 321 = .ok (.laload, 1) := by decide +kernel
theorem dL_law_322 : decode cL_law 322 = .ok (.iload 6, 2) := by decide +kernel
theorem dL_law_324 : decode cL_law 324 = .ok (.i2l, 1) := by decide +kernel
theorem dL_law_325 : decode cL_law 325 = .ok (.lcmp, 1) := by decide +kernel
theorem dL_law_326 : decode cL_law 326 = .ok (.ifCond .eq 5, 3) := by decide +kernel
theorem dL_law_329 : decode cL_law 329 = .ok (.iconst 0, 1) := by decide +kernel
theorem dL_law_330 : decode cL_law 330 = .ok (.ireturn, 1) := by decide +kernel
theorem dL_law_331 : decode cL_law 331 = .ok (.goto 1360, 3) := by decide +kernel
theorem dL_law_334 : decode cL_law 334 = .ok (.aload_n 1, 1) := by decide +kernel
theorem dL_law_335 : decode cL_law 335 = .ok (.aload_n 0, 1) := by decide +kernel
theorem dL_law_336 : decode cL_law 336 = .ok (.iload 4, 2) := by decide +kernel
theorem dL_law_338 : decode cL_law 338 = .ok (.iconst 1, 1) := by decide +kernel
theorem dL_law_339 : decode cL_law 339 = .ok (.iadd, 1) := by decide +kernel
theorem dL_law_340 : decode cL_law 340 = .ok (.iaload, 1) := by decide +kernel
theorem dL_law_341 : decode cL_law 341 = .ok (.aload_n 0, 1) := by decide +kernel
theorem dL_law_342 : decode cL_law 342 = .ok (.iload 4, 2) := by decide +kernel
theorem dL_law_344 : decode cL_law 344 = .ok (.iconst 2, 1) := by decide +kernel
theorem dL_law_345 : decode cL_law 345 = .ok (.iadd, 1) := by decide +kernel
theorem dL_law_346 : decode cL_law 346 = .ok (.iaload, 1) := by decide +kernel
theorem dL_law_347 : decode cL_law 347 = .ok (.aload_n 3, 1) := by decide +kernel
theorem dL_law_348 : decode cL_law 348 = .ok (.invokestatic 115, 3) := by decide +kernel
theorem dL_law_351 : decode cL_law 351 = .ok (.istore 5, 2) := by decide +kernel
theorem dL_law_353 : decode cL_law 353 = .ok (.aload_n 2, 1) := by decide +kernel
theorem dL_law_354 : decode cL_law 354 = .ok (.aload_n 0, 1) := by decide +kernel
theorem dL_law_355 : decode cL_law 355 = .ok (.iload 4, 2) := by decide +kernel
theorem dL_law_357 : decode cL_law 357 = .ok (.iconst 1, 1) := by decide +kernel
theorem dL_law_358 : decode cL_law 358 = .ok (.iadd, 1) := by decide +kernel
theorem dL_law_359 : decode cL_law 359 = .ok (.iaload, 1) := by decide +kernel
theorem dL_law_360 : decode cL_law 360 = .ok (.aload_n 0, 1) := by decide +kernel
theorem dL_law_361 : decode cL_law 361 = .ok (.iload 4, 2) := by decide +kernel
theorem dL_law_363 : decode cL_law 363 = .ok (.iconst 2, 1) := by decide +kernel
theorem dL_law_364 : decode cL_law 364 = .ok (.iadd, 1) := by decide +kernel
theorem dL_law_365 : decode cL_law 365 = .ok (.iaload, 1) := by decide +kernel
theorem dL_law_366 : decode cL_law 366 = .ok (.invokevirtual 118, 3) := by decide +kernel
theorem dL_law_369 : decode cL_law 369 = .ok (.istore 6, 2) := by decide +kernel
theorem dL_law_371 : decode cL_law 371 = .ok (.aload_n 2, 1) := by decide +kernel
theorem dL_law_372 : decode cL_law 372 = .ok (.invokevirtual 97, 3) := by decide +kernel
theorem dL_law_375 : decode cL_law 375 = .ok (.iload 5, 2) := by decide +kernel
theorem dL_law_377 : decode cL_law 377 = .ok (.if_icmp .eq 5, 3) := by decide +kernel
theorem dL_law_380 : decode cL_law 380 = .ok (.iconst 0, 1) := by decide +kernel
theorem dL_law_381 : decode cL_law 381 = .ok (.ireturn, 1) := by decide +kernel
theorem dL_law_382 : decode cL_law 382 = .ok (.iload 5, 2) := by decide +kernel
theorem dL_law_384 : decode cL_law 384 = .ok (.ifCond .ne 15, 3) := by decide +kernel
theorem dL_law_387 : decode cL_law 387 = .ok (.aload_n 3, 1) := by decide +kernel
theorem dL_law_388 : decode cL_law 388 = .ok (.iconst 0, 1) := by decide +kernel
theorem dL_law_389 : decode cL_law 389 = .ok (.laload, 1) := by decide +kernel
theorem dL_law_390 : decode cL_law 390 = .ok (.iload 6, 2) := by decide +kernel
theorem dL_law_392 : decode cL_law 392 = .ok (.i2l, 1) := by decide +kernel
theorem dL_law_393 : decode cL_law 393 = .ok (.lcmp, 1) := by decide +kernel
theorem dL_law_394 : decode cL_law 394 = .ok (.ifCond .eq 5, 3) := by decide +kernel
theorem dL_law_397 : decode cL_law 397 = .ok (.iconst 0, 1) := by decide +kernel
theorem dL_law_398 : decode cL_law 398 = .ok (.ireturn, 1) := by decide +kernel
theorem dL_law_399 : decode cL_law 399 = .ok (.goto 1292, 3) := by decide +kernel
theorem dL_law_402 : decode cL_law 402 = .ok (.aload_n 1, 1) := by decide +kernel
theorem dL_law_403 : decode cL_law 403 = .ok (.aload_n 0, 1) := by decide +kernel
theorem dL_law_404 : decode cL_law 404 = .ok (.iload 4, 2) := by decide +kernel
theorem dL_law_406 : decode cL_law 406 = .ok (.iconst 1, 1) := by decide +kernel
theorem dL_law_407 : decode cL_law 407 = .ok (.iadd, 1) := by decide +kernel
theorem dL_law_408 : decode cL_law 408 = .ok (.iaload, 1) := by decide +kernel
theorem dL_law_409 : decode cL_law 409 = .ok (.aload_n 0, 1) := by decide +kernel
theorem dL_law_410 : decode cL_law 410 = .ok (.iload 4, 2) := by decide +kernel
theorem dL_law_412 : decode cL_law 412 = .ok (.iconst 2, 1) := by decide +kernel
theorem dL_law_413 : decode cL_law 413 = .ok (.iadd, 1) := by decide +kernel
theorem dL_law_414 : decode cL_law 414 = .ok (.iaload, 1) := by decide +kernel
theorem dL_law_415 : decode cL_law 415 = .ok (.aload_n 3, 1) := by decide +kernel
theorem dL_law_416 : decode cL_law 416 = .ok (.invokestatic 119, 3) := by decide +kernel
theorem dL_law_419 : decode cL_law 419 = .ok (.istore 5, 2) := by decide +kernel
theorem dL_law_421 : decode cL_law 421 = .ok (.aload_n 2, 1) := by decide +kernel
theorem dL_law_422 : decode cL_law 422 = .ok (.aload_n 0, 1) := by decide +kernel
theorem dL_law_423 : decode cL_law 423 = .ok (.iload 4, 2) := by decide +kernel
theorem dL_law_425 : decode cL_law 425 = .ok (.iconst 1, 1) := by decide +kernel
theorem dL_law_426 : decode cL_law 426 = .ok (.iadd, 1) := by decide +kernel
theorem dL_law_427 : decode cL_law 427 = .ok (.iaload, 1) := by decide +kernel
theorem dL_law_428 : decode cL_law 428 = .ok (.aload_n 0, 1) := by decide +kernel
theorem dL_law_429 : decode cL_law 429 = .ok (.iload 4, 2) := by decide +kernel
theorem dL_law_431 : decode cL_law 431 = .ok (.iconst 2, 1) := by decide +kernel
theorem dL_law_432 : decode cL_law 432 = .ok (.iadd, 1) := by decide +kernel
theorem dL_law_433 : decode cL_law 433 = .ok (.iaload, 1) := by decide +kernel
theorem dL_law_434 : decode cL_law 434 = .ok (.invokevirtual 121, 3) := by decide +kernel
theorem dL_law_437 : decode cL_law 437 = .ok (.istore 6, 2) := by decide +kernel
theorem dL_law_439 : decode cL_law 439 = .ok (.aload_n 2, 1) := by decide +kernel
theorem dL_law_440 : decode cL_law 440 = .ok (.invokevirtual 97, 3) := by decide +kernel
theorem dL_law_443 : decode cL_law 443 = .ok (.iload 5, 2) := by decide +kernel
theorem dL_law_445 : decode cL_law 445 = .ok (.if_icmp .eq 5, 3) := by decide +kernel
theorem dL_law_448 : decode cL_law 448 = .ok (.iconst 0, 1) := by decide +kernel
theorem dL_law_449 : decode cL_law 449 = .ok (.ireturn, 1) := by decide +kernel
theorem dL_law_450 : decode cL_law 450 = .ok (.iload 5, 2) := by decide +kernel
theorem dL_law_452 : decode cL_law 452 = .ok (.ifCond .ne 15, 3) := by decide +kernel
theorem dL_law_455 : decode cL_law 455 = .ok (.aload_n 3, 1) := by decide +kernel
theorem dL_law_456 : decode cL_law 456 = .ok (.iconst 0, 1) := by decide +kernel
theorem dL_law_457 : decode cL_law 457 = .ok (.laload, 1) := by decide +kernel
theorem dL_law_458 : decode cL_law 458 = .ok (.iload 6, 2) := by decide +kernel
theorem dL_law_460 : decode cL_law 460 = .ok (.i2l, 1) := by decide +kernel
theorem dL_law_461 : decode cL_law 461 = .ok (.lcmp, 1) := by decide +kernel
theorem dL_law_462 : decode cL_law 462 = .ok (.ifCond .eq 5, 3) := by decide +kernel
theorem dL_law_465 : decode cL_law 465 = .ok (.iconst 0, 1) := by decide +kernel
theorem dL_law_466 : decode cL_law 466 = .ok (.ireturn, 1) := by decide +kernel
theorem dL_law_467 : decode cL_law 467 = .ok (.goto 1224, 3) := by decide +kernel
theorem dL_law_470 : decode cL_law 470 = .ok (.aload_n 1, 1) := by decide +kernel
theorem dL_law_471 : decode cL_law 471 = .ok (.aload_n 0, 1) := by decide +kernel
theorem dL_law_472 : decode cL_law 472 = .ok (.iload 4, 2) := by decide +kernel
theorem dL_law_474 : decode cL_law 474 = .ok (.iconst 1, 1) := by decide +kernel
theorem dL_law_475 : decode cL_law 475 = .ok (.iadd, 1) := by decide +kernel
theorem dL_law_476 : decode cL_law 476 = .ok (.iaload, 1) := by decide +kernel
theorem dL_law_477 : decode cL_law 477 = .ok (.aload_n 3, 1) := by decide +kernel
theorem dL_law_478 : decode cL_law 478 = .ok (.invokestatic 122, 3) := by decide +kernel
theorem dL_law_481 : decode cL_law 481 = .ok (.istore 5, 2) := by decide +kernel
theorem dL_law_483 : decode cL_law 483 = .ok (.aload_n 2, 1) := by decide +kernel
theorem dL_law_484 : decode cL_law 484 = .ok (.aload_n 0, 1) := by decide +kernel
theorem dL_law_485 : decode cL_law 485 = .ok (.iload 4, 2) := by decide +kernel
theorem dL_law_487 : decode cL_law 487 = .ok (.iconst 1, 1) := by decide +kernel
theorem dL_law_488 : decode cL_law 488 = .ok (.iadd, 1) := by decide +kernel
theorem dL_law_489 : decode cL_law 489 = .ok (.iaload, 1) := by decide +kernel
theorem dL_law_490 : decode cL_law 490 = .ok (.invokevirtual 124, 3) := by decide +kernel
theorem dL_law_493 : decode cL_law 493 = .ok (.istore 6, 2) := by decide +kernel
theorem dL_law_495 : decode cL_law 495 = .ok (.aload_n 2, 1) := by decide +kernel
theorem dL_law_496 : decode cL_law 496 = .ok (.invokevirtual 97, 3) := by decide +kernel
theorem dL_law_499 : decode cL_law 499 = .ok (.iload 5, 2) := by decide +kernel
theorem dL_law_501 : decode cL_law 501 = .ok (.if_icmp .eq 5, 3) := by decide +kernel
theorem dL_law_504 : decode cL_law 504 = .ok (.iconst 0, 1) := by decide +kernel
theorem dL_law_505 : decode cL_law 505 = .ok (.ireturn, 1) := by decide +kernel
theorem dL_law_506 : decode cL_law 506 = .ok (.iload 5, 2) := by decide +kernel
theorem dL_law_508 : decode cL_law 508 = .ok (.ifCond .ne 15, 3) := by decide +kernel
theorem dL_law_511 : decode cL_law 511 = .ok (.aload_n 3, 1) := by decide +kernel
theorem dL_law_512 : decode cL_law 512 = .ok (.iconst 0, 1) := by decide +kernel
theorem dL_law_513 : decode cL_law 513 = .ok (.laload, 1) := by decide +kernel
theorem dL_law_514 : decode cL_law 514 = .ok (.iload 6, 2) := by decide +kernel
theorem dL_law_516 : decode cL_law 516 = .ok (.i2l, 1) := by decide +kernel
theorem dL_law_517 : decode cL_law 517 = .ok (.lcmp, 1) := by decide +kernel
theorem dL_law_518 : decode cL_law 518 = .ok (.ifCond .eq 5, 3) := by decide +kernel
theorem dL_law_521 : decode cL_law 521 = .ok (.iconst 0, 1) := by decide +kernel
theorem dL_law_522 : decode cL_law 522 = .ok (.ireturn, 1) := by decide +kernel
theorem dL_law_523 : decode cL_law 523 = .ok (.goto 1168, 3) := by decide +kernel
theorem dL_law_526 : decode cL_law 526 = .ok (.aload_n 1, 1) := by decide +kernel
theorem dL_law_527 : decode cL_law 527 = .ok (.aload_n 0, 1) := by decide +kernel
theorem dL_law_528 : decode cL_law 528 = .ok (.iload 4, 2) := by decide +kernel
theorem dL_law_530 : decode cL_law 530 = .ok (.iconst 1, 1) := by decide +kernel
theorem dL_law_531 : decode cL_law 531 = .ok (.iadd, 1) := by decide +kernel
theorem dL_law_532 : decode cL_law 532 = .ok (.iaload, 1) := by decide +kernel
theorem dL_law_533 : decode cL_law 533 = .ok (.aload_n 0, 1) := by decide +kernel
theorem dL_law_534 : decode cL_law 534 = .ok (.iload 4, 2) := by decide +kernel
theorem dL_law_536 : decode cL_law 536 = .ok (.iconst 2, 1) := by decide +kernel
theorem dL_law_537 : decode cL_law 537 = .ok (.iadd, 1) := by decide +kernel
theorem dL_law_538 : decode cL_law 538 = .ok (.iaload, 1) := by decide +kernel
theorem dL_law_539 : decode cL_law 539 = .ok (.aload_n 0, 1) := by decide +kernel
theorem dL_law_540 : decode cL_law 540 = .ok (.iload 4, 2) := by decide +kernel
theorem dL_law_542 : decode cL_law 542 = .ok (.iconst 3, 1) := by decide +kernel
theorem dL_law_543 : decode cL_law 543 = .ok (.iadd, 1) := by decide +kernel
theorem dL_law_544 : decode cL_law 544 = .ok (.iaload, 1) := by decide +kernel
theorem dL_law_545 : decode cL_law 545 = .ok (.aload_n 3, 1) := by decide +kernel
theorem dL_law_546 : decode cL_law 546 = .ok (.invokestatic 125, 3) := by decide +kernel
theorem dL_law_549 : decode cL_law 549 = .ok (.istore 5, 2) := by decide +kernel
theorem dL_law_551 : decode cL_law 551 = .ok (.aload_n 2, 1) := by decide +kernel
theorem dL_law_552 : decode cL_law 552 = .ok (.aload_n 0, 1) := by decide +kernel
theorem dL_law_553 : decode cL_law 553 = .ok (.iload 4, 2) := by decide +kernel
theorem dL_law_555 : decode cL_law 555 = .ok (.iconst 1, 1) := by decide +kernel
theorem dL_law_556 : decode cL_law 556 = .ok (.iadd, 1) := by decide +kernel
theorem dL_law_557 : decode cL_law 557 = .ok (.iaload, 1) := by decide +kernel
theorem dL_law_558 : decode cL_law 558 = .ok (.aload_n 0, 1) := by decide +kernel
theorem dL_law_559 : decode cL_law 559 = .ok (.iload 4, 2) := by decide +kernel
theorem dL_law_561 : decode cL_law 561 = .ok (.iconst 2, 1) := by decide +kernel
theorem dL_law_562 : decode cL_law 562 = .ok (.iadd, 1) := by decide +kernel
theorem dL_law_563 : decode cL_law 563 = .ok (.iaload, 1) := by decide +kernel
theorem dL_law_564 : decode cL_law 564 = .ok (.aload_n 0, 1) := by decide +kernel
theorem dL_law_565 : decode cL_law 565 = .ok (.iload 4, 2) := by decide +kernel
theorem dL_law_567 : decode cL_law 567 = .ok (.iconst 3, 1) := by decide +kernel
theorem dL_law_568 : decode cL_law 568 = .ok (.iadd, 1) := by decide +kernel
theorem dL_law_569 : decode cL_law 569 = .ok (.iaload, 1) := by decide +kernel
theorem dL_law_570 : decode cL_law 570 = .ok (.invokevirtual 128, 3) := by decide +kernel
theorem dL_law_573 : decode cL_law 573 = .ok (.istore 6, 2) := by decide +kernel
theorem dL_law_575 : decode cL_law 575 = .ok (.aload_n 2, 1) := by decide +kernel
theorem dL_law_576 : decode cL_law 576 = .ok (.invokevirtual 97, 3) := by decide +kernel
theorem dL_law_579 : decode cL_law 579 = .ok (.iload 5, 2) := by decide +kernel
theorem dL_law_581 : decode cL_law 581 = .ok (.if_icmp .eq 5, 3) := by decide +kernel
theorem dL_law_584 : decode cL_law 584 = .ok (.iconst 0, 1) := by decide +kernel
theorem dL_law_585 : decode cL_law 585 = .ok (.ireturn, 1) := by decide +kernel
theorem dL_law_586 : decode cL_law 586 = .ok (.iload 5, 2) := by decide +kernel
theorem dL_law_588 : decode cL_law 588 = .ok (.ifCond .ne 15, 3) := by decide +kernel
theorem dL_law_591 : decode cL_law 591 = .ok (.aload_n 3, 1) := by decide +kernel
theorem dL_law_592 : decode cL_law 592 = .ok (.iconst 0, 1) := by decide +kernel
theorem dL_law_593 : decode cL_law 593 = .ok (.laload, 1) := by decide +kernel
theorem dL_law_594 : decode cL_law 594 = .ok (.iload 6, 2) := by decide +kernel
theorem dL_law_596 : decode cL_law 596 = .ok (.i2l, 1) := by decide +kernel
theorem dL_law_597 : decode cL_law 597 = .ok (.lcmp, 1) := by decide +kernel
theorem dL_law_598 : decode cL_law 598 = .ok (.ifCond .eq 5, 3) := by decide +kernel
theorem dL_law_601 : decode cL_law 601 = .ok (.iconst 0, 1) := by decide +kernel
theorem dL_law_602 : decode cL_law 602 = .ok (.ireturn, 1) := by decide +kernel
theorem dL_law_603 : decode cL_law 603 = .ok (.goto 1088, 3) := by decide +kernel
theorem dL_law_606 : decode cL_law 606 = .ok (.aload_n 1, 1) := by decide +kernel
theorem dL_law_607 : decode cL_law 607 = .ok (.aload_n 0, 1) := by decide +kernel
theorem dL_law_608 : decode cL_law 608 = .ok (.iload 4, 2) := by decide +kernel
theorem dL_law_610 : decode cL_law 610 = .ok (.iconst 1, 1) := by decide +kernel
theorem dL_law_611 : decode cL_law 611 = .ok (.iadd, 1) := by decide +kernel
theorem dL_law_612 : decode cL_law 612 = .ok (.iaload, 1) := by decide +kernel
theorem dL_law_613 : decode cL_law 613 = .ok (.aload_n 0, 1) := by decide +kernel
theorem dL_law_614 : decode cL_law 614 = .ok (.iload 4, 2) := by decide +kernel
theorem dL_law_616 : decode cL_law 616 = .ok (.iconst 2, 1) := by decide +kernel
theorem dL_law_617 : decode cL_law 617 = .ok (.iadd, 1) := by decide +kernel
theorem dL_law_618 : decode cL_law 618 = .ok (.iaload, 1) := by decide +kernel
theorem dL_law_619 : decode cL_law 619 = .ok (.aload_n 0, 1) := by decide +kernel
theorem dL_law_620 : decode cL_law 620 = .ok (.iload 4, 2) := by decide +kernel
theorem dL_law_622 : decode cL_law 622 = .ok (.iconst 3, 1) := by decide +kernel
theorem dL_law_623 : decode cL_law 623 = .ok (.iadd, 1) := by decide +kernel
theorem dL_law_624 : decode cL_law 624 = .ok (.iaload, 1) := by decide +kernel
theorem dL_law_625 : decode cL_law 625 = .ok (.aload_n 0, 1) := by decide +kernel
theorem dL_law_626 : decode cL_law 626 = .ok (.iload 4, 2) := by decide +kernel
theorem dL_law_628 : decode cL_law 628 = .ok (.iconst 4, 1) := by decide +kernel
theorem dL_law_629 : decode cL_law 629 = .ok (.iadd, 1) := by decide +kernel
theorem dL_law_630 : decode cL_law 630 = .ok (.iaload, 1) := by decide +kernel
theorem dL_law_631 : decode cL_law 631 = .ok (.aload_n 3, 1) := by decide +kernel
theorem dL_law_632 : decode cL_law 632 = .ok (.invokestatic 129, 3) := by decide +kernel
theorem dL_law_635 : decode cL_law 635 = .ok (.istore 5, 2) := by decide +kernel
theorem dL_law_637 : decode cL_law 637 = .ok (.aload_n 2, 1) := by decide +kernel
theorem dL_law_638 : decode cL_law 638 = .ok (.aload_n 0, 1) := by decide +kernel
theorem dL_law_639 : decode cL_law 639 = .ok (.iload 4, 2) := by decide +kernel
theorem dL_law_641 : decode cL_law 641 = .ok (.iconst 1, 1) := by decide +kernel
theorem dL_law_642 : decode cL_law 642 = .ok (.iadd, 1) := by decide +kernel
theorem dL_law_643 : decode cL_law 643 = .ok (.iaload, 1) := by decide +kernel
theorem dL_law_644 : decode cL_law 644 = .ok (.aload_n 0, 1) := by decide +kernel
theorem dL_law_645 : decode cL_law 645 = .ok (.iload 4, 2) := by decide +kernel
theorem dL_law_647 : decode cL_law 647 = .ok (.iconst 2, 1) := by decide +kernel
theorem dL_law_648 : decode cL_law 648 = .ok (.iadd, 1) := by decide +kernel
theorem dL_law_649 : decode cL_law 649 = .ok (.iaload, 1) := by decide +kernel
theorem dL_law_650 : decode cL_law 650 = .ok (.aload_n 0, 1) := by decide +kernel
theorem dL_law_651 : decode cL_law 651 = .ok (.iload 4, 2) := by decide +kernel
theorem dL_law_653 : decode cL_law 653 = .ok (.iconst 3, 1) := by decide +kernel
theorem dL_law_654 : decode cL_law 654 = .ok (.iadd, 1) := by decide +kernel
theorem dL_law_655 : decode cL_law 655 = .ok (.iaload, 1) := by decide +kernel
theorem dL_law_656 : decode cL_law 656 = .ok (.aload_n 0, 1) := by decide +kernel
theorem dL_law_657 : decode cL_law 657 = .ok (.iload 4, 2) := by decide +kernel
theorem dL_law_659 : decode cL_law 659 = .ok (.iconst 4, 1) := by decide +kernel
theorem dL_law_660 : decode cL_law 660 = .ok (.iadd, 1) := by decide +kernel
theorem dL_law_661 : decode cL_law 661 = .ok (.iaload, 1) := by decide +kernel
theorem dL_law_662 : decode cL_law 662 = .ok (.invokevirtual 132, 3) := by decide +kernel
theorem dL_law_665 : decode cL_law 665 = .ok (.istore 6, 2) := by decide +kernel
theorem dL_law_667 : decode cL_law 667 = .ok (.aload_n 2, 1) := by decide +kernel
theorem dL_law_668 : decode cL_law 668 = .ok (.invokevirtual 97, 3) := by decide +kernel
theorem dL_law_671 : decode cL_law 671 = .ok (.iload 5, 2) := by decide +kernel
theorem dL_law_673 : decode cL_law 673 = .ok (.if_icmp .eq 5, 3) := by decide +kernel
theorem dL_law_676 : decode cL_law 676 = .ok (.iconst 0, 1) := by decide +kernel
theorem dL_law_677 : decode cL_law 677 = .ok (.ireturn, 1) := by decide +kernel
theorem dL_law_678 : decode cL_law 678 = .ok (.iload 5, 2) := by decide +kernel
theorem dL_law_680 : decode cL_law 680 = .ok (.ifCond .ne 15, 3) := by decide +kernel
theorem dL_law_683 : decode cL_law 683 = .ok (.aload_n 3, 1) := by decide +kernel
theorem dL_law_684 : decode cL_law 684 = .ok (.iconst 0, 1) := by decide +kernel
theorem dL_law_685 : decode cL_law 685 = .ok (.laload, 1) := by decide +kernel
theorem dL_law_686 : decode cL_law 686 = .ok (.iload 6, 2) := by decide +kernel
theorem dL_law_688 : decode cL_law 688 = .ok (.i2l, 1) := by decide +kernel
theorem dL_law_689 : decode cL_law 689 = .ok (.lcmp, 1) := by decide +kernel
theorem dL_law_690 : decode cL_law 690 = .ok (.ifCond .eq 5, 3) := by decide +kernel
theorem dL_law_693 : decode cL_law 693 = .ok (.iconst 0, 1) := by decide +kernel
theorem dL_law_694 : decode cL_law 694 = .ok (.ireturn, 1) := by decide +kernel
theorem dL_law_695 : decode cL_law 695 = .ok (.goto 996, 3) := by decide +kernel
theorem dL_law_698 : decode cL_law 698 = .ok (.aload_n 1, 1) := by decide +kernel
theorem dL_law_699 : decode cL_law 699 = .ok (.aload_n 0, 1) := by decide +kernel
theorem dL_law_700 : decode cL_law 700 = .ok (.iload 4, 2) := by decide +kernel
theorem dL_law_702 : decode cL_law 702 = .ok (.iconst 1, 1) := by decide +kernel
theorem dL_law_703 : decode cL_law 703 = .ok (.iadd, 1) := by decide +kernel
theorem dL_law_704 : decode cL_law 704 = .ok (.iaload, 1) := by decide +kernel
theorem dL_law_705 : decode cL_law 705 = .ok (.aload_n 0, 1) := by decide +kernel
theorem dL_law_706 : decode cL_law 706 = .ok (.iload 4, 2) := by decide +kernel
theorem dL_law_708 : decode cL_law 708 = .ok (.iconst 2, 1) := by decide +kernel
theorem dL_law_709 : decode cL_law 709 = .ok (.iadd, 1) := by decide +kernel
theorem dL_law_710 : decode cL_law 710 = .ok (.iaload, 1) := by decide +kernel
theorem dL_law_711 : decode cL_law 711 = .ok (.aload_n 0, 1) := by decide +kernel
theorem dL_law_712 : decode cL_law 712 = .ok (.iload 4, 2) := by decide +kernel
theorem dL_law_714 : decode cL_law 714 = .ok (.iconst 3, 1) := by decide +kernel
theorem dL_law_715 : decode cL_law 715 = .ok (.iadd, 1) := by decide +kernel
theorem dL_law_716 : decode cL_law 716 = .ok (.iaload, 1) := by decide +kernel
theorem dL_law_717 : decode cL_law 717 = .ok (.aload_n 0, 1) := by decide +kernel
theorem dL_law_718 : decode cL_law 718 = .ok (.iload 4, 2) := by decide +kernel
theorem dL_law_720 : decode cL_law 720 = .ok (.iconst 4, 1) := by decide +kernel
theorem dL_law_721 : decode cL_law 721 = .ok (.iadd, 1) := by decide +kernel
theorem dL_law_722 : decode cL_law 722 = .ok (.iaload, 1) := by decide +kernel
theorem dL_law_723 : decode cL_law 723 = .ok (.aload_n 0, 1) := by decide +kernel
theorem dL_law_724 : decode cL_law 724 = .ok (.iload 4, 2) := by decide +kernel
theorem dL_law_726 : decode cL_law 726 = .ok (.iconst 5, 1) := by decide +kernel
theorem dL_law_727 : decode cL_law 727 = .ok (.iadd, 1) := by decide +kernel
theorem dL_law_728 : decode cL_law 728 = .ok (.iaload, 1) := by decide +kernel
theorem dL_law_729 : decode cL_law 729 = .ok (.ifCond .eq 7, 3) := by decide +kernel
theorem dL_law_732 : decode cL_law 732 = .ok (.iconst 1, 1) := by decide +kernel
theorem dL_law_733 : decode cL_law 733 = .ok (.goto 4, 3) := by decide +kernel
theorem dL_law_736 : decode cL_law 736 = .ok (.iconst 0, 1) := by decide +kernel
theorem dL_law_737 : decode cL_law 737 = .ok (.aload_n 3, 1) := by decide +kernel
theorem dL_law_738 : decode cL_law 738 = .ok (.invokestatic 133, 3) := by decide +kernel
theorem dL_law_741 : decode cL_law 741 = .ok (.istore 5, 2) := by decide +kernel
theorem dL_law_743 : decode cL_law 743 = .ok (.aload_n 2, 1) := by decide +kernel
theorem dL_law_744 : decode cL_law 744 = .ok (.aload_n 0, 1) := by decide +kernel
theorem dL_law_745 : decode cL_law 745 = .ok (.iload 4, 2) := by decide +kernel
theorem dL_law_747 : decode cL_law 747 = .ok (.iconst 1, 1) := by decide +kernel
theorem dL_law_748 : decode cL_law 748 = .ok (.iadd, 1) := by decide +kernel
theorem dL_law_749 : decode cL_law 749 = .ok (.iaload, 1) := by decide +kernel
theorem dL_law_750 : decode cL_law 750 = .ok (.aload_n 0, 1) := by decide +kernel
theorem dL_law_751 : decode cL_law 751 = .ok (.iload 4, 2) := by decide +kernel
theorem dL_law_753 : decode cL_law 753 = .ok (.iconst 2, 1) := by decide +kernel
theorem dL_law_754 : decode cL_law 754 = .ok (.iadd, 1) := by decide +kernel
theorem dL_law_755 : decode cL_law 755 = .ok (.iaload, 1) := by decide +kernel
theorem dL_law_756 : decode cL_law 756 = .ok (.aload_n 0, 1) := by decide +kernel
theorem dL_law_757 : decode cL_law 757 = .ok (.iload 4, 2) := by decide +kernel
theorem dL_law_759 : decode cL_law 759 = .ok (.iconst 3, 1) := by decide +kernel
theorem dL_law_760 : decode cL_law 760 = .ok (.iadd, 1) := by decide +kernel
theorem dL_law_761 : decode cL_law 761 = .ok (.iaload, 1) := by decide +kernel
theorem dL_law_762 : decode cL_law 762 = .ok (.aload_n 0, 1) := by decide +kernel
theorem dL_law_763 : decode cL_law 763 = .ok (.iload 4, 2) := by decide +kernel
theorem dL_law_765 : decode cL_law 765 = .ok (.iconst 4, 1) := by decide +kernel
theorem dL_law_766 : decode cL_law 766 = .ok (.iadd, 1) := by decide +kernel
theorem dL_law_767 : decode cL_law 767 = .ok (.iaload, 1) := by decide +kernel
theorem dL_law_768 : decode cL_law 768 = .ok (.aload_n 0, 1) := by decide +kernel
theorem dL_law_769 : decode cL_law 769 = .ok (.iload 4, 2) := by decide +kernel
theorem dL_law_771 : decode cL_law 771 = .ok (.iconst 5, 1) := by decide +kernel
theorem dL_law_772 : decode cL_law 772 = .ok (.iadd, 1) := by decide +kernel
theorem dL_law_773 : decode cL_law 773 = .ok (.iaload, 1) := by decide +kernel
theorem dL_law_774 : decode cL_law 774 = .ok (.ifCond .eq 7, 3) := by decide +kernel
theorem dL_law_777 : decode cL_law 777 = .ok (.iconst 1, 1) := by decide +kernel
theorem dL_law_778 : decode cL_law 778 = .ok (.goto 4, 3) := by decide +kernel
theorem dL_law_781 : decode cL_law 781 = .ok (.iconst 0, 1) := by decide +kernel
theorem dL_law_782 : decode cL_law 782 = .ok (.invokevirtual 136, 3) := by decide +kernel
theorem dL_law_785 : decode cL_law 785 = .ok (.istore 6, 2) := by decide +kernel
theorem dL_law_787 : decode cL_law 787 = .ok (.aload_n 2, 1) := by decide +kernel
theorem dL_law_788 : decode cL_law 788 = .ok (.invokevirtual 97, 3) := by decide +kernel
theorem dL_law_791 : decode cL_law 791 = .ok (.iload 5, 2) := by decide +kernel
theorem dL_law_793 : decode cL_law 793 = .ok (.if_icmp .eq 5, 3) := by decide +kernel
theorem dL_law_796 : decode cL_law 796 = .ok (.iconst 0, 1) := by decide +kernel
theorem dL_law_797 : decode cL_law 797 = .ok (.ireturn, 1) := by decide +kernel
theorem dL_law_798 : decode cL_law 798 = .ok (.iload 5, 2) := by decide +kernel
theorem dL_law_800 : decode cL_law 800 = .ok (.ifCond .ne 15, 3) := by decide +kernel
theorem dL_law_803 : decode cL_law 803 = .ok (.aload_n 3, 1) := by decide +kernel
theorem dL_law_804 : decode cL_law 804 = .ok (.iconst 0, 1) := by decide +kernel
theorem dL_law_805 : decode cL_law 805 = .ok (.laload, 1) := by decide +kernel
theorem dL_law_806 : decode cL_law 806 = .ok (.iload 6, 2) := by decide +kernel
theorem dL_law_808 : decode cL_law 808 = .ok (.i2l, 1) := by decide +kernel
theorem dL_law_809 : decode cL_law 809 = .ok (.lcmp, 1) := by decide +kernel
theorem dL_law_810 : decode cL_law 810 = .ok (.ifCond .eq 5, 3) := by decide +kernel
theorem dL_law_813 : decode cL_law 813 = .ok (.iconst 0, 1) := by decide +kernel
theorem dL_law_814 : decode cL_law 814 = .ok (.ireturn, 1) := by decide +kernel
theorem dL_law_815 : decode cL_law 815 = .ok (.goto 876, 3) := by decide +kernel
theorem dL_law_818 : decode cL_law 818 = .ok (.aload_n 1, 1) := by decide +kernel
theorem dL_law_819 : decode cL_law 819 = .ok (.aload_n 0, 1) := by decide +kernel
theorem dL_law_820 : decode cL_law 820 = .ok (.iload 4, 2) := by decide +kernel
theorem dL_law_822 : decode cL_law 822 = .ok (.iconst 1, 1) := by decide +kernel
theorem dL_law_823 : decode cL_law 823 = .ok (.iadd, 1) := by decide +kernel
theorem dL_law_824 : decode cL_law 824 = .ok (.iaload, 1) := by decide +kernel
theorem dL_law_825 : decode cL_law 825 = .ok (.aload_n 0, 1) := by decide +kernel
theorem dL_law_826 : decode cL_law 826 = .ok (.iload 4, 2) := by decide +kernel
theorem dL_law_828 : decode cL_law 828 = .ok (.iconst 2, 1) := by decide +kernel
theorem dL_law_829 : decode cL_law 829 = .ok (.iadd, 1) := by decide +kernel
theorem dL_law_830 : decode cL_law 830 = .ok (.iaload, 1) := by decide +kernel
theorem dL_law_831 : decode cL_law 831 = .ok (.aload_n 0, 1) := by decide +kernel
theorem dL_law_832 : decode cL_law 832 = .ok (.iload 4, 2) := by decide +kernel
theorem dL_law_834 : decode cL_law 834 = .ok (.iconst 3, 1) := by decide +kernel
theorem dL_law_835 : decode cL_law 835 = .ok (.iadd, 1) := by decide +kernel
theorem dL_law_836 : decode cL_law 836 = .ok (.iaload, 1) := by decide +kernel
theorem dL_law_837 : decode cL_law 837 = .ok (.aload_n 3, 1) := by decide +kernel
theorem dL_law_838 : decode cL_law 838 = .ok (.invokestatic 137, 3) := by decide +kernel
theorem dL_law_841 : decode cL_law 841 = .ok (.istore 5, 2) := by decide +kernel
theorem dL_law_843 : decode cL_law 843 = .ok (.aload_n 2, 1) := by decide +kernel
theorem dL_law_844 : decode cL_law 844 = .ok (.aload_n 0, 1) := by decide +kernel
theorem dL_law_845 : decode cL_law 845 = .ok (.iload 4, 2) := by decide +kernel
theorem dL_law_847 : decode cL_law 847 = .ok (.iconst 1, 1) := by decide +kernel
theorem dL_law_848 : decode cL_law 848 = .ok (.iadd, 1) := by decide +kernel
theorem dL_law_849 : decode cL_law 849 = .ok (.iaload, 1) := by decide +kernel
theorem dL_law_850 : decode cL_law 850 = .ok (.aload_n 0, 1) := by decide +kernel
theorem dL_law_851 : decode cL_law 851 = .ok (.iload 4, 2) := by decide +kernel
theorem dL_law_853 : decode cL_law 853 = .ok (.iconst 2, 1) := by decide +kernel
theorem dL_law_854 : decode cL_law 854 = .ok (.iadd, 1) := by decide +kernel
theorem dL_law_855 : decode cL_law 855 = .ok (.iaload, 1) := by decide +kernel
theorem dL_law_856 : decode cL_law 856 = .ok (.aload_n 0, 1) := by decide +kernel
theorem dL_law_857 : decode cL_law 857 = .ok (.iload 4, 2) := by decide +kernel
theorem dL_law_859 : decode cL_law 859 = .ok (.iconst 3, 1) := by decide +kernel
theorem dL_law_860 : decode cL_law 860 = .ok (.iadd, 1) := by decide +kernel
theorem dL_law_861 : decode cL_law 861 = .ok (.iaload, 1) := by decide +kernel
theorem dL_law_862 : decode cL_law 862 = .ok (.invokevirtual 139, 3) := by decide +kernel
theorem dL_law_865 : decode cL_law 865 = .ok (.istore 6, 2) := by decide +kernel
theorem dL_law_867 : decode cL_law 867 = .ok (.aload_n 2, 1) := by decide +kernel
theorem dL_law_868 : decode cL_law 868 = .ok (.invokevirtual 97, 3) := by decide +kernel
theorem dL_law_871 : decode cL_law 871 = .ok (.iload 5, 2) := by decide +kernel
theorem dL_law_873 : decode cL_law 873 = .ok (.if_icmp .eq 5, 3) := by decide +kernel
theorem dL_law_876 : decode cL_law 876 = .ok (.iconst 0, 1) := by decide +kernel
theorem dL_law_877 : decode cL_law 877 = .ok (.ireturn, 1) := by decide +kernel
theorem dL_law_878 : decode cL_law 878 = .ok (.iload 5, 2) := by decide +kernel
theorem dL_law_880 : decode cL_law 880 = .ok (.ifCond .ne 15, 3) := by decide +kernel
theorem dL_law_883 : decode cL_law 883 = .ok (.aload_n 3, 1) := by decide +kernel
theorem dL_law_884 : decode cL_law 884 = .ok (.iconst 0, 1) := by decide +kernel
theorem dL_law_885 : decode cL_law 885 = .ok (.laload, 1) := by decide +kernel
theorem dL_law_886 : decode cL_law 886 = .ok (.iload 6, 2) := by decide +kernel
theorem dL_law_888 : decode cL_law 888 = .ok (.i2l, 1) := by decide +kernel
theorem dL_law_889 : decode cL_law 889 = .ok (.lcmp, 1) := by decide +kernel
theorem dL_law_890 : decode cL_law 890 = .ok (.ifCond .eq 5, 3) := by decide +kernel
theorem dL_law_893 : decode cL_law 893 = .ok (.iconst 0, 1) := by decide +kernel
theorem dL_law_894 : decode cL_law 894 = .ok (.ireturn, 1) := by decide +kernel
theorem dL_law_895 : decode cL_law 895 = .ok (.goto 796, 3) := by decide +kernel
theorem dL_law_898 : decode cL_law 898 = .ok (.aload_n 1, 1) := by decide +kernel
theorem dL_law_899 : decode cL_law 899 = .ok (.aload_n 0, 1) := by decide +kernel
theorem dL_law_900 : decode cL_law 900 = .ok (.iload 4, 2) := by decide +kernel
theorem dL_law_902 : decode cL_law 902 = .ok (.iconst 1, 1) := by decide +kernel
theorem dL_law_903 : decode cL_law 903 = .ok (.iadd, 1) := by decide +kernel
theorem dL_law_904 : decode cL_law 904 = .ok (.iaload, 1) := by decide +kernel
theorem dL_law_905 : decode cL_law 905 = .ok (.aload_n 0, 1) := by decide +kernel
theorem dL_law_906 : decode cL_law 906 = .ok (.iload 4, 2) := by decide +kernel
theorem dL_law_908 : decode cL_law 908 = .ok (.iconst 2, 1) := by decide +kernel
theorem dL_law_909 : decode cL_law 909 = .ok (.iadd, 1) := by decide +kernel
theorem dL_law_910 : decode cL_law 910 = .ok (.iaload, 1) := by decide +kernel
theorem dL_law_911 : decode cL_law 911 = .ok (.aload_n 0, 1) := by decide +kernel
theorem dL_law_912 : decode cL_law 912 = .ok (.iload 4, 2) := by decide +kernel
theorem dL_law_914 : decode cL_law 914 = .ok (.iconst 3, 1) := by decide +kernel
theorem dL_law_915 : decode cL_law 915 = .ok (.iadd, 1) := by decide +kernel
theorem dL_law_916 : decode cL_law 916 = .ok (.iaload, 1) := by decide +kernel
theorem dL_law_917 : decode cL_law 917 = .ok (.ifCond .eq 7, 3) := by decide +kernel
theorem dL_law_920 : decode cL_law 920 = .ok (.iconst 1, 1) := by decide +kernel
theorem dL_law_921 : decode cL_law 921 = .ok (.goto 4, 3) := by decide +kernel
theorem dL_law_924 : decode cL_law 924 = .ok (.iconst 0, 1) := by decide +kernel
theorem dL_law_925 : decode cL_law 925 = .ok (.aload_n 3, 1) := by decide +kernel
theorem dL_law_926 : decode cL_law 926 = .ok (.invokestatic 140, 3) := by decide +kernel
theorem dL_law_929 : decode cL_law 929 = .ok (.istore 5, 2) := by decide +kernel
theorem dL_law_931 : decode cL_law 931 = .ok (.aload_n 2, 1) := by decide +kernel
theorem dL_law_932 : decode cL_law 932 = .ok (.aload_n 0, 1) := by decide +kernel
theorem dL_law_933 : decode cL_law 933 = .ok (.iload 4, 2) := by decide +kernel
theorem dL_law_935 : decode cL_law 935 = .ok (.iconst 1, 1) := by decide +kernel
theorem dL_law_936 : decode cL_law 936 = .ok (.iadd, 1) := by decide +kernel
theorem dL_law_937 : decode cL_law 937 = .ok (.iaload, 1) := by decide +kernel
theorem dL_law_938 : decode cL_law 938 = .ok (.aload_n 0, 1) := by decide +kernel
theorem dL_law_939 : decode cL_law 939 = .ok (.iload 4, 2) := by decide +kernel
theorem dL_law_941 : decode cL_law 941 = .ok (.iconst 2, 1) := by decide +kernel
theorem dL_law_942 : decode cL_law 942 = .ok (.iadd, 1) := by decide +kernel
theorem dL_law_943 : decode cL_law 943 = .ok (.iaload, 1) := by decide +kernel
theorem dL_law_944 : decode cL_law 944 = .ok (.aload_n 0, 1) := by decide +kernel
theorem dL_law_945 : decode cL_law 945 = .ok (.iload 4, 2) := by decide +kernel
theorem dL_law_947 : decode cL_law 947 = .ok (.iconst 3, 1) := by decide +kernel
theorem dL_law_948 : decode cL_law 948 = .ok (.iadd, 1) := by decide +kernel
theorem dL_law_949 : decode cL_law 949 = .ok (.iaload, 1) := by decide +kernel
theorem dL_law_950 : decode cL_law 950 = .ok (.ifCond .eq 7, 3) := by decide +kernel
theorem dL_law_953 : decode cL_law 953 = .ok (.iconst 1, 1) := by decide +kernel
theorem dL_law_954 : decode cL_law 954 = .ok (.goto 4, 3) := by decide +kernel
theorem dL_law_957 : decode cL_law 957 = .ok (.iconst 0, 1) := by decide +kernel
theorem dL_law_958 : decode cL_law 958 = .ok (.invokevirtual 143, 3) := by decide +kernel
theorem dL_law_961 : decode cL_law 961 = .ok (.istore 6, 2) := by decide +kernel
theorem dL_law_963 : decode cL_law 963 = .ok (.aload_n 2, 1) := by decide +kernel
theorem dL_law_964 : decode cL_law 964 = .ok (.invokevirtual 97, 3) := by decide +kernel
theorem dL_law_967 : decode cL_law 967 = .ok (.iload 5, 2) := by decide +kernel
theorem dL_law_969 : decode cL_law 969 = .ok (.if_icmp .eq 5, 3) := by decide +kernel
theorem dL_law_972 : decode cL_law 972 = .ok (.iconst 0, 1) := by decide +kernel
theorem dL_law_973 : decode cL_law 973 = .ok (.ireturn, 1) := by decide +kernel
theorem dL_law_974 : decode cL_law 974 = .ok (.iload 5, 2) := by decide +kernel
theorem dL_law_976 : decode cL_law 976 = .ok (.ifCond .ne 15, 3) := by decide +kernel
theorem dL_law_979 : decode cL_law 979 = .ok (.aload_n 3, 1) := by decide +kernel
theorem dL_law_980 : decode cL_law 980 = .ok (.iconst 0, 1) := by decide +kernel
theorem dL_law_981 : decode cL_law 981 = .ok (.laload, 1) := by decide +kernel
theorem dL_law_982 : decode cL_law 982 = .ok (.iload 6, 2) := by decide +kernel
theorem dL_law_984 : decode cL_law 984 = .ok (.i2l, 1) := by decide +kernel
theorem dL_law_985 : decode cL_law 985 = .ok (.lcmp, 1) := by decide +kernel
theorem dL_law_986 : decode cL_law 986 = .ok (.ifCond .eq 5, 3) := by decide +kernel
theorem dL_law_989 : decode cL_law 989 = .ok (.iconst 0, 1) := by decide +kernel
theorem dL_law_990 : decode cL_law 990 = .ok (.ireturn, 1) := by decide +kernel
theorem dL_law_991 : decode cL_law 991 = .ok (.goto 700, 3) := by decide +kernel
theorem dL_law_994 : decode cL_law 994 = .ok (.aload_n 1, 1) := by decide +kernel
theorem dL_law_995 : decode cL_law 995 = .ok (.aload_n 0, 1) := by decide +kernel
theorem dL_law_996 : decode cL_law 996 = .ok (.iload 4, 2) := by decide +kernel
theorem dL_law_998 : decode cL_law 998 = .ok (.iconst 1, 1) := by decide +kernel
theorem dL_law_999 : decode cL_law 999 = .ok (.iadd, 1) := by decide +kernel
theorem dL_law_1000 : decode cL_law 1000 = .ok (.iaload, 1) := by decide +kernel
theorem dL_law_1001 : decode cL_law 1001 = .ok (.aload_n 3, 1) := by decide +kernel
theorem dL_law_1002 : decode cL_law 1002 = .ok (.invokestatic 144, 3) := by decide +kernel
theorem dL_law_1005 : decode cL_law 1005 = .ok (.istore 5, 2) := by decide +kernel
theorem dL_law_1007 : decode cL_law 1007 = .ok (.aload_n 2, 1) := by decide +kernel
theorem dL_law_1008 : decode cL_law 1008 = .ok (.aload_n 0, 1) := by decide +kernel
theorem dL_law_1009 : decode cL_law 1009 = .ok (.iload 4, 2) := by decide +kernel
theorem dL_law_1011 : decode cL_law 1011 = .ok (.iconst 1, 1) := by decide +kernel
theorem dL_law_1012 : decode cL_law 1012 = .ok (.iadd, 1) := by decide +kernel
theorem dL_law_1013 : decode cL_law 1013 = .ok (.iaload, 1) := by decide +kernel
theorem dL_law_1014 : decode cL_law 1014 = .ok (.invokevirtual 146, 3) := by decide +kernel
theorem dL_law_1017 : decode cL_law 1017 = .ok (.istore 6, 2) := by decide +kernel
theorem dL_law_1019 : decode cL_law 1019 = .ok (.aload_n 2, 1) := by decide +kernel
theorem dL_law_1020 : decode cL_law 1020 = .ok (.invokevirtual 97, 3) := by decide +kernel
theorem dL_law_1023 : decode cL_law 1023 = .ok (.iload 5, 2) := by decide +kernel
theorem dL_law_1025 : decode cL_law 1025 = .ok (.if_icmp .eq 5, 3) := by decide +kernel
theorem dL_law_1028 : decode cL_law 1028 = .ok (.iconst 0, 1) := by decide +kernel
theorem dL_law_1029 : decode cL_law 1029 = .ok (.ireturn, 1) := by decide +kernel
theorem dL_law_1030 : decode cL_law 1030 = .ok (.iload 5, 2) := by decide +kernel
theorem dL_law_1032 : decode cL_law 1032 = .ok (.ifCond .ne 15, 3) := by decide +kernel
theorem dL_law_1035 : decode cL_law 1035 = .ok (.aload_n 3, 1) := by decide +kernel
theorem dL_law_1036 : decode cL_law 1036 = .ok (.iconst 0, 1) := by decide +kernel
theorem dL_law_1037 : decode cL_law 1037 = .ok (.laload, 1) := by decide +kernel
theorem dL_law_1038 : decode cL_law 1038 = .ok (.iload 6, 2) := by decide +kernel
theorem dL_law_1040 : decode cL_law 1040 = .ok (.i2l, 1) := by decide +kernel
theorem dL_law_1041 : decode cL_law 1041 = .ok (.lcmp, 1) := by decide +kernel
theorem dL_law_1042 : decode cL_law 1042 = .ok (.ifCond .eq 5, 3) := by decide +kernel
theorem dL_law_1045 : decode cL_law 1045 = .ok (.iconst 0, 1) := by decide +kernel
theorem dL_law_1046 : decode cL_law 1046 = .ok (.ireturn, 1) := by decide +kernel
theorem dL_law_1047 : decode cL_law 1047 = .ok (.goto 644, 3) := by decide +kernel
theorem dL_law_1050 : decode cL_law 1050 = .ok (.aload_n 1, 1) := by decide +kernel
theorem dL_law_1051 : decode cL_law 1051 = .ok (.aload_n 0, 1) := by decide +kernel
theorem dL_law_1052 : decode cL_law 1052 = .ok (.iload 4, 2) := by decide +kernel
theorem dL_law_1054 : decode cL_law 1054 = .ok (.iconst 1, 1) := by decide +kernel
theorem dL_law_1055 : decode cL_law 1055 = .ok (.iadd, 1) := by decide +kernel
theorem dL_law_1056 : decode cL_law 1056 = .ok (.iaload, 1) := by decide +kernel
theorem dL_law_1057 : decode cL_law 1057 = .ok (.aload_n 0, 1) := by decide +kernel
theorem dL_law_1058 : decode cL_law 1058 = .ok (.iload 4, 2) := by decide +kernel
theorem dL_law_1060 : decode cL_law 1060 = .ok (.iconst 2, 1) := by decide +kernel
theorem dL_law_1061 : decode cL_law 1061 = .ok (.iadd, 1) := by decide +kernel
theorem dL_law_1062 : decode cL_law 1062 = .ok (.iaload, 1) := by decide +kernel
theorem dL_law_1063 : decode cL_law 1063 = .ok (.aload_n 3, 1) := by decide +kernel
theorem dL_law_1064 : decode cL_law 1064 = .ok (.invokestatic 147, 3) := by decide +kernel
theorem dL_law_1067 : decode cL_law 1067 = .ok (.istore 5, 2) := by decide +kernel
theorem dL_law_1069 : decode cL_law 1069 = .ok (.aload_n 2, 1) := by decide +kernel
theorem dL_law_1070 : decode cL_law 1070 = .ok (.aload_n 0, 1) := by decide +kernel
theorem dL_law_1071 : decode cL_law 1071 = .ok (.iload 4, 2) := by decide +kernel
theorem dL_law_1073 : decode cL_law 1073 = .ok (.iconst 1, 1) := by decide +kernel
theorem dL_law_1074 : decode cL_law 1074 = .ok (.iadd, 1) := by decide +kernel
theorem dL_law_1075 : decode cL_law 1075 = .ok (.iaload, 1) := by decide +kernel
theorem dL_law_1076 : decode cL_law 1076 = .ok (.aload_n 0, 1) := by decide +kernel
theorem dL_law_1077 : decode cL_law 1077 = .ok (.iload 4, 2) := by decide +kernel
theorem dL_law_1079 : decode cL_law 1079 = .ok (.iconst 2, 1) := by decide +kernel
theorem dL_law_1080 : decode cL_law 1080 = .ok (.iadd, 1) := by decide +kernel
theorem dL_law_1081 : decode cL_law 1081 = .ok (.iaload, 1) := by decide +kernel
theorem dL_law_1082 : decode cL_law 1082 = .ok (.invokevirtual 149, 3) := by decide +kernel
theorem dL_law_1085 : decode cL_law 1085 = .ok (.istore 6, 2) := by decide +kernel
theorem dL_law_1087 : decode cL_law 1087 = .ok (.aload_n 2, 1) := by decide +kernel
theorem dL_law_1088 : decode cL_law 1088 = .ok (.invokevirtual 97, 3) := by decide +kernel
theorem dL_law_1091 : decode cL_law 1091 = .ok (.iload 5, 2) := by decide +kernel
theorem dL_law_1093 : decode cL_law 1093 = .ok (.if_icmp .eq 5, 3) := by decide +kernel
theorem dL_law_1096 : decode cL_law 1096 = .ok (.iconst 0, 1) := by decide +kernel
theorem dL_law_1097 : decode cL_law 1097 = .ok (.ireturn, 1) := by decide +kernel
theorem dL_law_1098 : decode cL_law 1098 = .ok (.iload 5, 2) := by decide +kernel
theorem dL_law_1100 : decode cL_law 1100 = .ok (.ifCond .ne 15, 3) := by decide +kernel
theorem dL_law_1103 : decode cL_law 1103 = .ok (.aload_n 3, 1) := by decide +kernel
theorem dL_law_1104 : decode cL_law 1104 = .ok (.iconst 0, 1) := by decide +kernel
theorem dL_law_1105 : decode cL_law 1105 = .ok (.laload, 1) := by decide +kernel
theorem dL_law_1106 : decode cL_law 1106 = .ok (.iload 6, 2) := by decide +kernel
theorem dL_law_1108 : decode cL_law 1108 = .ok (.i2l, 1) := by decide +kernel
theorem dL_law_1109 : decode cL_law 1109 = .ok (.lcmp, 1) := by decide +kernel
theorem dL_law_1110 : decode cL_law 1110 = .ok (.ifCond .eq 5, 3) := by decide +kernel
theorem dL_law_1113 : decode cL_law 1113 = .ok (.iconst 0, 1) := by decide +kernel
theorem dL_law_1114 : decode cL_law 1114 = .ok (.ireturn, 1) := by decide +kernel
theorem dL_law_1115 : decode cL_law 1115 = .ok (.goto 576, 3) := by decide +kernel
theorem dL_law_1118 : decode cL_law 1118 = .ok (.aload_n 1, 1) := by decide +kernel
theorem dL_law_1119 : decode cL_law 1119 = .ok (.aload_n 3, 1) := by decide +kernel
theorem dL_law_1120 : decode cL_law 1120 = .ok (.invokestatic 150, 3) := by decide +kernel
theorem dL_law_1123 : decode cL_law 1123 = .ok (.istore 5, 2) := by decide +kernel
theorem dL_law_1125 : decode cL_law 1125 = .ok (.aload_n 2, 1) := by decide +kernel
theorem dL_law_1126 : decode cL_law 1126 = .ok (.invokevirtual 152, 3) := by decide +kernel
theorem dL_law_1129 : decode cL_law 1129 = .ok (.istore 6, 2) := by decide +kernel
theorem dL_law_1131 : decode cL_law 1131 = .ok (.aload_n 2, 1) := by decide +kernel
theorem dL_law_1132 : decode cL_law 1132 = .ok (.invokevirtual 97, 3) := by decide +kernel
theorem dL_law_1135 : decode cL_law 1135 = .ok (.iload 5, 2) := by decide +kernel
theorem dL_law_1137 : decode cL_law 1137 = .ok (.if_icmp .eq 5, 3) := by decide +kernel
theorem dL_law_1140 : decode cL_law 1140 = .ok (.iconst 0, 1) := by decide +kernel
theorem dL_law_1141 : decode cL_law 1141 = .ok (.ireturn, 1) := by decide +kernel
theorem dL_law_1142 : decode cL_law 1142 = .ok (.iload 5, 2) := by decide +kernel
theorem dL_law_1144 : decode cL_law 1144 = .ok (.ifCond .ne 15, 3) := by decide +kernel
theorem dL_law_1147 : decode cL_law 1147 = .ok (.aload_n 3, 1) := by decide +kernel
theorem dL_law_1148 : decode cL_law 1148 = .ok (.iconst 0, 1) := by decide +kernel
theorem dL_law_1149 : decode cL_law 1149 = .ok (.laload, 1) := by decide +kernel
theorem dL_law_1150 : decode cL_law 1150 = .ok (.iload 6, 2) := by decide +kernel
theorem dL_law_1152 : decode cL_law 1152 = .ok (.i2l, 1) := by decide +kernel
theorem dL_law_1153 : decode cL_law 1153 = .ok (.lcmp, 1) := by decide +kernel
theorem dL_law_1154 : decode cL_law 1154 = .ok (.ifCond .eq 5, 3) := by decide +kernel
theorem dL_law_1157 : decode cL_law 1157 = .ok (.iconst 0, 1) := by decide +kernel
theorem dL_law_1158 : decode cL_law 1158 = .ok (.ireturn, 1) := by decide +kernel
theorem dL_law_1159 : decode cL_law 1159 = .ok (.goto 532, 3) := by decide +kernel
theorem dL_law_1162 : decode cL_law 1162 = .ok (.aload_n 1, 1) := by decide +kernel
theorem dL_law_1163 : decode cL_law 1163 = .ok (.aload_n 0, 1) := by decide +kernel
theorem dL_law_1164 : decode cL_law 1164 = .ok (.iload 4, 2) := by decide +kernel
theorem dL_law_1166 : decode cL_law 1166 = .ok (.iconst 1, 1) := by decide +kernel
theorem dL_law_1167 : decode cL_law 1167 = .ok (.iadd, 1) := by decide +kernel
theorem dL_law_1168 : decode cL_law 1168 = .ok (.iaload, 1) := by decide +kernel
theorem dL_law_1169 : decode cL_law 1169 = .ok (.aload_n 3, 1) := by decide +kernel
theorem dL_law_1170 : decode cL_law 1170 = .ok (.invokestatic 153, 3) := by decide +kernel
theorem dL_law_1173 : decode cL_law 1173 = .ok (.istore 5, 2) := by decide +kernel
theorem dL_law_1175 : decode cL_law 1175 = .ok (.aload_n 2, 1) := by decide +kernel
theorem dL_law_1176 : decode cL_law 1176 = .ok (.aload_n 0, 1) := by decide +kernel
theorem dL_law_1177 : decode cL_law 1177 = .ok (.iload 4, 2) := by decide +kernel
theorem dL_law_1179 : decode cL_law 1179 = .ok (.iconst 1, 1) := by decide +kernel
theorem dL_law_1180 : decode cL_law 1180 = .ok (.iadd, 1) := by decide +kernel
theorem dL_law_1181 : decode cL_law 1181 = .ok (.iaload, 1) := by decide +kernel
theorem dL_law_1182 : decode cL_law 1182 = .ok (.invokevirtual 155, 3) := by decide +kernel
theorem dL_law_1185 : decode cL_law 1185 = .ok (.istore 6, 2) := by decide +kernel
theorem dL_law_1187 : decode cL_law 1187 = .ok (.aload_n 2, 1) := by decide +kernel
theorem dL_law_1188 : decode cL_law 1188 = .ok (.invokevirtual 97, 3) := by decide +kernel
theorem dL_law_1191 : decode cL_law 1191 = .ok (.iload 5, 2) := by decide +kernel
theorem dL_law_1193 : decode cL_law 1193 = .ok (.if_icmp .eq 5, 3) := by decide +kernel
theorem dL_law_1196 : decode cL_law 1196 = .ok (.iconst 0, 1) := by decide +kernel
theorem dL_law_1197 : decode cL_law 1197 = .ok (.ireturn, 1) := by decide +kernel
theorem dL_law_1198 : decode cL_law 1198 = .ok (.iload 5, 2) := by decide +kernel
theorem dL_law_1200 : decode cL_law 1200 = .ok (.ifCond .ne 15, 3) := by decide +kernel
theorem dL_law_1203 : decode cL_law 1203 = .ok (.aload_n 3, 1) := by decide +kernel
theorem dL_law_1204 : decode cL_law 1204 = .ok (.iconst 0, 1) := by decide +kernel
theorem dL_law_1205 : decode cL_law 1205 = .ok (.laload, 1) := by decide +kernel
theorem dL_law_1206 : decode cL_law 1206 = .ok (.iload 6, 2) := by decide +kernel
theorem dL_law_1208 : decode cL_law 1208 = .ok (.i2l, 1) := by decide +kernel
theorem dL_law_1209 : decode cL_law 1209 = .ok (.lcmp, 1) := by decide +kernel
theorem dL_law_1210 : decode cL_law 1210 = .ok (.ifCond .eq 5, 3) := by decide +kernel
theorem dL_law_1213 : decode cL_law 1213 = .ok (.iconst 0, 1) := by decide +kernel
theorem dL_law_1214 : decode cL_law 1214 = .ok (.ireturn, 1) := by decide +kernel
theorem dL_law_1215 : decode cL_law 1215 = .ok (.goto 476, 3) := by decide +kernel
theorem dL_law_1218 : decode cL_law 1218 = .ok (.aload_n 1, 1) := by decide +kernel
theorem dL_law_1219 : decode cL_law 1219 = .ok (.invokevirtual 156, 3) := by decide +kernel
theorem dL_law_1222 : decode cL_law 1222 = .ok (.aload_n 2, 1) := by decide +kernel
theorem dL_law_1223 : decode cL_law 1223 = .ok (.invokevirtual 159, 3) := by decide +kernel
theorem dL_law_1226 : decode cL_law 1226 = .ok (.if_icmp .eq 465, 3) := by decide +kernel
theorem dL_law_1229 : decode cL_law 1229 = .ok (.iconst 0, 1) := by decide +kernel
theorem dL_law_1230 : decode cL_law 1230 = .ok (.ireturn, 1) := by decide +kernel
theorem dL_law_1231 : decode cL_law 1231 = .ok (.aload_n 1, 1) := by decide +kernel
theorem dL_law_1232 : decode cL_law 1232 = .ok (.aload_n 0, 1) := by decide +kernel
theorem dL_law_1233 : decode cL_law 1233 = .ok (.iload 4, 2) := by decide +kernel
theorem dL_law_1235 : decode cL_law 1235 = .ok (.iconst 1, 1) := by decide +kernel
theorem dL_law_1236 : decode cL_law 1236 = .ok (.iadd, 1) := by decide +kernel
theorem dL_law_1237 : decode cL_law 1237 = .ok (.iaload, 1) := by decide +kernel
theorem dL_law_1238 : decode cL_law 1238 = .ok (.aload_n 3, 1) := by decide +kernel
theorem dL_law_1239 : decode cL_law 1239 = .ok (.invokestatic 160, 3) := by decide +kernel
theorem dL_law_1242 : decode cL_law 1242 = .ok (.istore 5, 2) := by decide +kernel
theorem dL_law_1244 : decode cL_law 1244 = .ok (.aload_n 2, 1) := by decide +kernel
theorem dL_law_1245 : decode cL_law 1245 = .ok (.aload_n 0, 1) := by decide +kernel
theorem dL_law_1246 : decode cL_law 1246 = .ok (.iload 4, 2) := by decide +kernel
theorem dL_law_1248 : decode cL_law 1248 = .ok (.iconst 1, 1) := by decide +kernel
theorem dL_law_1249 : decode cL_law 1249 = .ok (.iadd, 1) := by decide +kernel
theorem dL_law_1250 : decode cL_law 1250 = .ok (.iaload, 1) := by decide +kernel
theorem dL_law_1251 : decode cL_law 1251 = .ok (.invokevirtual 162, 3) := by decide +kernel
theorem dL_law_1254 : decode cL_law 1254 = .ok (.istore 6, 2) := by decide +kernel
theorem dL_law_1256 : decode cL_law 1256 = .ok (.aload_n 2, 1) := by decide +kernel
theorem dL_law_1257 : decode cL_law 1257 = .ok (.invokevirtual 97, 3) := by decide +kernel
theorem dL_law_1260 : decode cL_law 1260 = .ok (.iload 5, 2) := by decide +kernel
theorem dL_law_1262 : decode cL_law 1262 = .ok (.if_icmp .eq 5, 3) := by decide +kernel
theorem dL_law_1265 : decode cL_law 1265 = .ok (.iconst 0, 1) := by decide +kernel
theorem dL_law_1266 : decode cL_law 1266 = .ok (.ireturn, 1) := by decide +kernel
theorem dL_law_1267 : decode cL_law 1267 = .ok (.iload 5, 2) := by decide +kernel
theorem dL_law_1269 : decode cL_law 1269 = .ok (.ifCond .ne 15, 3) := by decide +kernel
theorem dL_law_1272 : decode cL_law 1272 = .ok (.aload_n 3, 1) := by decide +kernel
theorem dL_law_1273 : decode cL_law 1273 = .ok (.iconst 0, 1) := by decide +kernel
theorem dL_law_1274 : decode cL_law 1274 = .ok (.laload, 1) := by decide +kernel
theorem dL_law_1275 : decode cL_law 1275 = .ok (.iload 6, 2) := by decide +kernel
theorem dL_law_1277 : decode cL_law 1277 = .ok (.i2l, 1) := by decide +kernel
theorem dL_law_1278 : decode cL_law 1278 = .ok (.lcmp, 1) := by decide +kernel
theorem dL_law_1279 : decode cL_law 1279 = .ok (.ifCond .eq 5, 3) := by decide +kernel
theorem dL_law_1282 : decode cL_law 1282 = .ok (.iconst 0, 1) := by decide +kernel
theorem dL_law_1283 : decode cL_law 1283 = .ok (.ireturn, 1) := by decide +kernel
theorem dL_law_1284 : decode cL_law 1284 = .ok (.goto 407, 3) := by decide +kernel
theorem dL_law_1287 : decode cL_law 1287 = .ok (.aload_n 1, 1) := by decide +kernel
theorem dL_law_1288 : decode cL_law 1288 = .ok (.aload_n 0, 1) := by decide +kernel
theorem dL_law_1289 : decode cL_law 1289 = .ok (.iload 4, 2) := by decide +kernel
theorem dL_law_1291 : decode cL_law 1291 = .ok (.iconst 1, 1) := by decide +kernel
theorem dL_law_1292 : decode cL_law 1292 = .ok (.iadd, 1) := by decide +kernel
theorem dL_law_1293 : decode cL_law 1293 = .ok (.iaload, 1) := by decide +kernel
theorem dL_law_1294 : decode cL_law 1294 = .ok (.aload_n 0, 1) := by decide +kernel
theorem dL_law_1295 : decode cL_law 1295 = .ok (.iload 4, 2) := by decide +kernel
theorem dL_law_1297 : decode cL_law 1297 = .ok (.iconst 2, 1) := by decide +kernel
theorem dL_law_1298 : decode cL_law 1298 = .ok (.iadd, 1) := by decide +kernel
theorem dL_law_1299 : decode cL_law 1299 = .ok (.iaload, 1) := by decide +kernel
theorem dL_law_1300 : decode cL_law 1300 = .ok (.aload_n 0, 1) := by decide +kernel
theorem dL_law_1301 : decode cL_law 1301 = .ok (.iload 4, 2) := by decide +kernel
theorem dL_law_1303 : decode cL_law 1303 = .ok (.iconst 3, 1) := by decide +kernel
theorem dL_law_1304 : decode cL_law 1304 = .ok (.iadd, 1) := by decide +kernel
theorem dL_law_1305 : decode cL_law 1305 = .ok (.iaload, 1) := by decide +kernel
theorem dL_law_1306 : decode cL_law 1306 = .ok (.aload_n 0, 1) := by decide +kernel
theorem dL_law_1307 : decode cL_law 1307 = .ok (.iload 4, 2) := by decide +kernel
theorem dL_law_1309 : decode cL_law 1309 = .ok (.iconst 4, 1) := by decide +kernel
theorem dL_law_1310 : decode cL_law 1310 = .ok (.iadd, 1) := by decide +kernel
theorem dL_law_1311 : decode cL_law 1311 = .ok (.iaload, 1) := by decide +kernel
theorem dL_law_1312 : decode cL_law 1312 = .ok (.aload_n 3, 1) := by decide +kernel
theorem dL_law_1313 : decode cL_law 1313 = .ok (.invokestatic 163, 3) := by decide +kernel
theorem dL_law_1316 : decode cL_law 1316 = .ok (.istore 5, 2) := by decide +kernel
theorem dL_law_1318 : decode cL_law 1318 = .ok (.aload_n 2, 1) := by decide +kernel
theorem dL_law_1319 : decode cL_law 1319 = .ok (.aload_n 0, 1) := by decide +kernel
theorem dL_law_1320 : decode cL_law 1320 = .ok (.iload 4, 2) := by decide +kernel
theorem dL_law_1322 : decode cL_law 1322 = .ok (.iconst 1, 1) := by decide +kernel
theorem dL_law_1323 : decode cL_law 1323 = .ok (.iadd, 1) := by decide +kernel
theorem dL_law_1324 : decode cL_law 1324 = .ok (.iaload, 1) := by decide +kernel
theorem dL_law_1325 : decode cL_law 1325 = .ok (.aload_n 0, 1) := by decide +kernel
theorem dL_law_1326 : decode cL_law 1326 = .ok (.iload 4, 2) := by decide +kernel
theorem dL_law_1328 : decode cL_law 1328 = .ok (.iconst 2, 1) := by decide +kernel
theorem dL_law_1329 : decode cL_law 1329 = .ok (.iadd, 1) := by decide +kernel
theorem dL_law_1330 : decode cL_law 1330 = .ok (.iaload, 1) := by decide +kernel
theorem dL_law_1331 : decode cL_law 1331 = .ok (.aload_n 0, 1) := by decide +kernel
theorem dL_law_1332 : decode cL_law 1332 = .ok (.iload 4, 2) := by decide +kernel
theorem dL_law_1334 : decode cL_law 1334 = .ok (.iconst 3, 1) := by decide +kernel
theorem dL_law_1335 : decode cL_law 1335 = .ok (.iadd, 1) := by decide +kernel
theorem dL_law_1336 : decode cL_law 1336 = .ok (.iaload, 1) := by decide +kernel
theorem dL_law_1337 : decode cL_law 1337 = .ok (.aload_n 0, 1) := by decide +kernel
theorem dL_law_1338 : decode cL_law 1338 = .ok (.iload 4, 2) := by decide +kernel
theorem dL_law_1340 : decode cL_law 1340 = .ok (.iconst 4, 1) := by decide +kernel
theorem dL_law_1341 : decode cL_law 1341 = .ok (.iadd, 1) := by decide +kernel
theorem dL_law_1342 : decode cL_law 1342 = .ok (.iaload, 1) := by decide +kernel
theorem dL_law_1343 : decode cL_law 1343 = .ok (.invokevirtual 165, 3) := by decide +kernel
theorem dL_law_1346 : decode cL_law 1346 = .ok (.istore 6, 2) := by decide +kernel
theorem dL_law_1348 : decode cL_law 1348 = .ok (.aload_n 2, 1) := by decide +kernel
theorem dL_law_1349 : decode cL_law 1349 = .ok (.invokevirtual 97, 3) := by decide +kernel
theorem dL_law_1352 : decode cL_law 1352 = .ok (.iload 5, 2) := by decide +kernel
theorem dL_law_1354 : decode cL_law 1354 = .ok (.if_icmp .eq 5, 3) := by decide +kernel
theorem dL_law_1357 : decode cL_law 1357 = .ok (.iconst 0, 1) := by decide +kernel
theorem dL_law_1358 : decode cL_law 1358 = .ok (.ireturn, 1) := by decide +kernel
theorem dL_law_1359 : decode cL_law 1359 = .ok (.iload 5, 2) := by decide +kernel
theorem dL_law_1361 : decode cL_law 1361 = .ok (.ifCond .ne 15, 3) := by decide +kernel
theorem dL_law_1364 : decode cL_law 1364 = .ok (.aload_n 3, 1) := by decide +kernel
theorem dL_law_1365 : decode cL_law 1365 = .ok (.iconst 0, 1) := by decide +kernel
theorem dL_law_1366 : decode cL_law 1366 = .ok (.laload, 1) := by decide +kernel
theorem dL_law_1367 : decode cL_law 1367 = .ok (.iload 6, 2) := by decide +kernel
theorem dL_law_1369 : decode cL_law 1369 = .ok (.i2l, 1) := by decide +kernel
theorem dL_law_1370 : decode cL_law 1370 = .ok (.lcmp, 1) := by decide +kernel
theorem dL_law_1371 : decode cL_law 1371 = .ok (.ifCond .eq 5, 3) := by decide +kernel
theorem dL_law_1374 : decode cL_law 1374 = .ok (.iconst 0, 1) := by decide +kernel
theorem dL_law_1375 : decode cL_law 1375 = .ok (.ireturn, 1) := by decide +kernel
theorem dL_law_1376 : decode cL_law 1376 = .ok (.goto 315, 3) := by decide +kernel
theorem dL_law_1379 : decode cL_law 1379 = .ok (.aload_n 1, 1) := by decide +kernel
theorem dL_law_1380 : decode cL_law 1380 = .ok (.aload_n 0, 1) := by decide +kernel
theorem dL_law_1381 : decode cL_law 1381 = .ok (.iload 4, 2) := by decide +kernel
theorem dL_law_1383 : decode cL_law 1383 = .ok (.iconst 1, 1) := by decide +kernel
theorem dL_law_1384 : decode cL_law 1384 = .ok (.iadd, 1) := by decide +kernel
theorem dL_law_1385 : decode cL_law 1385 = .ok (.iaload, 1) := by decide +kernel
theorem dL_law_1386 : decode cL_law 1386 = .ok (.aload_n 0, 1) := by decide +kernel
theorem dL_law_1387 : decode cL_law 1387 = .ok (.iload 4, 2) := by decide +kernel
theorem dL_law_1389 : decode cL_law 1389 = .ok (.iconst 2, 1) := by decide +kernel
theorem dL_law_1390 : decode cL_law 1390 = .ok (.iadd, 1) := by decide +kernel
theorem dL_law_1391 : decode cL_law 1391 = .ok (.iaload, 1) := by decide +kernel
theorem dL_law_1392 : decode cL_law 1392 = .ok (.i2l, 1) := by decide +kernel
theorem dL_law_1393 : decode cL_law 1393 = .ok (.bipush 32, 2) := by decide +kernel
theorem dL_law_1395 : decode cL_law 1395 = .ok (.lshl, 1) := by decide +kernel
theorem dL_law_1396 : decode cL_law 1396 = .ok (.aload_n 0, 1) := by decide +kernel
theorem dL_law_1397 : decode cL_law 1397 = .ok (.iload 4, 2) := by decide +kernel
theorem dL_law_1399 : decode cL_law 1399 = .ok (.iconst 3, 1) := by decide +kernel
theorem dL_law_1400 : decode cL_law 1400 = .ok (.iadd, 1) := by decide +kernel
theorem dL_law_1401 : decode cL_law 1401 = .ok (.iaload, 1) := by decide +kernel
theorem dL_law_1402 : decode cL_law 1402 = .ok (.i2l, 1) := by decide +kernel
theorem dL_law_1403 : decode cL_law 1403 = .ok (.ldc2_w 166, 3) := by decide +kernel
theorem dL_law_1406 : decode cL_law 1406 = .ok (.land, 1) := by decide +kernel
theorem dL_law_1407 : decode cL_law 1407 = .ok (.lor, 1) := by decide +kernel
theorem dL_law_1408 : decode cL_law 1408 = .ok (.aload_n 3, 1) := by decide +kernel
theorem dL_law_1409 : decode cL_law 1409 = .ok (.invokestatic 168, 3) := by decide +kernel
theorem dL_law_1412 : decode cL_law 1412 = .ok (.istore 5, 2) := by decide +kernel
theorem dL_law_1414 : decode cL_law 1414 = .ok (.aload_n 2, 1) := by decide +kernel
theorem dL_law_1415 : decode cL_law 1415 = .ok (.aload_n 0, 1) := by decide +kernel
theorem dL_law_1416 : decode cL_law 1416 = .ok (.iload 4, 2) := by decide +kernel
theorem dL_law_1418 : decode cL_law 1418 = .ok (.iconst 1, 1) := by decide +kernel
theorem dL_law_1419 : decode cL_law 1419 = .ok (.iadd, 1) := by decide +kernel
theorem dL_law_1420 : decode cL_law 1420 = .ok (.iaload, 1) := by decide +kernel
theorem dL_law_1421 : decode cL_law 1421 = .ok (.aload_n 0, 1) := by decide +kernel
theorem dL_law_1422 : decode cL_law 1422 = .ok (.iload 4, 2) := by decide +kernel
theorem dL_law_1424 : decode cL_law 1424 = .ok (.iconst 2, 1) := by decide +kernel
theorem dL_law_1425 : decode cL_law 1425 = .ok (.iadd, 1) := by decide +kernel
theorem dL_law_1426 : decode cL_law 1426 = .ok (.iaload, 1) := by decide +kernel
theorem dL_law_1427 : decode cL_law 1427 = .ok (.i2l, 1) := by decide +kernel
theorem dL_law_1428 : decode cL_law 1428 = .ok (.bipush 32, 2) := by decide +kernel
theorem dL_law_1430 : decode cL_law 1430 = .ok (.lshl, 1) := by decide +kernel
theorem dL_law_1431 : decode cL_law 1431 = .ok (.aload_n 0, 1) := by decide +kernel
theorem dL_law_1432 : decode cL_law 1432 = .ok (.iload 4, 2) := by decide +kernel
theorem dL_law_1434 : decode cL_law 1434 = .ok (.iconst 3, 1) := by decide +kernel
theorem dL_law_1435 : decode cL_law 1435 = .ok (.iadd, 1) := by decide +kernel
theorem dL_law_1436 : decode cL_law 1436 = .ok (.iaload, 1) := by decide +kernel
theorem dL_law_1437 : decode cL_law 1437 = .ok (.i2l, 1) := by decide +kernel
theorem dL_law_1438 : decode cL_law 1438 = .ok (.ldc2_w 166, 3) := by decide +kernel
theorem dL_law_1441 : decode cL_law 1441 = .ok (.land, 1) := by decide +kernel
theorem dL_law_1442 : decode cL_law 1442 = .ok (.lor, 1) := by decide +kernel
theorem dL_law_1443 : decode cL_law 1443 = .ok (.invokevirtual 171, 3) := by decide +kernel
theorem dL_law_1446 : decode cL_law 1446 = .ok (.istore 6, 2) := by decide +kernel
theorem dL_law_1448 : decode cL_law 1448 = .ok (.aload_n 2, 1) := by decide +kernel
theorem dL_law_1449 : decode cL_law 1449 = .ok (.invokevirtual 97, 3) := by decide +kernel
theorem dL_law_1452 : decode cL_law 1452 = .ok (.iload 5, 2) := by decide +kernel
theorem dL_law_1454 : decode cL_law 1454 = .ok (.if_icmp .eq 5, 3) := by decide +kernel
theorem dL_law_1457 : decode cL_law 1457 = .ok (.iconst 0, 1) := by decide +kernel
theorem dL_law_1458 : decode cL_law 1458 = .ok (.ireturn, 1) := by decide +kernel
theorem dL_law_1459 : decode cL_law 1459 = .ok (.iload 5, 2) := by decide +kernel
theorem dL_law_1461 : decode cL_law 1461 = .ok (.ifCond .ne 15, 3) := by decide +kernel
theorem dL_law_1464 : decode cL_law 1464 = .ok (.aload_n 3, 1) := by decide +kernel
theorem dL_law_1465 : decode cL_law 1465 = .ok (.iconst 0, 1) := by decide +kernel
theorem dL_law_1466 : decode cL_law 1466 = .ok (.laload, 1) := by decide +kernel
theorem dL_law_1467 : decode cL_law 1467 = .ok (.iload 6, 2) := by decide +kernel
theorem dL_law_1469 : decode cL_law 1469 = .ok (.i2l, 1) := by decide +kernel
theorem dL_law_1470 : decode cL_law 1470 = .ok (.lcmp, 1) := by decide +kernel
theorem dL_law_1471 : decode cL_law 1471 = .ok (.ifCond .eq 5, 3) := by decide +kernel
theorem dL_law_1474 : decode cL_law 1474 = .ok (.iconst 0, 1) := by decide +kernel
theorem dL_law_1475 : decode cL_law 1475 = .ok (.ireturn, 1) := by decide +kernel
theorem dL_law_1476 : decode cL_law 1476 = .ok (.goto 215, 3) := by decide +kernel
theorem dL_law_1479 : decode cL_law 1479 = .ok (.aload_n 1, 1) := by decide +kernel
theorem dL_law_1480 : decode cL_law 1480 = .ok (.aload_n 0, 1) := by decide +kernel
theorem dL_law_1481 : decode cL_law 1481 = .ok (.iload 4, 2) := by decide +kernel
theorem dL_law_1483 : decode cL_law 1483 = .ok (.iconst 1, 1) := by decide +kernel
theorem dL_law_1484 : decode cL_law 1484 = .ok (.iadd, 1) := by decide +kernel
theorem dL_law_1485 : decode cL_law 1485 = .ok (.iaload, 1) := by decide +kernel
theorem dL_law_1486 : decode cL_law 1486 = .ok (.i2l, 1) := by decide +kernel
theorem dL_law_1487 : decode cL_law 1487 = .ok (.bipush 32, 2) := by decide +kernel
theorem dL_law_1489 : decode cL_law 1489 = .ok (.lshl, 1) := by decide +kernel
theorem dL_law_1490 : decode cL_law 1490 = .ok (.aload_n 0, 1) := by decide +kernel
theorem dL_law_1491 : decode cL_law 1491 = .ok (.iload 4, 2) := by decide +kernel
theorem dL_law_1493 : decode cL_law 1493 = .ok (.iconst 2, 1) := by decide +kernel
theorem dL_law_1494 : decode cL_law 1494 = .ok (.iadd, 1) := by decide +kernel
theorem dL_law_1495 : decode cL_law 1495 = .ok (.iaload, 1) := by decide +kernel
theorem dL_law_1496 : decode cL_law 1496 = .ok (.i2l, 1) := by decide +kernel
theorem dL_law_1497 : decode cL_law 1497 = .ok (.ldc2_w 166, 3) := by decide +kernel
theorem dL_law_1500 : decode cL_law 1500 = .ok (.land, 1) := by decide +kernel
theorem dL_law_1501 : decode cL_law 1501 = .ok (.lor, 1) := by decide +kernel
theorem dL_law_1502 : decode cL_law 1502 = .ok (.aload_n 0, 1) := by decide +kernel
theorem dL_law_1503 : decode cL_law 1503 = .ok (.iload 4, 2) := by decide +kernel
theorem dL_law_1505 : decode cL_law 1505 = .ok (.iconst 3, 1) := by decide +kernel
theorem dL_law_1506 : decode cL_law 1506 = .ok (.iadd, 1) := by decide +kernel
theorem dL_law_1507 : decode cL_law 1507 = .ok (.iaload, 1) := by decide +kernel
theorem dL_law_1508 : decode cL_law 1508 = .ok (.aload_n 3, 1) := by decide +kernel
theorem dL_law_1509 : decode cL_law 1509 = .ok (.invokestatic 172, 3) := by decide +kernel
theorem dL_law_1512 : decode cL_law 1512 = .ok (.istore 5, 2) := by decide +kernel
theorem dL_law_1514 : decode cL_law 1514 = .ok (.aload_n 2, 1) := by decide +kernel
theorem dL_law_1515 : decode cL_law 1515 = .ok (.aload_n 0, 1) := by decide +kernel
theorem dL_law_1516 : decode cL_law 1516 = .ok (.iload 4, 2) := by decide +kernel
theorem dL_law_1518 : decode cL_law 1518 = .ok (.iconst 1, 1) := by decide +kernel
theorem dL_law_1519 : decode cL_law 1519 = .ok (.iadd, 1) := by decide +kernel
theorem dL_law_1520 : decode cL_law 1520 = .ok (.iaload, 1) := by decide +kernel
theorem dL_law_1521 : decode cL_law 1521 = .ok (.i2l, 1) := by decide +kernel
theorem dL_law_1522 : decode cL_law 1522 = .ok (.bipush 32, 2) := by decide +kernel
theorem dL_law_1524 : decode cL_law 1524 = .ok (.lshl, 1) := by decide +kernel
theorem dL_law_1525 : decode cL_law 1525 = .ok (.aload_n 0, 1) := by decide +kernel
theorem dL_law_1526 : decode cL_law 1526 = .ok (.iload 4, 2) := by decide +kernel
theorem dL_law_1528 : decode cL_law 1528 = .ok (.iconst 2, 1) := by decide +kernel
theorem dL_law_1529 : decode cL_law 1529 = .ok (.iadd, 1) := by decide +kernel
theorem dL_law_1530 : decode cL_law 1530 = .ok (.iaload, 1) := by decide +kernel
theorem dL_law_1531 : decode cL_law 1531 = .ok (.i2l, 1) := by decide +kernel
theorem dL_law_1532 : decode cL_law 1532 = .ok (.ldc2_w 166, 3) := by decide +kernel
theorem dL_law_1535 : decode cL_law 1535 = .ok (.land, 1) := by decide +kernel
theorem dL_law_1536 : decode cL_law 1536 = .ok (.lor, 1) := by decide +kernel
theorem dL_law_1537 : decode cL_law 1537 = .ok (.aload_n 0, 1) := by decide +kernel
theorem dL_law_1538 : decode cL_law 1538 = .ok (.iload 4, 2) := by decide +kernel
theorem dL_law_1540 : decode cL_law 1540 = .ok (.iconst 3, 1) := by decide +kernel
theorem dL_law_1541 : decode cL_law 1541 = .ok (.iadd, 1) := by decide +kernel
theorem dL_law_1542 : decode cL_law 1542 = .ok (.iaload, 1) := by decide +kernel
theorem dL_law_1543 : decode cL_law 1543 = .ok (.invokevirtual 175, 3) := by decide +kernel
theorem dL_law_1546 : decode cL_law 1546 = .ok (.istore 6, 2) := by decide +kernel
theorem dL_law_1548 : decode cL_law 1548 = .ok (.aload_n 2, 1) := by decide +kernel
theorem dL_law_1549 : decode cL_law 1549 = .ok (.invokevirtual 97, 3) := by decide +kernel
theorem dL_law_1552 : decode cL_law 1552 = .ok (.iload 5, 2) := by decide +kernel
theorem dL_law_1554 : decode cL_law 1554 = .ok (.if_icmp .eq 5, 3) := by decide +kernel
theorem dL_law_1557 : decode cL_law 1557 = .ok (.iconst 0, 1) := by decide +kernel
theorem dL_law_1558 : decode cL_law 1558 = .ok (.ireturn, 1) := by decide +kernel
theorem dL_law_1559 : decode cL_law 1559 = .ok (.iload 5, 2) := by decide +kernel
theorem dL_law_1561 : decode cL_law 1561 = .ok (.ifCond .ne 15, 3) := by decide +kernel
theorem dL_law_1564 : decode cL_law 1564 = .ok (.aload_n 3, 1) := by decide +kernel
theorem dL_law_1565 : decode cL_law 1565 = .ok (.iconst 0, 1) := by decide +kernel
theorem dL_law_1566 : decode cL_law 1566 = .ok (.laload, 1) := by decide +kernel
theorem dL_law_1567 : decode cL_law 1567 = .ok (.iload 6, 2) := by decide +kernel
theorem dL_law_1569 : decode cL_law 1569 = .ok (.i2l, 1) := by decide +kernel
theorem dL_law_1570 : decode cL_law 1570 = .ok (.lcmp, 1) := by decide +kernel
theorem dL_law_1571 : decode cL_law 1571 = .ok (.ifCond .eq 5, 3) := by decide +kernel
theorem dL_law_1574 : decode cL_law 1574 = .ok (.iconst 0, 1) := by decide +kernel
theorem dL_law_1575 : decode cL_law 1575 = .ok (.ireturn, 1) := by decide +kernel
theorem dL_law_1576 : decode cL_law 1576 = .ok (.goto 115, 3) := by decide +kernel
theorem dL_law_1579 : decode cL_law 1579 = .ok (.aload_n 1, 1) := by decide +kernel
theorem dL_law_1580 : decode cL_law 1580 = .ok (.aload_n 0, 1) := by decide +kernel
theorem dL_law_1581 : decode cL_law 1581 = .ok (.iload 4, 2) := by decide +kernel
theorem dL_law_1583 : decode cL_law 1583 = .ok (.iconst 1, 1) := by decide +kernel
theorem dL_law_1584 : decode cL_law 1584 = .ok (.iadd, 1) := by decide +kernel
theorem dL_law_1585 : decode cL_law 1585 = .ok (.iaload, 1) := by decide +kernel
theorem dL_law_1586 : decode cL_law 1586 = .ok (.aload_n 3, 1) := by decide +kernel
theorem dL_law_1587 : decode cL_law 1587 = .ok (.invokestatic 176, 3) := by decide +kernel
theorem dL_law_1590 : decode cL_law 1590 = .ok (.istore 5, 2) := by decide +kernel
theorem dL_law_1592 : decode cL_law 1592 = .ok (.aload_n 2, 1) := by decide +kernel
theorem dL_law_1593 : decode cL_law 1593 = .ok (.aload_n 0, 1) := by decide +kernel
theorem dL_law_1594 : decode cL_law 1594 = .ok (.iload 4, 2) := by decide +kernel
theorem dL_law_1596 : decode cL_law 1596 = .ok (.iconst 1, 1) := by decide +kernel
theorem dL_law_1597 : decode cL_law 1597 = .ok (.iadd, 1) := by decide +kernel
theorem dL_law_1598 : decode cL_law 1598 = .ok (.iaload, 1) := by decide +kernel
theorem dL_law_1599 : decode cL_law 1599 = .ok (.invokevirtual 178, 3) := by decide +kernel
theorem dL_law_1602 : decode cL_law 1602 = .ok (.istore 6, 2) := by decide +kernel
theorem dL_law_1604 : decode cL_law 1604 = .ok (.aload_n 2, 1) := by decide +kernel
theorem dL_law_1605 : decode cL_law 1605 = .ok (.invokevirtual 97, 3) := by decide +kernel
theorem dL_law_1608 : decode cL_law 1608 = .ok (.iload 5, 2) := by decide +kernel
theorem dL_law_1610 : decode cL_law 1610 = .ok (.if_icmp .eq 5, 3) := by decide +kernel
theorem dL_law_1613 : decode cL_law 1613 = .ok (.iconst 0, 1) := by decide +kernel
theorem dL_law_1614 : decode cL_law 1614 = .ok (.ireturn, 1) := by decide +kernel
theorem dL_law_1615 : decode cL_law 1615 = .ok (.iload 5, 2) := by decide +kernel
theorem dL_law_1617 : decode cL_law 1617 = .ok (.ifCond .ne 15, 3) := by decide +kernel
theorem dL_law_1620 : decode cL_law 1620 = .ok (.aload_n 3, 1) := by decide +kernel
theorem dL_law_1621 : decode cL_law 1621 = .ok (.iconst 0, 1) := by decide +kernel
theorem dL_law_1622 : decode cL_law 1622 = .ok (.laload, 1) := by decide +kernel
theorem dL_law_1623 : decode cL_law 1623 = .ok (.iload 6, 2) := by decide +kernel
theorem dL_law_1625 : decode cL_law 1625 = .ok (.i2l, 1) := by decide +kernel
theorem dL_law_1626 : decode cL_law 1626 = .ok (.lcmp, 1) := by decide +kernel
theorem dL_law_1627 : decode cL_law 1627 = .ok (.ifCond .eq 5, 3) := by decide +kernel
theorem dL_law_1630 : decode cL_law 1630 = .ok (.iconst 0, 1) := by decide +kernel
theorem dL_law_1631 : decode cL_law 1631 = .ok (.ireturn, 1) := by decide +kernel
theorem dL_law_1632 : decode cL_law 1632 = .ok (.goto 59, 3) := by decide +kernel
theorem dL_law_1635 : decode cL_law 1635 = .ok (.aload_n 1, 1) := by decide +kernel
theorem dL_law_1636 : decode cL_law 1636 = .ok (.aload_n 0, 1) := by decide +kernel
theorem dL_law_1637 : decode cL_law 1637 = .ok (.iload 4, 2) := by decide +kernel
theorem dL_law_1639 : decode cL_law 1639 = .ok (.iconst 1, 1) := by decide +kernel
theorem dL_law_1640 : decode cL_law 1640 = .ok (.iadd, 1) := by decide +kernel
theorem dL_law_1641 : decode cL_law 1641 = .ok (.iaload, 1) := by decide +kernel
theorem dL_law_1642 : decode cL_law 1642 = .ok (.aload_n 3, 1) := by decide +kernel
theorem dL_law_1643 : decode cL_law 1643 = .ok (.invokestatic 179, 3) := by decide +kernel
theorem dL_law_1646 : decode cL_law 1646 = .ok (.istore 5, 2) := by decide +kernel
theorem dL_law_1648 : decode cL_law 1648 = .ok (.aload_n 2, 1) := by decide +kernel
theorem dL_law_1649 : decode cL_law 1649 = .ok (.aload_n 0, 1) := by decide +kernel
theorem dL_law_1650 : decode cL_law 1650 = .ok (.iload 4, 2) := by decide +kernel
theorem dL_law_1652 : decode cL_law 1652 = .ok (.iconst 1, 1) := by decide +kernel
theorem dL_law_1653 : decode cL_law 1653 = .ok (.iadd, 1) := by decide +kernel
theorem dL_law_1654 : decode cL_law 1654 = .ok (.iaload, 1) := by decide +kernel
theorem dL_law_1655 : decode cL_law 1655 = .ok (.invokevirtual 181, 3) := by decide +kernel
theorem dL_law_1658 : decode cL_law 1658 = .ok (.istore 6, 2) := by decide +kernel
theorem dL_law_1660 : decode cL_law 1660 = .ok (.aload_n 2, 1) := by decide +kernel
theorem dL_law_1661 : decode cL_law 1661 = .ok (.invokevirtual 97, 3) := by decide +kernel
theorem dL_law_1664 : decode cL_law 1664 = .ok (.iload 5, 2) := by decide +kernel
theorem dL_law_1666 : decode cL_law 1666 = .ok (.if_icmp .eq 5, 3) := by decide +kernel
theorem dL_law_1669 : decode cL_law 1669 = .ok (.iconst 0, 1) := by decide +kernel
theorem dL_law_1670 : decode cL_law 1670 = .ok (.ireturn, 1) := by decide +kernel
theorem dL_law_1671 : decode cL_law 1671 = .ok (.iload 5, 2) := by decide +kernel
theorem dL_law_1673 : decode cL_law 1673 = .ok (.ifCond .ne 15, 3) := by decide +kernel
theorem dL_law_1676 : decode cL_law 1676 = .ok (.aload_n 3, 1) := by decide +kernel
theorem dL_law_1677 : decode cL_law 1677 = .ok (.iconst 0, 1) := by decide +kernel
theorem dL_law_1678 : decode cL_law 1678 = .ok (.laload, 1) := by decide +kernel
theorem dL_law_1679 : decode cL_law 1679 = .ok (.iload 6, 2) := by decide +kernel
theorem dL_law_1681 : decode cL_law 1681 = .ok (.i2l, 1) := by decide +kernel
theorem dL_law_1682 : decode cL_law 1682 = .ok (.lcmp, 1) := by decide +kernel
theorem dL_law_1683 : decode cL_law 1683 = .ok (.ifCond .eq 5, 3) := by decide +kernel
theorem dL_law_1686 : decode cL_law 1686 = .ok (.iconst 0, 1) := by decide +kernel
theorem dL_law_1687 : decode cL_law 1687 = .ok (.ireturn, 1) := by decide +kernel
theorem dL_law_1688 : decode cL_law 1688 = .ok (.goto 3, 3) := by decide +kernel
theorem dL_law_1691 : decode cL_law 1691 = .ok (.iinc 4 6, 3) := by decide +kernel
theorem dL_law_1694 : decode cL_law 1694 = .ok (.goto (-1671), 3) := by decide +kernel
theorem dL_law_1697 : decode cL_law 1697 = .ok (.iconst 1, 1) := by decide +kernel
theorem dL_law_1698 : decode cL_law 1698 = .ok (.ireturn, 1) := by decide +kernel
