theorem dX7_load_47 : decode cX7_load 47 = .ok (.getfield 30, 3) := by decide +kernel
theorem dX7_load_50 : decode cX7_load 50 = .ok (.iload_n 1, 1) := by decide +kernel
theorem dX7_load_51 : decode cX7_load 51 = .ok (.iconst 0, 1) := by decide +kernel
theorem dX7_load_52 : decode cX7_load 52 = .ok (.bastore, 1) := by decide +kernel
theorem dX7_load_53 : decode cX7_load 53 = .ok (.iinc 1 1, 3) := by decide +kernel
theorem dX7_load_56 : decode cX7_load 56 = .ok (.goto (-19), 3) := by decide +kernel
theorem dX7_load_59 : decode cX7_load 59 = .ok (.iconst 0, 1) := by decide +kernel
theorem dX7_load_60 : decode cX7_load 60 = .ok (.istore_n 1, 1) := by decide +kernel
theorem dX7_load_61 : decode cX7_load 61 = .ok (.aload_n 0, 1) := by decide +kernel
theorem dX7_load_62 : decode cX7_load 62 = .ok (.getfield 37, 3) := by decide +kernel
theorem dX7_load_65 : decode cX7_load 65 = .ok (.invokevirtual 80, 3) := by decide +kernel
theorem dX7_load_68 : decode cX7_load 68 = .ok (.pop, 1) := by decide +kernel
theorem dX7_load_69 : decode cX7_load 69 = .ok (.iconst 0, 1) := by decide +kernel
theorem dX7_load_70 : decode cX7_load 70 = .ok (.istore_n 2, 1) := by decide +kernel
theorem dX7_load_71 : decode cX7_load 71 = .ok (.iload_n 2, 1) := by decide +kernel
theorem dX7_load_72 : decode cX7_load 72 = .ok (.bipush 120, 2) := by decide +kernel
theorem dX7_load_74 : decode cX7_load 74 = .ok (.if_icmp .ge 63, 3) := by decide +kernel
theorem dX7_load_77 : decode cX7_load 77 = .ok (.aload_n 0, 1) := by decide +kernel
theorem dX7_load_78 : decode cX7_load 78 = .ok (.getfield 37, 3) := by decide +kernel
theorem dX7_load_81 : decode cX7_load 81 = .ok (.invokevirtual 83, 3) := by decide +kernel
theorem dX7_load_84 : decode cX7_load 84 = .ok (.ifCond .eq 53, 3) := by decide +kernel
theorem dX7_load_87 : decode cX7_load 87 = .ok (.aload_n 0, 1) := by decide +kernel
theorem dX7_load_88 : decode cX7_load 88 = .ok (.getfield 37, 3) := by decide +kernel
theorem dX7_load_91 : decode cX7_load 91 = .ok (.invokevirtual 86, 3) := by decide +kernel
theorem dX7_load_94 : decode cX7_load 94 = .ok (.ifCond .eq 23, 3) := by decide +kernel
theorem dX7_load_97 : decode cX7_load 97 = .ok (.aload_n 0, 1) := by decide +kernel
theorem dX7_load_98 : decode cX7_load 98 = .ok (.getfield 37, 3) := by decide +kernel
theorem dX7_load_101 : decode cX7_load 101 = .ok (.aload_n 0, 1) := by decide +kernel
theorem dX7_load_102 : decode cX7_load 102 = .ok (.getfield 10, 3) := by decide +kernel
theorem dX7_load_105 : decode cX7_load 105 = .ok (.invokevirtual 89, 3) := by decide +kernel
theorem dX7_load_108 : decode cX7_load 108 = .ok (.bipush (-2), 2) := by decide +kernel
theorem dX7_load_110 : decode cX7_load 110 = .ok (.if_icmp .eq 7, 3) := by decide +kernel
theorem dX7_load_113 : decode cX7_load 113 = .ok (.iconst 1, 1) := by decide +kernel
theorem dX7_load_114 : decode cX7_load 114 = .ok (.goto 4, 3) := by decide +kernel
theorem dX7_load_117 : decode cX7_load 117 = .ok (.iconst 0, 1) := by decide +kernel
theorem dX7_load_118 : decode cX7_load 118 = .ok (.istore_n 3, 1) := by decide +kernel
theorem dX7_load_119 : decode cX7_load 119 = .ok (.iload_n 1, 1) := by decide +kernel
theorem dX7_load_120 : decode cX7_load 120 = .ok (.iload_n 3, 1) := by decide +kernel
theorem dX7_load_121 : decode cX7_load 121 = .ok (.ifCond .eq 7, 3) := by decide +kernel
theorem dX7_load_124 : decode cX7_load 124 = .ok (.iconst 0, 1) := by decide +kernel
theorem dX7_load_125 : decode cX7_load 125 = .ok (.goto 4, 3) := by decide +kernel
theorem dX7_load_128 : decode cX7_load 128 = .ok (.iconst 1, 1) := by decide +kernel
theorem dX7_load_129 : decode cX7_load 129 = .ok (.iadd, 1) := by decide +kernel
theorem dX7_load_130 : decode cX7_load 130 = .ok (.istore_n 1, 1) := by decide +kernel
theorem dX7_load_131 : decode cX7_load 131 = .ok (.iinc 2 1, 3) := by decide +kernel
theorem dX7_load_134 : decode cX7_load 134 = .ok (.goto (-63), 3) := by decide +kernel
theorem dX7_load_137 : decode cX7_load 137 = .ok (.iload_n 1, 1) := by decide +kernel
theorem dX7_load_138 : decode cX7_load 138 = .ok (.ireturn, 1) := by decide +kernel
theorem dX7_about_0 : decode cX7_about 0 = .ok (.iload_n 1, 1) := by decide +kernel
theorem dX7_about_1 : decode cX7_about 1 = .ok (.iconst 0, 1) := by decide +kernel
theorem dX7_about_2 : decode cX7_about 2 = .ok (.bipush 10, 2) := by decide +kernel
theorem dX7_about_4 : decode cX7_about 4 = .ok (.invokestatic 44, 3) := by decide +kernel
theorem dX7_about_7 : decode cX7_about 7 = .ok (.ifCond .ne 13, 3) := by decide +kernel
theorem dX7_about_10 : decode cX7_about 10 = .ok (.new 48, 3) := by decide +kernel
theorem dX7_about_13 : decode cX7_about 13 = .ok (.dup, 1) := by decide +kernel
theorem dX7_about_14 : decode cX7_about 14 = .ok (.ldc 93, 2) := by decide +kernel
theorem dX7_about_16 : decode cX7_about 16 = .ok (.invokespecial 52, 3) := by decide +kernel
theorem dX7_about_19 : decode cX7_about 19 = .ok (.athrow, 1) := by decide +kernel
theorem dX7_about_20 : decode cX7_about 20 = .ok (.aload_n 0, 1) := by decide +kernel
theorem dX7_about_21 : decode cX7_about 21 = .ok (.getfield 10, 3) := by decide +kernel
theorem dX7_about_24 : decode cX7_about 24 = .ok (.iload_n 1, 1) := by decide +kernel
theorem dX7_about_25 : decode cX7_about 25 = .ok (.invokevirtual 95, 3) := by decide +kernel
theorem dX7_about_28 : decode cX7_about 28 = .ok (.ireturn, 1) := by decide +kernel
theorem dX7_dogOf_0 : decode cX7_dogOf 0 = .ok (.aload_n 0, 1) := by decide +kernel
theorem dX7_dogOf_1 : decode cX7_dogOf 1 = .ok (.getfield 10, 3) := by decide +kernel
theorem dX7_dogOf_4 : decode cX7_dogOf 4 = .ok (.getfield 98, 3) := by decide +kernel
theorem dX7_dogOf_7 : decode cX7_dogOf 7 = .ok (.iload_n 1, 1) := by decide +kernel
theorem dX7_dogOf_8 : decode cX7_dogOf 8 = .ok (.invokevirtual 102, 3) := by decide +kernel
theorem dX7_dogOf_11 : decode cX7_dogOf 11 = .ok (.ifCond .ne 13, 3) := by decide +kernel
theorem dX7_dogOf_14 : decode cX7_dogOf 14 = .ok (.new 108, 3) := by decide +kernel
theorem dX7_dogOf_17 : decode cX7_dogOf 17 = .ok (.dup, 1) := by decide +kernel
theorem dX7_dogOf_18 : decode cX7_dogOf 18 = .ok (.ldc 110, 2) := by decide +kernel
theorem dX7_dogOf_20 : decode cX7_dogOf 20 = .ok (.invokespecial 112, 3) := by decide +kernel
theorem dX7_dogOf_23 : decode cX7_dogOf 23 = .ok (.athrow, 1) := by decide +kernel
theorem dX7_dogOf_24 : decode cX7_dogOf 24 = .ok (.iload_n 2, 1) := by decide +kernel
theorem dX7_dogOf_25 : decode cX7_dogOf 25 = .ok (.iconst 0, 1) := by decide +kernel
theorem dX7_dogOf_26 : decode cX7_dogOf 26 = .ok (.bipush 10, 2) := by decide +kernel
theorem dX7_dogOf_28 : decode cX7_dogOf 28 = .ok (.invokestatic 44, 3) := by decide +kernel
theorem dX7_dogOf_31 : decode cX7_dogOf 31 = .ok (.ifCond .ne 13, 3) := by decide +kernel
theorem dX7_dogOf_34 : decode cX7_dogOf 34 = .ok (.new 48, 3) := by decide +kernel
theorem dX7_dogOf_37 : decode cX7_dogOf 37 = .ok (.dup, 1) := by decide +kernel
theorem dX7_dogOf_38 : decode cX7_dogOf 38 = .ok (.ldc 113, 2) := by decide +kernel
theorem dX7_dogOf_40 : decode cX7_dogOf 40 = .ok (.invokespecial 52, 3) := by decide +kernel
theorem dX7_dogOf_43 : decode cX7_dogOf 43 = .ok (.athrow, 1) := by decide +kernel
theorem dX7_dogOf_44 : decode cX7_dogOf 44 = .ok (.aload_n 0, 1) := by decide +kernel
theorem dX7_dogOf_45 : decode cX7_dogOf 45 = .ok (.getfield 10, 3) := by decide +kernel
theorem dX7_dogOf_48 : decode cX7_dogOf 48 = .ok (.iload_n 1, 1) := by decide +kernel
theorem dX7_dogOf_49 : decode cX7_dogOf 49 = .ok (.iload_n 2, 1) := by decide +kernel
theorem dX7_dogOf_50 : decode cX7_dogOf 50 = .ok (.invokevirtual 115, 3) := by decide +kernel
theorem dX7_dogOf_53 : decode cX7_dogOf 53 = .ok (.ireturn, 1) := by decide +kernel
theorem dX7_sightingOf_0 : decode cX7_sightingOf 0 = .ok (.aload_n 0, 1) := by decide +kernel
theorem dX7_sightingOf_1 : decode cX7_sightingOf 1 = .ok (.getfield 10, 3) := by decide +kernel
theorem dX7_sightingOf_4 : decode cX7_sightingOf 4 = .ok (.getfield 119, 3) := by decide +kernel
theorem dX7_sightingOf_7 : decode cX7_sightingOf 7 = .ok (.iload_n 1, 1) := by decide +kernel
theorem dX7_sightingOf_8 : decode cX7_sightingOf 8 = .ok (.invokevirtual 102, 3) := by decide +kernel
theorem dX7_sightingOf_11 : decode cX7_sightingOf 11 = .ok (.ifCond .ne 13, 3) := by decide +kernel
theorem dX7_sightingOf_14 : decode cX7_sightingOf 14 = .ok (.new 108, 3) := by decide +kernel
theorem dX7_sightingOf_17 : decode cX7_sightingOf 17 = .ok (.dup, 1) := by decide +kernel
theorem dX7_sightingOf_18 : decode cX7_sightingOf 18 = .ok (.ldc 122, 2) := by decide +kernel
theorem dX7_sightingOf_20 : decode cX7_sightingOf 20 = .ok (.invokespecial 112, 3) := by decide +kernel
theorem dX7_sightingOf_23 : decode cX7_sightingOf 23 = .ok (.athrow, 1) := by decide +kernel
theorem dX7_sightingOf_24 : decode cX7_sightingOf 24 = .ok (.iload_n 2, 1) := by decide +kernel
theorem dX7_sightingOf_25 : decode cX7_sightingOf 25 = .ok (.iconst 0, 1) := by decide +kernel
theorem dX7_sightingOf_26 : decode cX7_sightingOf 26 = .ok (.bipush 8, 2) := by decide +kernel
theorem dX7_sightingOf_28 : decode cX7_sightingOf 28 = .ok (.invokestatic 44, 3) := by decide +kernel
theorem dX7_sightingOf_31 : decode cX7_sightingOf 31 = .ok (.ifCond .ne 13, 3) := by decide +kernel
theorem dX7_sightingOf_34 : decode cX7_sightingOf 34 = .ok (.new 48, 3) := by decide +kernel
theorem dX7_sightingOf_37 : decode cX7_sightingOf 37 = .ok (.dup, 1) := by decide +kernel
theorem dX7_sightingOf_38 : decode cX7_sightingOf 38 = .ok (.ldc 124, 2) := by decide +kernel
theorem dX7_sightingOf_40 : decode cX7_sightingOf 40 = .ok (.invokespecial 52, 3) := by decide +kernel
theorem dX7_sightingOf_43 : decode cX7_sightingOf 43 = .ok (.athrow, 1) := by decide +kernel
theorem dX7_sightingOf_44 : decode cX7_sightingOf 44 = .ok (.aload_n 0, 1) := by decide +kernel
theorem dX7_sightingOf_45 : decode cX7_sightingOf 45 = .ok (.getfield 10, 3) := by decide +kernel
theorem dX7_sightingOf_48 : decode cX7_sightingOf 48 = .ok (.iload_n 1, 1) := by decide +kernel
theorem dX7_sightingOf_49 : decode cX7_sightingOf 49 = .ok (.iload_n 2, 1) := by decide +kernel
theorem dX7_sightingOf_50 : decode cX7_sightingOf 50 = .ok (.invokevirtual 126, 3) := by decide +kernel
theorem dX7_sightingOf_53 : decode cX7_sightingOf 53 = .ok (.ireturn, 1) := by decide +kernel
theorem dX7_purse_0 : decode cX7_purse 0 = .ok (.iload_n 1, 1) := by decide +kernel
theorem dX7_purse_1 : decode cX7_purse 1 = .ok (.invokestatic 129, 3) := by decide +kernel
theorem dX7_purse_4 : decode cX7_purse 4 = .ok (.ifCond .ne 13, 3) := by decide +kernel
theorem dX7_purse_7 : decode cX7_purse 7 = .ok (.new 108, 3) := by decide +kernel
theorem dX7_purse_10 : decode cX7_purse 10 = .ok (.dup, 1) := by decide +kernel
theorem dX7_purse_11 : decode cX7_purse 11 = .ok (.ldc 132, 2) := by decide +kernel
theorem dX7_purse_13 : decode cX7_purse 13 = .ok (.invokespecial 112, 3) := by decide +kernel
theorem dX7_purse_16 : decode cX7_purse 16 = .ok (.athrow, 1) := by decide +kernel
theorem dX7_purse_17 : decode cX7_purse 17 = .ok (.aload_n 0, 1) := by decide +kernel
theorem dX7_purse_18 : decode cX7_purse 18 = .ok (.getfield 10, 3) := by decide +kernel
theorem dX7_purse_21 : decode cX7_purse 21 = .ok (.iload_n 1, 1) := by decide +kernel
theorem dX7_purse_22 : decode cX7_purse 22 = .ok (.invokevirtual 134, 3) := by decide +kernel
theorem dX7_purse_25 : decode cX7_purse 25 = .ok (.ireturn, 1) := by decide +kernel
theorem dX7_apart_0 : decode cX7_apart 0 = .ok (.iload_n 1, 1) := by decide +kernel
theorem dX7_apart_1 : decode cX7_apart 1 = .ok (.invokestatic 137, 3) := by decide +kernel
theorem dX7_apart_4 : decode cX7_apart 4 = .ok (.ifCond .eq 10, 3) := by decide +kernel
theorem dX7_apart_7 : decode cX7_apart 7 = .ok (.iload_n 2, 1) := by decide +kernel
theorem dX7_apart_8 : decode cX7_apart 8 = .ok (.invokestatic 137, 3) := by decide +kernel
theorem dX7_apart_11 : decode cX7_apart 11 = .ok (.ifCond .ne 13, 3) := by decide +kernel
theorem dX7_apart_14 : decode cX7_apart 14 = .ok (.new 108, 3) := by decide +kernel
theorem dX7_apart_17 : decode cX7_apart 17 = .ok (.dup, 1) := by decide +kernel
theorem dX7_apart_18 : decode cX7_apart 18 = .ok (.ldc 140, 2) := by decide +kernel
theorem dX7_apart_20 : decode cX7_apart 20 = .ok (.invokespecial 112, 3) := by decide +kernel
theorem dX7_apart_23 : decode cX7_apart 23 = .ok (.athrow, 1) := by decide +kernel
theorem dX7_apart_24 : decode cX7_apart 24 = .ok (.iload_n 3, 1) := by decide +kernel
theorem dX7_apart_25 : decode cX7_apart 25 = .ok (.iconst 0, 1) := by decide +kernel
theorem dX7_apart_26 : decode cX7_apart 26 = .ok (.iconst 1, 1) := by decide +kernel
theorem dX7_apart_27 : decode cX7_apart 27 = .ok (.invokestatic 44, 3) := by decide +kernel
theorem dX7_apart_30 : decode cX7_apart 30 = .ok (.ifCond .ne 13, 3) := by decide +kernel
theorem dX7_apart_33 : decode cX7_apart 33 = .ok (.new 48, 3) := by decide +kernel
theorem dX7_apart_36 : decode cX7_apart 36 = .ok (.dup, 1) := by decide +kernel
theorem dX7_apart_37 : decode cX7_apart 37 = .ok (.ldc 142, 2) := by decide +kernel
theorem dX7_apart_39 : decode cX7_apart 39 = .ok (.invokespecial 52, 3) := by decide +kernel
theorem dX7_apart_42 : decode cX7_apart 42 = .ok (.athrow, 1) := by decide +kernel
theorem dX7_apart_43 : decode cX7_apart 43 = .ok (.iload_n 3, 1) := by decide +kernel
theorem dX7_apart_44 : decode cX7_apart 44 = .ok (.ifCond .ne 18, 3) := by decide +kernel
theorem dX7_apart_47 : decode cX7_apart 47 = .ok (.aload_n 0, 1) := by decide +kernel
theorem dX7_apart_48 : decode cX7_apart 48 = .ok (.getfield 10, 3) := by decide +kernel
theorem dX7_apart_51 : decode cX7_apart 51 = .ok (.getfield 144, 3) := by decide +kernel
theorem dX7_apart_54 : decode cX7_apart 54 = .ok (.iload_n 1, 1) := by decide +kernel
theorem dX7_apart_55 : decode cX7_apart 55 = .ok (.iload_n 2, 1) := by decide +kernel
theorem dX7_apart_56 : decode cX7_apart 56 = .ok (.invokevirtual 148, 3) := by decide +kernel
theorem dX7_apart_59 : decode cX7_apart 59 = .ok (.goto 15, 3) := by decide +kernel
theorem dX7_apart_62 : decode cX7_apart 62 = .ok (.aload_n 0, 1) := by decide +kernel
theorem dX7_apart_63 : decode cX7_apart 63 = .ok (.getfield 10, 3) := by decide +kernel
theorem dX7_apart_66 : decode cX7_apart 66 = .ok (.getfield 144, 3) := by decide +kernel
theorem dX7_apart_69 : decode cX7_apart 69 = .ok (.iload_n 1, 1) := by decide +kernel
theorem dX7_apart_70 : decode cX7_apart 70 = .ok (.iload_n 2, 1) := by decide +kernel
theorem dX7_apart_71 : decode cX7_apart 71 = .ok (.invokevirtual 153, 3) := by decide +kernel
theorem dX7_apart_74 : decode cX7_apart 74 = .ok (.ireturn, 1) := by decide +kernel
theorem dX7_lose_0 : decode cX7_lose 0 = .ok (.aload_n 0, 1) := by decide +kernel
theorem dX7_lose_1 : decode cX7_lose 1 = .ok (.getfield 10, 3) := by decide +kernel
theorem dX7_lose_4 : decode cX7_lose 4 = .ok (.iload_n 1, 1) := by decide +kernel
theorem dX7_lose_5 : decode cX7_lose 5 = .ok (.iload_n 2, 1) := by decide +kernel
theorem dX7_lose_6 : decode cX7_lose 6 = .ok (.iload_n 3, 1) := by decide +kernel
theorem dX7_lose_7 : decode cX7_lose 7 = .ok (.iload 4, 2) := by decide +kernel
theorem dX7_lose_9 : decode cX7_lose 9 = .ok (.invokevirtual 156, 3) := by decide +kernel
theorem dX7_lose_12 : decode cX7_lose 12 = .ok (.invokestatic 160, 3) := by decide +kernel
theorem dX7_lose_15 : decode cX7_lose 15 = .ok (.aload_n 0, 1) := by decide +kernel
theorem dX7_lose_16 : decode cX7_lose 16 = .ok (.getfield 22, 3) := by decide +kernel
theorem dX7_lose_19 : decode cX7_lose 19 = .ok (.aload_n 0, 1) := by decide +kernel
theorem dX7_lose_20 : decode cX7_lose 20 = .ok (.getfield 10, 3) := by decide +kernel
theorem dX7_lose_23 : decode cX7_lose 23 = .ok (.invokevirtual 164, 3) := by decide +kernel
theorem dX7_lose_26 : decode cX7_lose 26 = .ok (.aload_n 0, 1) := by decide +kernel
theorem dX7_lose_27 : decode cX7_lose 27 = .ok (.getfield 10, 3) := by decide +kernel
theorem dX7_lose_30 : decode cX7_lose 30 = .ok (.iload_n 1, 1) := by decide +kernel
theorem dX7_lose_31 : decode cX7_lose 31 = .ok (.iload_n 2, 1) := by decide +kernel
theorem dX7_lose_32 : decode cX7_lose 32 = .ok (.iload_n 3, 1) := by decide +kernel
theorem dX7_lose_33 : decode cX7_lose 33 = .ok (.iload 4, 2) := by decide +kernel
theorem dX7_lose_35 : decode cX7_lose 35 = .ok (.invokevirtual 168, 3) := by decide +kernel
theorem dX7_lose_38 : decode cX7_lose 38 = .ok (.ireturn, 1) := by decide +kernel
theorem dX7_sight_0 : decode cX7_sight 0 = .ok (.aload_n 0, 1) := by decide +kernel
theorem dX7_sight_1 : decode cX7_sight 1 = .ok (.getfield 10, 3) := by decide +kernel
theorem dX7_sight_4 : decode cX7_sight 4 = .ok (.iload_n 1, 1) := by decide +kernel
theorem dX7_sight_5 : decode cX7_sight 5 = .ok (.iload_n 2, 1) := by decide +kernel
theorem dX7_sight_6 : decode cX7_sight 6 = .ok (.iload_n 3, 1) := by decide +kernel
theorem dX7_sight_7 : decode cX7_sight 7 = .ok (.iload 4, 2) := by decide +kernel
theorem dX7_sight_9 : decode cX7_sight 9 = .ok (.invokevirtual 171, 3) := by decide +kernel
theorem dX7_sight_12 : decode cX7_sight 12 = .ok (.invokestatic 160, 3) := by decide +kernel
theorem dX7_sight_15 : decode cX7_sight 15 = .ok (.aload_n 0, 1) := by decide +kernel
theorem dX7_sight_16 : decode cX7_sight 16 = .ok (.getfield 22, 3) := by decide +kernel
theorem dX7_sight_19 : decode cX7_sight 19 = .ok (.aload_n 0, 1) := by decide +kernel
theorem dX7_sight_20 : decode cX7_sight 20 = .ok (.getfield 10, 3) := by decide +kernel
theorem dX7_sight_23 : decode cX7_sight 23 = .ok (.invokevirtual 164, 3) := by decide +kernel
theorem dX7_sight_26 : decode cX7_sight 26 = .ok (.aload_n 0, 1) := by decide +kernel
theorem dX7_sight_27 : decode cX7_sight 27 = .ok (.getfield 10, 3) := by decide +kernel
theorem dX7_sight_30 : decode cX7_sight 30 = .ok (.iload_n 1, 1) := by decide +kernel
theorem dX7_sight_31 : decode cX7_sight 31 = .ok (.iload_n 2, 1) := by decide +kernel
theorem dX7_sight_32 : decode cX7_sight 32 = .ok (.iload_n 3, 1) := by decide +kernel
theorem dX7_sight_33 : decode cX7_sight 33 = .ok (.iload 4, 2) := by decide +kernel
theorem dX7_sight_35 : decode cX7_sight 35 = .ok (.iload 5, 2) := by decide +kernel
theorem dX7_sight_37 : decode cX7_sight 37 = .ok (.invokevirtual 174, 3) := by decide +kernel
theorem dX7_sight_40 : decode cX7_sight 40 = .ok (.ireturn, 1) := by decide +kernel
theorem dX7_find_0 : decode cX7_find 0 = .ok (.aload_n 0, 1) := by decide +kernel
theorem dX7_find_1 : decode cX7_find 1 = .ok (.getfield 10, 3) := by decide +kernel
theorem dX7_find_4 : decode cX7_find 4 = .ok (.iload_n 1, 1) := by decide +kernel
theorem dX7_find_5 : decode cX7_find 5 = .ok (.iload_n 2, 1) := by decide +kernel
theorem dX7_find_6 : decode cX7_find 6 = .ok (.iload_n 3, 1) := by decide +kernel
theorem dX7_find_7 : decode cX7_find 7 = .ok (.invokevirtual 178, 3) := by decide +kernel
theorem dX7_find_10 : decode cX7_find 10 = .ok (.invokestatic 160, 3) := by decide +kernel
theorem dX7_find_13 : decode cX7_find 13 = .ok (.aload_n 0, 1) := by decide +kernel
theorem dX7_find_14 : decode cX7_find 14 = .ok (.getfield 22, 3) := by decide +kernel
theorem dX7_find_17 : decode cX7_find 17 = .ok (.aload_n 0, 1) := by decide +kernel
theorem dX7_find_18 : decode cX7_find 18 = .ok (.getfield 10, 3) := by decide +kernel
theorem dX7_find_21 : decode cX7_find 21 = .ok (.invokevirtual 164, 3) := by decide +kernel
theorem dX7_find_24 : decode cX7_find 24 = .ok (.aload_n 0, 1) := by decide +kernel
theorem dX7_find_25 : decode cX7_find 25 = .ok (.getfield 10, 3) := by decide +kernel
theorem dX7_find_28 : decode cX7_find 28 = .ok (.iload_n 1, 1) := by decide +kernel
theorem dX7_find_29 : decode cX7_find 29 = .ok (.iload_n 2, 1) := by decide +kernel
theorem dX7_find_30 : decode cX7_find 30 = .ok (.iload_n 3, 1) := by decide +kernel
theorem dX7_find_31 : decode cX7_find 31 = .ok (.invokevirtual 182, 3) := by decide +kernel
theorem dX7_find_34 : decode cX7_find 34 = .ok (.ireturn, 1) := by decide +kernel
theorem dX7_close_0 : decode cX7_close 0 = .ok (.aload_n 0, 1) := by decide +kernel
theorem dX7_close_1 : decode cX7_close 1 = .ok (.getfield 10, 3) := by decide +kernel
theorem dX7_close_4 : decode cX7_close 4 = .ok (.iload_n 1, 1) := by decide +kernel
theorem dX7_close_5 : decode cX7_close 5 = .ok (.iload_n 2, 1) := by decide +kernel
theorem dX7_close_6 : decode cX7_close 6 = .ok (.invokevirtual 185, 3) := by decide +kernel
theorem dX7_close_9 : decode cX7_close 9 = .ok (.invokestatic 160, 3) := by decide +kernel
theorem dX7_close_12 : decode cX7_close 12 = .ok (.aload_n 0, 1) := by decide +kernel
theorem dX7_close_13 : decode cX7_close 13 = .ok (.getfield 22, 3) := by decide +kernel
theorem dX7_close_16 : decode cX7_close 16 = .ok (.aload_n 0, 1) := by decide +kernel
theorem dX7_close_17 : decode cX7_close 17 = .ok (.getfield 10, 3) := by decide +kernel
theorem dX7_close_20 : decode cX7_close 20 = .ok (.invokevirtual 164, 3) := by decide +kernel
theorem dX7_close_23 : decode cX7_close 23 = .ok (.aload_n 0, 1) := by decide +kernel
theorem dX7_close_24 : decode cX7_close 24 = .ok (.getfield 10, 3) := by decide +kernel
theorem dX7_close_27 : decode cX7_close 27 = .ok (.iload_n 1, 1) := by decide +kernel
theorem dX7_close_28 : decode cX7_close 28 = .ok (.iload_n 2, 1) := by decide +kernel
theorem dX7_close_29 : decode cX7_close 29 = .ok (.iload_n 3, 1) := by decide +kernel
theorem dX7_close_30 : decode cX7_close 30 = .ok (.invokevirtual 188, 3) := by decide +kernel
theorem dX7_close_33 : decode cX7_close 33 = .ok (.ireturn, 1) := by decide +kernel
theorem dX7_hours_0 : decode cX7_hours 0 = .ok (.aload_n 0, 1) := by decide +kernel
theorem dX7_hours_1 : decode cX7_hours 1 = .ok (.getfield 10, 3) := by decide +kernel
theorem dX7_hours_4 : decode cX7_hours 4 = .ok (.iload_n 1, 1) := by decide +kernel
theorem dX7_hours_5 : decode cX7_hours 5 = .ok (.invokevirtual 192, 3) := by decide +kernel
theorem dX7_hours_8 : decode cX7_hours 8 = .ok (.invokestatic 160, 3) := by decide +kernel
theorem dX7_hours_11 : decode cX7_hours 11 = .ok (.aload_n 0, 1) := by decide +kernel
theorem dX7_hours_12 : decode cX7_hours 12 = .ok (.getfield 22, 3) := by decide +kernel
theorem dX7_hours_15 : decode cX7_hours 15 = .ok (.aload_n 0, 1) := by decide +kernel
theorem dX7_hours_16 : decode cX7_hours 16 = .ok (.getfield 10, 3) := by decide +kernel
theorem dX7_hours_19 : decode cX7_hours 19 = .ok (.invokevirtual 164, 3) := by decide +kernel
theorem dX7_hours_22 : decode cX7_hours 22 = .ok (.aload_n 0, 1) := by decide +kernel
theorem dX7_hours_23 : decode cX7_hours 23 = .ok (.getfield 10, 3) := by decide +kernel
theorem dX7_hours_26 : decode cX7_hours 26 = .ok (.iload_n 1, 1) := by decide +kernel
theorem dX7_hours_27 : decode cX7_hours 27 = .ok (.invokevirtual 195, 3) := by decide +kernel
theorem dX7_hours_30 : decode cX7_hours 30 = .ok (.ireturn, 1) := by decide +kernel
theorem dX7_set_0 : decode cX7_set 0 = .ok (.aload_n 0, 1) := by decide +kernel
theorem dX7_set_1 : decode cX7_set 1 = .ok (.getfield 10, 3) := by decide +kernel
theorem dX7_set_4 : decode cX7_set 4 = .ok (.iload_n 1, 1) := by decide +kernel
theorem dX7_set_5 : decode cX7_set 5 = .ok (.iload_n 2, 1) := by decide +kernel
theorem dX7_set_6 : decode cX7_set 6 = .ok (.invokevirtual 198, 3) := by decide +kernel
theorem dX7_set_9 : decode cX7_set 9 = .ok (.invokestatic 160, 3) := by decide +kernel
theorem dX7_set_12 : decode cX7_set 12 = .ok (.aload_n 0, 1) := by decide +kernel
theorem dX7_set_13 : decode cX7_set 13 = .ok (.getfield 22, 3) := by decide +kernel
theorem dX7_set_16 : decode cX7_set 16 = .ok (.aload_n 0, 1) := by decide +kernel
theorem dX7_set_17 : decode cX7_set 17 = .ok (.getfield 10, 3) := by decide +kernel
theorem dX7_set_20 : decode cX7_set 20 = .ok (.invokevirtual 164, 3) := by decide +kernel
theorem dX7_set_23 : decode cX7_set 23 = .ok (.aload_n 0, 1) := by decide +kernel
theorem dX7_set_24 : decode cX7_set 24 = .ok (.getfield 10, 3) := by decide +kernel
theorem dX7_set_27 : decode cX7_set 27 = .ok (.iload_n 1, 1) := by decide +kernel
theorem dX7_set_28 : decode cX7_set 28 = .ok (.iload_n 2, 1) := by decide +kernel
theorem dX7_set_29 : decode cX7_set 29 = .ok (.invokevirtual 201, 3) := by decide +kernel
theorem dX7_set_32 : decode cX7_set 32 = .ok (.ireturn, 1) := by decide +kernel
theorem dX7_undo_0 : decode cX7_undo 0 = .ok (.aload_n 0, 1) := by decide +kernel
theorem dX7_undo_1 : decode cX7_undo 1 = .ok (.getfield 22, 3) := by decide +kernel
theorem dX7_undo_4 : decode cX7_undo 4 = .ok (.invokevirtual 204, 3) := by decide +kernel
theorem dX7_undo_7 : decode cX7_undo 7 = .ok (.ifCond .eq 13, 3) := by decide +kernel
theorem dX7_undo_10 : decode cX7_undo 10 = .ok (.new 59, 3) := by decide +kernel
theorem dX7_undo_13 : decode cX7_undo 13 = .ok (.dup, 1) := by decide +kernel
theorem dX7_undo_14 : decode cX7_undo 14 = .ok (.ldc 207, 2) := by decide +kernel
theorem dX7_undo_16 : decode cX7_undo 16 = .ok (.invokespecial 63, 3) := by decide +kernel
theorem dX7_undo_19 : decode cX7_undo 19 = .ok (.athrow, 1) := by decide +kernel
theorem dX7_undo_20 : decode cX7_undo 20 = .ok (.aload_n 0, 1) := by decide +kernel
theorem dX7_undo_21 : decode cX7_undo 21 = .ok (.getfield 22, 3) := by decide +kernel
theorem dX7_undo_24 : decode cX7_undo 24 = .ok (.aload_n 0, 1) := by decide +kernel
theorem dX7_undo_25 : decode cX7_undo 25 = .ok (.getfield 10, 3) := by decide +kernel
theorem dX7_undo_28 : decode cX7_undo 28 = .ok (.invokevirtual 209, 3) := by decide +kernel
theorem dX7_undo_31 : decode cX7_undo 31 = .ok (.ireturn, 1) := by decide +kernel
theorem dX7_canBe_0 : decode cX7_canBe 0 = .ok (.aload_n 0, 1) := by decide +kernel
theorem dX7_canBe_1 : decode cX7_canBe 1 = .ok (.getfield 10, 3) := by decide +kernel
theorem dX7_canBe_4 : decode cX7_canBe 4 = .ok (.iload_n 1, 1) := by decide +kernel
theorem dX7_canBe_5 : decode cX7_canBe 5 = .ok (.invokevirtual 212, 3) := by decide +kernel
theorem dX7_canBe_8 : decode cX7_canBe 8 = .ok (.invokestatic 160, 3) := by decide +kernel
theorem dX7_canBe_11 : decode cX7_canBe 11 = .ok (.aload_n 0, 1) := by decide +kernel
theorem dX7_canBe_12 : decode cX7_canBe 12 = .ok (.getfield 10, 3) := by decide +kernel
theorem dX7_canBe_15 : decode cX7_canBe 15 = .ok (.iload_n 1, 1) := by decide +kernel
theorem dX7_canBe_16 : decode cX7_canBe 16 = .ok (.invokevirtual 215, 3) := by decide +kernel
theorem dX7_canBe_19 : decode cX7_canBe 19 = .ok (.ireturn, 1) := by decide +kernel
theorem dX7_watch_0 : decode cX7_watch 0 = .ok (.aload_n 0, 1) := by decide +kernel
theorem dX7_watch_1 : decode cX7_watch 1 = .ok (.getfield 10, 3) := by decide +kernel
theorem dX7_watch_4 : decode cX7_watch 4 = .ok (.invokevirtual 218, 3) := by decide +kernel
theorem dX7_watch_7 : decode cX7_watch 7 = .ok (.ireturn, 1) := by decide +kernel
theorem dX7_meant_0 : decode cX7_meant 0 = .ok (.iload_n 1, 1) := by decide +kernel
theorem dX7_meant_1 : decode cX7_meant 1 = .ok (.iconst 0, 1) := by decide +kernel
theorem dX7_meant_2 : decode cX7_meant 2 = .ok (.sipush 255, 3) := by decide +kernel
theorem dX7_meant_5 : decode cX7_meant 5 = .ok (.invokestatic 44, 3) := by decide +kernel
theorem dX7_meant_8 : decode cX7_meant 8 = .ok (.ifCond .ne 13, 3) := by decide +kernel
theorem dX7_meant_11 : decode cX7_meant 11 = .ok (.new 48, 3) := by decide +kernel
theorem dX7_meant_14 : decode cX7_meant 14 = .ok (.dup, 1) := by decide +kernel
theorem dX7_meant_15 : decode cX7_meant 15 = .ok (.ldc 221, 2) := by decide +kernel
theorem dX7_meant_17 : decode cX7_meant 17 = .ok (.invokespecial 52, 3) := by decide +kernel
theorem dX7_meant_20 : decode cX7_meant 20 = .ok (.athrow, 1) := by decide +kernel
theorem dX7_meant_21 : decode cX7_meant 21 = .ok (.aload_n 0, 1) := by decide +kernel
theorem dX7_meant_22 : decode cX7_meant 22 = .ok (.getfield 10, 3) := by decide +kernel
theorem dX7_meant_25 : decode cX7_meant 25 = .ok (.iload_n 1, 1) := by decide +kernel
theorem dX7_meant_26 : decode cX7_meant 26 = .ok (.aload_n 0, 1) := by decide +kernel
theorem dX7_meant_27 : decode cX7_meant 27 = .ok (.getfield 10, 3) := by decide +kernel
theorem dX7_meant_30 : decode cX7_meant 30 = .ok (.getfield 223, 3) := by decide +kernel
theorem dX7_meant_33 : decode cX7_meant 33 = .ok (.invokevirtual 227, 3) := by decide +kernel
theorem dX7_meant_36 : decode cX7_meant 36 = .ok (.ireturn, 1) := by decide +kernel
theorem dX7_ifFound_0 : decode cX7_ifFound 0 = .ok (.iload 4, 2) := by decide +kernel
theorem dX7_ifFound_2 : decode cX7_ifFound 2 = .ok (.invokestatic 129, 3) := by decide +kernel
theorem dX7_ifFound_5 : decode cX7_ifFound 5 = .ok (.ifCond .eq 16, 3) := by decide +kernel
theorem dX7_ifFound_8 : decode cX7_ifFound 8 = .ok (.aload_n 0, 1) := by decide +kernel
theorem dX7_ifFound_9 : decode cX7_ifFound 9 = .ok (.getfield 10, 3) := by decide +kernel
theorem dX7_ifFound_12 : decode cX7_ifFound 12 = .ok (.iload_n 1, 1) := by decide +kernel
theorem dX7_ifFound_13 : decode cX7_ifFound 13 = .ok (.iload_n 2, 1) := by decide +kernel
theorem dX7_ifFound_14 : decode cX7_ifFound 14 = .ok (.iload_n 3, 1) := by decide +kernel
theorem dX7_ifFound_15 : decode cX7_ifFound 15 = .ok (.invokevirtual 178, 3) := by decide +kernel
theorem dX7_ifFound_18 : decode cX7_ifFound 18 = .ok (.goto 4, 3) := by decide +kernel
theorem dX7_ifFound_21 : decode cX7_ifFound 21 = .ok (.iconst 1, 1) := by decide +kernel
theorem dX7_ifFound_22 : decode cX7_ifFound 22 = .ok (.invokestatic 160, 3) := by decide +kernel
theorem dX7_ifFound_25 : decode cX7_ifFound 25 = .ok (.aload_n 0, 1) := by decide +kernel
theorem dX7_ifFound_26 : decode cX7_ifFound 26 = .ok (.getfield 10, 3) := by decide +kernel
theorem dX7_ifFound_29 : decode cX7_ifFound 29 = .ok (.iload_n 1, 1) := by decide +kernel
theorem dX7_ifFound_30 : decode cX7_ifFound 30 = .ok (.iload_n 2, 1) := by decide +kernel
theorem dX7_ifFound_31 : decode cX7_ifFound 31 = .ok (.iload_n 3, 1) := by decide +kernel
theorem dX7_ifFound_32 : decode cX7_ifFound 32 = .ok (.iload 4, 2) := by decide +kernel
theorem dX7_ifFound_34 : decode cX7_ifFound 34 = .ok (.invokevirtual 230, 3) := by decide +kernel
theorem dX7_ifFound_37 : decode cX7_ifFound 37 = .ok (.ireturn, 1) := by decide +kernel
theorem dX7_runScript_0 : decode cX7_runScript 0 = .ok (.iload_n 1, 1) := by decide +kernel
theorem dX7_runScript_1 : decode cX7_runScript 1 = .ok (.iconst 1, 1) := by decide +kernel
theorem dX7_runScript_2 : decode cX7_runScript 2 = .ok (.iconst 3, 1) := by decide +kernel
theorem dX7_runScript_3 : decode cX7_runScript 3 = .ok (.invokestatic 44, 3) := by decide +kernel
theorem dX7_runScript_6 : decode cX7_runScript 6 = .ok (.ifCond .ne 13, 3) := by decide +kernel
theorem dX7_runScript_9 : decode cX7_runScript 9 = .ok (.new 48, 3) := by decide +kernel
theorem dX7_runScript_12 : decode cX7_runScript 12 = .ok (.dup, 1) := by decide +kernel
theorem dX7_runScript_13 : decode cX7_runScript 13 = .ok (.ldc 233, 2) := by decide +kernel
theorem dX7_runScript_15 : decode cX7_runScript 15 = .ok (.invokespecial 52, 3) := by decide +kernel
theorem dX7_runScript_18 : decode cX7_runScript 18 = .ok (.athrow, 1) := by decide +kernel
theorem dX7_runScript_19 : decode cX7_runScript 19 = .ok (.lconst 1, 1) := by decide +kernel
theorem dX7_runScript_20 : decode cX7_runScript 20 = .ok (.lstore 4, 2) := by decide +kernel
theorem dX7_runScript_22 : decode cX7_runScript 22 = .ok (.iconst 0, 1) := by decide +kernel
theorem dX7_runScript_23 : decode cX7_runScript 23 = .ok (.istore 6, 2) := by decide +kernel
theorem dX7_runScript_25 : decode cX7_runScript 25 = .ok (.iload 6, 2) := by decide +kernel
theorem dX7_runScript_27 : decode cX7_runScript 27 = .ok (.iload_n 1, 1) := by decide +kernel
theorem dX7_runScript_28 : decode cX7_runScript 28 = .ok (.if_icmp .ge 17, 3) := by decide +kernel
theorem dX7_runScript_31 : decode cX7_runScript 31 = .ok (.lload 4, 2) := by decide +kernel
theorem dX7_runScript_33 : decode cX7_runScript 33 = .ok (.ldc2_w 235, 3) := by decide +kernel
theorem dX7_runScript_36 : decode cX7_runScript 36 = .ok (.lmul, 1) := by decide +kernel
theorem dX7_runScript_37 : decode cX7_runScript 37 = .ok (.lstore 4, 2) := by decide +kernel
theorem dX7_runScript_39 : decode cX7_runScript 39 = .ok (.iinc 6 1, 3) := by decide +kernel
theorem dX7_runScript_42 : decode cX7_runScript 42 = .ok (.goto (-17), 3) := by decide +kernel
theorem dX7_runScript_45 : decode cX7_runScript 45 = .ok (.lload_n 2, 1) := by decide +kernel
theorem dX7_runScript_46 : decode cX7_runScript 46 = .ok (.lconst 0, 1) := by decide +kernel
theorem dX7_runScript_47 : decode cX7_runScript 47 = .ok (.lcmp, 1) := by decide +kernel
theorem dX7_runScript_48 : decode cX7_runScript 48 = .ok (.ifCond .lt 10, 3) := by decide +kernel
theorem dX7_runScript_51 : decode cX7_runScript 51 = .ok (.lload_n 2, 1) := by decide +kernel
theorem dX7_runScript_52 : decode cX7_runScript 52 = .ok (.lload 4, 2) := by decide +kernel
theorem dX7_runScript_54 : decode cX7_runScript 54 = .ok (.lcmp, 1) := by decide +kernel
theorem dX7_runScript_55 : decode cX7_runScript 55 = .ok (.ifCond .lt 13, 3) := by decide +kernel
theorem dX7_runScript_58 : decode cX7_runScript 58 = .ok (.new 48, 3) := by decide +kernel
theorem dX7_runScript_61 : decode cX7_runScript 61 = .ok (.dup, 1) := by decide +kernel
theorem dX7_runScript_62 : decode cX7_runScript 62 = .ok (.ldc 237, 2) := by decide +kernel
theorem dX7_runScript_64 : decode cX7_runScript 64 = .ok (.invokespecial 52, 3) := by decide +kernel
theorem dX7_runScript_67 : decode cX7_runScript 67 = .ok (.athrow, 1) := by decide +kernel
theorem dX7_runScript_68 : decode cX7_runScript 68 = .ok (.aload_n 0, 1) := by decide +kernel
theorem dX7_runScript_69 : decode cX7_runScript 69 = .ok (.getfield 16, 3) := by decide +kernel
theorem dX7_runScript_72 : decode cX7_runScript 72 = .ok (.aload_n 0, 1) := by decide +kernel
theorem dX7_runScript_73 : decode cX7_runScript 73 = .ok (.getfield 10, 3) := by decide +kernel
theorem dX7_runScript_76 : decode cX7_runScript 76 = .ok (.invokevirtual 239, 3) := by decide +kernel
theorem dX7_runScript_79 : decode cX7_runScript 79 = .ok (.iconst 0, 1) := by decide +kernel
theorem dX7_runScript_80 : decode cX7_runScript 80 = .ok (.istore 6, 2) := by decide +kernel
theorem dX7_runScript_82 : decode cX7_runScript 82 = .ok (.iload 6, 2) := by decide +kernel
theorem dX7_runScript_84 : decode cX7_runScript 84 = .ok (.iload_n 1, 1) := by decide +kernel
theorem dX7_runScript_85 : decode cX7_runScript 85 = .ok (.if_icmp .ge 54, 3) := by decide +kernel
theorem dX7_runScript_88 : decode cX7_runScript 88 = .ok (.lload 4, 2) := by decide +kernel
theorem dX7_runScript_90 : decode cX7_runScript 90 = .ok (.ldc2_w 235, 3) := by decide +kernel
theorem dX7_runScript_93 : decode cX7_runScript 93 = .ok (.ldiv, 1) := by decide +kernel
theorem dX7_runScript_94 : decode cX7_runScript 94 = .ok (.lstore 4, 2) := by decide +kernel
theorem dX7_runScript_96 : decode cX7_runScript 96 = .ok (.lload 4, 2) := by decide +kernel
theorem dX7_runScript_98 : decode cX7_runScript 98 = .ok (.lconst 0, 1) := by decide +kernel
theorem dX7_runScript_99 : decode cX7_runScript 99 = .ok (.lcmp, 1) := by decide +kernel
theorem dX7_runScript_100 : decode cX7_runScript 100 = .ok (.ifCond .le 15, 3) := by decide +kernel
theorem dX7_runScript_103 : decode cX7_runScript 103 = .ok (.lload_n 2, 1) := by decide +kernel
theorem dX7_runScript_104 : decode cX7_runScript 104 = .ok (.lload 4, 2) := by decide +kernel
theorem dX7_runScript_106 : decode cX7_runScript 106 = .ok (.ldiv, 1) := by decide +kernel
theorem dX7_runScript_107 : decode cX7_runScript 107 = .ok (.ldc2_w 235, 3) := by decide +kernel
theorem dX7_runScript_110 : decode cX7_runScript 110 = .ok (.lrem, 1) := by decide +kernel
theorem dX7_runScript_111 : decode cX7_runScript 111 = .ok (.l2i, 1) := by decide +kernel
theorem dX7_runScript_112 : decode cX7_runScript 112 = .ok (.goto 4, 3) := by decide +kernel
theorem dX7_runScript_115 : decode cX7_runScript 115 = .ok (.iconst 0, 1) := by decide +kernel
theorem dX7_runScript_116 : decode cX7_runScript 116 = .ok (.istore 7, 2) := by decide +kernel
theorem dX7_runScript_118 : decode cX7_runScript 118 = .ok (.aload_n 0, 1) := by decide +kernel
theorem dX7_runScript_119 : decode cX7_runScript 119 = .ok (.getfield 16, 3) := by decide +kernel
theorem dX7_runScript_122 : decode cX7_runScript 122 = .ok (.iload 7, 2) := by decide +kernel
theorem dX7_runScript_124 : decode cX7_runScript 124 = .ok (.invokestatic 242, 3) := by decide +kernel
theorem dX7_runScript_127 : decode cX7_runScript 127 = .ok (.ifCond .ne 6, 3) := by decide +kernel
theorem dX7_runScript_130 : decode cX7_runScript 130 = .ok (.iload 6, 2) := by decide +kernel
theorem dX7_runScript_132 : decode cX7_runScript 132 = .ok (.ireturn, 1) := by decide +kernel
theorem dX7_runScript_133 : decode cX7_runScript 133 = .ok (.iinc 6 1, 3) := by decide +kernel
theorem dX7_runScript_136 : decode cX7_runScript 136 = .ok (.goto (-54), 3) := by decide +kernel
theorem dX7_runScript_139 : decode cX7_runScript 139 = .ok (.iconst (-1), 1) := by decide +kernel
theorem dX7_runScript_140 : decode cX7_runScript 140 = .ok (.ireturn, 1) := by decide +kernel
theorem dX7_simulate_0 : decode cX7_simulate 0 = .ok (.iload_n 3, 1) := by decide +kernel
theorem dX7_simulate_1 : decode cX7_simulate 1 = .ok (.iconst 1, 1) := by decide +kernel
theorem dX7_simulate_2 : decode cX7_simulate 2 = .ok (.bipush 60, 2) := by decide +kernel
theorem dX7_simulate_4 : decode cX7_simulate 4 = .ok (.invokestatic 44, 3) := by decide +kernel
theorem dX7_simulate_7 : decode cX7_simulate 7 = .ok (.ifCond .ne 13, 3) := by decide +kernel
theorem dX7_simulate_10 : decode cX7_simulate 10 = .ok (.new 48, 3) := by decide +kernel
theorem dX7_simulate_13 : decode cX7_simulate 13 = .ok (.dup, 1) := by decide +kernel
theorem dX7_simulate_14 : decode cX7_simulate 14 = .ok (.ldc 248, 2) := by decide +kernel
theorem dX7_simulate_16 : decode cX7_simulate 16 = .ok (.invokespecial 52, 3) := by decide +kernel
theorem dX7_simulate_19 : decode cX7_simulate 19 = .ok (.athrow, 1) := by decide +kernel
theorem dX7_simulate_20 : decode cX7_simulate 20 = .ok (.aload_n 0, 1) := by decide +kernel
theorem dX7_simulate_21 : decode cX7_simulate 21 = .ok (.getfield 16, 3) := by decide +kernel
theorem dX7_simulate_24 : decode cX7_simulate 24 = .ok (.aload_n 0, 1) := by decide +kernel
theorem dX7_simulate_25 : decode cX7_simulate 25 = .ok (.getfield 10, 3) := by decide +kernel
theorem dX7_simulate_28 : decode cX7_simulate 28 = .ok (.invokevirtual 239, 3) := by decide +kernel
theorem dX7_simulate_31 : decode cX7_simulate 31 = .ok (.lload_n 1, 1) := by decide +kernel
theorem dX7_simulate_32 : decode cX7_simulate 32 = .ok (.lstore 4, 2) := by decide +kernel
theorem dX7_simulate_34 : decode cX7_simulate 34 = .ok (.iconst 0, 1) := by decide +kernel
theorem dX7_simulate_35 : decode cX7_simulate 35 = .ok (.istore 6, 2) := by decide +kernel
theorem dX7_simulate_37 : decode cX7_simulate 37 = .ok (.iload 6, 2) := by decide +kernel
theorem dX7_simulate_39 : decode cX7_simulate 39 = .ok (.iload_n 3, 1) := by decide +kernel
theorem dX7_simulate_40 : decode cX7_simulate 40 = .ok (.if_icmp .ge 35, 3) := by decide +kernel
theorem dX7_simulate_43 : decode cX7_simulate 43 = .ok (.lload 4, 2) := by decide +kernel
theorem dX7_simulate_45 : decode cX7_simulate 45 = .ok (.ldc2_w 250, 3) := by decide +kernel
theorem dX7_simulate_48 : decode cX7_simulate 48 = .ok (.lmul, 1) := by decide +kernel
theorem dX7_simulate_49 : decode cX7_simulate 49 = .ok (.ldc2_w 252, 3) := by decide +kernel
theorem dX7_simulate_52 : decode cX7_simulate 52 = .ok (.ladd, 1) := by decide +kernel
theorem dX7_simulate_53 : decode cX7_simulate 53 = .ok (.lstore 4, 2) := by decide +kernel
theorem dX7_simulate_55 : decode cX7_simulate 55 = .ok (.aload_n 0, 1) := by decide +kernel
theorem dX7_simulate_56 : decode cX7_simulate 56 = .ok (.getfield 16, 3) := by decide +kernel
theorem dX7_simulate_59 : decode cX7_simulate 59 = .ok (.lload 4, 2) := by decide +kernel
theorem dX7_simulate_61 : decode cX7_simulate 61 = .ok (.bipush 33, 2) := by decide +kernel
theorem dX7_simulate_63 : decode cX7_simulate 63 = .ok (.lushr, 1) := by decide +kernel
theorem dX7_simulate_64 : decode cX7_simulate 64 = .ok (.l2i, 1) := by decide +kernel
theorem dX7_simulate_65 : decode cX7_simulate 65 = .ok (.invokestatic 254, 3) := by decide +kernel
theorem dX7_simulate_68 : decode cX7_simulate 68 = .ok (.pop, 1) := by decide +kernel
theorem dX7_simulate_69 : decode cX7_simulate 69 = .ok (.iinc 6 1, 3) := by decide +kernel
theorem dX7_simulate_72 : decode cX7_simulate 72 = .ok (.goto (-35), 3) := by decide +kernel
theorem dX7_simulate_75 : decode cX7_simulate 75 = .ok (.aload_n 0, 1) := by decide +kernel
theorem dX7_simulate_76 : decode cX7_simulate 76 = .ok (.getfield 16, 3) := by decide +kernel
theorem dX7_simulate_79 : decode cX7_simulate 79 = .ok (.getfield 260, 3) := by decide +kernel
theorem dX7_simulate_82 : decode cX7_simulate 82 = .ok (.aload_n 0, 1) := by decide +kernel
theorem dX7_simulate_83 : decode cX7_simulate 83 = .ok (.getfield 10, 3) := by decide +kernel
theorem dX7_simulate_86 : decode cX7_simulate 86 = .ok (.getfield 260, 3) := by decide +kernel
theorem dX7_simulate_89 : decode cX7_simulate 89 = .ok (.isub, 1) := by decide +kernel
theorem dX7_simulate_90 : decode cX7_simulate 90 = .ok (.istore 6, 2) := by decide +kernel
theorem dX7_simulate_92 : decode cX7_simulate 92 = .ok (.sipush 1000, 3) := by decide +kernel
theorem dX7_simulate_95 : decode cX7_simulate 95 = .ok (.iload 6, 2) := by decide +kernel
theorem dX7_simulate_97 : decode cX7_simulate 97 = .ok (.sipush 1000, 3) := by decide +kernel
theorem dX7_simulate_100 : decode cX7_simulate 100 = .ok (.irem, 1) := by decide +kernel
theorem dX7_simulate_101 : decode cX7_simulate 101 = .ok (.imul, 1) := by decide +kernel
theorem dX7_simulate_102 : decode cX7_simulate 102 = .ok (.bipush 10, 2) := by decide +kernel
theorem dX7_simulate_104 : decode cX7_simulate 104 = .ok (.aload_n 0, 1) := by decide +kernel
theorem dX7_simulate_105 : decode cX7_simulate 105 = .ok (.getfield 16, 3) := by decide +kernel
theorem dX7_simulate_108 : decode cX7_simulate 108 = .ok (.invokevirtual 263, 3) := by decide +kernel
theorem dX7_simulate_111 : decode cX7_simulate 111 = .ok (.imul, 1) := by decide +kernel
theorem dX7_simulate_112 : decode cX7_simulate 112 = .ok (.iadd, 1) := by decide +kernel
theorem dX7_simulate_113 : decode cX7_simulate 113 = .ok (.aload_n 0, 1) := by decide +kernel
theorem dX7_simulate_114 : decode cX7_simulate 114 = .ok (.getfield 16, 3) := by decide +kernel
theorem dX7_simulate_117 : decode cX7_simulate 117 = .ok (.invokevirtual 266, 3) := by decide +kernel
theorem dX7_simulate_120 : decode cX7_simulate 120 = .ok (.iadd, 1) := by decide +kernel
theorem dX7_simulate_121 : decode cX7_simulate 121 = .ok (.ireturn, 1) := by decide +kernel
theorem dX7_save_0 : decode cX7_save 0 = .ok (.aload_n 0, 1) := by decide +kernel
theorem dX7_save_1 : decode cX7_save 1 = .ok (.iload_n 1, 1) := by decide +kernel
theorem dX7_save_2 : decode cX7_save 2 = .ok (.invokevirtual 269, 3) := by decide +kernel
theorem dX7_save_5 : decode cX7_save 5 = .ok (.ifCond .ne 14, 3) := by decide +kernel
theorem dX7_save_8 : decode cX7_save 8 = .ok (.new 108, 3) := by decide +kernel
theorem dX7_save_11 : decode cX7_save 11 = .ok (.dup, 1) := by decide +kernel
theorem dX7_save_12 : decode cX7_save 12 = .ok (.ldc_w 272, 3) := by decide +kernel
theorem dX7_save_15 : decode cX7_save 15 = .ok (.invokespecial 112, 3) := by decide +kernel
theorem dX7_save_18 : decode cX7_save 18 = .ok (.athrow, 1) := by decide +kernel
theorem dX7_save_19 : decode cX7_save 19 = .ok (.aload_n 0, 1) := by decide +kernel
theorem dX7_save_20 : decode cX7_save 20 = .ok (.getfield 26, 3) := by decide +kernel
theorem dX7_save_23 : decode cX7_save 23 = .ok (.iload_n 1, 1) := by decide +kernel
theorem dX7_save_24 : decode cX7_save 24 = .ok (.aaload, 1) := by decide +kernel
theorem dX7_save_25 : decode cX7_save 25 = .ok (.astore_n 2, 1) := by decide +kernel
theorem dX7_save_26 : decode cX7_save 26 = .ok (.aload_n 2, 1) := by decide +kernel
theorem dX7_save_27 : decode cX7_save 27 = .ok (.ifnull 18, 3) := by decide +kernel
theorem dX7_save_30 : decode cX7_save 30 = .ok (.aload_n 2, 1) := by decide +kernel
theorem dX7_save_31 : decode cX7_save 31 = .ok (.aload_n 0, 1) := by decide +kernel
theorem dX7_save_32 : decode cX7_save 32 = .ok (.getfield 10, 3) := by decide +kernel
theorem dX7_save_35 : decode cX7_save 35 = .ok (.invokevirtual 239, 3) := by decide +kernel
theorem dX7_save_38 : decode cX7_save 38 = .ok (.aload_n 0, 1) := by decide +kernel
theorem dX7_save_39 : decode cX7_save 39 = .ok (.getfield 30, 3) := by decide +kernel
theorem dX7_save_42 : decode cX7_save 42 = .ok (.iload_n 1, 1) := by decide +kernel
theorem dX7_save_43 : decode cX7_save 43 = .ok (.iconst 1, 1) := by decide +kernel
theorem dX7_save_44 : decode cX7_save 44 = .ok (.bastore, 1) := by decide +kernel
theorem dX7_save_45 : decode cX7_save 45 = .ok (.aload_n 0, 1) := by decide +kernel
theorem dX7_save_46 : decode cX7_save 46 = .ok (.getfield 10, 3) := by decide +kernel
theorem dX7_save_49 : decode cX7_save 49 = .ok (.getfield 223, 3) := by decide +kernel
theorem dX7_save_52 : decode cX7_save 52 = .ok (.ireturn, 1) := by decide +kernel
theorem dX7_restore_0 : decode cX7_restore 0 = .ok (.aload_n 0, 1) := by decide +kernel
theorem dX7_restore_1 : decode cX7_restore 1 = .ok (.iload_n 1, 1) := by decide +kernel
theorem dX7_restore_2 : decode cX7_restore 2 = .ok (.invokevirtual 269, 3) := by decide +kernel
theorem dX7_restore_5 : decode cX7_restore 5 = .ok (.ifCond .ne 14, 3) := by decide +kernel
theorem dX7_restore_8 : decode cX7_restore 8 = .ok (.new 108, 3) := by decide +kernel
theorem dX7_restore_11 : decode cX7_restore 11 = .ok (.dup, 1) := by decide +kernel
theorem dX7_restore_12 : decode cX7_restore 12 = .ok (.ldc_w 272, 3) := by decide +kernel
theorem dX7_restore_15 : decode cX7_restore 15 = .ok (.invokespecial 112, 3) := by decide +kernel
theorem dX7_restore_18 : decode cX7_restore 18 = .ok (.athrow, 1) := by decide +kernel
theorem dX7_restore_19 : decode cX7_restore 19 = .ok (.aload_n 0, 1) := by decide +kernel
theorem dX7_restore_20 : decode cX7_restore 20 = .ok (.getfield 26, 3) := by decide +kernel
theorem dX7_restore_23 : decode cX7_restore 23 = .ok (.iload_n 1, 1) := by decide +kernel
theorem dX7_restore_24 : decode cX7_restore 24 = .ok (.aaload, 1) := by decide +kernel
theorem dX7_restore_25 : decode cX7_restore 25 = .ok (.astore_n 2, 1) := by decide +kernel
theorem dX7_restore_26 : decode cX7_restore 26 = .ok (.aload_n 0, 1) := by decide +kernel
theorem dX7_restore_27 : decode cX7_restore 27 = .ok (.getfield 30, 3) := by decide +kernel
theorem dX7_restore_30 : decode cX7_restore 30 = .ok (.iload_n 1, 1) := by decide +kernel
theorem dX7_restore_31 : decode cX7_restore 31 = .ok (.baload, 1) := by decide +kernel
theorem dX7_restore_32 : decode cX7_restore 32 = .ok (.ifCond .eq 7, 3) := by decide +kernel
theorem dX7_restore_35 : decode cX7_restore 35 = .ok (.aload_n 2, 1) := by decide +kernel
theorem dX7_restore_36 : decode cX7_restore 36 = .ok (.ifnonnull 14, 3) := by decide +kernel
theorem dX7_restore_39 : decode cX7_restore 39 = .ok (.new 59, 3) := by decide +kernel
theorem dX7_restore_42 : decode cX7_restore 42 = .ok (.dup, 1) := by decide +kernel
theorem dX7_restore_43 : decode cX7_restore 43 = .ok (.ldc_w 274, 3) := by decide +kernel
theorem dX7_restore_46 : decode cX7_restore 46 = .ok (.invokespecial 63, 3) := by decide +kernel
theorem dX7_restore_49 : decode cX7_restore 49 = .ok (.athrow, 1) := by decide +kernel
theorem dX7_restore_50 : decode cX7_restore 50 = .ok (.aload_n 0, 1) := by decide +kernel
theorem dX7_restore_51 : decode cX7_restore 51 = .ok (.getfield 10, 3) := by decide +kernel
theorem dX7_restore_54 : decode cX7_restore 54 = .ok (.aload_n 2, 1) := by decide +kernel
theorem dX7_restore_55 : decode cX7_restore 55 = .ok (.invokevirtual 239, 3) := by decide +kernel
theorem dX7_restore_58 : decode cX7_restore 58 = .ok (.aload_n 0, 1) := by decide +kernel
theorem dX7_restore_59 : decode cX7_restore 59 = .ok (.getfield 22, 3) := by decide +kernel
theorem dX7_restore_62 : decode cX7_restore 62 = .ok (.invokevirtual 77, 3) := by decide +kernel
theorem dX7_restore_65 : decode cX7_restore 65 = .ok (.aload_n 0, 1) := by decide +kernel
theorem dX7_restore_66 : decode cX7_restore 66 = .ok (.getfield 10, 3) := by decide +kernel
theorem dX7_restore_69 : decode cX7_restore 69 = .ok (.getfield 223, 3) := by decide +kernel
theorem dX7_restore_72 : decode cX7_restore 72 = .ok (.ireturn, 1) := by decide +kernel
theorem dX7_isSlot_0 : decode cX7_isSlot 0 = .ok (.iload_n 1, 1) := by decide +kernel
theorem dX7_isSlot_1 : decode cX7_isSlot 1 = .ok (.ifCond .lt 25, 3) := by decide +kernel
theorem dX7_isSlot_4 : decode cX7_isSlot 4 = .ok (.iload_n 1, 1) := by decide +kernel
theorem dX7_isSlot_5 : decode cX7_isSlot 5 = .ok (.aload_n 0, 1) := by decide +kernel
theorem dX7_isSlot_6 : decode cX7_isSlot 6 = .ok (.getfield 26, 3) := by decide +kernel
theorem dX7_isSlot_9 : decode cX7_isSlot 9 = .ok (.arraylength, 1) := by decide +kernel
theorem dX7_isSlot_10 : decode cX7_isSlot 10 = .ok (.if_icmp .ge 16, 3) := by decide +kernel
theorem dX7_isSlot_13 : decode cX7_isSlot 13 = .ok (.iload_n 1, 1) := by decide +kernel
theorem dX7_isSlot_14 : decode cX7_isSlot 14 = .ok (.aload_n 0, 1) := by decide +kernel
theorem dX7_isSlot_15 : decode cX7_isSlot 15 = .ok (.getfield 30, 3) := by decide +kernel
theorem dX7_isSlot_18 : decode cX7_isSlot 18 = .ok (.arraylength, 1) := by decide +kernel
theorem dX7_isSlot_19 : decode cX7_isSlot 19 = .ok (.if_icmp .ge 7, 3) := by decide +kernel
theorem dX7_isSlot_22 : decode cX7_isSlot 22 = .ok (.iconst 1, 1) := by decide +kernel
theorem dX7_isSlot_23 : decode cX7_isSlot 23 = .ok (.goto 4, 3) := by decide +kernel
theorem dX7_isSlot_26 : decode cX7_isSlot 26 = .ok (.iconst 0, 1) := by decide +kernel
theorem dX7_isSlot_27 : decode cX7_isSlot 27 = .ok (.ireturn, 1) := by decide +kernel
theorem dX7_isIn_0 : decode cX7_isIn 0 = .ok (.iload_n 0, 1) := by decide +kernel
theorem dX7_isIn_1 : decode cX7_isIn 1 = .ok (.iload_n 1, 1) := by decide +kernel
theorem dX7_isIn_2 : decode cX7_isIn 2 = .ok (.if_icmp .lt 12, 3) := by decide +kernel
theorem dX7_isIn_5 : decode cX7_isIn 5 = .ok (.iload_n 0, 1) := by decide +kernel
theorem dX7_isIn_6 : decode cX7_isIn 6 = .ok (.iload_n 2, 1) := by decide +kernel
theorem dX7_isIn_7 : decode cX7_isIn 7 = .ok (.if_icmp .gt 7, 3) := by decide +kernel
theorem dX7_isIn_10 : decode cX7_isIn 10 = .ok (.iconst 1, 1) := by decide +kernel
theorem dX7_isIn_11 : decode cX7_isIn 11 = .ok (.goto 4, 3) := by decide +kernel
theorem dX7_isIn_14 : decode cX7_isIn 14 = .ok (.iconst 0, 1) := by decide +kernel
theorem dX7_isIn_15 : decode cX7_isIn 15 = .ok (.ireturn, 1) := by decide +kernel
theorem dX7_isCorner_0 : decode cX7_isCorner 0 = .ok (.iload_n 0, 1) := by decide +kernel
theorem dX7_isCorner_1 : decode cX7_isCorner 1 = .ok (.iconst 0, 1) := by decide +kernel
theorem dX7_isCorner_2 : decode cX7_isCorner 2 = .ok (.bipush 11, 2) := by decide +kernel
theorem dX7_isCorner_4 : decode cX7_isCorner 4 = .ok (.invokestatic 44, 3) := by decide +kernel
theorem dX7_isCorner_7 : decode cX7_isCorner 7 = .ok (.ireturn, 1) := by decide +kernel
theorem dX7_isFinder_0 : decode cX7_isFinder 0 = .ok (.iload_n 0, 1) := by decide +kernel
theorem dX7_isFinder_1 : decode cX7_isFinder 1 = .ok (.iconst 0, 1) := by decide +kernel
theorem dX7_isFinder_2 : decode cX7_isFinder 2 = .ok (.bipush 7, 2) := by decide +kernel
theorem dX7_isFinder_4 : decode cX7_isFinder 4 = .ok (.invokestatic 44, 3) := by decide +kernel
theorem dX7_isFinder_7 : decode cX7_isFinder 7 = .ok (.ireturn, 1) := by decide +kernel
theorem dX7_hasBit_0 : decode cX7_hasBit 0 = .ok (.iload_n 0, 1) := by decide +kernel
theorem dX7_hasBit_1 : decode cX7_hasBit 1 = .ok (.iload_n 1, 1) := by decide +kernel
theorem dX7_hasBit_2 : decode cX7_hasBit 2 = .ok (.ishr, 1) := by decide +kernel
theorem dX7_hasBit_3 : decode cX7_hasBit 3 = .ok (.iconst 1, 1) := by decide +kernel
theorem dX7_hasBit_4 : decode cX7_hasBit 4 = .ok (.iand, 1) := by decide +kernel
theorem dX7_hasBit_5 : decode cX7_hasBit 5 = .ok (.ifCond .eq 7, 3) := by decide +kernel
theorem dX7_hasBit_8 : decode cX7_hasBit 8 = .ok (.iconst 1, 1) := by decide +kernel
theorem dX7_hasBit_9 : decode cX7_hasBit 9 = .ok (.goto 4, 3) := by decide +kernel
theorem dX7_hasBit_12 : decode cX7_hasBit 12 = .ok (.iconst 0, 1) := by decide +kernel
theorem dX7_hasBit_13 : decode cX7_hasBit 13 = .ok (.ireturn, 1) := by decide +kernel
theorem dX7_throwFor_0 : decode cX7_throwFor 0 = .ok (.iload_n 0, 1) := by decide +kernel
theorem dX7_throwFor_1 : decode cX7_throwFor 1 = .ok (.tableswitch 60 1 3 #[27, 38, 49], 27) := by decide +kernel
theorem dX7_throwFor_28 : decode cX7_throwFor 28 = .ok (.new 108, 3) := by decide +kernel
theorem dX7_throwFor_31 : decode cX7_throwFor 31 = .ok (.dup, 1) := by decide +kernel
theorem dX7_throwFor_32 : decode cX7_throwFor 32 = .ok (.ldc_w 276, 3) := by decide +kernel
theorem dX7_throwFor_35 : decode cX7_throwFor 35 = .ok (.invokespecial 112, 3) := by decide +kernel
theorem dX7_throwFor_38 : decode cX7_throwFor 38 = .ok (.athrow, 1) := by decide +kernel
theorem dX7_throwFor_39 : decode cX7_throwFor 39 = .ok (.new 48, 3) := by decide +kernel
theorem dX7_throwFor_42 : decode cX7_throwFor 42 = .ok (.dup, 1) := by decide +kernel
theorem dX7_throwFor_43 : decode cX7_throwFor 43 = .ok (.ldc_w 278, 3) := by decide +kernel
theorem dX7_throwFor_46 : decode cX7_throwFor 46 = .ok (.invokespecial 52, 3) := by decide +kernel
theorem dX7_throwFor_49 : decode cX7_throwFor 49 = .ok (.athrow, 1) := by decide +kernel
theorem dX7_throwFor_50 : decode cX7_throwFor 50 = .ok (.new 59, 3) := by decide +kernel
theorem dX7_throwFor_53 : decode cX7_throwFor 53 = .ok (.dup, 1) := by decide +kernel
theorem dX7_throwFor_54 : decode cX7_throwFor 54 = .ok (.ldc_w 280, 3) := by decide +kernel
theorem dX7_throwFor_57 : decode cX7_throwFor 57 = .ok (.invokespecial 63, 3) := by decide +kernel
theorem dX7_throwFor_60 : decode cX7_throwFor 60 = .ok (.athrow, 1) := by decide +kernel
theorem dX7_throwFor_61 : decode cX7_throwFor 61 = .ok (.return_, 1) := by decide +kernel
theorem dJ6_bitCount_0f7a4_0 : decode cJ6_bitCount_0f7a4 0 = .ok (.iload_n 0, 1) := by decide +kernel
theorem dJ6_bitCount_0f7a4_1 : decode cJ6_bitCount_0f7a4 1 = .ok (.iload_n 0, 1) := by decide +kernel
theorem dJ6_bitCount_0f7a4_2 : decode cJ6_bitCount_0f7a4 2 = .ok (.iconst 1, 1) := by decide +kernel
theorem dJ6_bitCount_0f7a4_3 : decode cJ6_bitCount_0f7a4 3 = .ok (.iushr, 1) := by decide +kernel
theorem dJ6_bitCount_0f7a4_4 : decode cJ6_bitCount_0f7a4 4 = .ok (.ldc_w 265, 3) := by decide +kernel
theorem dJ6_bitCount_0f7a4_7 : decode cJ6_bitCount_0f7a4 7 = .ok (.iand, 1) := by decide +kernel
theorem dJ6_bitCount_0f7a4_8 : decode cJ6_bitCount_0f7a4 8 = .ok (.isub, 1) := by decide +kernel
theorem dJ6_bitCount_0f7a4_9 : decode cJ6_bitCount_0f7a4 9 = .ok (.istore_n 0, 1) := by decide +kernel
theorem dJ6_bitCount_0f7a4_10 : decode cJ6_bitCount_0f7a4 10 = .ok (.iload_n 0, 1) := by decide +kernel
theorem dJ6_bitCount_0f7a4_11 : decode cJ6_bitCount_0f7a4 11 = .ok (.ldc_w 266, 3) := by decide +kernel
theorem dJ6_bitCount_0f7a4_14 : decode cJ6_bitCount_0f7a4 14 = .ok (.iand, 1) := by decide +kernel
theorem dJ6_bitCount_0f7a4_15 : decode cJ6_bitCount_0f7a4 15 = .ok (.iload_n 0, 1) := by decide +kernel
theorem dJ6_bitCount_0f7a4_16 : decode cJ6_bitCount_0f7a4 16 = .ok (.iconst 2, 1) := by decide +kernel
theorem dJ6_bitCount_0f7a4_17 : decode cJ6_bitCount_0f7a4 17 = .ok (.iushr, 1) := by decide +kernel
theorem dJ6_bitCount_0f7a4_18 : decode cJ6_bitCount_0f7a4 18 = .ok (.ldc_w 266, 3) := by decide +kernel
theorem dJ6_bitCount_0f7a4_21 : decode cJ6_bitCount_0f7a4 21 = .ok (.iand, 1) := by decide +kernel
theorem dJ6_bitCount_0f7a4_22 : decode cJ6_bitCount_0f7a4 22 = .ok (.iadd, 1) := by decide +kernel
theorem dJ6_bitCount_0f7a4_23 : decode cJ6_bitCount_0f7a4 23 = .ok (.istore_n 0, 1) := by decide +kernel
theorem dJ6_bitCount_0f7a4_24 : decode cJ6_bitCount_0f7a4 24 = .ok (.iload_n 0, 1) := by decide +kernel
theorem dJ6_bitCount_0f7a4_25 : decode cJ6_bitCount_0f7a4 25 = .ok (.iload_n 0, 1) := by decide +kernel
theorem dJ6_bitCount_0f7a4_26 : decode cJ6_bitCount_0f7a4 26 = .ok (.iconst 4, 1) := by decide +kernel
theorem dJ6_bitCount_0f7a4_27 : decode cJ6_bitCount_0f7a4 27 = .ok (.iushr, 1) := by decide +kernel
theorem dJ6_bitCount_0f7a4_28 : decode cJ6_bitCount_0f7a4 28 = .ok (.iadd, 1) := by decide +kernel
theorem dJ6_bitCount_0f7a4_29 : decode cJ6_bitCount_0f7a4 29 = .ok (.ldc_w 267, 3) := by decide +kernel
theorem dJ6_bitCount_0f7a4_32 : decode cJ6_bitCount_0f7a4 32 = .ok (.iand, 1) := by decide +kernel
theorem dJ6_bitCount_0f7a4_33 : decode cJ6_bitCount_0f7a4 33 = .ok (.istore_n 0, 1) := by decide +kernel
theorem dJ6_bitCount_0f7a4_34 : decode cJ6_bitCount_0f7a4 34 = .ok (.iload_n 0, 1) := by decide +kernel
theorem dJ6_bitCount_0f7a4_35 : decode cJ6_bitCount_0f7a4 35 = .ok (.iload_n 0, 1) := by decide +kernel
theorem dJ6_bitCount_0f7a4_36 : decode cJ6_bitCount_0f7a4 36 = .ok (.bipush 8, 2) := by decide +kernel
theorem dJ6_bitCount_0f7a4_38 : decode cJ6_bitCount_0f7a4 38 = .ok (.iushr, 1) := by decide +kernel
theorem dJ6_bitCount_0f7a4_39 : decode cJ6_bitCount_0f7a4 39 = .ok (.iadd, 1) := by decide +kernel
theorem dJ6_bitCount_0f7a4_40 : decode cJ6_bitCount_0f7a4 40 = .ok (.istore_n 0, 1) := by decide +kernel
theorem dJ6_bitCount_0f7a4_41 : decode cJ6_bitCount_0f7a4 41 = .ok (.iload_n 0, 1) := by decide +kernel
theorem dJ6_bitCount_0f7a4_42 : decode cJ6_bitCount_0f7a4 42 = .ok (.iload_n 0, 1) := by decide +kernel
theorem dJ6_bitCount_0f7a4_43 : decode cJ6_bitCount_0f7a4 43 = .ok (.bipush 16, 2) := by decide +kernel
theorem dJ6_bitCount_0f7a4_45 : decode cJ6_bitCount_0f7a4 45 = .ok (.iushr, 1) := by decide +kernel
theorem dJ6_bitCount_0f7a4_46 : decode cJ6_bitCount_0f7a4 46 = .ok (.iadd, 1) := by decide +kernel
theorem dJ6_bitCount_0f7a4_47 : decode cJ6_bitCount_0f7a4 47 = .ok (.istore_n 0, 1) := by decide +kernel
theorem dJ6_bitCount_0f7a4_48 : decode cJ6_bitCount_0f7a4 48 = .ok (.iload_n 0, 1) := by decide +kernel
theorem dJ6_bitCount_0f7a4_49 : decode cJ6_bitCount_0f7a4 49 = .ok (.bipush 63, 2) := by decide +kernel
theorem dJ6_bitCount_0f7a4_51 : decode cJ6_bitCount_0f7a4 51 = .ok (.iand, 1) := by decide +kernel
theorem dJ6_bitCount_0f7a4_52 : decode cJ6_bitCount_0f7a4 52 = .ok (.ireturn, 1) := by decide +kernel
theorem dJ9_abs_0f7a4_0 : decode cJ9_abs_0f7a4 0 = .ok (.iload_n 0, 1) := by decide +kernel
theorem dJ9_abs_0f7a4_1 : decode cJ9_abs_0f7a4 1 = .ok (.ifCond .ge 8, 3) := by decide +kernel
theorem dJ9_abs_0f7a4_4 : decode cJ9_abs_0f7a4 4 = .ok (.iload_n 0, 1) := by decide +kernel
theorem dJ9_abs_0f7a4_5 : decode cJ9_abs_0f7a4 5 = .ok (.ineg, 1) := by decide +kernel
theorem dJ9_abs_0f7a4_6 : decode cJ9_abs_0f7a4 6 = .ok (.goto 4, 3) := by decide +kernel
theorem dJ9_abs_0f7a4_9 : decode cJ9_abs_0f7a4 9 = .ok (.iload_n 0, 1) := by decide +kernel
theorem dJ9_abs_0f7a4_10 : decode cJ9_abs_0f7a4 10 = .ok (.ireturn, 1) := by decide +kernel
theorem dJ9_max_7cf53_0 : decode cJ9_max_7cf53 0 = .ok (.iload_n 0, 1) := by decide +kernel
theorem dJ9_max_7cf53_1 : decode cJ9_max_7cf53 1 = .ok (.iload_n 1, 1) := by decide +kernel
theorem dJ9_max_7cf53_2 : decode cJ9_max_7cf53 2 = .ok (.if_icmp .lt 7, 3) := by decide +kernel
theorem dJ9_max_7cf53_5 : decode cJ9_max_7cf53 5 = .ok (.iload_n 0, 1) := by decide +kernel
theorem dJ9_max_7cf53_6 : decode cJ9_max_7cf53 6 = .ok (.goto 4, 3) := by decide +kernel
theorem dJ9_max_7cf53_9 : decode cJ9_max_7cf53 9 = .ok (.iload_n 1, 1) := by decide +kernel
theorem dJ9_max_7cf53_10 : decode cJ9_max_7cf53 10 = .ok (.ireturn, 1) := by decide +kernel
theorem dJ9_min_7cf53_0 : decode cJ9_min_7cf53 0 = .ok (.iload_n 0, 1) := by decide +kernel
theorem dJ9_min_7cf53_1 : decode cJ9_min_7cf53 1 = .ok (.iload_n 1, 1) := by decide +kernel
theorem dJ9_min_7cf53_2 : decode cJ9_min_7cf53 2 = .ok (.if_icmp .gt 7, 3) := by decide +kernel
theorem dJ9_min_7cf53_5 : decode cJ9_min_7cf53 5 = .ok (.iload_n 0, 1) := by decide +kernel
theorem dJ9_min_7cf53_6 : decode cJ9_min_7cf53 6 = .ok (.goto 4, 3) := by decide +kernel
theorem dJ9_min_7cf53_9 : decode cJ9_min_7cf53 9 = .ok (.iload_n 1, 1) := by decide +kernel
theorem dJ9_min_7cf53_10 : decode cJ9_min_7cf53 10 = .ok (.ireturn, 1) := by decide +kernel
theorem dJ7_fill_53178_0 : decode cJ7_fill_53178 0 = .ok (.iconst 0, 1) := by decide +kernel
theorem dJ7_fill_53178_1 : decode cJ7_fill_53178 1 = .ok (.istore_n 2, 1) := by decide +kernel
theorem dJ7_fill_53178_2 : decode cJ7_fill_53178 2 = .ok (.aload_n 0, 1) := by decide +kernel
theorem dJ7_fill_53178_3 : decode cJ7_fill_53178 3 = .ok (.arraylength, 1) := by decide +kernel
theorem dJ7_fill_53178_4 : decode cJ7_fill_53178 4 = .ok (.istore_n 3, 1) := by decide +kernel
theorem dJ7_fill_53178_5 : decode cJ7_fill_53178 5 = .ok (.iload_n 2, 1) := by decide +kernel
theorem dJ7_fill_53178_6 : decode cJ7_fill_53178 6 = .ok (.iload_n 3, 1) := by decide +kernel
theorem dJ7_fill_53178_7 : decode cJ7_fill_53178 7 = .ok (.if_icmp .ge 13, 3) := by decide +kernel
theorem dJ7_fill_53178_10 : decode cJ7_fill_53178 10 = .ok (.aload_n 0, 1) := by decide +kernel
theorem dJ7_fill_53178_11 : decode cJ7_fill_53178 11 = .ok (.iload_n 2, 1) := by decide +kernel
theorem dJ7_fill_53178_12 : decode cJ7_fill_53178 12 = .ok (.iload_n 1, 1) := by decide +kernel
theorem dJ7_fill_53178_13 : decode cJ7_fill_53178 13 = .ok (.iastore, 1) := by decide +kernel
theorem dJ7_fill_53178_14 : decode cJ7_fill_53178 14 = .ok (.iinc 2 1, 3) := by decide +kernel
theorem dJ7_fill_53178_17 : decode cJ7_fill_53178 17 = .ok (.goto (-12), 3) := by decide +kernel
theorem dJ7_fill_53178_20 : decode cJ7_fill_53178 20 = .ok (.return_, 1) := by decide +kernel
theorem dL_loses_0 : decode cL_loses 0 = .ok (.aload_n 0, 1) := by decide +kernel
theorem dL_loses_1 : decode cL_loses 1 = .ok (.iload_n 1, 1) := by decide +kernel
theorem dL_loses_2 : decode cL_loses 2 = .ok (.iload_n 2, 1) := by decide +kernel
theorem dL_loses_3 : decode cL_loses 3 = .ok (.iload_n 3, 1) := by decide +kernel
theorem dL_loses_4 : decode cL_loses 4 = .ok (.iload 4, 2) := by decide +kernel
theorem dL_loses_6 : decode cL_loses 6 = .ok (.invokevirtual 7, 3) := by decide +kernel
theorem dL_loses_9 : decode cL_loses 9 = .ok (.ireturn, 1) := by decide +kernel
theorem dL_loses_10 : decode cL_loses 10 = .ok (.astore 5, 2) := by decide +kernel
theorem dL_loses_12 : decode cL_loses 12 = .ok (.ldc 15, 2) := by decide +kernel
theorem dL_loses_14 : decode cL_loses 14 = .ok (.ireturn, 1) := by decide +kernel
theorem dL_loses_15 : decode cL_loses 15 = .ok (.astore 5, 2) := by decide +kernel
theorem dL_loses_17 : decode cL_loses 17 = .ok (.ldc 18, 2) := by decide +kernel
theorem dL_loses_19 : decode cL_loses 19 = .ok (.ireturn, 1) := by decide +kernel
theorem dL_loses_20 : decode cL_loses 20 = .ok (.astore 5, 2) := by decide +kernel
theorem dL_loses_22 : decode cL_loses 22 = .ok (.ldc 21, 2) := by decide +kernel
theorem dL_loses_24 : decode cL_loses 24 = .ok (.ireturn, 1) := by decide +kernel
theorem dL_sights_0 : decode cL_sights 0 = .ok (.aload_n 0, 1) := by decide +kernel
theorem dL_sights_1 : decode cL_sights 1 = .ok (.iload_n 1, 1) := by decide +kernel
theorem dL_sights_2 : decode cL_sights 2 = .ok (.iload_n 2, 1) := by decide +kernel
theorem dL_sights_3 : decode cL_sights 3 = .ok (.iload_n 3, 1) := by decide +kernel
theorem dL_sights_4 : decode cL_sights 4 = .ok (.iload 4, 2) := by decide +kernel
theorem dL_sights_6 : decode cL_sights 6 = .ok (.iload 5, 2) := by decide +kernel
theorem dL_sights_8 : decode cL_sights 8 = .ok (.invokevirtual 22, 3) := by decide +kernel
theorem dL_sights_11 : decode cL_sights 11 = .ok (.ireturn, 1) := by decide +kernel
theorem dL_sights_12 : decode cL_sights 12 = .ok (.astore 6, 2) := by decide +kernel
theorem dL_sights_14 : decode cL_sights 14 = .ok (.ldc 15, 2) := by decide +kernel
theorem dL_sights_16 : decode cL_sights 16 = .ok (.ireturn, 1) := by decide +kernel
theorem dL_sights_17 : decode cL_sights 17 = .ok (.astore 6, 2) := by decide +kernel
theorem dL_sights_19 : decode cL_sights 19 = .ok (.ldc 18, 2) := by decide +kernel
theorem dL_sights_21 : decode cL_sights 21 = .ok (.ireturn, 1) := by decide +kernel
theorem dL_sights_22 : decode cL_sights 22 = .ok (.astore 6, 2) := by decide +kernel
theorem dL_sights_24 : decode cL_sights 24 = .ok (.ldc 21, 2) := by decide +kernel
theorem dL_sights_26 : decode cL_sights 26 = .ok (.ireturn, 1) := by decide +kernel
theorem dL_closes_0 : decode cL_closes 0 = .ok (.aload_n 0, 1) := by decide +kernel
theorem dL_closes_1 : decode cL_closes 1 = .ok (.iload_n 1, 1) := by decide +kernel
theorem dL_closes_2 : decode cL_closes 2 = .ok (.iload_n 2, 1) := by decide +kernel
theorem dL_closes_3 : decode cL_closes 3 = .ok (.iload_n 3, 1) := by decide +kernel
theorem dL_closes_4 : decode cL_closes 4 = .ok (.invokevirtual 26, 3) := by decide +kernel
theorem dL_closes_7 : decode cL_closes 7 = .ok (.ireturn, 1) := by decide +kernel
theorem dL_closes_8 : decode cL_closes 8 = .ok (.astore 4, 2) := by decide +kernel
theorem dL_closes_10 : decode cL_closes 10 = .ok (.ldc 15, 2) := by decide +kernel
theorem dL_closes_12 : decode cL_closes 12 = .ok (.ireturn, 1) := by decide +kernel
theorem dL_closes_13 : decode cL_closes 13 = .ok (.astore 4, 2) := by decide +kernel
theorem dL_closes_15 : decode cL_closes 15 = .ok (.ldc 18, 2) := by decide +kernel
theorem dL_closes_17 : decode cL_closes 17 = .ok (.ireturn, 1) := by decide +kernel
theorem dL_ifs_0 : decode cL_ifs 0 = .ok (.aload_n 0, 1) := by decide +kernel
theorem dL_ifs_1 : decode cL_ifs 1 = .ok (.iload_n 1, 1) := by decide +kernel
theorem dL_ifs_2 : decode cL_ifs 2 = .ok (.iload_n 2, 1) := by decide +kernel
theorem dL_ifs_3 : decode cL_ifs 3 = .ok (.iload_n 3, 1) := by decide +kernel
theorem dL_ifs_4 : decode cL_ifs 4 = .ok (.iload 4, 2) := by decide +kernel
theorem dL_ifs_6 : decode cL_ifs 6 = .ok (.invokevirtual 30, 3) := by decide +kernel
theorem dL_ifs_9 : decode cL_ifs 9 = .ok (.ireturn, 1) := by decide +kernel
theorem dL_ifs_10 : decode cL_ifs 10 = .ok (.astore 5, 2) := by decide +kernel
theorem dL_ifs_12 : decode cL_ifs 12 = .ok (.ldc 15, 2) := by decide +kernel
theorem dL_ifs_14 : decode cL_ifs 14 = .ok (.ireturn, 1) := by decide +kernel
theorem dL_ifs_15 : decode cL_ifs 15 = .ok (.astore 5, 2) := by decide +kernel
theorem dL_ifs_17 : decode cL_ifs 17 = .ok (.ldc 21, 2) := by decide +kernel
theorem dL_ifs_19 : decode cL_ifs 19 = .ok (.ireturn, 1) := by decide +kernel
theorem dL_doScript_0 : decode cL_doScript 0 = .ok (.aload_n 0, 1) := by decide +kernel
theorem dL_doScript_1 : decode cL_doScript 1 = .ok (.iload_n 1, 1) := by decide +kernel
theorem dL_doScript_2 : decode cL_doScript 2 = .ok (.lload_n 2, 1) := by decide +kernel
theorem dL_doScript_3 : decode cL_doScript 3 = .ok (.invokevirtual 33, 3) := by decide +kernel
theorem dL_doScript_6 : decode cL_doScript 6 = .ok (.ireturn, 1) := by decide +kernel
theorem dL_doScript_7 : decode cL_doScript 7 = .ok (.astore 4, 2) := by decide +kernel
theorem dL_doScript_9 : decode cL_doScript 9 = .ok (.ldc 18, 2) := by decide +kernel
theorem dL_doScript_11 : decode cL_doScript 11 = .ok (.ireturn, 1) := by decide +kernel
theorem dL_doSimulate_0 : decode cL_doSimulate 0 = .ok (.aload_n 0, 1) := by decide +kernel
theorem dL_doSimulate_1 : decode cL_doSimulate 1 = .ok (.lload_n 1, 1) := by decide +kernel
theorem dL_doSimulate_2 : decode cL_doSimulate 2 = .ok (.iload_n 3, 1) := by decide +kernel
theorem dL_doSimulate_3 : decode cL_doSimulate 3 = .ok (.invokevirtual 37, 3) := by decide +kernel
theorem dL_doSimulate_6 : decode cL_doSimulate 6 = .ok (.ireturn, 1) := by decide +kernel
theorem dL_doSimulate_7 : decode cL_doSimulate 7 = .ok (.astore 4, 2) := by decide +kernel
theorem dL_doSimulate_9 : decode cL_doSimulate 9 = .ok (.ldc 18, 2) := by decide +kernel
theorem dL_doSimulate_11 : decode cL_doSimulate 11 = .ok (.ireturn, 1) := by decide +kernel
theorem dL_tryAppend_0 : decode cL_tryAppend 0 = .ok (.aload_n 0, 1) := by decide +kernel
theorem dL_tryAppend_1 : decode cL_tryAppend 1 = .ok (.iload_n 1, 1) := by decide +kernel
theorem dL_tryAppend_2 : decode cL_tryAppend 2 = .ok (.invokevirtual 41, 3) := by decide +kernel
theorem dL_tryAppend_5 : decode cL_tryAppend 5 = .ok (.ireturn, 1) := by decide +kernel
theorem dL_tryAppend_6 : decode cL_tryAppend 6 = .ok (.astore_n 2, 1) := by decide +kernel
theorem dL_tryAppend_7 : decode cL_tryAppend 7 = .ok (.ldc 18, 2) := by decide +kernel
theorem dL_tryAppend_9 : decode cL_tryAppend 9 = .ok (.ireturn, 1) := by decide +kernel
theorem dL_tryAppend_10 : decode cL_tryAppend 10 = .ok (.astore_n 2, 1) := by decide +kernel
theorem dL_tryAppend_11 : decode cL_tryAppend 11 = .ok (.ldc 21, 2) := by decide +kernel
theorem dL_tryAppend_13 : decode cL_tryAppend 13 = .ok (.ireturn, 1) := by decide +kernel
theorem dL_tryLoad_0 : decode cL_tryLoad 0 = .ok (.aload_n 0, 1) := by decide +kernel
theorem dL_tryLoad_1 : decode cL_tryLoad 1 = .ok (.invokevirtual 45, 3) := by decide +kernel
theorem dL_tryLoad_4 : decode cL_tryLoad 4 = .ok (.ireturn, 1) := by decide +kernel
theorem dL_tryLoad_5 : decode cL_tryLoad 5 = .ok (.astore_n 1, 1) := by decide +kernel
theorem dL_tryLoad_6 : decode cL_tryLoad 6 = .ok (.ldc 21, 2) := by decide +kernel
theorem dL_tryLoad_8 : decode cL_tryLoad 8 = .ok (.ireturn, 1) := by decide +kernel
theorem dL_tryAbout_0 : decode cL_tryAbout 0 = .ok (.aload_n 0, 1) := by decide +kernel
theorem dL_tryAbout_1 : decode cL_tryAbout 1 = .ok (.iload_n 1, 1) := by decide +kernel
theorem dL_tryAbout_2 : decode cL_tryAbout 2 = .ok (.invokevirtual 49, 3) := by decide +kernel
theorem dL_tryAbout_5 : decode cL_tryAbout 5 = .ok (.ireturn, 1) := by decide +kernel
theorem dL_tryAbout_6 : decode cL_tryAbout 6 = .ok (.astore_n 2, 1) := by decide +kernel
theorem dL_tryAbout_7 : decode cL_tryAbout 7 = .ok (.ldc 18, 2) := by decide +kernel
theorem dL_tryAbout_9 : decode cL_tryAbout 9 = .ok (.ireturn, 1) := by decide +kernel
theorem dL_tryDog_0 : decode cL_tryDog 0 = .ok (.aload_n 0, 1) := by decide +kernel
theorem dL_tryDog_1 : decode cL_tryDog 1 = .ok (.iload_n 1, 1) := by decide +kernel
theorem dL_tryDog_2 : decode cL_tryDog 2 = .ok (.iload_n 2, 1) := by decide +kernel
theorem dL_tryDog_3 : decode cL_tryDog 3 = .ok (.invokevirtual 52, 3) := by decide +kernel
theorem dL_tryDog_6 : decode cL_tryDog 6 = .ok (.ireturn, 1) := by decide +kernel
theorem dL_tryDog_7 : decode cL_tryDog 7 = .ok (.astore_n 3, 1) := by decide +kernel
theorem dL_tryDog_8 : decode cL_tryDog 8 = .ok (.ldc 15, 2) := by decide +kernel
theorem dL_tryDog_10 : decode cL_tryDog 10 = .ok (.ireturn, 1) := by decide +kernel
theorem dL_tryDog_11 : decode cL_tryDog 11 = .ok (.astore_n 3, 1) := by decide +kernel
theorem dL_tryDog_12 : decode cL_tryDog 12 = .ok (.ldc 18, 2) := by decide +kernel
theorem dL_tryDog_14 : decode cL_tryDog 14 = .ok (.ireturn, 1) := by decide +kernel
theorem dL_trySeen_0 : decode cL_trySeen 0 = .ok (.aload_n 0, 1) := by decide +kernel
theorem dL_trySeen_1 : decode cL_trySeen 1 = .ok (.iload_n 1, 1) := by decide +kernel
theorem dL_trySeen_2 : decode cL_trySeen 2 = .ok (.iload_n 2, 1) := by decide +kernel
theorem dL_trySeen_3 : decode cL_trySeen 3 = .ok (.invokevirtual 56, 3) := by decide +kernel
theorem dL_trySeen_6 : decode cL_trySeen 6 = .ok (.ireturn, 1) := by decide +kernel
theorem dL_trySeen_7 : decode cL_trySeen 7 = .ok (.astore_n 3, 1) := by decide +kernel
theorem dL_trySeen_8 : decode cL_trySeen 8 = .ok (.ldc 15, 2) := by decide +kernel
theorem dL_trySeen_10 : decode cL_trySeen 10 = .ok (.ireturn, 1) := by decide +kernel
theorem dL_trySeen_11 : decode cL_trySeen 11 = .ok (.astore_n 3, 1) := by decide +kernel
theorem dL_trySeen_12 : decode cL_trySeen 12 = .ok (.ldc 18, 2) := by decide +kernel
theorem dL_trySeen_14 : decode cL_trySeen 14 = .ok (.ireturn, 1) := by decide +kernel
theorem dL_tryPurse_0 : decode cL_tryPurse 0 = .ok (.aload_n 0, 1) := by decide +kernel
theorem dL_tryPurse_1 : decode cL_tryPurse 1 = .ok (.iload_n 1, 1) := by decide +kernel
theorem dL_tryPurse_2 : decode cL_tryPurse 2 = .ok (.invokevirtual 59, 3) := by decide +kernel
theorem dL_tryPurse_5 : decode cL_tryPurse 5 = .ok (.ireturn, 1) := by decide +kernel
theorem dL_tryPurse_6 : decode cL_tryPurse 6 = .ok (.astore_n 2, 1) := by decide +kernel
theorem dL_tryPurse_7 : decode cL_tryPurse 7 = .ok (.ldc 15, 2) := by decide +kernel
theorem dL_tryPurse_9 : decode cL_tryPurse 9 = .ok (.ireturn, 1) := by decide +kernel
theorem dL_tryApart_0 : decode cL_tryApart 0 = .ok (.aload_n 0, 1) := by decide +kernel
theorem dL_tryApart_1 : decode cL_tryApart 1 = .ok (.iload_n 1, 1) := by decide +kernel
theorem dL_tryApart_2 : decode cL_tryApart 2 = .ok (.iload_n 2, 1) := by decide +kernel
theorem dL_tryApart_3 : decode cL_tryApart 3 = .ok (.iload_n 3, 1) := by decide +kernel
theorem dL_tryApart_4 : decode cL_tryApart 4 = .ok (.invokevirtual 62, 3) := by decide +kernel
theorem dL_tryApart_7 : decode cL_tryApart 7 = .ok (.ireturn, 1) := by decide +kernel
theorem dL_tryApart_8 : decode cL_tryApart 8 = .ok (.astore 4, 2) := by decide +kernel
theorem dL_tryApart_10 : decode cL_tryApart 10 = .ok (.ldc 15, 2) := by decide +kernel
theorem dL_tryApart_12 : decode cL_tryApart 12 = .ok (.ireturn, 1) := by decide +kernel
theorem dL_tryApart_13 : decode cL_tryApart 13 = .ok (.astore 4, 2) := by decide +kernel
theorem dL_tryApart_15 : decode cL_tryApart 15 = .ok (.ldc 18, 2) := by decide +kernel
theorem dL_tryApart_17 : decode cL_tryApart 17 = .ok (.ireturn, 1) := by decide +kernel
theorem dL_tryFind_0 : decode cL_tryFind 0 = .ok (.aload_n 0, 1) := by decide +kernel
theorem dL_tryFind_1 : decode cL_tryFind 1 = .ok (.iload_n 1, 1) := by decide +kernel
theorem dL_tryFind_2 : decode cL_tryFind 2 = .ok (.iload_n 2, 1) := by decide +kernel
theorem dL_tryFind_3 : decode cL_tryFind 3 = .ok (.iload_n 3, 1) := by decide +kernel
theorem dL_tryFind_4 : decode cL_tryFind 4 = .ok (.invokevirtual 66, 3) := by decide +kernel
theorem dL_tryFind_7 : decode cL_tryFind 7 = .ok (.ireturn, 1) := by decide +kernel
theorem dL_tryFind_8 : decode cL_tryFind 8 = .ok (.astore 4, 2) := by decide +kernel
theorem dL_tryFind_10 : decode cL_tryFind 10 = .ok (.ldc 15, 2) := by decide +kernel
theorem dL_tryFind_12 : decode cL_tryFind 12 = .ok (.ireturn, 1) := by decide +kernel
theorem dL_tryFind_13 : decode cL_tryFind 13 = .ok (.astore 4, 2) := by decide +kernel
theorem dL_tryFind_15 : decode cL_tryFind 15 = .ok (.ldc 21, 2) := by decide +kernel
theorem dL_tryFind_17 : decode cL_tryFind 17 = .ok (.ireturn, 1) := by decide +kernel
theorem dL_tryHours_0 : decode cL_tryHours 0 = .ok (.aload_n 0, 1) := by decide +kernel
theorem dL_tryHours_1 : decode cL_tryHours 1 = .ok (.iload_n 1, 1) := by decide +kernel
theorem dL_tryHours_2 : decode cL_tryHours 2 = .ok (.invokevirtual 69, 3) := by decide +kernel
theorem dL_tryHours_5 : decode cL_tryHours 5 = .ok (.ireturn, 1) := by decide +kernel
theorem dL_tryHours_6 : decode cL_tryHours 6 = .ok (.astore_n 2, 1) := by decide +kernel
theorem dL_tryHours_7 : decode cL_tryHours 7 = .ok (.ldc 18, 2) := by decide +kernel
theorem dL_tryHours_9 : decode cL_tryHours 9 = .ok (.ireturn, 1) := by decide +kernel
theorem dL_tryLay_0 : decode cL_tryLay 0 = .ok (.aload_n 0, 1) := by decide +kernel
theorem dL_tryLay_1 : decode cL_tryLay 1 = .ok (.iload_n 1, 1) := by decide +kernel
theorem dL_tryLay_2 : decode cL_tryLay 2 = .ok (.iload_n 2, 1) := by decide +kernel
theorem dL_tryLay_3 : decode cL_tryLay 3 = .ok (.invokevirtual 72, 3) := by decide +kernel
theorem dL_tryLay_6 : decode cL_tryLay 6 = .ok (.ireturn, 1) := by decide +kernel
theorem dL_tryLay_7 : decode cL_tryLay 7 = .ok (.astore_n 3, 1) := by decide +kernel
theorem dL_tryLay_8 : decode cL_tryLay 8 = .ok (.ldc 18, 2) := by decide +kernel
theorem dL_tryLay_10 : decode cL_tryLay 10 = .ok (.ireturn, 1) := by decide +kernel
theorem dL_tryUndo_0 : decode cL_tryUndo 0 = .ok (.aload_n 0, 1) := by decide +kernel
theorem dL_tryUndo_1 : decode cL_tryUndo 1 = .ok (.invokevirtual 75, 3) := by decide +kernel
theorem dL_tryUndo_4 : decode cL_tryUndo 4 = .ok (.ireturn, 1) := by decide +kernel
theorem dL_tryUndo_5 : decode cL_tryUndo 5 = .ok (.astore_n 1, 1) := by decide +kernel
theorem dL_tryUndo_6 : decode cL_tryUndo 6 = .ok (.ldc 21, 2) := by decide +kernel
theorem dL_tryUndo_8 : decode cL_tryUndo 8 = .ok (.ireturn, 1) := by decide +kernel
theorem dL_tryCanBe_0 : decode cL_tryCanBe 0 = .ok (.aload_n 0, 1) := by decide +kernel
theorem dL_tryCanBe_1 : decode cL_tryCanBe 1 = .ok (.iload_n 1, 1) := by decide +kernel
theorem dL_tryCanBe_2 : decode cL_tryCanBe 2 = .ok (.invokevirtual 78, 3) := by decide +kernel
theorem dL_tryCanBe_5 : decode cL_tryCanBe 5 = .ok (.ireturn, 1) := by decide +kernel
theorem dL_tryCanBe_6 : decode cL_tryCanBe 6 = .ok (.astore_n 2, 1) := by decide +kernel
theorem dL_tryCanBe_7 : decode cL_tryCanBe 7 = .ok (.ldc 15, 2) := by decide +kernel
theorem dL_tryCanBe_9 : decode cL_tryCanBe 9 = .ok (.ireturn, 1) := by decide +kernel
theorem dL_tryCanBe_10 : decode cL_tryCanBe 10 = .ok (.astore_n 2, 1) := by decide +kernel
theorem dL_tryCanBe_11 : decode cL_tryCanBe 11 = .ok (.ldc 21, 2) := by decide +kernel
theorem dL_tryCanBe_13 : decode cL_tryCanBe 13 = .ok (.ireturn, 1) := by decide +kernel
theorem dL_tryMeant_0 : decode cL_tryMeant 0 = .ok (.aload_n 0, 1) := by decide +kernel
theorem dL_tryMeant_1 : decode cL_tryMeant 1 = .ok (.iload_n 1, 1) := by decide +kernel
theorem dL_tryMeant_2 : decode cL_tryMeant 2 = .ok (.invokevirtual 81, 3) := by decide +kernel
theorem dL_tryMeant_5 : decode cL_tryMeant 5 = .ok (.ireturn, 1) := by decide +kernel
theorem dL_tryMeant_6 : decode cL_tryMeant 6 = .ok (.astore_n 2, 1) := by decide +kernel
theorem dL_tryMeant_7 : decode cL_tryMeant 7 = .ok (.ldc 18, 2) := by decide +kernel
theorem dL_tryMeant_9 : decode cL_tryMeant 9 = .ok (.ireturn, 1) := by decide +kernel
theorem dL_tryKeep_0 : decode cL_tryKeep 0 = .ok (.aload_n 0, 1) := by decide +kernel
theorem dL_tryKeep_1 : decode cL_tryKeep 1 = .ok (.iload_n 1, 1) := by decide +kernel
theorem dL_tryKeep_2 : decode cL_tryKeep 2 = .ok (.invokevirtual 84, 3) := by decide +kernel
theorem dL_tryKeep_5 : decode cL_tryKeep 5 = .ok (.ireturn, 1) := by decide +kernel
theorem dL_tryKeep_6 : decode cL_tryKeep 6 = .ok (.astore_n 2, 1) := by decide +kernel
theorem dL_tryKeep_7 : decode cL_tryKeep 7 = .ok (.ldc 15, 2) := by decide +kernel
theorem dL_tryKeep_9 : decode cL_tryKeep 9 = .ok (.ireturn, 1) := by decide +kernel
theorem dL_tryBack_0 : decode cL_tryBack 0 = .ok (.aload_n 0, 1) := by decide +kernel
theorem dL_tryBack_1 : decode cL_tryBack 1 = .ok (.iload_n 1, 1) := by decide +kernel
theorem dL_tryBack_2 : decode cL_tryBack 2 = .ok (.invokevirtual 87, 3) := by decide +kernel
theorem dL_tryBack_5 : decode cL_tryBack 5 = .ok (.ireturn, 1) := by decide +kernel
theorem dL_tryBack_6 : decode cL_tryBack 6 = .ok (.astore_n 2, 1) := by decide +kernel
theorem dL_tryBack_7 : decode cL_tryBack 7 = .ok (.ldc 15, 2) := by decide +kernel
theorem dL_tryBack_9 : decode cL_tryBack 9 = .ok (.ireturn, 1) := by decide +kernel
theorem dL_tryBack_10 : decode cL_tryBack 10 = .ok (.astore_n 2, 1) := by decide +kernel
theorem dL_tryBack_11 : decode cL_tryBack 11 = .ok (.ldc 21, 2) := by decide +kernel
theorem dL_tryBack_13 : decode cL_tryBack 13 = .ok (.ireturn, 1) := by decide +kernel
theorem dL_call_0 : decode cL_call 0 = .ok (.iload_n 1, 1) := by decide +kernel
theorem dL_call_1 : decode cL_call 1 = .ok (.tableswitch 162 0 13 #[71, 77, 82, 88, 95, 102, 108, 117, 126, 132, 139, 144, 150, 156], 71) := by decide +kernel
theorem dL_call_72 : decode cL_call 72 = .ok (.aload_n 0, 1) := by decide +kernel
theorem dL_call_73 : decode cL_call 73 = .ok (.iload_n 2, 1) := by decide +kernel
theorem dL_call_74 : decode cL_call 74 = .ok (.invokestatic 90, 3) := by decide +kernel
theorem dL_call_77 : decode cL_call 77 = .ok (.ireturn, 1) := by decide +kernel
theorem dL_call_78 : decode cL_call 78 = .ok (.aload_n 0, 1) := by decide +kernel
theorem dL_call_79 : decode cL_call 79 = .ok (.invokestatic 96, 3) := by decide +kernel
theorem dL_call_82 : decode cL_call 82 = .ok (.ireturn, 1) := by decide +kernel
theorem dL_call_83 : decode cL_call 83 = .ok (.aload_n 0, 1) := by decide +kernel
theorem dL_call_84 : decode cL_call 84 = .ok (.iload_n 2, 1) := by decide +kernel
theorem dL_call_85 : decode cL_call 85 = .ok (.invokestatic 100, 3) := by decide +kernel
theorem dL_call_88 : decode cL_call 88 = .ok (.ireturn, 1) := by decide +kernel
theorem dL_call_89 : decode cL_call 89 = .ok (.aload_n 0, 1) := by decide +kernel
theorem dL_call_90 : decode cL_call 90 = .ok (.iload_n 2, 1) := by decide +kernel
theorem dL_call_91 : decode cL_call 91 = .ok (.iload_n 3, 1) := by decide +kernel
theorem dL_call_92 : decode cL_call 92 = .ok (.invokestatic 103, 3) := by decide +kernel
theorem dL_call_95 : decode cL_call 95 = .ok (.ireturn, 1) := by decide +kernel
theorem dL_call_96 : decode cL_call 96 = .ok (.aload_n 0, 1) := by decide +kernel
theorem dL_call_97 : decode cL_call 97 = .ok (.iload_n 2, 1) := by decide +kernel
theorem dL_call_98 : decode cL_call 98 = .ok (.iload_n 3, 1) := by decide +kernel
theorem dL_call_99 : decode cL_call 99 = .ok (.invokestatic 107, 3) := by decide +kernel
theorem dL_call_102 : decode cL_call 102 = .ok (.ireturn, 1) := by decide +kernel
theorem dL_call_103 : decode cL_call 103 = .ok (.aload_n 0, 1) := by decide +kernel
theorem dL_call_104 : decode cL_call 104 = .ok (.iload_n 2, 1) := by decide +kernel
theorem dL_call_105 : decode cL_call 105 = .ok (.invokestatic 110, 3) := by decide +kernel
theorem dL_call_108 : decode cL_call 108 = .ok (.ireturn, 1) := by decide +kernel
theorem dL_call_109 : decode cL_call 109 = .ok (.aload_n 0, 1) := by decide +kernel
theorem dL_call_110 : decode cL_call 110 = .ok (.iload_n 2, 1) := by decide +kernel
theorem dL_call_111 : decode cL_call 111 = .ok (.iload_n 3, 1) := by decide +kernel
theorem dL_call_112 : decode cL_call 112 = .ok (.iload 4, 2) := by decide +kernel
theorem dL_call_114 : decode cL_call 114 = .ok (.invokestatic 113, 3) := by decide +kernel
theorem dL_call_117 : decode cL_call 117 = .ok (.ireturn, 1) := by decide +kernel
theorem dL_call_118 : decode cL_call 118 = .ok (.aload_n 0, 1) := by decide +kernel
theorem dL_call_119 : decode cL_call 119 = .ok (.iload_n 2, 1) := by decide +kernel
theorem dL_call_120 : decode cL_call 120 = .ok (.iload_n 3, 1) := by decide +kernel
theorem dL_call_121 : decode cL_call 121 = .ok (.iload 4, 2) := by decide +kernel
theorem dL_call_123 : decode cL_call 123 = .ok (.invokestatic 117, 3) := by decide +kernel
theorem dL_call_126 : decode cL_call 126 = .ok (.ireturn, 1) := by decide +kernel
theorem dL_call_127 : decode cL_call 127 = .ok (.aload_n 0, 1) := by decide +kernel
theorem dL_call_128 : decode cL_call 128 = .ok (.iload_n 2, 1) := by decide +kernel
theorem dL_call_129 : decode cL_call 129 = .ok (.invokestatic 120, 3) := by decide +kernel
theorem dL_call_132 : decode cL_call 132 = .ok (.ireturn, 1) := by decide +kernel
theorem dL_call_133 : decode cL_call 133 = .ok (.aload_n 0, 1) := by decide +kernel
theorem dL_call_134 : decode cL_call 134 = .ok (.iload_n 2, 1) := by decide +kernel
theorem dL_call_135 : decode cL_call 135 = .ok (.iload_n 3, 1) := by decide +kernel
theorem dL_call_136 : decode cL_call 136 = .ok (.invokestatic 123, 3) := by decide +kernel
theorem dL_call_139 : decode cL_call 139 = .ok (.ireturn, 1) := by decide +kernel
theorem dL_call_140 : decode cL_call 140 = .ok (.aload_n 0, 1) := by decide +kernel
theorem dL_call_141 : decode cL_call 141 = .ok (.invokestatic 126, 3) := by decide +kernel
theorem dL_call_144 : decode cL_call 144 = .ok (.ireturn, 1) := by decide +kernel
theorem dL_call_145 : decode cL_call 145 = .ok (.aload_n 0, 1) := by decide +kernel
theorem dL_call_146 : decode cL_call 146 = .ok (.iload_n 2, 1) := by decide +kernel
theorem dL_call_147 : decode cL_call 147 = .ok (.invokestatic 129, 3) := by decide +kernel
theorem dL_call_150 : decode cL_call 150 = .ok (.ireturn, 1) := by decide +kernel
theorem dL_call_151 : decode cL_call 151 = .ok (.aload_n 0, 1) := by decide +kernel
theorem dL_call_152 : decode cL_call 152 = .ok (.iload_n 2, 1) := by decide +kernel
theorem dL_call_153 : decode cL_call 153 = .ok (.invokestatic 132, 3) := by decide +kernel
theorem dL_call_156 : decode cL_call 156 = .ok (.ireturn, 1) := by decide +kernel
theorem dL_call_157 : decode cL_call 157 = .ok (.aload_n 0, 1) := by decide +kernel
theorem dL_call_158 : decode cL_call 158 = .ok (.iload_n 2, 1) := by decide +kernel
theorem dL_call_159 : decode cL_call 159 = .ok (.invokestatic 135, 3) := by decide +kernel
theorem dL_call_162 : decode cL_call 162 = .ok (.ireturn, 1) := by decide +kernel
theorem dL_call_163 : decode cL_call 163 = .ok (.aload_n 0, 1) := by decide +kernel
theorem dL_call_164 : decode cL_call 164 = .ok (.iload_n 2, 1) := by decide +kernel
theorem dL_call_165 : decode cL_call 165 = .ok (.invokestatic 138, 3) := by decide +kernel
theorem dL_call_168 : decode cL_call 168 = .ok (.ireturn, 1) := by decide +kernel
theorem dL_cell_0 : decode cL_cell 0 = .ok (.iload_n 1, 1) := by decide +kernel
theorem dL_cell_1 : decode cL_cell 1 = .ok (.aload_n 0, 1) := by decide +kernel
theorem dL_cell_2 : decode cL_cell 2 = .ok (.arraylength, 1) := by decide +kernel
theorem dL_cell_3 : decode cL_cell 3 = .ok (.if_icmp .ge 9, 3) := by decide +kernel
theorem dL_cell_6 : decode cL_cell 6 = .ok (.aload_n 0, 1) := by decide +kernel
theorem dL_cell_7 : decode cL_cell 7 = .ok (.iload_n 1, 1) := by decide +kernel
theorem dL_cell_8 : decode cL_cell 8 = .ok (.iaload, 1) := by decide +kernel
theorem dL_cell_9 : decode cL_cell 9 = .ok (.goto 13, 3) := by decide +kernel
theorem dL_cell_12 : decode cL_cell 12 = .ok (.ldc 141, 2) := by decide +kernel
theorem dL_cell_14 : decode cL_cell 14 = .ok (.iload_n 1, 1) := by decide +kernel
theorem dL_cell_15 : decode cL_cell 15 = .ok (.iconst 3, 1) := by decide +kernel
theorem dL_cell_16 : decode cL_cell 16 = .ok (.iadd, 1) := by decide +kernel
theorem dL_cell_17 : decode cL_cell 17 = .ok (.imul, 1) := by decide +kernel
theorem dL_cell_18 : decode cL_cell 18 = .ok (.sipush 11933, 3) := by decide +kernel
theorem dL_cell_21 : decode cL_cell 21 = .ok (.iadd, 1) := by decide +kernel
theorem dL_cell_22 : decode cL_cell 22 = .ok (.ldc 142, 2) := by decide +kernel
theorem dL_cell_24 : decode cL_cell 24 = .ok (.iand, 1) := by decide +kernel
theorem dL_cell_25 : decode cL_cell 25 = .ok (.ireturn, 1) := by decide +kernel
theorem dL_thrown_0 : decode cL_thrown 0 = .ok (.iload_n 0, 1) := by decide +kernel
theorem dL_thrown_1 : decode cL_thrown 1 = .ok (.ldc 15, 2) := by decide +kernel
theorem dL_thrown_3 : decode cL_thrown 3 = .ok (.if_icmp .eq 15, 3) := by decide +kernel
theorem dL_thrown_6 : decode cL_thrown 6 = .ok (.iload_n 0, 1) := by decide +kernel
theorem dL_thrown_7 : decode cL_thrown 7 = .ok (.ldc 18, 2) := by decide +kernel
theorem dL_thrown_9 : decode cL_thrown 9 = .ok (.if_icmp .eq 9, 3) := by decide +kernel
theorem dL_thrown_12 : decode cL_thrown 12 = .ok (.iload_n 0, 1) := by decide +kernel
theorem dL_thrown_13 : decode cL_thrown 13 = .ok (.ldc 21, 2) := by decide +kernel
theorem dL_thrown_15 : decode cL_thrown 15 = .ok (.if_icmp .ne 7, 3) := by decide +kernel
theorem dL_thrown_18 : decode cL_thrown 18 = .ok (.iconst 1, 1) := by decide +kernel
theorem dL_thrown_19 : decode cL_thrown 19 = .ok (.goto 4, 3) := by decide +kernel
theorem dL_thrown_22 : decode cL_thrown 22 = .ok (.iconst 0, 1) := by decide +kernel
theorem dL_thrown_23 : decode cL_thrown 23 = .ok (.ireturn, 1) := by decide +kernel
theorem dL_refuses_0 : decode cL_refuses 0 = .ok (.aload_n 0, 1) := by decide +kernel
theorem dL_refuses_1 : decode cL_refuses 1 = .ok (.iconst 2, 1) := by decide +kernel
theorem dL_refuses_2 : decode cL_refuses 2 = .ok (.iconst 0, 1) := by decide +kernel
theorem dL_refuses_3 : decode cL_refuses 3 = .ok (.iconst 0, 1) := by decide +kernel
theorem dL_refuses_4 : decode cL_refuses 4 = .ok (.iconst 0, 1) := by decide +kernel
theorem dL_refuses_5 : decode cL_refuses 5 = .ok (.invokestatic 143, 3) := by decide +kernel
theorem dL_refuses_8 : decode cL_refuses 8 = .ok (.istore_n 2, 1) := by decide +kernel
theorem dL_refuses_9 : decode cL_refuses 9 = .ok (.aload_n 0, 1) := by decide +kernel
theorem dL_refuses_10 : decode cL_refuses 10 = .ok (.iconst 2, 1) := by decide +kernel
theorem dL_refuses_11 : decode cL_refuses 11 = .ok (.iconst 2, 1) := by decide +kernel
theorem dL_refuses_12 : decode cL_refuses 12 = .ok (.iconst 0, 1) := by decide +kernel
theorem dL_refuses_13 : decode cL_refuses 13 = .ok (.iconst 0, 1) := by decide +kernel
theorem dL_refuses_14 : decode cL_refuses 14 = .ok (.invokestatic 143, 3) := by decide +kernel
theorem dL_refuses_17 : decode cL_refuses 17 = .ok (.istore_n 3, 1) := by decide +kernel
theorem dL_refuses_18 : decode cL_refuses 18 = .ok (.iload_n 1, 1) := by decide +kernel
theorem dL_refuses_19 : decode cL_refuses 19 = .ok (.iconst 2, 1) := by decide +kernel
theorem dL_refuses_20 : decode cL_refuses 20 = .ok (.irem, 1) := by decide +kernel
theorem dL_refuses_21 : decode cL_refuses 21 = .ok (.ifCond .ne 12, 3) := by decide +kernel
theorem dL_refuses_24 : decode cL_refuses 24 = .ok (.iconst (-1), 1) := by decide +kernel
theorem dL_refuses_25 : decode cL_refuses 25 = .ok (.iload_n 1, 1) := by decide +kernel
theorem dL_refuses_26 : decode cL_refuses 26 = .ok (.bipush 99, 2) := by decide +kernel
theorem dL_refuses_28 : decode cL_refuses 28 = .ok (.irem, 1) := by decide +kernel
theorem dL_refuses_29 : decode cL_refuses 29 = .ok (.isub, 1) := by decide +kernel
theorem dL_refuses_30 : decode cL_refuses 30 = .ok (.goto 9, 3) := by decide +kernel
theorem dL_refuses_33 : decode cL_refuses 33 = .ok (.iload_n 2, 1) := by decide +kernel
theorem dL_refuses_34 : decode cL_refuses 34 = .ok (.iload_n 1, 1) := by decide +kernel
theorem dL_refuses_35 : decode cL_refuses 35 = .ok (.bipush 99, 2) := by decide +kernel
theorem dL_refuses_37 : decode cL_refuses 37 = .ok (.irem, 1) := by decide +kernel
theorem dL_refuses_38 : decode cL_refuses 38 = .ok (.iadd, 1) := by decide +kernel
theorem dL_refuses_39 : decode cL_refuses 39 = .ok (.istore 4, 2) := by decide +kernel
theorem dL_refuses_41 : decode cL_refuses 41 = .ok (.iload_n 1, 1) := by decide +kernel
theorem dL_refuses_42 : decode cL_refuses 42 = .ok (.iconst 2, 1) := by decide +kernel
theorem dL_refuses_43 : decode cL_refuses 43 = .ok (.irem, 1) := by decide +kernel
theorem dL_refuses_44 : decode cL_refuses 44 = .ok (.ifCond .ne 12, 3) := by decide +kernel
theorem dL_refuses_47 : decode cL_refuses 47 = .ok (.iconst (-1), 1) := by decide +kernel
theorem dL_refuses_48 : decode cL_refuses 48 = .ok (.iload_n 1, 1) := by decide +kernel
theorem dL_refuses_49 : decode cL_refuses 49 = .ok (.bipush 99, 2) := by decide +kernel
theorem dL_refuses_51 : decode cL_refuses 51 = .ok (.irem, 1) := by decide +kernel
theorem dL_refuses_52 : decode cL_refuses 52 = .ok (.isub, 1) := by decide +kernel
theorem dL_refuses_53 : decode cL_refuses 53 = .ok (.goto 9, 3) := by decide +kernel
theorem dL_refuses_56 : decode cL_refuses 56 = .ok (.iload_n 3, 1) := by decide +kernel
theorem dL_refuses_57 : decode cL_refuses 57 = .ok (.iload_n 1, 1) := by decide +kernel
theorem dL_refuses_58 : decode cL_refuses 58 = .ok (.bipush 99, 2) := by decide +kernel
theorem dL_refuses_60 : decode cL_refuses 60 = .ok (.irem, 1) := by decide +kernel
theorem dL_refuses_61 : decode cL_refuses 61 = .ok (.iadd, 1) := by decide +kernel
theorem dL_refuses_62 : decode cL_refuses 62 = .ok (.istore 5, 2) := by decide +kernel
theorem dL_refuses_64 : decode cL_refuses 64 = .ok (.iload_n 1, 1) := by decide +kernel
theorem dL_refuses_65 : decode cL_refuses 65 = .ok (.iconst 2, 1) := by decide +kernel
theorem dL_refuses_66 : decode cL_refuses 66 = .ok (.irem, 1) := by decide +kernel
theorem dL_refuses_67 : decode cL_refuses 67 = .ok (.ifCond .ne 12, 3) := by decide +kernel
theorem dL_refuses_70 : decode cL_refuses 70 = .ok (.iconst (-1), 1) := by decide +kernel
theorem dL_refuses_71 : decode cL_refuses 71 = .ok (.iload_n 1, 1) := by decide +kernel
theorem dL_refuses_72 : decode cL_refuses 72 = .ok (.bipush 99, 2) := by decide +kernel
theorem dL_refuses_74 : decode cL_refuses 74 = .ok (.irem, 1) := by decide +kernel
theorem dL_refuses_75 : decode cL_refuses 75 = .ok (.isub, 1) := by decide +kernel
theorem dL_refuses_76 : decode cL_refuses 76 = .ok (.goto 10, 3) := by decide +kernel
theorem dL_refuses_79 : decode cL_refuses 79 = .ok (.bipush 12, 2) := by decide +kernel
theorem dL_refuses_81 : decode cL_refuses 81 = .ok (.iload_n 1, 1) := by decide +kernel
theorem dL_refuses_82 : decode cL_refuses 82 = .ok (.bipush 99, 2) := by decide +kernel
theorem dL_refuses_84 : decode cL_refuses 84 = .ok (.irem, 1) := by decide +kernel
theorem dL_refuses_85 : decode cL_refuses 85 = .ok (.iadd, 1) := by decide +kernel
theorem dL_refuses_86 : decode cL_refuses 86 = .ok (.istore 6, 2) := by decide +kernel
theorem dL_refuses_88 : decode cL_refuses 88 = .ok (.iload_n 1, 1) := by decide +kernel
theorem dL_refuses_89 : decode cL_refuses 89 = .ok (.iconst 2, 1) := by decide +kernel
theorem dL_refuses_90 : decode cL_refuses 90 = .ok (.irem, 1) := by decide +kernel
theorem dL_refuses_91 : decode cL_refuses 91 = .ok (.ifCond .ne 12, 3) := by decide +kernel
theorem dL_refuses_94 : decode cL_refuses 94 = .ok (.iconst (-1), 1) := by decide +kernel
theorem dL_refuses_95 : decode cL_refuses 95 = .ok (.iload_n 1, 1) := by decide +kernel
theorem dL_refuses_96 : decode cL_refuses 96 = .ok (.bipush 99, 2) := by decide +kernel
theorem dL_refuses_98 : decode cL_refuses 98 = .ok (.irem, 1) := by decide +kernel
theorem dL_refuses_99 : decode cL_refuses 99 = .ok (.isub, 1) := by decide +kernel
theorem dL_refuses_100 : decode cL_refuses 100 = .ok (.goto 10, 3) := by decide +kernel
theorem dL_refuses_103 : decode cL_refuses 103 = .ok (.bipush 8, 2) := by decide +kernel
theorem dL_refuses_105 : decode cL_refuses 105 = .ok (.iload_n 1, 1) := by decide +kernel
theorem dL_refuses_106 : decode cL_refuses 106 = .ok (.bipush 99, 2) := by decide +kernel
theorem dL_refuses_108 : decode cL_refuses 108 = .ok (.irem, 1) := by decide +kernel
theorem dL_refuses_109 : decode cL_refuses 109 = .ok (.iadd, 1) := by decide +kernel
theorem dL_refuses_110 : decode cL_refuses 110 = .ok (.istore 7, 2) := by decide +kernel
theorem dL_refuses_112 : decode cL_refuses 112 = .ok (.iload_n 1, 1) := by decide +kernel
theorem dL_refuses_113 : decode cL_refuses 113 = .ok (.bipush 12, 2) := by decide +kernel
theorem dL_refuses_115 : decode cL_refuses 115 = .ok (.irem, 1) := by decide +kernel
theorem dL_refuses_116 : decode cL_refuses 116 = .ok (.istore 8, 2) := by decide +kernel
theorem dL_refuses_118 : decode cL_refuses 118 = .ok (.aload_n 0, 1) := by decide +kernel
theorem dL_refuses_119 : decode cL_refuses 119 = .ok (.iconst 0, 1) := by decide +kernel
theorem dL_refuses_120 : decode cL_refuses 120 = .ok (.iload_n 1, 1) := by decide +kernel
theorem dL_refuses_121 : decode cL_refuses 121 = .ok (.iconst 2, 1) := by decide +kernel
theorem dL_refuses_122 : decode cL_refuses 122 = .ok (.irem, 1) := by decide +kernel
theorem dL_refuses_123 : decode cL_refuses 123 = .ok (.ifCond .ne 12, 3) := by decide +kernel
theorem dL_refuses_126 : decode cL_refuses 126 = .ok (.iconst (-1), 1) := by decide +kernel
theorem dL_refuses_127 : decode cL_refuses 127 = .ok (.iload_n 1, 1) := by decide +kernel
theorem dL_refuses_128 : decode cL_refuses 128 = .ok (.bipush 9, 2) := by decide +kernel
theorem dL_refuses_130 : decode cL_refuses 130 = .ok (.irem, 1) := by decide +kernel
theorem dL_refuses_131 : decode cL_refuses 131 = .ok (.isub, 1) := by decide +kernel
theorem dL_refuses_132 : decode cL_refuses 132 = .ok (.goto 11, 3) := by decide +kernel
theorem dL_refuses_135 : decode cL_refuses 135 = .ok (.sipush 256, 3) := by decide +kernel
theorem dL_refuses_138 : decode cL_refuses 138 = .ok (.iload_n 1, 1) := by decide +kernel
theorem dL_refuses_139 : decode cL_refuses 139 = .ok (.bipush 9, 2) := by decide +kernel
theorem dL_refuses_141 : decode cL_refuses 141 = .ok (.irem, 1) := by decide +kernel
theorem dL_refuses_142 : decode cL_refuses 142 = .ok (.iadd, 1) := by decide +kernel
theorem dL_refuses_143 : decode cL_refuses 143 = .ok (.iconst 0, 1) := by decide +kernel
theorem dL_refuses_144 : decode cL_refuses 144 = .ok (.iconst 0, 1) := by decide +kernel
theorem dL_refuses_145 : decode cL_refuses 145 = .ok (.invokestatic 143, 3) := by decide +kernel
theorem dL_refuses_148 : decode cL_refuses 148 = .ok (.ldc 18, 2) := by decide +kernel
theorem dL_refuses_150 : decode cL_refuses 150 = .ok (.if_icmp .ne 745, 3) := by decide +kernel
theorem dL_refuses_153 : decode cL_refuses 153 = .ok (.aload_n 0, 1) := by decide +kernel
theorem dL_refuses_154 : decode cL_refuses 154 = .ok (.iconst 2, 1) := by decide +kernel
theorem dL_refuses_155 : decode cL_refuses 155 = .ok (.bipush 11, 2) := by decide +kernel
theorem dL_refuses_157 : decode cL_refuses 157 = .ok (.iload_n 1, 1) := by decide +kernel
theorem dL_refuses_158 : decode cL_refuses 158 = .ok (.bipush 50, 2) := by decide +kernel
theorem dL_refuses_160 : decode cL_refuses 160 = .ok (.irem, 1) := by decide +kernel
theorem dL_refuses_161 : decode cL_refuses 161 = .ok (.iadd, 1) := by decide +kernel
theorem dL_refuses_162 : decode cL_refuses 162 = .ok (.iconst 0, 1) := by decide +kernel
theorem dL_refuses_163 : decode cL_refuses 163 = .ok (.iconst 0, 1) := by decide +kernel
theorem dL_refuses_164 : decode cL_refuses 164 = .ok (.invokestatic 143, 3) := by decide +kernel
theorem dL_refuses_167 : decode cL_refuses 167 = .ok (.ldc 18, 2) := by decide +kernel
theorem dL_refuses_169 : decode cL_refuses 169 = .ok (.if_icmp .ne 726, 3) := by decide +kernel
theorem dL_refuses_172 : decode cL_refuses 172 = .ok (.aload_n 0, 1) := by decide +kernel
theorem dL_refuses_173 : decode cL_refuses 173 = .ok (.iconst 3, 1) := by decide +kernel
theorem dL_refuses_174 : decode cL_refuses 174 = .ok (.iload 4, 2) := by decide +kernel
theorem dL_refuses_176 : decode cL_refuses 176 = .ok (.bipush 99, 2) := by decide +kernel
theorem dL_refuses_178 : decode cL_refuses 178 = .ok (.iconst 0, 1) := by decide +kernel
theorem dL_refuses_179 : decode cL_refuses 179 = .ok (.invokestatic 143, 3) := by decide +kernel
theorem dL_refuses_182 : decode cL_refuses 182 = .ok (.ldc 15, 2) := by decide +kernel
theorem dL_refuses_184 : decode cL_refuses 184 = .ok (.if_icmp .ne 711, 3) := by decide +kernel
theorem dL_refuses_187 : decode cL_refuses 187 = .ok (.aload_n 0, 1) := by decide +kernel
theorem dL_refuses_188 : decode cL_refuses 188 = .ok (.iconst 3, 1) := by decide +kernel
theorem dL_refuses_189 : decode cL_refuses 189 = .ok (.iconst 0, 1) := by decide +kernel
theorem dL_refuses_190 : decode cL_refuses 190 = .ok (.bipush 11, 2) := by decide +kernel
theorem dL_refuses_192 : decode cL_refuses 192 = .ok (.iload_n 1, 1) := by decide +kernel
theorem dL_refuses_193 : decode cL_refuses 193 = .ok (.bipush 9, 2) := by decide +kernel
theorem dL_refuses_195 : decode cL_refuses 195 = .ok (.irem, 1) := by decide +kernel
theorem dL_refuses_196 : decode cL_refuses 196 = .ok (.iadd, 1) := by decide +kernel
theorem dL_refuses_197 : decode cL_refuses 197 = .ok (.iconst 0, 1) := by decide +kernel
theorem dL_refuses_198 : decode cL_refuses 198 = .ok (.invokestatic 143, 3) := by decide +kernel
theorem dL_refuses_201 : decode cL_refuses 201 = .ok (.ldc 18, 2) := by decide +kernel
theorem dL_refuses_203 : decode cL_refuses 203 = .ok (.if_icmp .ne 692, 3) := by decide +kernel
theorem dL_refuses_206 : decode cL_refuses 206 = .ok (.aload_n 0, 1) := by decide +kernel
theorem dL_refuses_207 : decode cL_refuses 207 = .ok (.iconst 4, 1) := by decide +kernel
theorem dL_refuses_208 : decode cL_refuses 208 = .ok (.iload 5, 2) := by decide +kernel
theorem dL_refuses_210 : decode cL_refuses 210 = .ok (.bipush 99, 2) := by decide +kernel
theorem dL_refuses_212 : decode cL_refuses 212 = .ok (.iconst 0, 1) := by decide +kernel
theorem dL_refuses_213 : decode cL_refuses 213 = .ok (.invokestatic 143, 3) := by decide +kernel
theorem dL_refuses_216 : decode cL_refuses 216 = .ok (.ldc 15, 2) := by decide +kernel
theorem dL_refuses_218 : decode cL_refuses 218 = .ok (.if_icmp .ne 677, 3) := by decide +kernel
theorem dL_refuses_221 : decode cL_refuses 221 = .ok (.aload_n 0, 1) := by decide +kernel
theorem dL_refuses_222 : decode cL_refuses 222 = .ok (.iconst 5, 1) := by decide +kernel
theorem dL_refuses_223 : decode cL_refuses 223 = .ok (.iload 7, 2) := by decide +kernel
theorem dL_refuses_225 : decode cL_refuses 225 = .ok (.iconst 0, 1) := by decide +kernel
theorem dL_refuses_226 : decode cL_refuses 226 = .ok (.iconst 0, 1) := by decide +kernel
theorem dL_refuses_227 : decode cL_refuses 227 = .ok (.invokestatic 143, 3) := by decide +kernel
theorem dL_refuses_230 : decode cL_refuses 230 = .ok (.ldc 15, 2) := by decide +kernel
theorem dL_refuses_232 : decode cL_refuses 232 = .ok (.if_icmp .ne 663, 3) := by decide +kernel
theorem dL_refuses_235 : decode cL_refuses 235 = .ok (.aload_n 0, 1) := by decide +kernel
theorem dL_refuses_236 : decode cL_refuses 236 = .ok (.bipush 6, 2) := by decide +kernel
theorem dL_refuses_238 : decode cL_refuses 238 = .ok (.iload 6, 2) := by decide +kernel
theorem dL_refuses_240 : decode cL_refuses 240 = .ok (.iconst 0, 1) := by decide +kernel
theorem dL_refuses_241 : decode cL_refuses 241 = .ok (.bipush 9, 2) := by decide +kernel
theorem dL_refuses_243 : decode cL_refuses 243 = .ok (.invokestatic 143, 3) := by decide +kernel
theorem dL_refuses_246 : decode cL_refuses 246 = .ok (.ldc 15, 2) := by decide +kernel
theorem dL_refuses_248 : decode cL_refuses 248 = .ok (.if_icmp .ne 647, 3) := by decide +kernel
theorem dL_refuses_251 : decode cL_refuses 251 = .ok (.aload_n 0, 1) := by decide +kernel
theorem dL_refuses_252 : decode cL_refuses 252 = .ok (.bipush 6, 2) := by decide +kernel
theorem dL_refuses_254 : decode cL_refuses 254 = .ok (.iconst 0, 1) := by decide +kernel
theorem dL_refuses_255 : decode cL_refuses 255 = .ok (.iload 6, 2) := by decide +kernel
theorem dL_refuses_257 : decode cL_refuses 257 = .ok (.bipush 9, 2) := by decide +kernel
theorem dL_refuses_259 : decode cL_refuses 259 = .ok (.invokestatic 143, 3) := by decide +kernel
theorem dL_refuses_262 : decode cL_refuses 262 = .ok (.ldc 15, 2) := by decide +kernel
theorem dL_refuses_264 : decode cL_refuses 264 = .ok (.if_icmp .ne 631, 3) := by decide +kernel
theorem dL_refuses_267 : decode cL_refuses 267 = .ok (.aload_n 0, 1) := by decide +kernel
theorem dL_refuses_268 : decode cL_refuses 268 = .ok (.bipush 6, 2) := by decide +kernel
theorem dL_refuses_270 : decode cL_refuses 270 = .ok (.iconst 0, 1) := by decide +kernel
theorem dL_refuses_271 : decode cL_refuses 271 = .ok (.iconst 0, 1) := by decide +kernel
theorem dL_refuses_272 : decode cL_refuses 272 = .ok (.iconst 2, 1) := by decide +kernel
theorem dL_refuses_273 : decode cL_refuses 273 = .ok (.iload_n 1, 1) := by decide +kernel
theorem dL_refuses_274 : decode cL_refuses 274 = .ok (.bipush 9, 2) := by decide +kernel
theorem dL_refuses_276 : decode cL_refuses 276 = .ok (.irem, 1) := by decide +kernel
theorem dL_refuses_277 : decode cL_refuses 277 = .ok (.iadd, 1) := by decide +kernel
theorem dL_refuses_278 : decode cL_refuses 278 = .ok (.invokestatic 143, 3) := by decide +kernel
theorem dL_refuses_281 : decode cL_refuses 281 = .ok (.ldc 18, 2) := by decide +kernel
theorem dL_refuses_283 : decode cL_refuses 283 = .ok (.if_icmp .ne 612, 3) := by decide +kernel
theorem dL_refuses_286 : decode cL_refuses 286 = .ok (.aload_n 0, 1) := by decide +kernel
theorem dL_refuses_287 : decode cL_refuses 287 = .ok (.iconst 0, 1) := by decide +kernel
theorem dL_refuses_288 : decode cL_refuses 288 = .ok (.iconst 0, 1) := by decide +kernel
theorem dL_refuses_289 : decode cL_refuses 289 = .ok (.iload 6, 2) := by decide +kernel
theorem dL_refuses_291 : decode cL_refuses 291 = .ok (.iconst 0, 1) := by decide +kernel
theorem dL_refuses_292 : decode cL_refuses 292 = .ok (.invokestatic 147, 3) := by decide +kernel
theorem dL_refuses_295 : decode cL_refuses 295 = .ok (.ldc 15, 2) := by decide +kernel
theorem dL_refuses_297 : decode cL_refuses 297 = .ok (.if_icmp .ne 598, 3) := by decide +kernel
theorem dL_refuses_300 : decode cL_refuses 300 = .ok (.aload_n 0, 1) := by decide +kernel
theorem dL_refuses_301 : decode cL_refuses 301 = .ok (.iload_n 1, 1) := by decide +kernel
theorem dL_refuses_302 : decode cL_refuses 302 = .ok (.iconst 2, 1) := by decide +kernel
theorem dL_refuses_303 : decode cL_refuses 303 = .ok (.irem, 1) := by decide +kernel
theorem dL_refuses_304 : decode cL_refuses 304 = .ok (.ifCond .ne 7, 3) := by decide +kernel
theorem dL_refuses_307 : decode cL_refuses 307 = .ok (.iconst 0, 1) := by decide +kernel
theorem dL_refuses_308 : decode cL_refuses 308 = .ok (.goto 11, 3) := by decide +kernel
theorem dL_refuses_311 : decode cL_refuses 311 = .ok (.sipush 256, 3) := by decide +kernel
theorem dL_refuses_314 : decode cL_refuses 314 = .ok (.iload_n 1, 1) := by decide +kernel
theorem dL_refuses_315 : decode cL_refuses 315 = .ok (.bipush 9, 2) := by decide +kernel
theorem dL_refuses_317 : decode cL_refuses 317 = .ok (.irem, 1) := by decide +kernel
theorem dL_refuses_318 : decode cL_refuses 318 = .ok (.iadd, 1) := by decide +kernel
theorem dL_refuses_319 : decode cL_refuses 319 = .ok (.iconst 1, 1) := by decide +kernel
theorem dL_refuses_320 : decode cL_refuses 320 = .ok (.iconst 0, 1) := by decide +kernel
theorem dL_refuses_321 : decode cL_refuses 321 = .ok (.iconst 5, 1) := by decide +kernel
theorem dL_refuses_322 : decode cL_refuses 322 = .ok (.invokestatic 147, 3) := by decide +kernel
theorem dL_refuses_325 : decode cL_refuses 325 = .ok (.ldc 18, 2) := by decide +kernel
theorem dL_refuses_327 : decode cL_refuses 327 = .ok (.if_icmp .ne 568, 3) := by decide +kernel
theorem dL_refuses_330 : decode cL_refuses 330 = .ok (.aload_n 0, 1) := by decide +kernel
theorem dL_refuses_331 : decode cL_refuses 331 = .ok (.iconst 5, 1) := by decide +kernel
theorem dL_refuses_332 : decode cL_refuses 332 = .ok (.iload_n 1, 1) := by decide +kernel
theorem dL_refuses_333 : decode cL_refuses 333 = .ok (.iconst 2, 1) := by decide +kernel
theorem dL_refuses_334 : decode cL_refuses 334 = .ok (.irem, 1) := by decide +kernel
theorem dL_refuses_335 : decode cL_refuses 335 = .ok (.ifCond .ne 7, 3) := by decide +kernel
theorem dL_refuses_338 : decode cL_refuses 338 = .ok (.iconst 0, 1) := by decide +kernel
theorem dL_refuses_339 : decode cL_refuses 339 = .ok (.goto 9, 3) := by decide +kernel
theorem dL_refuses_342 : decode cL_refuses 342 = .ok (.iconst 4, 1) := by decide +kernel
theorem dL_refuses_343 : decode cL_refuses 343 = .ok (.iload_n 1, 1) := by decide +kernel
theorem dL_refuses_344 : decode cL_refuses 344 = .ok (.bipush 9, 2) := by decide +kernel
theorem dL_refuses_346 : decode cL_refuses 346 = .ok (.irem, 1) := by decide +kernel
theorem dL_refuses_347 : decode cL_refuses 347 = .ok (.iadd, 1) := by decide +kernel
theorem dL_refuses_348 : decode cL_refuses 348 = .ok (.iconst 0, 1) := by decide +kernel
theorem dL_refuses_349 : decode cL_refuses 349 = .ok (.iconst 5, 1) := by decide +kernel
theorem dL_refuses_350 : decode cL_refuses 350 = .ok (.invokestatic 147, 3) := by decide +kernel
theorem dL_refuses_353 : decode cL_refuses 353 = .ok (.ldc 18, 2) := by decide +kernel
theorem dL_refuses_355 : decode cL_refuses 355 = .ok (.if_icmp .ne 540, 3) := by decide +kernel
theorem dL_refuses_358 : decode cL_refuses 358 = .ok (.aload_n 0, 1) := by decide +kernel
theorem dL_refuses_359 : decode cL_refuses 359 = .ok (.iconst 5, 1) := by decide +kernel
theorem dL_refuses_360 : decode cL_refuses 360 = .ok (.iconst 1, 1) := by decide +kernel
theorem dL_refuses_361 : decode cL_refuses 361 = .ok (.iconst 0, 1) := by decide +kernel
theorem dL_refuses_362 : decode cL_refuses 362 = .ok (.iload_n 1, 1) := by decide +kernel
theorem dL_refuses_363 : decode cL_refuses 363 = .ok (.iconst 2, 1) := by decide +kernel
theorem dL_refuses_364 : decode cL_refuses 364 = .ok (.irem, 1) := by decide +kernel
theorem dL_refuses_365 : decode cL_refuses 365 = .ok (.ifCond .ne 7, 3) := by decide +kernel
theorem dL_refuses_368 : decode cL_refuses 368 = .ok (.iconst 0, 1) := by decide +kernel
theorem dL_refuses_369 : decode cL_refuses 369 = .ok (.goto 11, 3) := by decide +kernel
theorem dL_refuses_372 : decode cL_refuses 372 = .ok (.sipush 501, 3) := by decide +kernel
theorem dL_refuses_375 : decode cL_refuses 375 = .ok (.iload_n 1, 1) := by decide +kernel
theorem dL_refuses_376 : decode cL_refuses 376 = .ok (.bipush 9, 2) := by decide +kernel
theorem dL_refuses_378 : decode cL_refuses 378 = .ok (.irem, 1) := by decide +kernel
theorem dL_refuses_379 : decode cL_refuses 379 = .ok (.iadd, 1) := by decide +kernel
theorem dL_refuses_380 : decode cL_refuses 380 = .ok (.invokestatic 147, 3) := by decide +kernel
theorem dL_refuses_383 : decode cL_refuses 383 = .ok (.ldc 18, 2) := by decide +kernel
theorem dL_refuses_385 : decode cL_refuses 385 = .ok (.if_icmp .ne 510, 3) := by decide +kernel
theorem dL_refuses_388 : decode cL_refuses 388 = .ok (.aload_n 0, 1) := by decide +kernel
theorem dL_refuses_389 : decode cL_refuses 389 = .ok (.iload 7, 2) := by decide +kernel
theorem dL_refuses_391 : decode cL_refuses 391 = .ok (.iconst 0, 1) := by decide +kernel
theorem dL_refuses_392 : decode cL_refuses 392 = .ok (.sipush 999, 3) := by decide +kernel
theorem dL_refuses_395 : decode cL_refuses 395 = .ok (.iconst 0, 1) := by decide +kernel
theorem dL_refuses_396 : decode cL_refuses 396 = .ok (.iconst 1, 1) := by decide +kernel
theorem dL_refuses_397 : decode cL_refuses 397 = .ok (.invokestatic 150, 3) := by decide +kernel
theorem dL_refuses_400 : decode cL_refuses 400 = .ok (.ldc 15, 2) := by decide +kernel
theorem dL_refuses_402 : decode cL_refuses 402 = .ok (.if_icmp .ne 493, 3) := by decide +kernel
theorem dL_refuses_405 : decode cL_refuses 405 = .ok (.aload_n 0, 1) := by decide +kernel
theorem dL_refuses_406 : decode cL_refuses 406 = .ok (.iconst 0, 1) := by decide +kernel
theorem dL_refuses_407 : decode cL_refuses 407 = .ok (.iload 6, 2) := by decide +kernel
theorem dL_refuses_409 : decode cL_refuses 409 = .ok (.sipush 999, 3) := by decide +kernel
theorem dL_refuses_412 : decode cL_refuses 412 = .ok (.iconst 0, 1) := by decide +kernel
theorem dL_refuses_413 : decode cL_refuses 413 = .ok (.iconst 1, 1) := by decide +kernel
theorem dL_refuses_414 : decode cL_refuses 414 = .ok (.invokestatic 150, 3) := by decide +kernel
theorem dL_refuses_417 : decode cL_refuses 417 = .ok (.ldc 15, 2) := by decide +kernel
theorem dL_refuses_419 : decode cL_refuses 419 = .ok (.if_icmp .ne 476, 3) := by decide +kernel
theorem dL_refuses_422 : decode cL_refuses 422 = .ok (.aload_n 0, 1) := by decide +kernel
theorem dL_refuses_423 : decode cL_refuses 423 = .ok (.iconst 0, 1) := by decide +kernel
theorem dL_refuses_424 : decode cL_refuses 424 = .ok (.iconst 0, 1) := by decide +kernel
theorem dL_refuses_425 : decode cL_refuses 425 = .ok (.iload_n 1, 1) := by decide +kernel
theorem dL_refuses_426 : decode cL_refuses 426 = .ok (.iconst 2, 1) := by decide +kernel
theorem dL_refuses_427 : decode cL_refuses 427 = .ok (.irem, 1) := by decide +kernel
theorem dL_refuses_428 : decode cL_refuses 428 = .ok (.ifCond .ne 7, 3) := by decide +kernel
theorem dL_refuses_431 : decode cL_refuses 431 = .ok (.iconst (-1), 1) := by decide +kernel
theorem dL_refuses_432 : decode cL_refuses 432 = .ok (.goto 11, 3) := by decide +kernel
theorem dL_refuses_435 : decode cL_refuses 435 = .ok (.sipush 256, 3) := by decide +kernel
theorem dL_refuses_438 : decode cL_refuses 438 = .ok (.iload_n 1, 1) := by decide +kernel
theorem dL_refuses_439 : decode cL_refuses 439 = .ok (.bipush 9, 2) := by decide +kernel
theorem dL_refuses_441 : decode cL_refuses 441 = .ok (.irem, 1) := by decide +kernel
theorem dL_refuses_442 : decode cL_refuses 442 = .ok (.iadd, 1) := by decide +kernel
theorem dL_refuses_443 : decode cL_refuses 443 = .ok (.iconst 0, 1) := by decide +kernel
theorem dL_refuses_444 : decode cL_refuses 444 = .ok (.iconst 0, 1) := by decide +kernel
theorem dL_refuses_445 : decode cL_refuses 445 = .ok (.invokestatic 150, 3) := by decide +kernel
theorem dL_refuses_448 : decode cL_refuses 448 = .ok (.ldc 18, 2) := by decide +kernel
theorem dL_refuses_450 : decode cL_refuses 450 = .ok (.if_icmp .ne 445, 3) := by decide +kernel
theorem dL_refuses_453 : decode cL_refuses 453 = .ok (.aload_n 0, 1) := by decide +kernel
theorem dL_refuses_454 : decode cL_refuses 454 = .ok (.iconst 0, 1) := by decide +kernel
theorem dL_refuses_455 : decode cL_refuses 455 = .ok (.iconst 0, 1) := by decide +kernel
theorem dL_refuses_456 : decode cL_refuses 456 = .ok (.iconst 5, 1) := by decide +kernel
theorem dL_refuses_457 : decode cL_refuses 457 = .ok (.iload_n 1, 1) := by decide +kernel
theorem dL_refuses_458 : decode cL_refuses 458 = .ok (.iconst 2, 1) := by decide +kernel
theorem dL_refuses_459 : decode cL_refuses 459 = .ok (.irem, 1) := by decide +kernel
theorem dL_refuses_460 : decode cL_refuses 460 = .ok (.ifCond .ne 7, 3) := by decide +kernel
theorem dL_refuses_463 : decode cL_refuses 463 = .ok (.iconst (-1), 1) := by decide +kernel
theorem dL_refuses_464 : decode cL_refuses 464 = .ok (.goto 10, 3) := by decide +kernel
theorem dL_refuses_467 : decode cL_refuses 467 = .ok (.bipush 100, 2) := by decide +kernel
theorem dL_refuses_469 : decode cL_refuses 469 = .ok (.iload_n 1, 1) := by decide +kernel
theorem dL_refuses_470 : decode cL_refuses 470 = .ok (.bipush 9, 2) := by decide +kernel
theorem dL_refuses_472 : decode cL_refuses 472 = .ok (.irem, 1) := by decide +kernel
theorem dL_refuses_473 : decode cL_refuses 473 = .ok (.iadd, 1) := by decide +kernel
theorem dL_refuses_474 : decode cL_refuses 474 = .ok (.iconst 0, 1) := by decide +kernel
theorem dL_refuses_475 : decode cL_refuses 475 = .ok (.invokestatic 150, 3) := by decide +kernel
theorem dL_refuses_478 : decode cL_refuses 478 = .ok (.ldc 18, 2) := by decide +kernel
theorem dL_refuses_480 : decode cL_refuses 480 = .ok (.if_icmp .ne 415, 3) := by decide +kernel
theorem dL_refuses_483 : decode cL_refuses 483 = .ok (.aload_n 0, 1) := by decide +kernel
theorem dL_refuses_484 : decode cL_refuses 484 = .ok (.bipush 7, 2) := by decide +kernel
theorem dL_refuses_486 : decode cL_refuses 486 = .ok (.iload 4, 2) := by decide +kernel
theorem dL_refuses_488 : decode cL_refuses 488 = .ok (.iconst 0, 1) := by decide +kernel
theorem dL_refuses_489 : decode cL_refuses 489 = .ok (.iconst 0, 1) := by decide +kernel
theorem dL_refuses_490 : decode cL_refuses 490 = .ok (.invokestatic 143, 3) := by decide +kernel
theorem dL_refuses_493 : decode cL_refuses 493 = .ok (.ldc 15, 2) := by decide +kernel
theorem dL_refuses_495 : decode cL_refuses 495 = .ok (.if_icmp .ne 400, 3) := by decide +kernel
theorem dL_refuses_498 : decode cL_refuses 498 = .ok (.aload_n 0, 1) := by decide +kernel
theorem dL_refuses_499 : decode cL_refuses 499 = .ok (.bipush 7, 2) := by decide +kernel
theorem dL_refuses_501 : decode cL_refuses 501 = .ok (.iconst 0, 1) := by decide +kernel
theorem dL_refuses_502 : decode cL_refuses 502 = .ok (.iload 7, 2) := by decide +kernel
theorem dL_refuses_504 : decode cL_refuses 504 = .ok (.iconst 0, 1) := by decide +kernel
theorem dL_refuses_505 : decode cL_refuses 505 = .ok (.invokestatic 143, 3) := by decide +kernel
theorem dL_refuses_508 : decode cL_refuses 508 = .ok (.ldc 15, 2) := by decide +kernel
theorem dL_refuses_510 : decode cL_refuses 510 = .ok (.if_icmp .ne 385, 3) := by decide +kernel
theorem dL_refuses_513 : decode cL_refuses 513 = .ok (.aload_n 0, 1) := by decide +kernel
theorem dL_refuses_514 : decode cL_refuses 514 = .ok (.bipush 7, 2) := by decide +kernel
theorem dL_refuses_516 : decode cL_refuses 516 = .ok (.iconst 0, 1) := by decide +kernel
theorem dL_refuses_517 : decode cL_refuses 517 = .ok (.iconst 0, 1) := by decide +kernel
theorem dL_refuses_518 : decode cL_refuses 518 = .ok (.iload 6, 2) := by decide +kernel
theorem dL_refuses_520 : decode cL_refuses 520 = .ok (.invokestatic 143, 3) := by decide +kernel
theorem dL_refuses_523 : decode cL_refuses 523 = .ok (.ldc 15, 2) := by decide +kernel
theorem dL_refuses_525 : decode cL_refuses 525 = .ok (.if_icmp .ne 370, 3) := by decide +kernel
theorem dL_refuses_528 : decode cL_refuses 528 = .ok (.aload_n 0, 1) := by decide +kernel
theorem dL_refuses_529 : decode cL_refuses 529 = .ok (.iload 6, 2) := by decide +kernel
theorem dL_refuses_531 : decode cL_refuses 531 = .ok (.iconst 0, 1) := by decide +kernel
theorem dL_refuses_532 : decode cL_refuses 532 = .ok (.iconst 1, 1) := by decide +kernel
theorem dL_refuses_533 : decode cL_refuses 533 = .ok (.invokestatic 154, 3) := by decide +kernel
theorem dL_refuses_536 : decode cL_refuses 536 = .ok (.ldc 15, 2) := by decide +kernel
theorem dL_refuses_538 : decode cL_refuses 538 = .ok (.if_icmp .ne 357, 3) := by decide +kernel
theorem dL_refuses_541 : decode cL_refuses 541 = .ok (.aload_n 0, 1) := by decide +kernel
theorem dL_refuses_542 : decode cL_refuses 542 = .ok (.iconst 0, 1) := by decide +kernel
theorem dL_refuses_543 : decode cL_refuses 543 = .ok (.iload 6, 2) := by decide +kernel
theorem dL_refuses_545 : decode cL_refuses 545 = .ok (.iconst 0, 1) := by decide +kernel
theorem dL_refuses_546 : decode cL_refuses 546 = .ok (.invokestatic 154, 3) := by decide +kernel
theorem dL_refuses_549 : decode cL_refuses 549 = .ok (.ldc 15, 2) := by decide +kernel
theorem dL_refuses_551 : decode cL_refuses 551 = .ok (.if_icmp .ne 344, 3) := by decide +kernel
theorem dL_refuses_554 : decode cL_refuses 554 = .ok (.aload_n 0, 1) := by decide +kernel
theorem dL_refuses_555 : decode cL_refuses 555 = .ok (.iload 8, 2) := by decide +kernel
theorem dL_refuses_557 : decode cL_refuses 557 = .ok (.iload 8, 2) := by decide +kernel
theorem dL_refuses_559 : decode cL_refuses 559 = .ok (.iconst 1, 1) := by decide +kernel
theorem dL_refuses_560 : decode cL_refuses 560 = .ok (.invokestatic 154, 3) := by decide +kernel
theorem dL_refuses_563 : decode cL_refuses 563 = .ok (.ldc 18, 2) := by decide +kernel
theorem dL_refuses_565 : decode cL_refuses 565 = .ok (.if_icmp .ne 330, 3) := by decide +kernel
theorem dL_refuses_568 : decode cL_refuses 568 = .ok (.aload_n 0, 1) := by decide +kernel
theorem dL_refuses_569 : decode cL_refuses 569 = .ok (.iconst 3, 1) := by decide +kernel
theorem dL_refuses_570 : decode cL_refuses 570 = .ok (.iconst 4, 1) := by decide +kernel
theorem dL_refuses_571 : decode cL_refuses 571 = .ok (.iconst 1, 1) := by decide +kernel
theorem dL_refuses_572 : decode cL_refuses 572 = .ok (.invokestatic 154, 3) := by decide +kernel
theorem dL_refuses_575 : decode cL_refuses 575 = .ok (.ldc 18, 2) := by decide +kernel
theorem dL_refuses_577 : decode cL_refuses 577 = .ok (.if_icmp .ne 318, 3) := by decide +kernel
theorem dL_refuses_580 : decode cL_refuses 580 = .ok (.aload_n 0, 1) := by decide +kernel
theorem dL_refuses_581 : decode cL_refuses 581 = .ok (.iconst 0, 1) := by decide +kernel
theorem dL_refuses_582 : decode cL_refuses 582 = .ok (.iconst 5, 1) := by decide +kernel
theorem dL_refuses_583 : decode cL_refuses 583 = .ok (.iload_n 1, 1) := by decide +kernel
theorem dL_refuses_584 : decode cL_refuses 584 = .ok (.bipush 7, 2) := by decide +kernel
theorem dL_refuses_586 : decode cL_refuses 586 = .ok (.irem, 1) := by decide +kernel
theorem dL_refuses_587 : decode cL_refuses 587 = .ok (.iadd, 1) := by decide +kernel
theorem dL_refuses_588 : decode cL_refuses 588 = .ok (.iconst 0, 1) := by decide +kernel
theorem dL_refuses_589 : decode cL_refuses 589 = .ok (.invokestatic 154, 3) := by decide +kernel
theorem dL_refuses_592 : decode cL_refuses 592 = .ok (.ldc 18, 2) := by decide +kernel
theorem dL_refuses_594 : decode cL_refuses 594 = .ok (.if_icmp .ne 301, 3) := by decide +kernel
theorem dL_refuses_597 : decode cL_refuses 597 = .ok (.aload_n 0, 1) := by decide +kernel
theorem dL_refuses_598 : decode cL_refuses 598 = .ok (.bipush 8, 2) := by decide +kernel
theorem dL_refuses_600 : decode cL_refuses 600 = .ok (.iload_n 1, 1) := by decide +kernel
theorem dL_refuses_601 : decode cL_refuses 601 = .ok (.iconst 2, 1) := by decide +kernel
theorem dL_refuses_602 : decode cL_refuses 602 = .ok (.irem, 1) := by decide +kernel
theorem dL_refuses_603 : decode cL_refuses 603 = .ok (.ifCond .ne 7, 3) := by decide +kernel
theorem dL_refuses_606 : decode cL_refuses 606 = .ok (.iconst 0, 1) := by decide +kernel
theorem dL_refuses_607 : decode cL_refuses 607 = .ok (.goto 10, 3) := by decide +kernel
theorem dL_refuses_610 : decode cL_refuses 610 = .ok (.bipush 100, 2) := by decide +kernel
theorem dL_refuses_612 : decode cL_refuses 612 = .ok (.iload_n 1, 1) := by decide +kernel
theorem dL_refuses_613 : decode cL_refuses 613 = .ok (.bipush 9, 2) := by decide +kernel
theorem dL_refuses_615 : decode cL_refuses 615 = .ok (.irem, 1) := by decide +kernel
theorem dL_refuses_616 : decode cL_refuses 616 = .ok (.iadd, 1) := by decide +kernel
theorem dL_refuses_617 : decode cL_refuses 617 = .ok (.iconst 0, 1) := by decide +kernel
theorem dL_refuses_618 : decode cL_refuses 618 = .ok (.iconst 0, 1) := by decide +kernel
theorem dL_refuses_619 : decode cL_refuses 619 = .ok (.invokestatic 143, 3) := by decide +kernel
theorem dL_refuses_622 : decode cL_refuses 622 = .ok (.ldc 18, 2) := by decide +kernel
theorem dL_refuses_624 : decode cL_refuses 624 = .ok (.if_icmp .ne 271, 3) := by decide +kernel
theorem dL_refuses_627 : decode cL_refuses 627 = .ok (.aload_n 0, 1) := by decide +kernel
theorem dL_refuses_628 : decode cL_refuses 628 = .ok (.bipush 9, 2) := by decide +kernel
theorem dL_refuses_630 : decode cL_refuses 630 = .ok (.iconst 0, 1) := by decide +kernel
theorem dL_refuses_631 : decode cL_refuses 631 = .ok (.iload_n 1, 1) := by decide +kernel
theorem dL_refuses_632 : decode cL_refuses 632 = .ok (.iconst 2, 1) := by decide +kernel
theorem dL_refuses_633 : decode cL_refuses 633 = .ok (.irem, 1) := by decide +kernel
theorem dL_refuses_634 : decode cL_refuses 634 = .ok (.ifCond .ne 7, 3) := by decide +kernel
theorem dL_refuses_637 : decode cL_refuses 637 = .ok (.iconst (-1), 1) := by decide +kernel
theorem dL_refuses_638 : decode cL_refuses 638 = .ok (.goto 10, 3) := by decide +kernel
theorem dL_refuses_641 : decode cL_refuses 641 = .ok (.bipush 51, 2) := by decide +kernel
theorem dL_refuses_643 : decode cL_refuses 643 = .ok (.iload_n 1, 1) := by decide +kernel
theorem dL_refuses_644 : decode cL_refuses 644 = .ok (.bipush 9, 2) := by decide +kernel
theorem dL_refuses_646 : decode cL_refuses 646 = .ok (.irem, 1) := by decide +kernel
theorem dL_refuses_647 : decode cL_refuses 647 = .ok (.iadd, 1) := by decide +kernel
theorem dL_refuses_648 : decode cL_refuses 648 = .ok (.iconst 0, 1) := by decide +kernel
theorem dL_refuses_649 : decode cL_refuses 649 = .ok (.invokestatic 143, 3) := by decide +kernel
theorem dL_refuses_652 : decode cL_refuses 652 = .ok (.ldc 18, 2) := by decide +kernel
theorem dL_refuses_654 : decode cL_refuses 654 = .ok (.if_icmp .ne 241, 3) := by decide +kernel
theorem dL_refuses_657 : decode cL_refuses 657 = .ok (.aload_n 0, 1) := by decide +kernel
theorem dL_refuses_658 : decode cL_refuses 658 = .ok (.bipush 9, 2) := by decide +kernel
theorem dL_refuses_660 : decode cL_refuses 660 = .ok (.iconst 1, 1) := by decide +kernel
theorem dL_refuses_661 : decode cL_refuses 661 = .ok (.iload_n 1, 1) := by decide +kernel
theorem dL_refuses_662 : decode cL_refuses 662 = .ok (.iconst 2, 1) := by decide +kernel
theorem dL_refuses_663 : decode cL_refuses 663 = .ok (.irem, 1) := by decide +kernel
theorem dL_refuses_664 : decode cL_refuses 664 = .ok (.ifCond .ne 7, 3) := by decide +kernel
theorem dL_refuses_667 : decode cL_refuses 667 = .ok (.iconst (-1), 1) := by decide +kernel
theorem dL_refuses_668 : decode cL_refuses 668 = .ok (.goto 10, 3) := by decide +kernel
theorem dL_refuses_671 : decode cL_refuses 671 = .ok (.bipush 9, 2) := by decide +kernel
theorem dL_refuses_673 : decode cL_refuses 673 = .ok (.iload_n 1, 1) := by decide +kernel
theorem dL_refuses_674 : decode cL_refuses 674 = .ok (.bipush 9, 2) := by decide +kernel
theorem dL_refuses_676 : decode cL_refuses 676 = .ok (.irem, 1) := by decide +kernel
theorem dL_refuses_677 : decode cL_refuses 677 = .ok (.iadd, 1) := by decide +kernel
theorem dL_refuses_678 : decode cL_refuses 678 = .ok (.iconst 0, 1) := by decide +kernel
theorem dL_refuses_679 : decode cL_refuses 679 = .ok (.invokestatic 143, 3) := by decide +kernel
theorem dL_refuses_682 : decode cL_refuses 682 = .ok (.ldc 18, 2) := by decide +kernel
theorem dL_refuses_684 : decode cL_refuses 684 = .ok (.if_icmp .ne 211, 3) := by decide +kernel
theorem dL_refuses_687 : decode cL_refuses 687 = .ok (.aload_n 0, 1) := by decide +kernel
theorem dL_refuses_688 : decode cL_refuses 688 = .ok (.bipush 9, 2) := by decide +kernel
theorem dL_refuses_690 : decode cL_refuses 690 = .ok (.iconst 2, 1) := by decide +kernel
theorem dL_refuses_691 : decode cL_refuses 691 = .ok (.iload_n 1, 1) := by decide +kernel
theorem dL_refuses_692 : decode cL_refuses 692 = .ok (.bipush 9, 2) := by decide +kernel
theorem dL_refuses_694 : decode cL_refuses 694 = .ok (.irem, 1) := by decide +kernel
theorem dL_refuses_695 : decode cL_refuses 695 = .ok (.iadd, 1) := by decide +kernel
theorem dL_refuses_696 : decode cL_refuses 696 = .ok (.iconst 5, 1) := by decide +kernel
theorem dL_refuses_697 : decode cL_refuses 697 = .ok (.iconst 0, 1) := by decide +kernel
theorem dL_refuses_698 : decode cL_refuses 698 = .ok (.invokestatic 143, 3) := by decide +kernel
theorem dL_refuses_701 : decode cL_refuses 701 = .ok (.ldc 18, 2) := by decide +kernel
theorem dL_refuses_703 : decode cL_refuses 703 = .ok (.if_icmp .ne 192, 3) := by decide +kernel
theorem dL_refuses_706 : decode cL_refuses 706 = .ok (.aload_n 0, 1) := by decide +kernel
theorem dL_refuses_707 : decode cL_refuses 707 = .ok (.bipush 11, 2) := by decide +kernel
theorem dL_refuses_709 : decode cL_refuses 709 = .ok (.iload 4, 2) := by decide +kernel
theorem dL_refuses_711 : decode cL_refuses 711 = .ok (.iconst 0, 1) := by decide +kernel
theorem dL_refuses_712 : decode cL_refuses 712 = .ok (.iconst 0, 1) := by decide +kernel
theorem dL_refuses_713 : decode cL_refuses 713 = .ok (.invokestatic 143, 3) := by decide +kernel
theorem dL_refuses_716 : decode cL_refuses 716 = .ok (.ldc 15, 2) := by decide +kernel
theorem dL_refuses_718 : decode cL_refuses 718 = .ok (.if_icmp .ne 177, 3) := by decide +kernel
theorem dL_refuses_721 : decode cL_refuses 721 = .ok (.aload_n 0, 1) := by decide +kernel
theorem dL_refuses_722 : decode cL_refuses 722 = .ok (.bipush 12, 2) := by decide +kernel
theorem dL_refuses_724 : decode cL_refuses 724 = .ok (.iload_n 1, 1) := by decide +kernel
theorem dL_refuses_725 : decode cL_refuses 725 = .ok (.iconst 2, 1) := by decide +kernel
theorem dL_refuses_726 : decode cL_refuses 726 = .ok (.irem, 1) := by decide +kernel
theorem dL_refuses_727 : decode cL_refuses 727 = .ok (.ifCond .ne 7, 3) := by decide +kernel
theorem dL_refuses_730 : decode cL_refuses 730 = .ok (.iconst (-1), 1) := by decide +kernel
theorem dL_refuses_731 : decode cL_refuses 731 = .ok (.goto 11, 3) := by decide +kernel
theorem dL_refuses_734 : decode cL_refuses 734 = .ok (.sipush 256, 3) := by decide +kernel
theorem dL_refuses_737 : decode cL_refuses 737 = .ok (.iload_n 1, 1) := by decide +kernel
theorem dL_refuses_738 : decode cL_refuses 738 = .ok (.bipush 9, 2) := by decide +kernel
theorem dL_refuses_740 : decode cL_refuses 740 = .ok (.irem, 1) := by decide +kernel
theorem dL_refuses_741 : decode cL_refuses 741 = .ok (.iadd, 1) := by decide +kernel
theorem dL_refuses_742 : decode cL_refuses 742 = .ok (.iconst 0, 1) := by decide +kernel
theorem dL_refuses_743 : decode cL_refuses 743 = .ok (.iconst 0, 1) := by decide +kernel
theorem dL_refuses_744 : decode cL_refuses 744 = .ok (.invokestatic 143, 3) := by decide +kernel
theorem dL_refuses_747 : decode cL_refuses 747 = .ok (.ldc 18, 2) := by decide +kernel
theorem dL_refuses_749 : decode cL_refuses 749 = .ok (.if_icmp .ne 146, 3) := by decide +kernel
theorem dL_refuses_752 : decode cL_refuses 752 = .ok (.aload_n 0, 1) := by decide +kernel
theorem dL_refuses_753 : decode cL_refuses 753 = .ok (.iload 4, 2) := by decide +kernel
theorem dL_refuses_755 : decode cL_refuses 755 = .ok (.iconst 0, 1) := by decide +kernel
theorem dL_refuses_756 : decode cL_refuses 756 = .ok (.iconst 0, 1) := by decide +kernel
theorem dL_refuses_757 : decode cL_refuses 757 = .ok (.iconst 0, 1) := by decide +kernel
theorem dL_refuses_758 : decode cL_refuses 758 = .ok (.invokestatic 158, 3) := by decide +kernel
theorem dL_refuses_761 : decode cL_refuses 761 = .ok (.ldc 15, 2) := by decide +kernel
theorem dL_refuses_763 : decode cL_refuses 763 = .ok (.if_icmp .ne 132, 3) := by decide +kernel
theorem dL_refuses_766 : decode cL_refuses 766 = .ok (.aload_n 0, 1) := by decide +kernel
theorem dL_refuses_767 : decode cL_refuses 767 = .ok (.iconst 0, 1) := by decide +kernel
theorem dL_refuses_768 : decode cL_refuses 768 = .ok (.iload 7, 2) := by decide +kernel
theorem dL_refuses_770 : decode cL_refuses 770 = .ok (.iconst 0, 1) := by decide +kernel
theorem dL_refuses_771 : decode cL_refuses 771 = .ok (.iconst 0, 1) := by decide +kernel
theorem dL_refuses_772 : decode cL_refuses 772 = .ok (.invokestatic 158, 3) := by decide +kernel
theorem dL_refuses_775 : decode cL_refuses 775 = .ok (.ldc 15, 2) := by decide +kernel
theorem dL_refuses_777 : decode cL_refuses 777 = .ok (.if_icmp .ne 118, 3) := by decide +kernel
theorem dL_refuses_780 : decode cL_refuses 780 = .ok (.aload_n 0, 1) := by decide +kernel
theorem dL_refuses_781 : decode cL_refuses 781 = .ok (.iconst 0, 1) := by decide +kernel
theorem dL_refuses_782 : decode cL_refuses 782 = .ok (.iconst 0, 1) := by decide +kernel
theorem dL_refuses_783 : decode cL_refuses 783 = .ok (.iload 6, 2) := by decide +kernel
theorem dL_refuses_785 : decode cL_refuses 785 = .ok (.iconst 0, 1) := by decide +kernel
theorem dL_refuses_786 : decode cL_refuses 786 = .ok (.invokestatic 158, 3) := by decide +kernel
theorem dL_refuses_789 : decode cL_refuses 789 = .ok (.ldc 15, 2) := by decide +kernel
theorem dL_refuses_791 : decode cL_refuses 791 = .ok (.if_icmp .ne 104, 3) := by decide +kernel
theorem dL_refuses_794 : decode cL_refuses 794 = .ok (.aload_n 0, 1) := by decide +kernel
theorem dL_refuses_795 : decode cL_refuses 795 = .ok (.iconst 0, 1) := by decide +kernel
theorem dL_refuses_796 : decode cL_refuses 796 = .ok (.iconst 0, 1) := by decide +kernel
theorem dL_refuses_797 : decode cL_refuses 797 = .ok (.iconst 0, 1) := by decide +kernel
theorem dL_refuses_798 : decode cL_refuses 798 = .ok (.iload 7, 2) := by decide +kernel
theorem dL_refuses_800 : decode cL_refuses 800 = .ok (.invokestatic 158, 3) := by decide +kernel
theorem dL_refuses_803 : decode cL_refuses 803 = .ok (.ldc 15, 2) := by decide +kernel
theorem dL_refuses_805 : decode cL_refuses 805 = .ok (.if_icmp .ne 90, 3) := by decide +kernel
theorem dL_refuses_808 : decode cL_refuses 808 = .ok (.aload_n 0, 1) := by decide +kernel
theorem dL_refuses_809 : decode cL_refuses 809 = .ok (.bipush 13, 2) := by decide +kernel
theorem dL_refuses_811 : decode cL_refuses 811 = .ok (.iconst 2, 1) := by decide +kernel
theorem dL_refuses_812 : decode cL_refuses 812 = .ok (.iload_n 1, 1) := by decide +kernel
theorem dL_refuses_813 : decode cL_refuses 813 = .ok (.bipush 50, 2) := by decide +kernel
theorem dL_refuses_815 : decode cL_refuses 815 = .ok (.irem, 1) := by decide +kernel
theorem dL_refuses_816 : decode cL_refuses 816 = .ok (.iadd, 1) := by decide +kernel
theorem dL_refuses_817 : decode cL_refuses 817 = .ok (.iconst 0, 1) := by decide +kernel
theorem dL_refuses_818 : decode cL_refuses 818 = .ok (.iconst 0, 1) := by decide +kernel
theorem dL_refuses_819 : decode cL_refuses 819 = .ok (.invokestatic 143, 3) := by decide +kernel
theorem dL_refuses_822 : decode cL_refuses 822 = .ok (.ldc 15, 2) := by decide +kernel
theorem dL_refuses_824 : decode cL_refuses 824 = .ok (.if_icmp .ne 71, 3) := by decide +kernel
theorem dL_refuses_827 : decode cL_refuses 827 = .ok (.aload_n 0, 1) := by decide +kernel
theorem dL_refuses_828 : decode cL_refuses 828 = .ok (.bipush 14, 2) := by decide +kernel
theorem dL_refuses_830 : decode cL_refuses 830 = .ok (.iconst (-1), 1) := by decide +kernel
theorem dL_refuses_831 : decode cL_refuses 831 = .ok (.iload_n 1, 1) := by decide +kernel
theorem dL_refuses_832 : decode cL_refuses 832 = .ok (.bipush 9, 2) := by decide +kernel
theorem dL_refuses_834 : decode cL_refuses 834 = .ok (.irem, 1) := by decide +kernel
theorem dL_refuses_835 : decode cL_refuses 835 = .ok (.isub, 1) := by decide +kernel
theorem dL_refuses_836 : decode cL_refuses 836 = .ok (.iconst 0, 1) := by decide +kernel
theorem dL_refuses_837 : decode cL_refuses 837 = .ok (.iconst 0, 1) := by decide +kernel
theorem dL_refuses_838 : decode cL_refuses 838 = .ok (.invokestatic 143, 3) := by decide +kernel
theorem dL_refuses_841 : decode cL_refuses 841 = .ok (.ldc 15, 2) := by decide +kernel
theorem dL_refuses_843 : decode cL_refuses 843 = .ok (.if_icmp .ne 52, 3) := by decide +kernel
theorem dL_refuses_846 : decode cL_refuses 846 = .ok (.aload_n 0, 1) := by decide +kernel
theorem dL_refuses_847 : decode cL_refuses 847 = .ok (.iconst 0, 1) := by decide +kernel
theorem dL_refuses_848 : decode cL_refuses 848 = .ok (.lconst 0, 1) := by decide +kernel
theorem dL_refuses_849 : decode cL_refuses 849 = .ok (.invokestatic 161, 3) := by decide +kernel
theorem dL_refuses_852 : decode cL_refuses 852 = .ok (.ldc 18, 2) := by decide +kernel
theorem dL_refuses_854 : decode cL_refuses 854 = .ok (.if_icmp .ne 41, 3) := by decide +kernel
theorem dL_refuses_857 : decode cL_refuses 857 = .ok (.aload_n 0, 1) := by decide +kernel
theorem dL_refuses_858 : decode cL_refuses 858 = .ok (.iconst 1, 1) := by decide +kernel
theorem dL_refuses_859 : decode cL_refuses 859 = .ok (.ldc2_w 165, 3) := by decide +kernel
theorem dL_refuses_862 : decode cL_refuses 862 = .ok (.iload_n 1, 1) := by decide +kernel
theorem dL_refuses_863 : decode cL_refuses 863 = .ok (.i2l, 1) := by decide +kernel
theorem dL_refuses_864 : decode cL_refuses 864 = .ok (.ladd, 1) := by decide +kernel
theorem dL_refuses_865 : decode cL_refuses 865 = .ok (.invokestatic 161, 3) := by decide +kernel
theorem dL_refuses_868 : decode cL_refuses 868 = .ok (.ldc 18, 2) := by decide +kernel
theorem dL_refuses_870 : decode cL_refuses 870 = .ok (.if_icmp .ne 25, 3) := by decide +kernel
theorem dL_refuses_873 : decode cL_refuses 873 = .ok (.aload_n 0, 1) := by decide +kernel
theorem dL_refuses_874 : decode cL_refuses 874 = .ok (.iload_n 1, 1) := by decide +kernel
theorem dL_refuses_875 : decode cL_refuses 875 = .ok (.i2l, 1) := by decide +kernel
theorem dL_refuses_876 : decode cL_refuses 876 = .ok (.bipush 61, 2) := by decide +kernel
theorem dL_refuses_878 : decode cL_refuses 878 = .ok (.iload_n 1, 1) := by decide +kernel
theorem dL_refuses_879 : decode cL_refuses 879 = .ok (.bipush 9, 2) := by decide +kernel
theorem dL_refuses_881 : decode cL_refuses 881 = .ok (.irem, 1) := by decide +kernel
theorem dL_refuses_882 : decode cL_refuses 882 = .ok (.iadd, 1) := by decide +kernel
theorem dL_refuses_883 : decode cL_refuses 883 = .ok (.invokestatic 167, 3) := by decide +kernel
theorem dL_refuses_886 : decode cL_refuses 886 = .ok (.ldc 18, 2) := by decide +kernel
theorem dL_refuses_888 : decode cL_refuses 888 = .ok (.if_icmp .ne 7, 3) := by decide +kernel
theorem dL_refuses_891 : decode cL_refuses 891 = .ok (.iconst 1, 1) := by decide +kernel
theorem dL_refuses_892 : decode cL_refuses 892 = .ok (.goto 4, 3) := by decide +kernel
theorem dL_refuses_895 : decode cL_refuses 895 = .ok (.iconst 0, 1) := by decide +kernel
theorem dL_refuses_896 : decode cL_refuses 896 = .ok (.istore 9, 2) := by decide +kernel
theorem dL_refuses_898 : decode cL_refuses 898 = .ok (.iload 9, 2) := by decide +kernel
theorem dL_refuses_900 : decode cL_refuses 900 = .ok (.ifCond .eq 122, 3) := by decide +kernel
theorem dL_refuses_903 : decode cL_refuses 903 = .ok (.iload_n 2, 1) := by decide +kernel
theorem dL_refuses_904 : decode cL_refuses 904 = .ok (.bipush 6, 2) := by decide +kernel
theorem dL_refuses_906 : decode cL_refuses 906 = .ok (.if_icmp .lt 16, 3) := by decide +kernel
theorem dL_refuses_909 : decode cL_refuses 909 = .ok (.aload_n 0, 1) := by decide +kernel
theorem dL_refuses_910 : decode cL_refuses 910 = .ok (.iconst 5, 1) := by decide +kernel
theorem dL_refuses_911 : decode cL_refuses 911 = .ok (.iconst 1, 1) := by decide +kernel
theorem dL_refuses_912 : decode cL_refuses 912 = .ok (.iconst 0, 1) := by decide +kernel
theorem dL_refuses_913 : decode cL_refuses 913 = .ok (.iconst 5, 1) := by decide +kernel
theorem dL_refuses_914 : decode cL_refuses 914 = .ok (.invokestatic 147, 3) := by decide +kernel
theorem dL_refuses_917 : decode cL_refuses 917 = .ok (.ldc 21, 2) := by decide +kernel
theorem dL_refuses_919 : decode cL_refuses 919 = .ok (.if_icmp .ne 103, 3) := by decide +kernel
theorem dL_refuses_922 : decode cL_refuses 922 = .ok (.iload_n 3, 1) := by decide +kernel
theorem dL_refuses_923 : decode cL_refuses 923 = .ok (.ifCond .eq 22, 3) := by decide +kernel
theorem dL_refuses_926 : decode cL_refuses 926 = .ok (.aload_n 0, 1) := by decide +kernel
theorem dL_refuses_927 : decode cL_refuses 927 = .ok (.iconst 4, 1) := by decide +kernel
theorem dL_refuses_928 : decode cL_refuses 928 = .ok (.iconst 0, 1) := by decide +kernel
theorem dL_refuses_929 : decode cL_refuses 929 = .ok (.bipush 9, 2) := by decide +kernel
theorem dL_refuses_931 : decode cL_refuses 931 = .ok (.iload_n 1, 1) := by decide +kernel
theorem dL_refuses_932 : decode cL_refuses 932 = .ok (.bipush 9, 2) := by decide +kernel
theorem dL_refuses_934 : decode cL_refuses 934 = .ok (.irem, 1) := by decide +kernel
theorem dL_refuses_935 : decode cL_refuses 935 = .ok (.iadd, 1) := by decide +kernel
theorem dL_refuses_936 : decode cL_refuses 936 = .ok (.iconst 0, 1) := by decide +kernel
theorem dL_refuses_937 : decode cL_refuses 937 = .ok (.invokestatic 143, 3) := by decide +kernel
theorem dL_refuses_940 : decode cL_refuses 940 = .ok (.ldc 18, 2) := by decide +kernel
theorem dL_refuses_942 : decode cL_refuses 942 = .ok (.if_icmp .ne 80, 3) := by decide +kernel
theorem dL_refuses_945 : decode cL_refuses 945 = .ok (.iload_n 3, 1) := by decide +kernel
theorem dL_refuses_946 : decode cL_refuses 946 = .ok (.bipush 20, 2) := by decide +kernel
theorem dL_refuses_948 : decode cL_refuses 948 = .ok (.if_icmp .lt 17, 3) := by decide +kernel
theorem dL_refuses_951 : decode cL_refuses 951 = .ok (.aload_n 0, 1) := by decide +kernel
theorem dL_refuses_952 : decode cL_refuses 952 = .ok (.iconst 0, 1) := by decide +kernel
theorem dL_refuses_953 : decode cL_refuses 953 = .ok (.iconst 0, 1) := by decide +kernel
theorem dL_refuses_954 : decode cL_refuses 954 = .ok (.iconst 5, 1) := by decide +kernel
theorem dL_refuses_955 : decode cL_refuses 955 = .ok (.iconst 0, 1) := by decide +kernel
theorem dL_refuses_956 : decode cL_refuses 956 = .ok (.iconst 1, 1) := by decide +kernel
theorem dL_refuses_957 : decode cL_refuses 957 = .ok (.invokestatic 150, 3) := by decide +kernel
theorem dL_refuses_960 : decode cL_refuses 960 = .ok (.ldc 21, 2) := by decide +kernel
theorem dL_refuses_962 : decode cL_refuses 962 = .ok (.if_icmp .ne 60, 3) := by decide +kernel
theorem dL_refuses_965 : decode cL_refuses 965 = .ok (.aload_n 0, 1) := by decide +kernel
theorem dL_refuses_966 : decode cL_refuses 966 = .ok (.iconst 3, 1) := by decide +kernel
theorem dL_refuses_967 : decode cL_refuses 967 = .ok (.iconst 0, 1) := by decide +kernel
theorem dL_refuses_968 : decode cL_refuses 968 = .ok (.iconst 5, 1) := by decide +kernel
theorem dL_refuses_969 : decode cL_refuses 969 = .ok (.iconst 0, 1) := by decide +kernel
theorem dL_refuses_970 : decode cL_refuses 970 = .ok (.invokestatic 143, 3) := by decide +kernel
theorem dL_refuses_973 : decode cL_refuses 973 = .ok (.iconst 1, 1) := by decide +kernel
theorem dL_refuses_974 : decode cL_refuses 974 = .ok (.if_icmp .eq 44, 3) := by decide +kernel
theorem dL_refuses_977 : decode cL_refuses 977 = .ok (.aload_n 0, 1) := by decide +kernel
theorem dL_refuses_978 : decode cL_refuses 978 = .ok (.bipush 7, 2) := by decide +kernel
theorem dL_refuses_980 : decode cL_refuses 980 = .ok (.iconst 0, 1) := by decide +kernel
theorem dL_refuses_981 : decode cL_refuses 981 = .ok (.iconst 0, 1) := by decide +kernel
theorem dL_refuses_982 : decode cL_refuses 982 = .ok (.iconst 0, 1) := by decide +kernel
theorem dL_refuses_983 : decode cL_refuses 983 = .ok (.invokestatic 143, 3) := by decide +kernel
theorem dL_refuses_986 : decode cL_refuses 986 = .ok (.ldc 21, 2) := by decide +kernel
theorem dL_refuses_988 : decode cL_refuses 988 = .ok (.if_icmp .ne 34, 3) := by decide +kernel
theorem dL_refuses_991 : decode cL_refuses 991 = .ok (.aload_n 0, 1) := by decide +kernel
theorem dL_refuses_992 : decode cL_refuses 992 = .ok (.bipush 11, 2) := by decide +kernel
theorem dL_refuses_994 : decode cL_refuses 994 = .ok (.iconst 0, 1) := by decide +kernel
theorem dL_refuses_995 : decode cL_refuses 995 = .ok (.iconst 0, 1) := by decide +kernel
theorem dL_refuses_996 : decode cL_refuses 996 = .ok (.iconst 0, 1) := by decide +kernel
theorem dL_refuses_997 : decode cL_refuses 997 = .ok (.invokestatic 143, 3) := by decide +kernel
theorem dL_refuses_1000 : decode cL_refuses 1000 = .ok (.ldc 21, 2) := by decide +kernel
theorem dL_refuses_1002 : decode cL_refuses 1002 = .ok (.if_icmp .ne 20, 3) := by decide +kernel
theorem dL_refuses_1005 : decode cL_refuses 1005 = .ok (.aload_n 0, 1) := by decide +kernel
theorem dL_refuses_1006 : decode cL_refuses 1006 = .ok (.iconst 0, 1) := by decide +kernel
theorem dL_refuses_1007 : decode cL_refuses 1007 = .ok (.iconst 0, 1) := by decide +kernel
theorem dL_refuses_1008 : decode cL_refuses 1008 = .ok (.iconst 0, 1) := by decide +kernel
theorem dL_refuses_1009 : decode cL_refuses 1009 = .ok (.iconst 0, 1) := by decide +kernel
theorem dL_refuses_1010 : decode cL_refuses 1010 = .ok (.invokestatic 158, 3) := by decide +kernel
theorem dL_refuses_1013 : decode cL_refuses 1013 = .ok (.ldc 21, 2) := by decide +kernel
theorem dL_refuses_1015 : decode cL_refuses 1015 = .ok (.if_icmp .ne 7, 3) := by decide +kernel
theorem dL_refuses_1018 : decode cL_refuses 1018 = .ok (.iconst 1, 1) := by decide +kernel
theorem dL_refuses_1019 : decode cL_refuses 1019 = .ok (.goto 4, 3) := by decide +kernel
theorem dL_refuses_1022 : decode cL_refuses 1022 = .ok (.iconst 0, 1) := by decide +kernel
theorem dL_refuses_1023 : decode cL_refuses 1023 = .ok (.ireturn, 1) := by decide +kernel
theorem dL_holds_0 : decode cL_holds 0 = .ok (.aload_n 0, 1) := by decide +kernel
theorem dL_holds_1 : decode cL_holds 1 = .ok (.iconst 2, 1) := by decide +kernel
theorem dL_holds_2 : decode cL_holds 2 = .ok (.iconst 0, 1) := by decide +kernel
theorem dL_holds_3 : decode cL_holds 3 = .ok (.iconst 0, 1) := by decide +kernel
theorem dL_holds_4 : decode cL_holds 4 = .ok (.iconst 0, 1) := by decide +kernel
theorem dL_holds_5 : decode cL_holds 5 = .ok (.invokestatic 143, 3) := by decide +kernel
theorem dL_holds_8 : decode cL_holds 8 = .ok (.istore_n 2, 1) := by decide +kernel
theorem dL_holds_9 : decode cL_holds 9 = .ok (.aload_n 0, 1) := by decide +kernel
theorem dL_holds_10 : decode cL_holds 10 = .ok (.iconst 2, 1) := by decide +kernel
theorem dL_holds_11 : decode cL_holds 11 = .ok (.iconst 2, 1) := by decide +kernel
theorem dL_holds_12 : decode cL_holds 12 = .ok (.iconst 0, 1) := by decide +kernel
theorem dL_holds_13 : decode cL_holds 13 = .ok (.iconst 0, 1) := by decide +kernel
theorem dL_holds_14 : decode cL_holds 14 = .ok (.invokestatic 143, 3) := by decide +kernel
theorem dL_holds_17 : decode cL_holds 17 = .ok (.istore_n 3, 1) := by decide +kernel
theorem dL_holds_18 : decode cL_holds 18 = .ok (.aload_n 0, 1) := by decide +kernel
theorem dL_holds_19 : decode cL_holds 19 = .ok (.iconst 2, 1) := by decide +kernel
theorem dL_holds_20 : decode cL_holds 20 = .ok (.iconst 3, 1) := by decide +kernel
theorem dL_holds_21 : decode cL_holds 21 = .ok (.iconst 0, 1) := by decide +kernel
theorem dL_holds_22 : decode cL_holds 22 = .ok (.iconst 0, 1) := by decide +kernel
theorem dL_holds_23 : decode cL_holds 23 = .ok (.invokestatic 143, 3) := by decide +kernel
theorem dL_holds_26 : decode cL_holds 26 = .ok (.istore 4, 2) := by decide +kernel
theorem dL_holds_28 : decode cL_holds 28 = .ok (.iconst 0, 1) := by decide +kernel
theorem dL_holds_29 : decode cL_holds 29 = .ok (.istore 5, 2) := by decide +kernel
theorem dL_holds_31 : decode cL_holds 31 = .ok (.iconst 0, 1) := by decide +kernel
theorem dL_holds_32 : decode cL_holds 32 = .ok (.istore 6, 2) := by decide +kernel
theorem dL_holds_34 : decode cL_holds 34 = .ok (.iconst 0, 1) := by decide +kernel
theorem dL_holds_35 : decode cL_holds 35 = .ok (.istore 7, 2) := by decide +kernel
theorem dL_holds_37 : decode cL_holds 37 = .ok (.iconst 0, 1) := by decide +kernel
theorem dL_holds_38 : decode cL_holds 38 = .ok (.istore 8, 2) := by decide +kernel
theorem dL_holds_40 : decode cL_holds 40 = .ok (.iconst 0, 1) := by decide +kernel
theorem dL_holds_41 : decode cL_holds 41 = .ok (.istore 9, 2) := by decide +kernel
theorem dL_holds_43 : decode cL_holds 43 = .ok (.iconst 0, 1) := by decide +kernel
theorem dL_holds_44 : decode cL_holds 44 = .ok (.istore 10, 2) := by decide +kernel
theorem dL_holds_46 : decode cL_holds 46 = .ok (.iconst 0, 1) := by decide +kernel
theorem dL_holds_47 : decode cL_holds 47 = .ok (.istore 11, 2) := by decide +kernel
theorem dL_holds_49 : decode cL_holds 49 = .ok (.iload_n 2, 1) := by decide +kernel
theorem dL_holds_50 : decode cL_holds 50 = .ok (.bipush 6, 2) := by decide +kernel
theorem dL_holds_52 : decode cL_holds 52 = .ok (.if_icmp .gt 13, 3) := by decide +kernel
theorem dL_holds_55 : decode cL_holds 55 = .ok (.iload_n 3, 1) := by decide +kernel
theorem dL_holds_56 : decode cL_holds 56 = .ok (.bipush 20, 2) := by decide +kernel
theorem dL_holds_58 : decode cL_holds 58 = .ok (.if_icmp .gt 7, 3) := by decide +kernel
theorem dL_holds_61 : decode cL_holds 61 = .ok (.iconst 1, 1) := by decide +kernel
theorem dL_holds_62 : decode cL_holds 62 = .ok (.goto 4, 3) := by decide +kernel
theorem dL_holds_65 : decode cL_holds 65 = .ok (.iconst 0, 1) := by decide +kernel
theorem dL_holds_66 : decode cL_holds 66 = .ok (.istore 12, 2) := by decide +kernel
theorem dL_holds_68 : decode cL_holds 68 = .ok (.iconst 0, 1) := by decide +kernel
theorem dL_holds_69 : decode cL_holds 69 = .ok (.istore 13, 2) := by decide +kernel
theorem dL_holds_71 : decode cL_holds 71 = .ok (.iload 13, 2) := by decide +kernel
theorem dL_holds_73 : decode cL_holds 73 = .ok (.iload_n 2, 1) := by decide +kernel
theorem dL_holds_74 : decode cL_holds 74 = .ok (.if_icmp .ge 358, 3) := by decide +kernel
theorem dL_holds_77 : decode cL_holds 77 = .ok (.iload 12, 2) := by decide +kernel
theorem dL_holds_79 : decode cL_holds 79 = .ok (.ifCond .eq 353, 3) := by decide +kernel
theorem dL_holds_82 : decode cL_holds 82 = .ok (.aload_n 0, 1) := by decide +kernel
theorem dL_holds_83 : decode cL_holds 83 = .ok (.iconst 3, 1) := by decide +kernel
theorem dL_holds_84 : decode cL_holds 84 = .ok (.iload 13, 2) := by decide +kernel
theorem dL_holds_86 : decode cL_holds 86 = .ok (.iconst 5, 1) := by decide +kernel
theorem dL_holds_87 : decode cL_holds 87 = .ok (.iconst 0, 1) := by decide +kernel
theorem dL_holds_88 : decode cL_holds 88 = .ok (.invokestatic 143, 3) := by decide +kernel
theorem dL_holds_91 : decode cL_holds 91 = .ok (.istore 14, 2) := by decide +kernel
theorem dL_holds_93 : decode cL_holds 93 = .ok (.aload_n 0, 1) := by decide +kernel
theorem dL_holds_94 : decode cL_holds 94 = .ok (.iconst 3, 1) := by decide +kernel
theorem dL_holds_95 : decode cL_holds 95 = .ok (.iload 13, 2) := by decide +kernel
theorem dL_holds_97 : decode cL_holds 97 = .ok (.iconst 3, 1) := by decide +kernel
theorem dL_holds_98 : decode cL_holds 98 = .ok (.iconst 0, 1) := by decide +kernel
theorem dL_holds_99 : decode cL_holds 99 = .ok (.invokestatic 143, 3) := by decide +kernel
theorem dL_holds_102 : decode cL_holds 102 = .ok (.istore 15, 2) := by decide +kernel
theorem dL_holds_104 : decode cL_holds 104 = .ok (.iload 5, 2) := by decide +kernel
theorem dL_holds_106 : decode cL_holds 106 = .ok (.iload 14, 2) := by decide +kernel
theorem dL_holds_108 : decode cL_holds 108 = .ok (.iadd, 1) := by decide +kernel
theorem dL_holds_109 : decode cL_holds 109 = .ok (.istore 5, 2) := by decide +kernel
theorem dL_holds_111 : decode cL_holds 111 = .ok (.iload 6, 2) := by decide +kernel
theorem dL_holds_113 : decode cL_holds 113 = .ok (.iload 14, 2) := by decide +kernel
theorem dL_holds_115 : decode cL_holds 115 = .ok (.aload_n 0, 1) := by decide +kernel
theorem dL_holds_116 : decode cL_holds 116 = .ok (.iconst 3, 1) := by decide +kernel
theorem dL_holds_117 : decode cL_holds 117 = .ok (.iload 13, 2) := by decide +kernel
theorem dL_holds_119 : decode cL_holds 119 = .ok (.iconst 4, 1) := by decide +kernel
theorem dL_holds_120 : decode cL_holds 120 = .ok (.iconst 0, 1) := by decide +kernel
theorem dL_holds_121 : decode cL_holds 121 = .ok (.invokestatic 143, 3) := by decide +kernel
theorem dL_holds_124 : decode cL_holds 124 = .ok (.imul, 1) := by decide +kernel
theorem dL_holds_125 : decode cL_holds 125 = .ok (.iadd, 1) := by decide +kernel
theorem dL_holds_126 : decode cL_holds 126 = .ok (.istore 6, 2) := by decide +kernel
theorem dL_holds_128 : decode cL_holds 128 = .ok (.iload 11, 2) := by decide +kernel
theorem dL_holds_130 : decode cL_holds 130 = .ok (.aload_n 0, 1) := by decide +kernel
theorem dL_holds_131 : decode cL_holds 131 = .ok (.iconst 3, 1) := by decide +kernel
theorem dL_holds_132 : decode cL_holds 132 = .ok (.iload 13, 2) := by decide +kernel
theorem dL_holds_134 : decode cL_holds 134 = .ok (.iconst 4, 1) := by decide +kernel
theorem dL_holds_135 : decode cL_holds 135 = .ok (.iconst 0, 1) := by decide +kernel
theorem dL_holds_136 : decode cL_holds 136 = .ok (.invokestatic 143, 3) := by decide +kernel
theorem dL_holds_139 : decode cL_holds 139 = .ok (.iadd, 1) := by decide +kernel
theorem dL_holds_140 : decode cL_holds 140 = .ok (.istore 11, 2) := by decide +kernel
theorem dL_holds_142 : decode cL_holds 142 = .ok (.iload 9, 2) := by decide +kernel
theorem dL_holds_144 : decode cL_holds 144 = .ok (.aload_n 0, 1) := by decide +kernel
theorem dL_holds_145 : decode cL_holds 145 = .ok (.iconst 3, 1) := by decide +kernel
theorem dL_holds_146 : decode cL_holds 146 = .ok (.iload 13, 2) := by decide +kernel
theorem dL_holds_148 : decode cL_holds 148 = .ok (.bipush 6, 2) := by decide +kernel
theorem dL_holds_150 : decode cL_holds 150 = .ok (.iconst 0, 1) := by decide +kernel
theorem dL_holds_151 : decode cL_holds 151 = .ok (.invokestatic 143, 3) := by decide +kernel
theorem dL_holds_154 : decode cL_holds 154 = .ok (.iadd, 1) := by decide +kernel
theorem dL_holds_155 : decode cL_holds 155 = .ok (.istore 9, 2) := by decide +kernel
theorem dL_holds_157 : decode cL_holds 157 = .ok (.iconst 0, 1) := by decide +kernel
theorem dL_holds_158 : decode cL_holds 158 = .ok (.istore 16, 2) := by decide +kernel
theorem dL_holds_160 : decode cL_holds 160 = .ok (.iconst 0, 1) := by decide +kernel
theorem dL_holds_161 : decode cL_holds 161 = .ok (.istore 17, 2) := by decide +kernel
theorem dL_holds_163 : decode cL_holds 163 = .ok (.iload 17, 2) := by decide +kernel
theorem dL_holds_165 : decode cL_holds 165 = .ok (.iload_n 3, 1) := by decide +kernel
theorem dL_holds_166 : decode cL_holds 166 = .ok (.if_icmp .ge 46, 3) := by decide +kernel
theorem dL_holds_169 : decode cL_holds 169 = .ok (.iload 16, 2) := by decide +kernel
theorem dL_holds_171 : decode cL_holds 171 = .ok (.aload_n 0, 1) := by decide +kernel
theorem dL_holds_172 : decode cL_holds 172 = .ok (.iconst 4, 1) := by decide +kernel
theorem dL_holds_173 : decode cL_holds 173 = .ok (.iload 17, 2) := by decide +kernel
theorem dL_holds_175 : decode cL_holds 175 = .ok (.iconst 5, 1) := by decide +kernel
theorem dL_holds_176 : decode cL_holds 176 = .ok (.iconst 0, 1) := by decide +kernel
theorem dL_holds_177 : decode cL_holds 177 = .ok (.invokestatic 143, 3) := by decide +kernel
theorem dL_holds_180 : decode cL_holds 180 = .ok (.iload 13, 2) := by decide +kernel
theorem dL_holds_182 : decode cL_holds 182 = .ok (.if_icmp .ne 20, 3) := by decide +kernel
theorem dL_holds_185 : decode cL_holds 185 = .ok (.aload_n 0, 1) := by decide +kernel
theorem dL_holds_186 : decode cL_holds 186 = .ok (.iconst 4, 1) := by decide +kernel
theorem dL_holds_187 : decode cL_holds 187 = .ok (.iload 17, 2) := by decide +kernel
theorem dL_holds_189 : decode cL_holds 189 = .ok (.bipush 8, 2) := by decide +kernel
theorem dL_holds_191 : decode cL_holds 191 = .ok (.iconst 0, 1) := by decide +kernel
theorem dL_holds_192 : decode cL_holds 192 = .ok (.invokestatic 143, 3) := by decide +kernel
theorem dL_holds_195 : decode cL_holds 195 = .ok (.ifCond .ne 7, 3) := by decide +kernel
theorem dL_holds_198 : decode cL_holds 198 = .ok (.iconst 1, 1) := by decide +kernel
theorem dL_holds_199 : decode cL_holds 199 = .ok (.goto 4, 3) := by decide +kernel
theorem dL_holds_202 : decode cL_holds 202 = .ok (.iconst 0, 1) := by decide +kernel
theorem dL_holds_203 : decode cL_holds 203 = .ok (.iadd, 1) := by decide +kernel
theorem dL_holds_204 : decode cL_holds 204 = .ok (.istore 16, 2) := by decide +kernel
theorem dL_holds_206 : decode cL_holds 206 = .ok (.iinc 17 1, 3) := by decide +kernel
theorem dL_holds_209 : decode cL_holds 209 = .ok (.goto (-46), 3) := by decide +kernel
theorem dL_holds_212 : decode cL_holds 212 = .ok (.iload 15, 2) := by decide +kernel
theorem dL_holds_214 : decode cL_holds 214 = .ok (.ifCond .lt 98, 3) := by decide +kernel
theorem dL_holds_217 : decode cL_holds 217 = .ok (.iload 15, 2) := by decide +kernel
theorem dL_holds_219 : decode cL_holds 219 = .ok (.iload 4, 2) := by decide +kernel
theorem dL_holds_221 : decode cL_holds 221 = .ok (.if_icmp .gt 91, 3) := by decide +kernel
theorem dL_holds_224 : decode cL_holds 224 = .ok (.iload 16, 2) := by decide +kernel
theorem dL_holds_226 : decode cL_holds 226 = .ok (.aload_n 0, 1) := by decide +kernel
theorem dL_holds_227 : decode cL_holds 227 = .ok (.iconst 3, 1) := by decide +kernel
theorem dL_holds_228 : decode cL_holds 228 = .ok (.iload 13, 2) := by decide +kernel
theorem dL_holds_230 : decode cL_holds 230 = .ok (.bipush 7, 2) := by decide +kernel
theorem dL_holds_232 : decode cL_holds 232 = .ok (.iconst 0, 1) := by decide +kernel
theorem dL_holds_233 : decode cL_holds 233 = .ok (.invokestatic 143, 3) := by decide +kernel
theorem dL_holds_236 : decode cL_holds 236 = .ok (.if_icmp .ne 76, 3) := by decide +kernel
theorem dL_holds_239 : decode cL_holds 239 = .ok (.aload_n 0, 1) := by decide +kernel
theorem dL_holds_240 : decode cL_holds 240 = .ok (.iconst 3, 1) := by decide +kernel
theorem dL_holds_241 : decode cL_holds 241 = .ok (.iload 13, 2) := by decide +kernel
theorem dL_holds_243 : decode cL_holds 243 = .ok (.bipush 8, 2) := by decide +kernel
theorem dL_holds_245 : decode cL_holds 245 = .ok (.iconst 0, 1) := by decide +kernel
theorem dL_holds_246 : decode cL_holds 246 = .ok (.invokestatic 143, 3) := by decide +kernel
theorem dL_holds_249 : decode cL_holds 249 = .ok (.iconst (-1), 1) := by decide +kernel
theorem dL_holds_250 : decode cL_holds 250 = .ok (.if_icmp .ne 7, 3) := by decide +kernel
theorem dL_holds_253 : decode cL_holds 253 = .ok (.iconst 1, 1) := by decide +kernel
theorem dL_holds_254 : decode cL_holds 254 = .ok (.goto 4, 3) := by decide +kernel
theorem dL_holds_257 : decode cL_holds 257 = .ok (.iconst 0, 1) := by decide +kernel
theorem dL_holds_258 : decode cL_holds 258 = .ok (.iload 14, 2) := by decide +kernel
theorem dL_holds_260 : decode cL_holds 260 = .ok (.iconst 1, 1) := by decide +kernel
theorem dL_holds_261 : decode cL_holds 261 = .ok (.if_icmp .ne 7, 3) := by decide +kernel
theorem dL_holds_264 : decode cL_holds 264 = .ok (.iconst 1, 1) := by decide +kernel
theorem dL_holds_265 : decode cL_holds 265 = .ok (.goto 4, 3) := by decide +kernel
theorem dL_holds_268 : decode cL_holds 268 = .ok (.iconst 0, 1) := by decide +kernel
theorem dL_holds_269 : decode cL_holds 269 = .ok (.if_icmp .ne 43, 3) := by decide +kernel
theorem dL_holds_272 : decode cL_holds 272 = .ok (.iload 14, 2) := by decide +kernel
theorem dL_holds_274 : decode cL_holds 274 = .ok (.iconst 1, 1) := by decide +kernel
theorem dL_holds_275 : decode cL_holds 275 = .ok (.if_icmp .eq 33, 3) := by decide +kernel
theorem dL_holds_278 : decode cL_holds 278 = .ok (.aload_n 0, 1) := by decide +kernel
theorem dL_holds_279 : decode cL_holds 279 = .ok (.iconst 3, 1) := by decide +kernel
theorem dL_holds_280 : decode cL_holds 280 = .ok (.iload 13, 2) := by decide +kernel
theorem dL_holds_282 : decode cL_holds 282 = .ok (.bipush 10, 2) := by decide +kernel
theorem dL_holds_284 : decode cL_holds 284 = .ok (.iconst 0, 1) := by decide +kernel
theorem dL_holds_285 : decode cL_holds 285 = .ok (.invokestatic 143, 3) := by decide +kernel
theorem dL_holds_288 : decode cL_holds 288 = .ok (.iload 15, 2) := by decide +kernel
theorem dL_holds_290 : decode cL_holds 290 = .ok (.if_icmp .lt 22, 3) := by decide +kernel
theorem dL_holds_293 : decode cL_holds 293 = .ok (.aload_n 0, 1) := by decide +kernel
theorem dL_holds_294 : decode cL_holds 294 = .ok (.iconst 3, 1) := by decide +kernel
theorem dL_holds_295 : decode cL_holds 295 = .ok (.iload 13, 2) := by decide +kernel
theorem dL_holds_297 : decode cL_holds 297 = .ok (.bipush 10, 2) := by decide +kernel
theorem dL_holds_299 : decode cL_holds 299 = .ok (.iconst 0, 1) := by decide +kernel
theorem dL_holds_300 : decode cL_holds 300 = .ok (.invokestatic 143, 3) := by decide +kernel
theorem dL_holds_303 : decode cL_holds 303 = .ok (.iload 4, 2) := by decide +kernel
theorem dL_holds_305 : decode cL_holds 305 = .ok (.if_icmp .gt 7, 3) := by decide +kernel
theorem dL_holds_308 : decode cL_holds 308 = .ok (.iconst 1, 1) := by decide +kernel
theorem dL_holds_309 : decode cL_holds 309 = .ok (.goto 4, 3) := by decide +kernel
theorem dL_holds_312 : decode cL_holds 312 = .ok (.iconst 0, 1) := by decide +kernel
theorem dL_holds_313 : decode cL_holds 313 = .ok (.istore 12, 2) := by decide +kernel
theorem dL_holds_315 : decode cL_holds 315 = .ok (.iload 14, 2) := by decide +kernel
theorem dL_holds_317 : decode cL_holds 317 = .ok (.iconst 1, 1) := by decide +kernel
theorem dL_holds_318 : decode cL_holds 318 = .ok (.if_icmp .ne 108, 3) := by decide +kernel
theorem dL_holds_321 : decode cL_holds 321 = .ok (.iload 12, 2) := by decide +kernel
theorem dL_holds_323 : decode cL_holds 323 = .ok (.ifCond .eq 103, 3) := by decide +kernel
theorem dL_holds_326 : decode cL_holds 326 = .ok (.aload_n 0, 1) := by decide +kernel
theorem dL_holds_327 : decode cL_holds 327 = .ok (.bipush 11, 2) := by decide +kernel
theorem dL_holds_329 : decode cL_holds 329 = .ok (.iload 13, 2) := by decide +kernel
theorem dL_holds_331 : decode cL_holds 331 = .ok (.iconst 0, 1) := by decide +kernel
theorem dL_holds_332 : decode cL_holds 332 = .ok (.iconst 0, 1) := by decide +kernel
theorem dL_holds_333 : decode cL_holds 333 = .ok (.invokestatic 143, 3) := by decide +kernel
theorem dL_holds_336 : decode cL_holds 336 = .ok (.istore 17, 2) := by decide +kernel
theorem dL_holds_338 : decode cL_holds 338 = .ok (.aload_n 0, 1) := by decide +kernel
theorem dL_holds_339 : decode cL_holds 339 = .ok (.iconst 3, 1) := by decide +kernel
theorem dL_holds_340 : decode cL_holds 340 = .ok (.iload 13, 2) := by decide +kernel
theorem dL_holds_342 : decode cL_holds 342 = .ok (.iconst 1, 1) := by decide +kernel
theorem dL_holds_343 : decode cL_holds 343 = .ok (.iconst 0, 1) := by decide +kernel
theorem dL_holds_344 : decode cL_holds 344 = .ok (.invokestatic 143, 3) := by decide +kernel
theorem dL_holds_347 : decode cL_holds 347 = .ok (.iload 4, 2) := by decide +kernel
theorem dL_holds_349 : decode cL_holds 349 = .ok (.iload 15, 2) := by decide +kernel
theorem dL_holds_351 : decode cL_holds 351 = .ok (.isub, 1) := by decide +kernel
theorem dL_holds_352 : decode cL_holds 352 = .ok (.imul, 1) := by decide +kernel
theorem dL_holds_353 : decode cL_holds 353 = .ok (.istore 18, 2) := by decide +kernel
theorem dL_holds_355 : decode cL_holds 355 = .ok (.iconst 0, 1) := by decide +kernel
theorem dL_holds_356 : decode cL_holds 356 = .ok (.istore 19, 2) := by decide +kernel
theorem dL_holds_358 : decode cL_holds 358 = .ok (.iload 19, 2) := by decide +kernel
theorem dL_holds_360 : decode cL_holds 360 = .ok (.bipush 12, 2) := by decide +kernel
theorem dL_holds_362 : decode cL_holds 362 = .ok (.if_icmp .ge 64, 3) := by decide +kernel
theorem dL_holds_365 : decode cL_holds 365 = .ok (.iload 12, 2) := by decide +kernel
theorem dL_holds_367 : decode cL_holds 367 = .ok (.ifCond .eq 59, 3) := by decide +kernel
theorem dL_holds_370 : decode cL_holds 370 = .ok (.aload_n 0, 1) := by decide +kernel
theorem dL_holds_371 : decode cL_holds 371 = .ok (.bipush 6, 2) := by decide +kernel
theorem dL_holds_373 : decode cL_holds 373 = .ok (.aload_n 0, 1) := by decide +kernel
theorem dL_holds_374 : decode cL_holds 374 = .ok (.iconst 3, 1) := by decide +kernel
theorem dL_holds_375 : decode cL_holds 375 = .ok (.iload 13, 2) := by decide +kernel
theorem dL_holds_377 : decode cL_holds 377 = .ok (.iconst 2, 1) := by decide +kernel
theorem dL_holds_378 : decode cL_holds 378 = .ok (.iconst 0, 1) := by decide +kernel
theorem dL_holds_379 : decode cL_holds 379 = .ok (.invokestatic 143, 3) := by decide +kernel
theorem dL_holds_382 : decode cL_holds 382 = .ok (.iload 19, 2) := by decide +kernel
theorem dL_holds_384 : decode cL_holds 384 = .ok (.iconst 0, 1) := by decide +kernel
theorem dL_holds_385 : decode cL_holds 385 = .ok (.invokestatic 143, 3) := by decide +kernel
theorem dL_holds_388 : decode cL_holds 388 = .ok (.istore 20, 2) := by decide +kernel
theorem dL_holds_390 : decode cL_holds 390 = .ok (.iload 17, 2) := by decide +kernel
theorem dL_holds_392 : decode cL_holds 392 = .ok (.iload 19, 2) := by decide +kernel
theorem dL_holds_394 : decode cL_holds 394 = .ok (.ishr, 1) := by decide +kernel
theorem dL_holds_395 : decode cL_holds 395 = .ok (.iconst 1, 1) := by decide +kernel
theorem dL_holds_396 : decode cL_holds 396 = .ok (.iand, 1) := by decide +kernel
theorem dL_holds_397 : decode cL_holds 397 = .ok (.ifCond .eq 16, 3) := by decide +kernel
theorem dL_holds_400 : decode cL_holds 400 = .ok (.iload 20, 2) := by decide +kernel
theorem dL_holds_402 : decode cL_holds 402 = .ok (.iconst (-1), 1) := by decide +kernel
theorem dL_holds_403 : decode cL_holds 403 = .ok (.if_icmp .eq 14, 3) := by decide +kernel
theorem dL_holds_406 : decode cL_holds 406 = .ok (.iload 20, 2) := by decide +kernel
theorem dL_holds_408 : decode cL_holds 408 = .ok (.iload 18, 2) := by decide +kernel
theorem dL_holds_410 : decode cL_holds 410 = .ok (.if_icmp .gt 7, 3) := by decide +kernel
theorem dL_holds_413 : decode cL_holds 413 = .ok (.iconst 1, 1) := by decide +kernel
theorem dL_holds_414 : decode cL_holds 414 = .ok (.goto 4, 3) := by decide +kernel
theorem dL_holds_417 : decode cL_holds 417 = .ok (.iconst 0, 1) := by decide +kernel
theorem dL_holds_418 : decode cL_holds 418 = .ok (.istore 12, 2) := by decide +kernel
theorem dL_holds_420 : decode cL_holds 420 = .ok (.iinc 19 1, 3) := by decide +kernel
theorem dL_holds_423 : decode cL_holds 423 = .ok (.goto (-65), 3) := by decide +kernel
theorem dL_holds_426 : decode cL_holds 426 = .ok (.iinc 13 1, 3) := by decide +kernel
theorem dL_holds_429 : decode cL_holds 429 = .ok (.goto (-358), 3) := by decide +kernel
theorem dL_holds_432 : decode cL_holds 432 = .ok (.iconst 0, 1) := by decide +kernel
theorem dL_holds_433 : decode cL_holds 433 = .ok (.istore 13, 2) := by decide +kernel
theorem dL_holds_435 : decode cL_holds 435 = .ok (.iload 13, 2) := by decide +kernel
theorem dL_holds_437 : decode cL_holds 437 = .ok (.iload_n 3, 1) := by decide +kernel
theorem dL_holds_438 : decode cL_holds 438 = .ok (.if_icmp .ge 202, 3) := by decide +kernel
theorem dL_holds_441 : decode cL_holds 441 = .ok (.iload 12, 2) := by decide +kernel
theorem dL_holds_443 : decode cL_holds 443 = .ok (.ifCond .eq 197, 3) := by decide +kernel
theorem dL_holds_446 : decode cL_holds 446 = .ok (.aload_n 0, 1) := by decide +kernel
theorem dL_holds_447 : decode cL_holds 447 = .ok (.iconst 4, 1) := by decide +kernel
theorem dL_holds_448 : decode cL_holds 448 = .ok (.iload 13, 2) := by decide +kernel
theorem dL_holds_450 : decode cL_holds 450 = .ok (.iconst 5, 1) := by decide +kernel
theorem dL_holds_451 : decode cL_holds 451 = .ok (.iconst 0, 1) := by decide +kernel
theorem dL_holds_452 : decode cL_holds 452 = .ok (.invokestatic 143, 3) := by decide +kernel
theorem dL_holds_455 : decode cL_holds 455 = .ok (.istore 14, 2) := by decide +kernel
theorem dL_holds_457 : decode cL_holds 457 = .ok (.aload_n 0, 1) := by decide +kernel
theorem dL_holds_458 : decode cL_holds 458 = .ok (.iconst 4, 1) := by decide +kernel
theorem dL_holds_459 : decode cL_holds 459 = .ok (.iload 13, 2) := by decide +kernel
theorem dL_holds_461 : decode cL_holds 461 = .ok (.bipush 7, 2) := by decide +kernel
theorem dL_holds_463 : decode cL_holds 463 = .ok (.iconst 0, 1) := by decide +kernel
theorem dL_holds_464 : decode cL_holds 464 = .ok (.invokestatic 143, 3) := by decide +kernel
theorem dL_holds_467 : decode cL_holds 467 = .ok (.istore 15, 2) := by decide +kernel
theorem dL_holds_469 : decode cL_holds 469 = .ok (.aload_n 0, 1) := by decide +kernel
theorem dL_holds_470 : decode cL_holds 470 = .ok (.iconst 4, 1) := by decide +kernel
theorem dL_holds_471 : decode cL_holds 471 = .ok (.iload 13, 2) := by decide +kernel
theorem dL_holds_473 : decode cL_holds 473 = .ok (.bipush 8, 2) := by decide +kernel
theorem dL_holds_475 : decode cL_holds 475 = .ok (.iconst 0, 1) := by decide +kernel
theorem dL_holds_476 : decode cL_holds 476 = .ok (.invokestatic 143, 3) := by decide +kernel
theorem dL_holds_479 : decode cL_holds 479 = .ok (.istore 16, 2) := by decide +kernel
theorem dL_holds_481 : decode cL_holds 481 = .ok (.iload 8, 2) := by decide +kernel
theorem dL_holds_483 : decode cL_holds 483 = .ok (.iload 14, 2) := by decide +kernel
theorem dL_holds_485 : decode cL_holds 485 = .ok (.iconst (-1), 1) := by decide +kernel
theorem dL_holds_486 : decode cL_holds 486 = .ok (.if_icmp .ne 7, 3) := by decide +kernel
theorem dL_holds_489 : decode cL_holds 489 = .ok (.iconst 1, 1) := by decide +kernel
theorem dL_holds_490 : decode cL_holds 490 = .ok (.goto 4, 3) := by decide +kernel
theorem dL_holds_493 : decode cL_holds 493 = .ok (.iconst 0, 1) := by decide +kernel
theorem dL_holds_494 : decode cL_holds 494 = .ok (.iadd, 1) := by decide +kernel
theorem dL_holds_495 : decode cL_holds 495 = .ok (.istore 8, 2) := by decide +kernel
theorem dL_holds_497 : decode cL_holds 497 = .ok (.iload 7, 2) := by decide +kernel
theorem dL_holds_499 : decode cL_holds 499 = .ok (.iload 16, 2) := by decide +kernel
theorem dL_holds_501 : decode cL_holds 501 = .ok (.iadd, 1) := by decide +kernel
theorem dL_holds_502 : decode cL_holds 502 = .ok (.istore 7, 2) := by decide +kernel
theorem dL_holds_504 : decode cL_holds 504 = .ok (.iload 14, 2) := by decide +kernel
theorem dL_holds_506 : decode cL_holds 506 = .ok (.iconst (-1), 1) := by decide +kernel
theorem dL_holds_507 : decode cL_holds 507 = .ok (.if_icmp .ne 31, 3) := by decide +kernel
theorem dL_holds_510 : decode cL_holds 510 = .ok (.iload 15, 2) := by decide +kernel
theorem dL_holds_512 : decode cL_holds 512 = .ok (.iconst (-1), 1) := by decide +kernel
theorem dL_holds_513 : decode cL_holds 513 = .ok (.if_icmp .ne 118, 3) := by decide +kernel
theorem dL_holds_516 : decode cL_holds 516 = .ok (.iload 16, 2) := by decide +kernel
theorem dL_holds_518 : decode cL_holds 518 = .ok (.ifCond .ne 113, 3) := by decide +kernel
theorem dL_holds_521 : decode cL_holds 521 = .ok (.aload_n 0, 1) := by decide +kernel
theorem dL_holds_522 : decode cL_holds 522 = .ok (.iconst 4, 1) := by decide +kernel
theorem dL_holds_523 : decode cL_holds 523 = .ok (.iload 13, 2) := by decide +kernel
theorem dL_holds_525 : decode cL_holds 525 = .ok (.bipush 6, 2) := by decide +kernel
theorem dL_holds_527 : decode cL_holds 527 = .ok (.iconst 0, 1) := by decide +kernel
theorem dL_holds_528 : decode cL_holds 528 = .ok (.invokestatic 143, 3) := by decide +kernel
theorem dL_holds_531 : decode cL_holds 531 = .ok (.iconst (-1), 1) := by decide +kernel
theorem dL_holds_532 : decode cL_holds 532 = .ok (.if_icmp .ne 99, 3) := by decide +kernel
theorem dL_holds_535 : decode cL_holds 535 = .ok (.goto 51, 3) := by decide +kernel
theorem dL_holds_538 : decode cL_holds 538 = .ok (.iload 15, 2) := by decide +kernel
theorem dL_holds_540 : decode cL_holds 540 = .ok (.iconst 1, 1) := by decide +kernel
theorem dL_holds_541 : decode cL_holds 541 = .ok (.if_icmp .eq 9, 3) := by decide +kernel
theorem dL_holds_544 : decode cL_holds 544 = .ok (.iload 16, 2) := by decide +kernel
theorem dL_holds_546 : decode cL_holds 546 = .ok (.iconst 1, 1) := by decide +kernel
theorem dL_holds_547 : decode cL_holds 547 = .ok (.if_icmp .ne 84, 3) := by decide +kernel
theorem dL_holds_550 : decode cL_holds 550 = .ok (.aload_n 0, 1) := by decide +kernel
theorem dL_holds_551 : decode cL_holds 551 = .ok (.iconst 4, 1) := by decide +kernel
theorem dL_holds_552 : decode cL_holds 552 = .ok (.iload 13, 2) := by decide +kernel
theorem dL_holds_554 : decode cL_holds 554 = .ok (.bipush 6, 2) := by decide +kernel
theorem dL_holds_556 : decode cL_holds 556 = .ok (.iconst 0, 1) := by decide +kernel
theorem dL_holds_557 : decode cL_holds 557 = .ok (.invokestatic 143, 3) := by decide +kernel
theorem dL_holds_560 : decode cL_holds 560 = .ok (.bipush 8, 2) := by decide +kernel
theorem dL_holds_562 : decode cL_holds 562 = .ok (.if_icmp .gt 69, 3) := by decide +kernel
theorem dL_holds_565 : decode cL_holds 565 = .ok (.aload_n 0, 1) := by decide +kernel
theorem dL_holds_566 : decode cL_holds 566 = .ok (.iconst 4, 1) := by decide +kernel
theorem dL_holds_567 : decode cL_holds 567 = .ok (.iload 13, 2) := by decide +kernel
theorem dL_holds_569 : decode cL_holds 569 = .ok (.iconst 2, 1) := by decide +kernel
theorem dL_holds_570 : decode cL_holds 570 = .ok (.iconst 0, 1) := by decide +kernel
theorem dL_holds_571 : decode cL_holds 571 = .ok (.invokestatic 143, 3) := by decide +kernel
theorem dL_holds_574 : decode cL_holds 574 = .ok (.aload_n 0, 1) := by decide +kernel
theorem dL_holds_575 : decode cL_holds 575 = .ok (.iconst 3, 1) := by decide +kernel
theorem dL_holds_576 : decode cL_holds 576 = .ok (.iload 14, 2) := by decide +kernel
theorem dL_holds_578 : decode cL_holds 578 = .ok (.iconst 3, 1) := by decide +kernel
theorem dL_holds_579 : decode cL_holds 579 = .ok (.iconst 0, 1) := by decide +kernel
theorem dL_holds_580 : decode cL_holds 580 = .ok (.invokestatic 143, 3) := by decide +kernel
theorem dL_holds_583 : decode cL_holds 583 = .ok (.if_icmp .lt 48, 3) := by decide +kernel
theorem dL_holds_586 : decode cL_holds 586 = .ok (.aload_n 0, 1) := by decide +kernel
theorem dL_holds_587 : decode cL_holds 587 = .ok (.iconst 4, 1) := by decide +kernel
theorem dL_holds_588 : decode cL_holds 588 = .ok (.iload 13, 2) := by decide +kernel
theorem dL_holds_590 : decode cL_holds 590 = .ok (.iconst 2, 1) := by decide +kernel
theorem dL_holds_591 : decode cL_holds 591 = .ok (.iconst 0, 1) := by decide +kernel
theorem dL_holds_592 : decode cL_holds 592 = .ok (.invokestatic 143, 3) := by decide +kernel
theorem dL_holds_595 : decode cL_holds 595 = .ok (.iload 4, 2) := by decide +kernel
theorem dL_holds_597 : decode cL_holds 597 = .ok (.if_icmp .gt 34, 3) := by decide +kernel
theorem dL_holds_600 : decode cL_holds 600 = .ok (.aload_n 0, 1) := by decide +kernel
theorem dL_holds_601 : decode cL_holds 601 = .ok (.iconst 4, 1) := by decide +kernel
theorem dL_holds_602 : decode cL_holds 602 = .ok (.iload 13, 2) := by decide +kernel
theorem dL_holds_604 : decode cL_holds 604 = .ok (.iconst 4, 1) := by decide +kernel
theorem dL_holds_605 : decode cL_holds 605 = .ok (.iconst 0, 1) := by decide +kernel
theorem dL_holds_606 : decode cL_holds 606 = .ok (.invokestatic 143, 3) := by decide +kernel
theorem dL_holds_609 : decode cL_holds 609 = .ok (.ifCond .eq 18, 3) := by decide +kernel
theorem dL_holds_612 : decode cL_holds 612 = .ok (.iload 14, 2) := by decide +kernel
theorem dL_holds_614 : decode cL_holds 614 = .ok (.iconst (-1), 1) := by decide +kernel
theorem dL_holds_615 : decode cL_holds 615 = .ok (.if_icmp .eq 12, 3) := by decide +kernel
theorem dL_holds_618 : decode cL_holds 618 = .ok (.iload 16, 2) := by decide +kernel
theorem dL_holds_620 : decode cL_holds 620 = .ok (.iconst 1, 1) := by decide +kernel
theorem dL_holds_621 : decode cL_holds 621 = .ok (.iload 15, 2) := by decide +kernel
theorem dL_holds_623 : decode cL_holds 623 = .ok (.isub, 1) := by decide +kernel
theorem dL_holds_624 : decode cL_holds 624 = .ok (.if_icmp .ne 7, 3) := by decide +kernel
theorem dL_holds_627 : decode cL_holds 627 = .ok (.iconst 1, 1) := by decide +kernel
theorem dL_holds_628 : decode cL_holds 628 = .ok (.goto 4, 3) := by decide +kernel
theorem dL_holds_631 : decode cL_holds 631 = .ok (.iconst 0, 1) := by decide +kernel
theorem dL_holds_632 : decode cL_holds 632 = .ok (.istore 12, 2) := by decide +kernel
theorem dL_holds_634 : decode cL_holds 634 = .ok (.iinc 13 1, 3) := by decide +kernel
theorem dL_holds_637 : decode cL_holds 637 = .ok (.goto (-202), 3) := by decide +kernel
theorem dL_holds_640 : decode cL_holds 640 = .ok (.iconst 0, 1) := by decide +kernel
theorem dL_holds_641 : decode cL_holds 641 = .ok (.istore 13, 2) := by decide +kernel
theorem dL_holds_643 : decode cL_holds 643 = .ok (.iload 13, 2) := by decide +kernel
theorem dL_holds_645 : decode cL_holds 645 = .ok (.bipush 8, 2) := by decide +kernel
theorem dL_holds_647 : decode cL_holds 647 = .ok (.if_icmp .ge 23, 3) := by decide +kernel
theorem dL_holds_650 : decode cL_holds 650 = .ok (.iload 10, 2) := by decide +kernel
theorem dL_holds_652 : decode cL_holds 652 = .ok (.aload_n 0, 1) := by decide +kernel
theorem dL_holds_653 : decode cL_holds 653 = .ok (.iconst 5, 1) := by decide +kernel
theorem dL_holds_654 : decode cL_holds 654 = .ok (.iload 13, 2) := by decide +kernel
theorem dL_holds_656 : decode cL_holds 656 = .ok (.iconst 0, 1) := by decide +kernel
theorem dL_holds_657 : decode cL_holds 657 = .ok (.iconst 0, 1) := by decide +kernel
theorem dL_holds_658 : decode cL_holds 658 = .ok (.invokestatic 143, 3) := by decide +kernel
theorem dL_holds_661 : decode cL_holds 661 = .ok (.iadd, 1) := by decide +kernel
theorem dL_holds_662 : decode cL_holds 662 = .ok (.istore 10, 2) := by decide +kernel
theorem dL_holds_664 : decode cL_holds 664 = .ok (.iinc 13 1, 3) := by decide +kernel
theorem dL_holds_667 : decode cL_holds 667 = .ok (.goto (-24), 3) := by decide +kernel
theorem dL_holds_670 : decode cL_holds 670 = .ok (.iload_n 1, 1) := by decide +kernel
theorem dL_holds_671 : decode cL_holds 671 = .ok (.bipush 12, 2) := by decide +kernel
theorem dL_holds_673 : decode cL_holds 673 = .ok (.irem, 1) := by decide +kernel
theorem dL_holds_674 : decode cL_holds 674 = .ok (.istore 13, 2) := by decide +kernel
theorem dL_holds_676 : decode cL_holds 676 = .ok (.iload_n 1, 1) := by decide +kernel
theorem dL_holds_677 : decode cL_holds 677 = .ok (.bipush 12, 2) := by decide +kernel
theorem dL_holds_679 : decode cL_holds 679 = .ok (.idiv, 1) := by decide +kernel
theorem dL_holds_680 : decode cL_holds 680 = .ok (.bipush 12, 2) := by decide +kernel
theorem dL_holds_682 : decode cL_holds 682 = .ok (.irem, 1) := by decide +kernel
theorem dL_holds_683 : decode cL_holds 683 = .ok (.istore 14, 2) := by decide +kernel
theorem dL_holds_685 : decode cL_holds 685 = .ok (.iload_n 1, 1) := by decide +kernel
theorem dL_holds_686 : decode cL_holds 686 = .ok (.sipush 144, 3) := by decide +kernel
theorem dL_holds_689 : decode cL_holds 689 = .ok (.idiv, 1) := by decide +kernel
theorem dL_holds_690 : decode cL_holds 690 = .ok (.bipush 12, 2) := by decide +kernel
theorem dL_holds_692 : decode cL_holds 692 = .ok (.irem, 1) := by decide +kernel
theorem dL_holds_693 : decode cL_holds 693 = .ok (.istore 15, 2) := by decide +kernel
theorem dL_holds_695 : decode cL_holds 695 = .ok (.aload_n 0, 1) := by decide +kernel
theorem dL_holds_696 : decode cL_holds 696 = .ok (.bipush 6, 2) := by decide +kernel
theorem dL_holds_698 : decode cL_holds 698 = .ok (.iload 13, 2) := by decide +kernel
theorem dL_holds_700 : decode cL_holds 700 = .ok (.iload 14, 2) := by decide +kernel
theorem dL_holds_702 : decode cL_holds 702 = .ok (.iconst 0, 1) := by decide +kernel
theorem dL_holds_703 : decode cL_holds 703 = .ok (.invokestatic 143, 3) := by decide +kernel
theorem dL_holds_706 : decode cL_holds 706 = .ok (.istore 16, 2) := by decide +kernel
theorem dL_holds_708 : decode cL_holds 708 = .ok (.aload_n 0, 1) := by decide +kernel
theorem dL_holds_709 : decode cL_holds 709 = .ok (.bipush 6, 2) := by decide +kernel
theorem dL_holds_711 : decode cL_holds 711 = .ok (.iload 14, 2) := by decide +kernel
theorem dL_holds_713 : decode cL_holds 713 = .ok (.iload 15, 2) := by decide +kernel
theorem dL_holds_715 : decode cL_holds 715 = .ok (.iconst 1, 1) := by decide +kernel
theorem dL_holds_716 : decode cL_holds 716 = .ok (.invokestatic 143, 3) := by decide +kernel
theorem dL_holds_719 : decode cL_holds 719 = .ok (.istore 17, 2) := by decide +kernel
theorem dL_holds_721 : decode cL_holds 721 = .ok (.aload_n 0, 1) := by decide +kernel
theorem dL_holds_722 : decode cL_holds 722 = .ok (.bipush 6, 2) := by decide +kernel
theorem dL_holds_724 : decode cL_holds 724 = .ok (.iload 13, 2) := by decide +kernel
theorem dL_holds_726 : decode cL_holds 726 = .ok (.iload 15, 2) := by decide +kernel
theorem dL_holds_728 : decode cL_holds 728 = .ok (.iconst 0, 1) := by decide +kernel
theorem dL_holds_729 : decode cL_holds 729 = .ok (.invokestatic 143, 3) := by decide +kernel
theorem dL_holds_732 : decode cL_holds 732 = .ok (.istore 18, 2) := by decide +kernel
theorem dL_holds_734 : decode cL_holds 734 = .ok (.iload 12, 2) := by decide +kernel
theorem dL_holds_736 : decode cL_holds 736 = .ok (.ifCond .eq 92, 3) := by decide +kernel
theorem dL_holds_739 : decode cL_holds 739 = .ok (.iload 16, 2) := by decide +kernel
theorem dL_holds_741 : decode cL_holds 741 = .ok (.aload_n 0, 1) := by decide +kernel
theorem dL_holds_742 : decode cL_holds 742 = .ok (.bipush 6, 2) := by decide +kernel
theorem dL_holds_744 : decode cL_holds 744 = .ok (.iload 13, 2) := by decide +kernel
theorem dL_holds_746 : decode cL_holds 746 = .ok (.iload 14, 2) := by decide +kernel
theorem dL_holds_748 : decode cL_holds 748 = .ok (.iconst 1, 1) := by decide +kernel
theorem dL_holds_749 : decode cL_holds 749 = .ok (.invokestatic 143, 3) := by decide +kernel
theorem dL_holds_752 : decode cL_holds 752 = .ok (.if_icmp .ne 76, 3) := by decide +kernel
theorem dL_holds_755 : decode cL_holds 755 = .ok (.iload 16, 2) := by decide +kernel
theorem dL_holds_757 : decode cL_holds 757 = .ok (.aload_n 0, 1) := by decide +kernel
theorem dL_holds_758 : decode cL_holds 758 = .ok (.bipush 6, 2) := by decide +kernel
theorem dL_holds_760 : decode cL_holds 760 = .ok (.iload 14, 2) := by decide +kernel
theorem dL_holds_762 : decode cL_holds 762 = .ok (.iload 13, 2) := by decide +kernel
theorem dL_holds_764 : decode cL_holds 764 = .ok (.iconst 0, 1) := by decide +kernel
theorem dL_holds_765 : decode cL_holds 765 = .ok (.invokestatic 143, 3) := by decide +kernel
theorem dL_holds_768 : decode cL_holds 768 = .ok (.if_icmp .ne 60, 3) := by decide +kernel
theorem dL_holds_771 : decode cL_holds 771 = .ok (.iload 16, 2) := by decide +kernel
theorem dL_holds_773 : decode cL_holds 773 = .ok (.ifCond .ne 7, 3) := by decide +kernel
theorem dL_holds_776 : decode cL_holds 776 = .ok (.iconst 1, 1) := by decide +kernel
theorem dL_holds_777 : decode cL_holds 777 = .ok (.goto 4, 3) := by decide +kernel
theorem dL_holds_780 : decode cL_holds 780 = .ok (.iconst 0, 1) := by decide +kernel
theorem dL_holds_781 : decode cL_holds 781 = .ok (.iload 13, 2) := by decide +kernel
theorem dL_holds_783 : decode cL_holds 783 = .ok (.iload 14, 2) := by decide +kernel
theorem dL_holds_785 : decode cL_holds 785 = .ok (.if_icmp .ne 7, 3) := by decide +kernel
theorem dL_holds_788 : decode cL_holds 788 = .ok (.iconst 1, 1) := by decide +kernel
theorem dL_holds_789 : decode cL_holds 789 = .ok (.goto 4, 3) := by decide +kernel
theorem dL_holds_792 : decode cL_holds 792 = .ok (.iconst 0, 1) := by decide +kernel
theorem dL_holds_793 : decode cL_holds 793 = .ok (.if_icmp .ne 35, 3) := by decide +kernel
theorem dL_holds_796 : decode cL_holds 796 = .ok (.iload 16, 2) := by decide +kernel
theorem dL_holds_798 : decode cL_holds 798 = .ok (.iconst (-1), 1) := by decide +kernel
theorem dL_holds_799 : decode cL_holds 799 = .ok (.if_icmp .eq 25, 3) := by decide +kernel
theorem dL_holds_802 : decode cL_holds 802 = .ok (.iload 17, 2) := by decide +kernel
theorem dL_holds_804 : decode cL_holds 804 = .ok (.iconst (-1), 1) := by decide +kernel
theorem dL_holds_805 : decode cL_holds 805 = .ok (.if_icmp .eq 19, 3) := by decide +kernel
theorem dL_holds_808 : decode cL_holds 808 = .ok (.iload 18, 2) := by decide +kernel
theorem dL_holds_810 : decode cL_holds 810 = .ok (.iconst (-1), 1) := by decide +kernel
theorem dL_holds_811 : decode cL_holds 811 = .ok (.if_icmp .eq 17, 3) := by decide +kernel
theorem dL_holds_814 : decode cL_holds 814 = .ok (.iload 18, 2) := by decide +kernel
theorem dL_holds_816 : decode cL_holds 816 = .ok (.iload 16, 2) := by decide +kernel
theorem dL_holds_818 : decode cL_holds 818 = .ok (.iload 17, 2) := by decide +kernel
theorem dL_holds_820 : decode cL_holds 820 = .ok (.iadd, 1) := by decide +kernel
theorem dL_holds_821 : decode cL_holds 821 = .ok (.if_icmp .gt 7, 3) := by decide +kernel
theorem dL_holds_824 : decode cL_holds 824 = .ok (.iconst 1, 1) := by decide +kernel
theorem dL_holds_825 : decode cL_holds 825 = .ok (.goto 4, 3) := by decide +kernel
theorem dL_holds_828 : decode cL_holds 828 = .ok (.iconst 0, 1) := by decide +kernel
theorem dL_holds_829 : decode cL_holds 829 = .ok (.istore 12, 2) := by decide +kernel
theorem dL_holds_831 : decode cL_holds 831 = .ok (.iload 12, 2) := by decide +kernel
theorem dL_holds_833 : decode cL_holds 833 = .ok (.ifCond .eq 143, 3) := by decide +kernel
theorem dL_holds_836 : decode cL_holds 836 = .ok (.iload 5, 2) := by decide +kernel
theorem dL_holds_838 : decode cL_holds 838 = .ok (.aload_n 0, 1) := by decide +kernel
theorem dL_holds_839 : decode cL_holds 839 = .ok (.iconst 2, 1) := by decide +kernel
theorem dL_holds_840 : decode cL_holds 840 = .ok (.iconst 1, 1) := by decide +kernel
theorem dL_holds_841 : decode cL_holds 841 = .ok (.iconst 0, 1) := by decide +kernel
theorem dL_holds_842 : decode cL_holds 842 = .ok (.iconst 0, 1) := by decide +kernel
theorem dL_holds_843 : decode cL_holds 843 = .ok (.invokestatic 143, 3) := by decide +kernel
theorem dL_holds_846 : decode cL_holds 846 = .ok (.if_icmp .ne 130, 3) := by decide +kernel
theorem dL_holds_849 : decode cL_holds 849 = .ok (.iload 6, 2) := by decide +kernel
theorem dL_holds_851 : decode cL_holds 851 = .ok (.aload_n 0, 1) := by decide +kernel
theorem dL_holds_852 : decode cL_holds 852 = .ok (.iconst 2, 1) := by decide +kernel
theorem dL_holds_853 : decode cL_holds 853 = .ok (.bipush 7, 2) := by decide +kernel
theorem dL_holds_855 : decode cL_holds 855 = .ok (.iconst 0, 1) := by decide +kernel
theorem dL_holds_856 : decode cL_holds 856 = .ok (.iconst 0, 1) := by decide +kernel
theorem dL_holds_857 : decode cL_holds 857 = .ok (.invokestatic 143, 3) := by decide +kernel
theorem dL_holds_860 : decode cL_holds 860 = .ok (.if_icmp .ne 116, 3) := by decide +kernel
theorem dL_holds_863 : decode cL_holds 863 = .ok (.iload 7, 2) := by decide +kernel
theorem dL_holds_865 : decode cL_holds 865 = .ok (.aload_n 0, 1) := by decide +kernel
theorem dL_holds_866 : decode cL_holds 866 = .ok (.iconst 2, 1) := by decide +kernel
theorem dL_holds_867 : decode cL_holds 867 = .ok (.bipush 8, 2) := by decide +kernel
theorem dL_holds_869 : decode cL_holds 869 = .ok (.iconst 0, 1) := by decide +kernel
theorem dL_holds_870 : decode cL_holds 870 = .ok (.iconst 0, 1) := by decide +kernel
theorem dL_holds_871 : decode cL_holds 871 = .ok (.invokestatic 143, 3) := by decide +kernel
theorem dL_holds_874 : decode cL_holds 874 = .ok (.if_icmp .ne 102, 3) := by decide +kernel
theorem dL_holds_877 : decode cL_holds 877 = .ok (.iload 8, 2) := by decide +kernel
theorem dL_holds_879 : decode cL_holds 879 = .ok (.aload_n 0, 1) := by decide +kernel
theorem dL_holds_880 : decode cL_holds 880 = .ok (.iconst 2, 1) := by decide +kernel
theorem dL_holds_881 : decode cL_holds 881 = .ok (.bipush 9, 2) := by decide +kernel
theorem dL_holds_883 : decode cL_holds 883 = .ok (.iconst 0, 1) := by decide +kernel
theorem dL_holds_884 : decode cL_holds 884 = .ok (.iconst 0, 1) := by decide +kernel
theorem dL_holds_885 : decode cL_holds 885 = .ok (.invokestatic 143, 3) := by decide +kernel
theorem dL_holds_888 : decode cL_holds 888 = .ok (.if_icmp .ne 88, 3) := by decide +kernel
theorem dL_holds_891 : decode cL_holds 891 = .ok (.iload 9, 2) := by decide +kernel
theorem dL_holds_893 : decode cL_holds 893 = .ok (.iload 8, 2) := by decide +kernel
theorem dL_holds_895 : decode cL_holds 895 = .ok (.iadd, 1) := by decide +kernel
theorem dL_holds_896 : decode cL_holds 896 = .ok (.iload_n 3, 1) := by decide +kernel
theorem dL_holds_897 : decode cL_holds 897 = .ok (.if_icmp .ne 79, 3) := by decide +kernel
theorem dL_holds_900 : decode cL_holds 900 = .ok (.iload 10, 2) := by decide +kernel
theorem dL_holds_902 : decode cL_holds 902 = .ok (.aload_n 0, 1) := by decide +kernel
theorem dL_holds_903 : decode cL_holds 903 = .ok (.iconst 2, 1) := by decide +kernel
theorem dL_holds_904 : decode cL_holds 904 = .ok (.iconst 5, 1) := by decide +kernel
theorem dL_holds_905 : decode cL_holds 905 = .ok (.iconst 0, 1) := by decide +kernel
theorem dL_holds_906 : decode cL_holds 906 = .ok (.iconst 0, 1) := by decide +kernel
theorem dL_holds_907 : decode cL_holds 907 = .ok (.invokestatic 143, 3) := by decide +kernel
theorem dL_holds_910 : decode cL_holds 910 = .ok (.if_icmp .ne 66, 3) := by decide +kernel
theorem dL_holds_913 : decode cL_holds 913 = .ok (.aload_n 0, 1) := by decide +kernel
theorem dL_holds_914 : decode cL_holds 914 = .ok (.iconst 2, 1) := by decide +kernel
theorem dL_holds_915 : decode cL_holds 915 = .ok (.iconst 4, 1) := by decide +kernel
theorem dL_holds_916 : decode cL_holds 916 = .ok (.iconst 0, 1) := by decide +kernel
theorem dL_holds_917 : decode cL_holds 917 = .ok (.iconst 0, 1) := by decide +kernel
theorem dL_holds_918 : decode cL_holds 918 = .ok (.invokestatic 143, 3) := by decide +kernel
theorem dL_holds_921 : decode cL_holds 921 = .ok (.iload 11, 2) := by decide +kernel
theorem dL_holds_923 : decode cL_holds 923 = .ok (.if_icmp .ne 53, 3) := by decide +kernel
theorem dL_holds_926 : decode cL_holds 926 = .ok (.iload 11, 2) := by decide +kernel
theorem dL_holds_928 : decode cL_holds 928 = .ok (.iload 6, 2) := by decide +kernel
theorem dL_holds_930 : decode cL_holds 930 = .ok (.iload 10, 2) := by decide +kernel
theorem dL_holds_932 : decode cL_holds 932 = .ok (.iadd, 1) := by decide +kernel
theorem dL_holds_933 : decode cL_holds 933 = .ok (.aload_n 0, 1) := by decide +kernel
theorem dL_holds_934 : decode cL_holds 934 = .ok (.iconst 2, 1) := by decide +kernel
theorem dL_holds_935 : decode cL_holds 935 = .ok (.bipush 6, 2) := by decide +kernel
theorem dL_holds_937 : decode cL_holds 937 = .ok (.iconst 0, 1) := by decide +kernel
theorem dL_holds_938 : decode cL_holds 938 = .ok (.iconst 0, 1) := by decide +kernel
theorem dL_holds_939 : decode cL_holds 939 = .ok (.invokestatic 143, 3) := by decide +kernel
theorem dL_holds_942 : decode cL_holds 942 = .ok (.iadd, 1) := by decide +kernel
theorem dL_holds_943 : decode cL_holds 943 = .ok (.if_icmp .ne 33, 3) := by decide +kernel
theorem dL_holds_946 : decode cL_holds 946 = .ok (.aload_n 0, 1) := by decide +kernel
theorem dL_holds_947 : decode cL_holds 947 = .ok (.invokevirtual 171, 3) := by decide +kernel
theorem dL_holds_950 : decode cL_holds 950 = .ok (.iconst (-1), 1) := by decide +kernel
theorem dL_holds_951 : decode cL_holds 951 = .ok (.if_icmp .ne 7, 3) := by decide +kernel
theorem dL_holds_954 : decode cL_holds 954 = .ok (.iconst 1, 1) := by decide +kernel
theorem dL_holds_955 : decode cL_holds 955 = .ok (.goto 4, 3) := by decide +kernel
theorem dL_holds_958 : decode cL_holds 958 = .ok (.iconst 0, 1) := by decide +kernel
theorem dL_holds_959 : decode cL_holds 959 = .ok (.iload 5, 2) := by decide +kernel
theorem dL_holds_961 : decode cL_holds 961 = .ok (.ifCond .ne 7, 3) := by decide +kernel
theorem dL_holds_964 : decode cL_holds 964 = .ok (.iconst 1, 1) := by decide +kernel
theorem dL_holds_965 : decode cL_holds 965 = .ok (.goto 4, 3) := by decide +kernel
theorem dL_holds_968 : decode cL_holds 968 = .ok (.iconst 0, 1) := by decide +kernel
theorem dL_holds_969 : decode cL_holds 969 = .ok (.if_icmp .ne 7, 3) := by decide +kernel
theorem dL_holds_972 : decode cL_holds 972 = .ok (.iconst 1, 1) := by decide +kernel
theorem dL_holds_973 : decode cL_holds 973 = .ok (.goto 4, 3) := by decide +kernel
theorem dL_holds_976 : decode cL_holds 976 = .ok (.iconst 0, 1) := by decide +kernel
theorem dL_holds_977 : decode cL_holds 977 = .ok (.ireturn, 1) := by decide +kernel
theorem dL_act_0 : decode cL_act 0 = .ok (.iload_n 1, 1) := by decide +kernel
theorem dL_act_1 : decode cL_act 1 = .ok (.bipush 16, 2) := by decide +kernel
theorem dL_act_3 : decode cL_act 3 = .ok (.idiv, 1) := by decide +kernel
theorem dL_act_4 : decode cL_act 4 = .ok (.istore_n 2, 1) := by decide +kernel
theorem dL_act_5 : decode cL_act 5 = .ok (.aload_n 0, 1) := by decide +kernel
theorem dL_act_6 : decode cL_act 6 = .ok (.iconst 2, 1) := by decide +kernel
theorem dL_act_7 : decode cL_act 7 = .ok (.iconst 0, 1) := by decide +kernel
theorem dL_act_8 : decode cL_act 8 = .ok (.iconst 0, 1) := by decide +kernel
theorem dL_act_9 : decode cL_act 9 = .ok (.iconst 0, 1) := by decide +kernel
theorem dL_act_10 : decode cL_act 10 = .ok (.invokestatic 143, 3) := by decide +kernel
theorem dL_act_13 : decode cL_act 13 = .ok (.istore_n 3, 1) := by decide +kernel
theorem dL_act_14 : decode cL_act 14 = .ok (.iload_n 2, 1) := by decide +kernel
theorem dL_act_15 : decode cL_act 15 = .ok (.bipush 12, 2) := by decide +kernel
theorem dL_act_17 : decode cL_act 17 = .ok (.irem, 1) := by decide +kernel
theorem dL_act_18 : decode cL_act 18 = .ok (.istore 4, 2) := by decide +kernel
theorem dL_act_20 : decode cL_act 20 = .ok (.iload_n 1, 1) := by decide +kernel
theorem dL_act_21 : decode cL_act 21 = .ok (.bipush 16, 2) := by decide +kernel
theorem dL_act_23 : decode cL_act 23 = .ok (.irem, 1) := by decide +kernel
theorem dL_act_24 : decode cL_act 24 = .ok (.tableswitch 349 0 12 #[68, 68, 108, 108, 108, 108, 108, 184, 208, 208, 249, 287, 313], 68) := by decide +kernel
theorem dL_act_92 : decode cL_act 92 = .ok (.aload_n 0, 1) := by decide +kernel
theorem dL_act_93 : decode cL_act 93 = .ok (.iconst 1, 1) := by decide +kernel
theorem dL_act_94 : decode cL_act 94 = .ok (.iload_n 2, 1) := by decide +kernel
theorem dL_act_95 : decode cL_act 95 = .ok (.sipush 255, 3) := by decide +kernel
theorem dL_act_98 : decode cL_act 98 = .ok (.irem, 1) := by decide +kernel
theorem dL_act_99 : decode cL_act 99 = .ok (.iadd, 1) := by decide +kernel
theorem dL_act_100 : decode cL_act 100 = .ok (.iconst 1, 1) := by decide +kernel
theorem dL_act_101 : decode cL_act 101 = .ok (.iload_n 2, 1) := by decide +kernel
theorem dL_act_102 : decode cL_act 102 = .ok (.sipush 255, 3) := by decide +kernel
theorem dL_act_105 : decode cL_act 105 = .ok (.idiv, 1) := by decide +kernel
theorem dL_act_106 : decode cL_act 106 = .ok (.iconst 3, 1) := by decide +kernel
theorem dL_act_107 : decode cL_act 107 = .ok (.irem, 1) := by decide +kernel
theorem dL_act_108 : decode cL_act 108 = .ok (.iadd, 1) := by decide +kernel
theorem dL_act_109 : decode cL_act 109 = .ok (.iload_n 2, 1) := by decide +kernel
theorem dL_act_110 : decode cL_act 110 = .ok (.sipush 765, 3) := by decide +kernel
theorem dL_act_113 : decode cL_act 113 = .ok (.idiv, 1) := by decide +kernel
theorem dL_act_114 : decode cL_act 114 = .ok (.bipush 12, 2) := by decide +kernel
theorem dL_act_116 : decode cL_act 116 = .ok (.irem, 1) := by decide +kernel
theorem dL_act_117 : decode cL_act 117 = .ok (.iconst 1, 1) := by decide +kernel
theorem dL_act_118 : decode cL_act 118 = .ok (.iload_n 2, 1) := by decide +kernel
theorem dL_act_119 : decode cL_act 119 = .ok (.sipush 9180, 3) := by decide +kernel
theorem dL_act_122 : decode cL_act 122 = .ok (.idiv, 1) := by decide +kernel
theorem dL_act_123 : decode cL_act 123 = .ok (.sipush 500, 3) := by decide +kernel
theorem dL_act_126 : decode cL_act 126 = .ok (.irem, 1) := by decide +kernel
theorem dL_act_127 : decode cL_act 127 = .ok (.iadd, 1) := by decide +kernel
theorem dL_act_128 : decode cL_act 128 = .ok (.invokestatic 147, 3) := by decide +kernel
theorem dL_act_131 : decode cL_act 131 = .ok (.ireturn, 1) := by decide +kernel
theorem dL_act_132 : decode cL_act 132 = .ok (.aload_n 0, 1) := by decide +kernel
theorem dL_act_133 : decode cL_act 133 = .ok (.iload_n 2, 1) := by decide +kernel
theorem dL_act_134 : decode cL_act 134 = .ok (.bipush 8, 2) := by decide +kernel
theorem dL_act_136 : decode cL_act 136 = .ok (.irem, 1) := by decide +kernel
theorem dL_act_137 : decode cL_act 137 = .ok (.iload_n 2, 1) := by decide +kernel
theorem dL_act_138 : decode cL_act 138 = .ok (.bipush 8, 2) := by decide +kernel
theorem dL_act_140 : decode cL_act 140 = .ok (.idiv, 1) := by decide +kernel
theorem dL_act_141 : decode cL_act 141 = .ok (.bipush 12, 2) := by decide +kernel
theorem dL_act_143 : decode cL_act 143 = .ok (.irem, 1) := by decide +kernel
theorem dL_act_144 : decode cL_act 144 = .ok (.aload_n 0, 1) := by decide +kernel
theorem dL_act_145 : decode cL_act 145 = .ok (.iconst 3, 1) := by decide +kernel
theorem dL_act_146 : decode cL_act 146 = .ok (.iload_n 2, 1) := by decide +kernel
theorem dL_act_147 : decode cL_act 147 = .ok (.bipush 96, 2) := by decide +kernel
theorem dL_act_149 : decode cL_act 149 = .ok (.idiv, 1) := by decide +kernel
theorem dL_act_150 : decode cL_act 150 = .ok (.iload_n 3, 1) := by decide +kernel
theorem dL_act_151 : decode cL_act 151 = .ok (.irem, 1) := by decide +kernel
theorem dL_act_152 : decode cL_act 152 = .ok (.iconst 0, 1) := by decide +kernel
theorem dL_act_153 : decode cL_act 153 = .ok (.iconst 0, 1) := by decide +kernel
theorem dL_act_154 : decode cL_act 154 = .ok (.invokestatic 143, 3) := by decide +kernel
theorem dL_act_157 : decode cL_act 157 = .ok (.iload_n 2, 1) := by decide +kernel
theorem dL_act_158 : decode cL_act 158 = .ok (.sipush 576, 3) := by decide +kernel
theorem dL_act_161 : decode cL_act 161 = .ok (.idiv, 1) := by decide +kernel
theorem dL_act_162 : decode cL_act 162 = .ok (.iconst 3, 1) := by decide +kernel
theorem dL_act_163 : decode cL_act 163 = .ok (.irem, 1) := by decide +kernel
theorem dL_act_164 : decode cL_act 164 = .ok (.ifCond .ne 16, 3) := by decide +kernel
theorem dL_act_167 : decode cL_act 167 = .ok (.iconst 1, 1) := by decide +kernel
theorem dL_act_168 : decode cL_act 168 = .ok (.iload_n 2, 1) := by decide +kernel
theorem dL_act_169 : decode cL_act 169 = .ok (.sipush 1728, 3) := by decide +kernel
theorem dL_act_172 : decode cL_act 172 = .ok (.idiv, 1) := by decide +kernel
theorem dL_act_173 : decode cL_act 173 = .ok (.bipush 8, 2) := by decide +kernel
theorem dL_act_175 : decode cL_act 175 = .ok (.irem, 1) := by decide +kernel
theorem dL_act_176 : decode cL_act 176 = .ok (.ishl, 1) := by decide +kernel
theorem dL_act_177 : decode cL_act 177 = .ok (.goto 4, 3) := by decide +kernel
theorem dL_act_180 : decode cL_act 180 = .ok (.iconst 0, 1) := by decide +kernel
theorem dL_act_181 : decode cL_act 181 = .ok (.ixor, 1) := by decide +kernel
theorem dL_act_182 : decode cL_act 182 = .ok (.iload_n 2, 1) := by decide +kernel
theorem dL_act_183 : decode cL_act 183 = .ok (.sipush 13824, 3) := by decide +kernel
theorem dL_act_186 : decode cL_act 186 = .ok (.idiv, 1) := by decide +kernel
theorem dL_act_187 : decode cL_act 187 = .ok (.bipush 6, 2) := by decide +kernel
theorem dL_act_189 : decode cL_act 189 = .ok (.irem, 1) := by decide +kernel
theorem dL_act_190 : decode cL_act 190 = .ok (.iload_n 2, 1) := by decide +kernel
theorem dL_act_191 : decode cL_act 191 = .ok (.ldc 174, 2) := by decide +kernel
theorem dL_act_193 : decode cL_act 193 = .ok (.idiv, 1) := by decide +kernel
theorem dL_act_194 : decode cL_act 194 = .ok (.iconst 2, 1) := by decide +kernel
theorem dL_act_195 : decode cL_act 195 = .ok (.irem, 1) := by decide +kernel
theorem dL_act_196 : decode cL_act 196 = .ok (.ifCond .ne 7, 3) := by decide +kernel
theorem dL_act_199 : decode cL_act 199 = .ok (.iconst 1, 1) := by decide +kernel
theorem dL_act_200 : decode cL_act 200 = .ok (.goto 4, 3) := by decide +kernel
theorem dL_act_203 : decode cL_act 203 = .ok (.iconst 0, 1) := by decide +kernel
theorem dL_act_204 : decode cL_act 204 = .ok (.invokestatic 150, 3) := by decide +kernel
theorem dL_act_207 : decode cL_act 207 = .ok (.ireturn, 1) := by decide +kernel
theorem dL_act_208 : decode cL_act 208 = .ok (.aload_n 0, 1) := by decide +kernel
theorem dL_act_209 : decode cL_act 209 = .ok (.bipush 7, 2) := by decide +kernel
theorem dL_act_211 : decode cL_act 211 = .ok (.iload_n 2, 1) := by decide +kernel
theorem dL_act_212 : decode cL_act 212 = .ok (.iload_n 3, 1) := by decide +kernel
theorem dL_act_213 : decode cL_act 213 = .ok (.irem, 1) := by decide +kernel
theorem dL_act_214 : decode cL_act 214 = .ok (.iload_n 2, 1) := by decide +kernel
theorem dL_act_215 : decode cL_act 215 = .ok (.bipush 6, 2) := by decide +kernel
theorem dL_act_217 : decode cL_act 217 = .ok (.idiv, 1) := by decide +kernel
theorem dL_act_218 : decode cL_act 218 = .ok (.bipush 8, 2) := by decide +kernel
theorem dL_act_220 : decode cL_act 220 = .ok (.irem, 1) := by decide +kernel
theorem dL_act_221 : decode cL_act 221 = .ok (.iload_n 2, 1) := by decide +kernel
theorem dL_act_222 : decode cL_act 222 = .ok (.bipush 48, 2) := by decide +kernel
theorem dL_act_224 : decode cL_act 224 = .ok (.idiv, 1) := by decide +kernel
theorem dL_act_225 : decode cL_act 225 = .ok (.bipush 12, 2) := by decide +kernel
theorem dL_act_227 : decode cL_act 227 = .ok (.irem, 1) := by decide +kernel
theorem dL_act_228 : decode cL_act 228 = .ok (.invokestatic 143, 3) := by decide +kernel
theorem dL_act_231 : decode cL_act 231 = .ok (.ireturn, 1) := by decide +kernel
theorem dL_act_232 : decode cL_act 232 = .ok (.aload_n 0, 1) := by decide +kernel
theorem dL_act_233 : decode cL_act 233 = .ok (.iload 4, 2) := by decide +kernel
theorem dL_act_235 : decode cL_act 235 = .ok (.iload_n 2, 1) := by decide +kernel
theorem dL_act_236 : decode cL_act 236 = .ok (.bipush 12, 2) := by decide +kernel
theorem dL_act_238 : decode cL_act 238 = .ok (.idiv, 1) := by decide +kernel
theorem dL_act_239 : decode cL_act 239 = .ok (.iconst 2, 1) := by decide +kernel
theorem dL_act_240 : decode cL_act 240 = .ok (.irem, 1) := by decide +kernel
theorem dL_act_241 : decode cL_act 241 = .ok (.ifCond .ne 10, 3) := by decide +kernel
theorem dL_act_244 : decode cL_act 244 = .ok (.iload 4, 2) := by decide +kernel
theorem dL_act_246 : decode cL_act 246 = .ok (.iconst 1, 1) := by decide +kernel
theorem dL_act_247 : decode cL_act 247 = .ok (.iadd, 1) := by decide +kernel
theorem dL_act_248 : decode cL_act 248 = .ok (.goto 7, 3) := by decide +kernel
theorem dL_act_251 : decode cL_act 251 = .ok (.iload 4, 2) := by decide +kernel
theorem dL_act_253 : decode cL_act 253 = .ok (.iconst 4, 1) := by decide +kernel
theorem dL_act_254 : decode cL_act 254 = .ok (.iadd, 1) := by decide +kernel
theorem dL_act_255 : decode cL_act 255 = .ok (.iload_n 2, 1) := by decide +kernel
theorem dL_act_256 : decode cL_act 256 = .ok (.bipush 24, 2) := by decide +kernel
theorem dL_act_258 : decode cL_act 258 = .ok (.idiv, 1) := by decide +kernel
theorem dL_act_259 : decode cL_act 259 = .ok (.iconst 3, 1) := by decide +kernel
theorem dL_act_260 : decode cL_act 260 = .ok (.irem, 1) := by decide +kernel
theorem dL_act_261 : decode cL_act 261 = .ok (.ifCond .le 7, 3) := by decide +kernel
theorem dL_act_264 : decode cL_act 264 = .ok (.iconst 1, 1) := by decide +kernel
theorem dL_act_265 : decode cL_act 265 = .ok (.goto 4, 3) := by decide +kernel
theorem dL_act_268 : decode cL_act 268 = .ok (.iconst 0, 1) := by decide +kernel
theorem dL_act_269 : decode cL_act 269 = .ok (.invokestatic 154, 3) := by decide +kernel
theorem dL_act_272 : decode cL_act 272 = .ok (.ireturn, 1) := by decide +kernel
theorem dL_act_273 : decode cL_act 273 = .ok (.iload_n 2, 1) := by decide +kernel
theorem dL_act_274 : decode cL_act 274 = .ok (.iconst 2, 1) := by decide +kernel
theorem dL_act_275 : decode cL_act 275 = .ok (.irem, 1) := by decide +kernel
theorem dL_act_276 : decode cL_act 276 = .ok (.ifCond .ne 20, 3) := by decide +kernel
theorem dL_act_279 : decode cL_act 279 = .ok (.aload_n 0, 1) := by decide +kernel
theorem dL_act_280 : decode cL_act 280 = .ok (.bipush 9, 2) := by decide +kernel
theorem dL_act_282 : decode cL_act 282 = .ok (.iconst 0, 1) := by decide +kernel
theorem dL_act_283 : decode cL_act 283 = .ok (.iload_n 2, 1) := by decide +kernel
theorem dL_act_284 : decode cL_act 284 = .ok (.iconst 2, 1) := by decide +kernel
theorem dL_act_285 : decode cL_act 285 = .ok (.idiv, 1) := by decide +kernel
theorem dL_act_286 : decode cL_act 286 = .ok (.bipush 51, 2) := by decide +kernel
theorem dL_act_288 : decode cL_act 288 = .ok (.irem, 1) := by decide +kernel
theorem dL_act_289 : decode cL_act 289 = .ok (.iconst 0, 1) := by decide +kernel
theorem dL_act_290 : decode cL_act 290 = .ok (.invokestatic 143, 3) := by decide +kernel
theorem dL_act_293 : decode cL_act 293 = .ok (.goto 17, 3) := by decide +kernel
theorem dL_act_296 : decode cL_act 296 = .ok (.aload_n 0, 1) := by decide +kernel
theorem dL_act_297 : decode cL_act 297 = .ok (.bipush 9, 2) := by decide +kernel
theorem dL_act_299 : decode cL_act 299 = .ok (.iconst 1, 1) := by decide +kernel
theorem dL_act_300 : decode cL_act 300 = .ok (.iload_n 2, 1) := by decide +kernel
theorem dL_act_301 : decode cL_act 301 = .ok (.iconst 2, 1) := by decide +kernel
theorem dL_act_302 : decode cL_act 302 = .ok (.idiv, 1) := by decide +kernel
theorem dL_act_303 : decode cL_act 303 = .ok (.bipush 9, 2) := by decide +kernel
theorem dL_act_305 : decode cL_act 305 = .ok (.irem, 1) := by decide +kernel
theorem dL_act_306 : decode cL_act 306 = .ok (.iconst 0, 1) := by decide +kernel
theorem dL_act_307 : decode cL_act 307 = .ok (.invokestatic 143, 3) := by decide +kernel
theorem dL_act_310 : decode cL_act 310 = .ok (.ireturn, 1) := by decide +kernel
theorem dL_act_311 : decode cL_act 311 = .ok (.aload_n 0, 1) := by decide +kernel
theorem dL_act_312 : decode cL_act 312 = .ok (.iconst 2, 1) := by decide +kernel
theorem dL_act_313 : decode cL_act 313 = .ok (.iconst 3, 1) := by decide +kernel
theorem dL_act_314 : decode cL_act 314 = .ok (.iconst 0, 1) := by decide +kernel
theorem dL_act_315 : decode cL_act 315 = .ok (.iconst 0, 1) := by decide +kernel
theorem dL_act_316 : decode cL_act 316 = .ok (.invokestatic 143, 3) := by decide +kernel
theorem dL_act_319 : decode cL_act 319 = .ok (.iconst 2, 1) := by decide +kernel
theorem dL_act_320 : decode cL_act 320 = .ok (.if_icmp .ge 7, 3) := by decide +kernel
theorem dL_act_323 : decode cL_act 323 = .ok (.iconst (-1), 1) := by decide +kernel
theorem dL_act_324 : decode cL_act 324 = .ok (.goto 12, 3) := by decide +kernel
theorem dL_act_327 : decode cL_act 327 = .ok (.aload_n 0, 1) := by decide +kernel
theorem dL_act_328 : decode cL_act 328 = .ok (.bipush 10, 2) := by decide +kernel
theorem dL_act_330 : decode cL_act 330 = .ok (.iconst 0, 1) := by decide +kernel
theorem dL_act_331 : decode cL_act 331 = .ok (.iconst 0, 1) := by decide +kernel
theorem dL_act_332 : decode cL_act 332 = .ok (.iconst 0, 1) := by decide +kernel
theorem dL_act_333 : decode cL_act 333 = .ok (.invokestatic 143, 3) := by decide +kernel
theorem dL_act_336 : decode cL_act 336 = .ok (.ireturn, 1) := by decide +kernel
theorem dL_act_337 : decode cL_act 337 = .ok (.iload_n 2, 1) := by decide +kernel
theorem dL_act_338 : decode cL_act 338 = .ok (.iconst 2, 1) := by decide +kernel
theorem dL_act_339 : decode cL_act 339 = .ok (.irem, 1) := by decide +kernel
theorem dL_act_340 : decode cL_act 340 = .ok (.ifCond .ne 19, 3) := by decide +kernel
theorem dL_act_343 : decode cL_act 343 = .ok (.aload_n 0, 1) := by decide +kernel
theorem dL_act_344 : decode cL_act 344 = .ok (.bipush 13, 2) := by decide +kernel
theorem dL_act_346 : decode cL_act 346 = .ok (.iload_n 2, 1) := by decide +kernel
theorem dL_act_347 : decode cL_act 347 = .ok (.iconst 2, 1) := by decide +kernel
theorem dL_act_348 : decode cL_act 348 = .ok (.idiv, 1) := by decide +kernel
theorem dL_act_349 : decode cL_act 349 = .ok (.iconst 2, 1) := by decide +kernel
theorem dL_act_350 : decode cL_act 350 = .ok (.irem, 1) := by decide +kernel
theorem dL_act_351 : decode cL_act 351 = .ok (.iconst 0, 1) := by decide +kernel
theorem dL_act_352 : decode cL_act 352 = .ok (.iconst 0, 1) := by decide +kernel
theorem dL_act_353 : decode cL_act 353 = .ok (.invokestatic 143, 3) := by decide +kernel
theorem dL_act_356 : decode cL_act 356 = .ok (.goto 16, 3) := by decide +kernel
theorem dL_act_359 : decode cL_act 359 = .ok (.aload_n 0, 1) := by decide +kernel
theorem dL_act_360 : decode cL_act 360 = .ok (.bipush 14, 2) := by decide +kernel
theorem dL_act_362 : decode cL_act 362 = .ok (.iload_n 2, 1) := by decide +kernel
theorem dL_act_363 : decode cL_act 363 = .ok (.iconst 2, 1) := by decide +kernel
theorem dL_act_364 : decode cL_act 364 = .ok (.idiv, 1) := by decide +kernel
theorem dL_act_365 : decode cL_act 365 = .ok (.iconst 2, 1) := by decide +kernel
theorem dL_act_366 : decode cL_act 366 = .ok (.irem, 1) := by decide +kernel
theorem dL_act_367 : decode cL_act 367 = .ok (.iconst 0, 1) := by decide +kernel
theorem dL_act_368 : decode cL_act 368 = .ok (.iconst 0, 1) := by decide +kernel
theorem dL_act_369 : decode cL_act 369 = .ok (.invokestatic 143, 3) := by decide +kernel
theorem dL_act_372 : decode cL_act 372 = .ok (.ireturn, 1) := by decide +kernel
theorem dL_act_373 : decode cL_act 373 = .ok (.aload_n 0, 1) := by decide +kernel
theorem dL_act_374 : decode cL_act 374 = .ok (.bipush 8, 2) := by decide +kernel
theorem dL_act_376 : decode cL_act 376 = .ok (.iconst 1, 1) := by decide +kernel
theorem dL_act_377 : decode cL_act 377 = .ok (.iload_n 2, 1) := by decide +kernel
theorem dL_act_378 : decode cL_act 378 = .ok (.iload_n 2, 1) := by decide +kernel
theorem dL_act_379 : decode cL_act 379 = .ok (.bipush 99, 2) := by decide +kernel
theorem dL_act_381 : decode cL_act 381 = .ok (.idiv, 1) := by decide +kernel
theorem dL_act_382 : decode cL_act 382 = .ok (.iconst 4, 1) := by decide +kernel
theorem dL_act_383 : decode cL_act 383 = .ok (.irem, 1) := by decide +kernel
theorem dL_act_384 : decode cL_act 384 = .ok (.ifCond .ne 8, 3) := by decide +kernel
theorem dL_act_387 : decode cL_act 387 = .ok (.bipush 99, 2) := by decide +kernel
theorem dL_act_389 : decode cL_act 389 = .ok (.goto 4, 3) := by decide +kernel
theorem dL_act_392 : decode cL_act 392 = .ok (.iconst 5, 1) := by decide +kernel
theorem dL_act_393 : decode cL_act 393 = .ok (.irem, 1) := by decide +kernel
theorem dL_act_394 : decode cL_act 394 = .ok (.iadd, 1) := by decide +kernel
theorem dL_act_395 : decode cL_act 395 = .ok (.iconst 0, 1) := by decide +kernel
theorem dL_act_396 : decode cL_act 396 = .ok (.iconst 0, 1) := by decide +kernel
theorem dL_act_397 : decode cL_act 397 = .ok (.invokestatic 143, 3) := by decide +kernel
theorem dL_act_400 : decode cL_act 400 = .ok (.ireturn, 1) := by decide +kernel
theorem dL_alike_0 : decode cL_alike 0 = .ok (.aload_n 0, 1) := by decide +kernel
theorem dL_alike_1 : decode cL_alike 1 = .ok (.iload_n 2, 1) := by decide +kernel
theorem dL_alike_2 : decode cL_alike 2 = .ok (.i2l, 1) := by decide +kernel
theorem dL_alike_3 : decode cL_alike 3 = .ok (.iconst 1, 1) := by decide +kernel
theorem dL_alike_4 : decode cL_alike 4 = .ok (.iload_n 2, 1) := by decide +kernel
theorem dL_alike_5 : decode cL_alike 5 = .ok (.bipush 30, 2) := by decide +kernel
theorem dL_alike_7 : decode cL_alike 7 = .ok (.irem, 1) := by decide +kernel
theorem dL_alike_8 : decode cL_alike 8 = .ok (.iadd, 1) := by decide +kernel
theorem dL_alike_9 : decode cL_alike 9 = .ok (.invokestatic 167, 3) := by decide +kernel
theorem dL_alike_12 : decode cL_alike 12 = .ok (.aload_n 1, 1) := by decide +kernel
theorem dL_alike_13 : decode cL_alike 13 = .ok (.iload_n 2, 1) := by decide +kernel
theorem dL_alike_14 : decode cL_alike 14 = .ok (.i2l, 1) := by decide +kernel
theorem dL_alike_15 : decode cL_alike 15 = .ok (.iconst 1, 1) := by decide +kernel
theorem dL_alike_16 : decode cL_alike 16 = .ok (.iload_n 2, 1) := by decide +kernel
theorem dL_alike_17 : decode cL_alike 17 = .ok (.bipush 30, 2) := by decide +kernel
theorem dL_alike_19 : decode cL_alike 19 = .ok (.irem, 1) := by decide +kernel
theorem dL_alike_20 : decode cL_alike 20 = .ok (.iadd, 1) := by decide +kernel
theorem dL_alike_21 : decode cL_alike 21 = .ok (.invokestatic 167, 3) := by decide +kernel
theorem dL_alike_24 : decode cL_alike 24 = .ok (.if_icmp .ne 18, 3) := by decide +kernel
theorem dL_alike_27 : decode cL_alike 27 = .ok (.aload_n 0, 1) := by decide +kernel
theorem dL_alike_28 : decode cL_alike 28 = .ok (.invokevirtual 171, 3) := by decide +kernel
theorem dL_alike_31 : decode cL_alike 31 = .ok (.aload_n 1, 1) := by decide +kernel
theorem dL_alike_32 : decode cL_alike 32 = .ok (.invokevirtual 171, 3) := by decide +kernel
theorem dL_alike_35 : decode cL_alike 35 = .ok (.if_icmp .ne 7, 3) := by decide +kernel
theorem dL_alike_38 : decode cL_alike 38 = .ok (.iconst 1, 1) := by decide +kernel
theorem dL_alike_39 : decode cL_alike 39 = .ok (.goto 4, 3) := by decide +kernel
theorem dL_alike_42 : decode cL_alike 42 = .ok (.iconst 0, 1) := by decide +kernel
theorem dL_alike_43 : decode cL_alike 43 = .ok (.istore_n 3, 1) := by decide +kernel
theorem dL_alike_44 : decode cL_alike 44 = .ok (.iconst 0, 1) := by decide +kernel
theorem dL_alike_45 : decode cL_alike 45 = .ok (.istore 4, 2) := by decide +kernel
theorem dL_alike_47 : decode cL_alike 47 = .ok (.iload 4, 2) := by decide +kernel
theorem dL_alike_49 : decode cL_alike 49 = .ok (.bipush 20, 2) := by decide +kernel
theorem dL_alike_51 : decode cL_alike 51 = .ok (.if_icmp .ge 144, 3) := by decide +kernel
theorem dL_alike_54 : decode cL_alike 54 = .ok (.iload_n 3, 1) := by decide +kernel
theorem dL_alike_55 : decode cL_alike 55 = .ok (.ifCond .eq 140, 3) := by decide +kernel
theorem dL_alike_58 : decode cL_alike 58 = .ok (.aload_n 0, 1) := by decide +kernel
theorem dL_alike_59 : decode cL_alike 59 = .ok (.iconst 2, 1) := by decide +kernel
theorem dL_alike_60 : decode cL_alike 60 = .ok (.iload 4, 2) := by decide +kernel
theorem dL_alike_62 : decode cL_alike 62 = .ok (.iconst 0, 1) := by decide +kernel
theorem dL_alike_63 : decode cL_alike 63 = .ok (.iconst 0, 1) := by decide +kernel
theorem dL_alike_64 : decode cL_alike 64 = .ok (.invokestatic 143, 3) := by decide +kernel
theorem dL_alike_67 : decode cL_alike 67 = .ok (.aload_n 1, 1) := by decide +kernel
theorem dL_alike_68 : decode cL_alike 68 = .ok (.iconst 2, 1) := by decide +kernel
theorem dL_alike_69 : decode cL_alike 69 = .ok (.iload 4, 2) := by decide +kernel
theorem dL_alike_71 : decode cL_alike 71 = .ok (.iconst 0, 1) := by decide +kernel
theorem dL_alike_72 : decode cL_alike 72 = .ok (.iconst 0, 1) := by decide +kernel
theorem dL_alike_73 : decode cL_alike 73 = .ok (.invokestatic 143, 3) := by decide +kernel
theorem dL_alike_76 : decode cL_alike 76 = .ok (.if_icmp .ne 111, 3) := by decide +kernel
theorem dL_alike_79 : decode cL_alike 79 = .ok (.aload_n 0, 1) := by decide +kernel
theorem dL_alike_80 : decode cL_alike 80 = .ok (.iconst 3, 1) := by decide +kernel
theorem dL_alike_81 : decode cL_alike 81 = .ok (.iload 4, 2) := by decide +kernel
theorem dL_alike_83 : decode cL_alike 83 = .ok (.iload_n 2, 1) := by decide +kernel
theorem dL_alike_84 : decode cL_alike 84 = .ok (.bipush 11, 2) := by decide +kernel
theorem dL_alike_86 : decode cL_alike 86 = .ok (.irem, 1) := by decide +kernel
theorem dL_alike_87 : decode cL_alike 87 = .ok (.iconst 0, 1) := by decide +kernel
theorem dL_alike_88 : decode cL_alike 88 = .ok (.invokestatic 143, 3) := by decide +kernel
theorem dL_alike_91 : decode cL_alike 91 = .ok (.aload_n 1, 1) := by decide +kernel
theorem dL_alike_92 : decode cL_alike 92 = .ok (.iconst 3, 1) := by decide +kernel
theorem dL_alike_93 : decode cL_alike 93 = .ok (.iload 4, 2) := by decide +kernel
theorem dL_alike_95 : decode cL_alike 95 = .ok (.iload_n 2, 1) := by decide +kernel
theorem dL_alike_96 : decode cL_alike 96 = .ok (.bipush 11, 2) := by decide +kernel
theorem dL_alike_98 : decode cL_alike 98 = .ok (.irem, 1) := by decide +kernel
theorem dL_alike_99 : decode cL_alike 99 = .ok (.iconst 0, 1) := by decide +kernel
theorem dL_alike_100 : decode cL_alike 100 = .ok (.invokestatic 143, 3) := by decide +kernel
theorem dL_alike_103 : decode cL_alike 103 = .ok (.if_icmp .ne 84, 3) := by decide +kernel
theorem dL_alike_106 : decode cL_alike 106 = .ok (.aload_n 0, 1) := by decide +kernel
theorem dL_alike_107 : decode cL_alike 107 = .ok (.iconst 4, 1) := by decide +kernel
theorem dL_alike_108 : decode cL_alike 108 = .ok (.iload 4, 2) := by decide +kernel
theorem dL_alike_110 : decode cL_alike 110 = .ok (.iload_n 2, 1) := by decide +kernel
theorem dL_alike_111 : decode cL_alike 111 = .ok (.bipush 9, 2) := by decide +kernel
theorem dL_alike_113 : decode cL_alike 113 = .ok (.irem, 1) := by decide +kernel
theorem dL_alike_114 : decode cL_alike 114 = .ok (.iconst 0, 1) := by decide +kernel
theorem dL_alike_115 : decode cL_alike 115 = .ok (.invokestatic 143, 3) := by decide +kernel
theorem dL_alike_118 : decode cL_alike 118 = .ok (.aload_n 1, 1) := by decide +kernel
theorem dL_alike_119 : decode cL_alike 119 = .ok (.iconst 4, 1) := by decide +kernel
theorem dL_alike_120 : decode cL_alike 120 = .ok (.iload 4, 2) := by decide +kernel
theorem dL_alike_122 : decode cL_alike 122 = .ok (.iload_n 2, 1) := by decide +kernel
theorem dL_alike_123 : decode cL_alike 123 = .ok (.bipush 9, 2) := by decide +kernel
theorem dL_alike_125 : decode cL_alike 125 = .ok (.irem, 1) := by decide +kernel
theorem dL_alike_126 : decode cL_alike 126 = .ok (.iconst 0, 1) := by decide +kernel
theorem dL_alike_127 : decode cL_alike 127 = .ok (.invokestatic 143, 3) := by decide +kernel
theorem dL_alike_130 : decode cL_alike 130 = .ok (.if_icmp .ne 57, 3) := by decide +kernel
theorem dL_alike_133 : decode cL_alike 133 = .ok (.aload_n 0, 1) := by decide +kernel
theorem dL_alike_134 : decode cL_alike 134 = .ok (.iconst 5, 1) := by decide +kernel
theorem dL_alike_135 : decode cL_alike 135 = .ok (.iload 4, 2) := by decide +kernel
theorem dL_alike_137 : decode cL_alike 137 = .ok (.iconst 0, 1) := by decide +kernel
theorem dL_alike_138 : decode cL_alike 138 = .ok (.iconst 0, 1) := by decide +kernel
theorem dL_alike_139 : decode cL_alike 139 = .ok (.invokestatic 143, 3) := by decide +kernel
theorem dL_alike_142 : decode cL_alike 142 = .ok (.aload_n 1, 1) := by decide +kernel
theorem dL_alike_143 : decode cL_alike 143 = .ok (.iconst 5, 1) := by decide +kernel
theorem dL_alike_144 : decode cL_alike 144 = .ok (.iload 4, 2) := by decide +kernel
theorem dL_alike_146 : decode cL_alike 146 = .ok (.iconst 0, 1) := by decide +kernel
theorem dL_alike_147 : decode cL_alike 147 = .ok (.iconst 0, 1) := by decide +kernel
theorem dL_alike_148 : decode cL_alike 148 = .ok (.invokestatic 143, 3) := by decide +kernel
theorem dL_alike_151 : decode cL_alike 151 = .ok (.if_icmp .ne 36, 3) := by decide +kernel
theorem dL_alike_154 : decode cL_alike 154 = .ok (.aload_n 0, 1) := by decide +kernel
theorem dL_alike_155 : decode cL_alike 155 = .ok (.bipush 6, 2) := by decide +kernel
theorem dL_alike_157 : decode cL_alike 157 = .ok (.iload 4, 2) := by decide +kernel
theorem dL_alike_159 : decode cL_alike 159 = .ok (.iload_n 2, 1) := by decide +kernel
theorem dL_alike_160 : decode cL_alike 160 = .ok (.bipush 12, 2) := by decide +kernel
theorem dL_alike_162 : decode cL_alike 162 = .ok (.irem, 1) := by decide +kernel
theorem dL_alike_163 : decode cL_alike 163 = .ok (.iconst 0, 1) := by decide +kernel
theorem dL_alike_164 : decode cL_alike 164 = .ok (.invokestatic 143, 3) := by decide +kernel
theorem dL_alike_167 : decode cL_alike 167 = .ok (.aload_n 1, 1) := by decide +kernel
theorem dL_alike_168 : decode cL_alike 168 = .ok (.bipush 6, 2) := by decide +kernel
theorem dL_alike_170 : decode cL_alike 170 = .ok (.iload 4, 2) := by decide +kernel
theorem dL_alike_172 : decode cL_alike 172 = .ok (.iload_n 2, 1) := by decide +kernel
theorem dL_alike_173 : decode cL_alike 173 = .ok (.bipush 12, 2) := by decide +kernel
theorem dL_alike_175 : decode cL_alike 175 = .ok (.irem, 1) := by decide +kernel
theorem dL_alike_176 : decode cL_alike 176 = .ok (.iconst 0, 1) := by decide +kernel
theorem dL_alike_177 : decode cL_alike 177 = .ok (.invokestatic 143, 3) := by decide +kernel
theorem dL_alike_180 : decode cL_alike 180 = .ok (.if_icmp .ne 7, 3) := by decide +kernel
theorem dL_alike_183 : decode cL_alike 183 = .ok (.iconst 1, 1) := by decide +kernel
theorem dL_alike_184 : decode cL_alike 184 = .ok (.goto 4, 3) := by decide +kernel
theorem dL_alike_187 : decode cL_alike 187 = .ok (.iconst 0, 1) := by decide +kernel
theorem dL_alike_188 : decode cL_alike 188 = .ok (.istore_n 3, 1) := by decide +kernel
theorem dL_alike_189 : decode cL_alike 189 = .ok (.iinc 4 1, 3) := by decide +kernel
theorem dL_alike_192 : decode cL_alike 192 = .ok (.goto (-145), 3) := by decide +kernel
theorem dL_alike_195 : decode cL_alike 195 = .ok (.iload_n 3, 1) := by decide +kernel
theorem dL_alike_196 : decode cL_alike 196 = .ok (.ireturn, 1) := by decide +kernel
theorem dL_law_0 : decode cL_law 0 = .ok (.new 8, 3) := by decide +kernel
theorem dL_law_3 : decode cL_law 3 = .ok (.dup, 1) := by decide +kernel
theorem dL_law_4 : decode cL_law 4 = .ok (.invokespecial 175, 3) := by decide +kernel
theorem dL_law_7 : decode cL_law 7 = .ok (.astore_n 1, 1) := by decide +kernel
theorem dL_law_8 : decode cL_law 8 = .ok (.new 8, 3) := by decide +kernel
theorem dL_law_11 : decode cL_law 11 = .ok (.dup, 1) := by decide +kernel
theorem dL_law_12 : decode cL_law 12 = .ok (.invokespecial 175, 3) := by decide +kernel
theorem dL_law_15 : decode cL_law 15 = .ok (.astore_n 2, 1) := by decide +kernel
theorem dL_law_16 : decode cL_law 16 = .ok (.bipush 14, 2) := by decide +kernel
theorem dL_law_18 : decode cL_law 18 = .ok (.aload_n 0, 1) := by decide +kernel
theorem dL_law_19 : decode cL_law 19 = .ok (.iconst 0, 1) := by decide +kernel
theorem dL_law_20 : decode cL_law 20 = .ok (.invokestatic 176, 3) := by decide +kernel
theorem dL_law_23 : decode cL_law 23 = .ok (.bipush 23, 2) := by decide +kernel
theorem dL_law_25 : decode cL_law 25 = .ok (.irem, 1) := by decide +kernel
theorem dL_law_26 : decode cL_law 26 = .ok (.iadd, 1) := by decide +kernel
theorem dL_law_27 : decode cL_law 27 = .ok (.istore_n 3, 1) := by decide +kernel
theorem dL_law_28 : decode cL_law 28 = .ok (.aload_n 0, 1) := by decide +kernel
theorem dL_law_29 : decode cL_law 29 = .ok (.iconst 1, 1) := by decide +kernel
theorem dL_law_30 : decode cL_law 30 = .ok (.invokestatic 176, 3) := by decide +kernel
theorem dL_law_33 : decode cL_law 33 = .ok (.istore 4, 2) := by decide +kernel
theorem dL_law_35 : decode cL_law 35 = .ok (.aload_n 1, 1) := by decide +kernel
theorem dL_law_36 : decode cL_law 36 = .ok (.iconst 1, 1) := by decide +kernel
theorem dL_law_37 : decode cL_law 37 = .ok (.iload 4, 2) := by decide +kernel
theorem dL_law_39 : decode cL_law 39 = .ok (.sipush 255, 3) := by decide +kernel
theorem dL_law_42 : decode cL_law 42 = .ok (.irem, 1) := by decide +kernel
theorem dL_law_43 : decode cL_law 43 = .ok (.iadd, 1) := by decide +kernel
theorem dL_law_44 : decode cL_law 44 = .ok (.iconst 1, 1) := by decide +kernel
theorem dL_law_45 : decode cL_law 45 = .ok (.iload 4, 2) := by decide +kernel
theorem dL_law_47 : decode cL_law 47 = .ok (.sipush 255, 3) := by decide +kernel
theorem dL_law_50 : decode cL_law 50 = .ok (.idiv, 1) := by decide +kernel
theorem dL_law_51 : decode cL_law 51 = .ok (.iconst 3, 1) := by decide +kernel
theorem dL_law_52 : decode cL_law 52 = .ok (.irem, 1) := by decide +kernel
theorem dL_law_53 : decode cL_law 53 = .ok (.iadd, 1) := by decide +kernel
theorem dL_law_54 : decode cL_law 54 = .ok (.iload 4, 2) := by decide +kernel
theorem dL_law_56 : decode cL_law 56 = .ok (.sipush 765, 3) := by decide +kernel
theorem dL_law_59 : decode cL_law 59 = .ok (.idiv, 1) := by decide +kernel
theorem dL_law_60 : decode cL_law 60 = .ok (.bipush 12, 2) := by decide +kernel
theorem dL_law_62 : decode cL_law 62 = .ok (.irem, 1) := by decide +kernel
theorem dL_law_63 : decode cL_law 63 = .ok (.iconst 1, 1) := by decide +kernel
theorem dL_law_64 : decode cL_law 64 = .ok (.iload 4, 2) := by decide +kernel
theorem dL_law_66 : decode cL_law 66 = .ok (.sipush 9180, 3) := by decide +kernel
theorem dL_law_69 : decode cL_law 69 = .ok (.idiv, 1) := by decide +kernel
theorem dL_law_70 : decode cL_law 70 = .ok (.sipush 500, 3) := by decide +kernel
theorem dL_law_73 : decode cL_law 73 = .ok (.irem, 1) := by decide +kernel
theorem dL_law_74 : decode cL_law 74 = .ok (.iadd, 1) := by decide +kernel
theorem dL_law_75 : decode cL_law 75 = .ok (.invokestatic 147, 3) := by decide +kernel
theorem dL_law_78 : decode cL_law 78 = .ok (.ifCond .ne 53, 3) := by decide +kernel
theorem dL_law_81 : decode cL_law 81 = .ok (.aload_n 2, 1) := by decide +kernel
theorem dL_law_82 : decode cL_law 82 = .ok (.iconst 1, 1) := by decide +kernel
theorem dL_law_83 : decode cL_law 83 = .ok (.iload 4, 2) := by decide +kernel
theorem dL_law_85 : decode cL_law 85 = .ok (.sipush 255, 3) := by decide +kernel
theorem dL_law_88 : decode cL_law 88 = .ok (.irem, 1) := by decide +kernel
theorem dL_law_89 : decode cL_law 89 = .ok (.iadd, 1) := by decide +kernel
theorem dL_law_90 : decode cL_law 90 = .ok (.iconst 1, 1) := by decide +kernel
theorem dL_law_91 : decode cL_law 91 = .ok (.iload 4, 2) := by decide +kernel
theorem dL_law_93 : decode cL_law 93 = .ok (.sipush 255, 3) := by decide +kernel
theorem dL_law_96 : decode cL_law 96 = .ok (.idiv, 1) := by decide +kernel
theorem dL_law_97 : decode cL_law 97 = .ok (.iconst 3, 1) := by decide +kernel
theorem dL_law_98 : decode cL_law 98 = .ok (.irem, 1) := by decide +kernel
theorem dL_law_99 : decode cL_law 99 = .ok (.iadd, 1) := by decide +kernel
theorem dL_law_100 : decode cL_law 100 = .ok (.iload 4, 2) := by decide +kernel
theorem dL_law_102 : decode cL_law 102 = .ok (.sipush 765, 3) := by decide +kernel
theorem dL_law_105 : decode cL_law 105 = .ok (.idiv, 1) := by decide +kernel
theorem dL_law_106 : decode cL_law 106 = .ok (.bipush 12, 2) := by decide +kernel
theorem dL_law_108 : decode cL_law 108 = .ok (.irem, 1) := by decide +kernel
theorem dL_law_109 : decode cL_law 109 = .ok (.iconst 1, 1) := by decide +kernel
theorem dL_law_110 : decode cL_law 110 = .ok (.iload 4, 2) := by decide +kernel
theorem dL_law_112 : decode cL_law 112 = .ok (.sipush 9180, 3) := by decide +kernel
theorem dL_law_115 : decode cL_law 115 = .ok (.idiv, 1) := by decide +kernel
theorem dL_law_116 : decode cL_law 116 = .ok (.sipush 500, 3) := by decide +kernel
theorem dL_law_119 : decode cL_law 119 = .ok (.irem, 1) := by decide +kernel
theorem dL_law_120 : decode cL_law 120 = .ok (.iadd, 1) := by decide +kernel
theorem dL_law_121 : decode cL_law 121 = .ok (.invokestatic 147, 3) := by decide +kernel
theorem dL_law_124 : decode cL_law 124 = .ok (.ifCond .ne 7, 3) := by decide +kernel
theorem dL_law_127 : decode cL_law 127 = .ok (.iconst 1, 1) := by decide +kernel
theorem dL_law_128 : decode cL_law 128 = .ok (.goto 4, 3) := by decide +kernel
theorem dL_law_131 : decode cL_law 131 = .ok (.iconst 0, 1) := by decide +kernel
theorem dL_law_132 : decode cL_law 132 = .ok (.istore 5, 2) := by decide +kernel
theorem dL_law_134 : decode cL_law 134 = .ok (.iconst 0, 1) := by decide +kernel
theorem dL_law_135 : decode cL_law 135 = .ok (.istore 6, 2) := by decide +kernel
theorem dL_law_137 : decode cL_law 137 = .ok (.iload 6, 2) := by decide +kernel
theorem dL_law_139 : decode cL_law 139 = .ok (.iload_n 3, 1) := by decide +kernel
theorem dL_law_140 : decode cL_law 140 = .ok (.if_icmp .ge 147, 3) := by decide +kernel
theorem dL_law_143 : decode cL_law 143 = .ok (.iload 5, 2) := by decide +kernel
theorem dL_law_145 : decode cL_law 145 = .ok (.ifCond .eq 142, 3) := by decide +kernel
theorem dL_law_148 : decode cL_law 148 = .ok (.aload_n 0, 1) := by decide +kernel
theorem dL_law_149 : decode cL_law 149 = .ok (.iconst 2, 1) := by decide +kernel
theorem dL_law_150 : decode cL_law 150 = .ok (.iload 6, 2) := by decide +kernel
theorem dL_law_152 : decode cL_law 152 = .ok (.iadd, 1) := by decide +kernel
theorem dL_law_153 : decode cL_law 153 = .ok (.invokestatic 176, 3) := by decide +kernel
theorem dL_law_156 : decode cL_law 156 = .ok (.istore 7, 2) := by decide +kernel
theorem dL_law_158 : decode cL_law 158 = .ok (.aload_n 1, 1) := by decide +kernel
theorem dL_law_159 : decode cL_law 159 = .ok (.iload 7, 2) := by decide +kernel
theorem dL_law_161 : decode cL_law 161 = .ok (.invokestatic 180, 3) := by decide +kernel
theorem dL_law_164 : decode cL_law 164 = .ok (.istore 8, 2) := by decide +kernel
theorem dL_law_166 : decode cL_law 166 = .ok (.aload_n 2, 1) := by decide +kernel
theorem dL_law_167 : decode cL_law 167 = .ok (.iload 7, 2) := by decide +kernel
theorem dL_law_169 : decode cL_law 169 = .ok (.ldc 183, 2) := by decide +kernel
theorem dL_law_171 : decode cL_law 171 = .ok (.irem, 1) := by decide +kernel
theorem dL_law_172 : decode cL_law 172 = .ok (.invokestatic 184, 3) := by decide +kernel
theorem dL_law_175 : decode cL_law 175 = .ok (.ifCond .eq 103, 3) := by decide +kernel
theorem dL_law_178 : decode cL_law 178 = .ok (.aload_n 2, 1) := by decide +kernel
theorem dL_law_179 : decode cL_law 179 = .ok (.iload 7, 2) := by decide +kernel
theorem dL_law_181 : decode cL_law 181 = .ok (.invokestatic 180, 3) := by decide +kernel
theorem dL_law_184 : decode cL_law 184 = .ok (.iload 8, 2) := by decide +kernel
theorem dL_law_186 : decode cL_law 186 = .ok (.if_icmp .ne 92, 3) := by decide +kernel
theorem dL_law_189 : decode cL_law 189 = .ok (.aload_n 2, 1) := by decide +kernel
theorem dL_law_190 : decode cL_law 190 = .ok (.iload 7, 2) := by decide +kernel
theorem dL_law_192 : decode cL_law 192 = .ok (.sipush 1000, 3) := by decide +kernel
theorem dL_law_195 : decode cL_law 195 = .ok (.irem, 1) := by decide +kernel
theorem dL_law_196 : decode cL_law 196 = .ok (.invokestatic 184, 3) := by decide +kernel
theorem dL_law_199 : decode cL_law 199 = .ok (.ifCond .eq 79, 3) := by decide +kernel
theorem dL_law_202 : decode cL_law 202 = .ok (.aload_n 1, 1) := by decide +kernel
theorem dL_law_203 : decode cL_law 203 = .ok (.aload_n 2, 1) := by decide +kernel
theorem dL_law_204 : decode cL_law 204 = .ok (.iload 7, 2) := by decide +kernel
theorem dL_law_206 : decode cL_law 206 = .ok (.sipush 5000, 3) := by decide +kernel
theorem dL_law_209 : decode cL_law 209 = .ok (.irem, 1) := by decide +kernel
theorem dL_law_210 : decode cL_law 210 = .ok (.invokestatic 188, 3) := by decide +kernel
theorem dL_law_213 : decode cL_law 213 = .ok (.ifCond .eq 65, 3) := by decide +kernel
theorem dL_law_216 : decode cL_law 216 = .ok (.iload 6, 2) := by decide +kernel
theorem dL_law_218 : decode cL_law 218 = .ok (.iconst 2, 1) := by decide +kernel
theorem dL_law_219 : decode cL_law 219 = .ok (.irem, 1) := by decide +kernel
theorem dL_law_220 : decode cL_law 220 = .ok (.ifCond .ne 17, 3) := by decide +kernel
theorem dL_law_223 : decode cL_law 223 = .ok (.aload_n 1, 1) := by decide +kernel
theorem dL_law_224 : decode cL_law 224 = .ok (.iload 7, 2) := by decide +kernel
theorem dL_law_226 : decode cL_law 226 = .ok (.iconst 3, 1) := by decide +kernel
theorem dL_law_227 : decode cL_law 227 = .ok (.idiv, 1) := by decide +kernel
theorem dL_law_228 : decode cL_law 228 = .ok (.invokestatic 192, 3) := by decide +kernel
theorem dL_law_231 : decode cL_law 231 = .ok (.ifCond .eq 47, 3) := by decide +kernel
theorem dL_law_234 : decode cL_law 234 = .ok (.goto 14, 3) := by decide +kernel
theorem dL_law_237 : decode cL_law 237 = .ok (.aload_n 2, 1) := by decide +kernel
theorem dL_law_238 : decode cL_law 238 = .ok (.iload 7, 2) := by decide +kernel
theorem dL_law_240 : decode cL_law 240 = .ok (.iconst 3, 1) := by decide +kernel
theorem dL_law_241 : decode cL_law 241 = .ok (.idiv, 1) := by decide +kernel
theorem dL_law_242 : decode cL_law 242 = .ok (.invokestatic 192, 3) := by decide +kernel
theorem dL_law_245 : decode cL_law 245 = .ok (.ifCond .eq 33, 3) := by decide +kernel
theorem dL_law_248 : decode cL_law 248 = .ok (.aload_n 1, 1) := by decide +kernel
theorem dL_law_249 : decode cL_law 249 = .ok (.aload_n 2, 1) := by decide +kernel
theorem dL_law_250 : decode cL_law 250 = .ok (.iload 7, 2) := by decide +kernel
theorem dL_law_252 : decode cL_law 252 = .ok (.bipush 7, 2) := by decide +kernel
theorem dL_law_254 : decode cL_law 254 = .ok (.idiv, 1) := by decide +kernel
theorem dL_law_255 : decode cL_law 255 = .ok (.invokestatic 195, 3) := by decide +kernel
theorem dL_law_258 : decode cL_law 258 = .ok (.ifCond .eq 20, 3) := by decide +kernel
theorem dL_law_261 : decode cL_law 261 = .ok (.aload_n 1, 1) := by decide +kernel
theorem dL_law_262 : decode cL_law 262 = .ok (.aload_n 2, 1) := by decide +kernel
theorem dL_law_263 : decode cL_law 263 = .ok (.iload 7, 2) := by decide +kernel
theorem dL_law_265 : decode cL_law 265 = .ok (.bipush 11, 2) := by decide +kernel
theorem dL_law_267 : decode cL_law 267 = .ok (.idiv, 1) := by decide +kernel
theorem dL_law_268 : decode cL_law 268 = .ok (.invokestatic 198, 3) := by decide +kernel
theorem dL_law_271 : decode cL_law 271 = .ok (.ifCond .eq 7, 3) := by decide +kernel
theorem dL_law_274 : decode cL_law 274 = .ok (.iconst 1, 1) := by decide +kernel
theorem dL_law_275 : decode cL_law 275 = .ok (.goto 4, 3) := by decide +kernel
theorem dL_law_278 : decode cL_law 278 = .ok (.iconst 0, 1) := by decide +kernel
theorem dL_law_279 : decode cL_law 279 = .ok (.istore 5, 2) := by decide +kernel
theorem dL_law_281 : decode cL_law 281 = .ok (.iinc 6 1, 3) := by decide +kernel
theorem dL_law_284 : decode cL_law 284 = .ok (.goto (-147), 3) := by decide +kernel
theorem dL_law_287 : decode cL_law 287 = .ok (.iload 5, 2) := by decide +kernel
theorem dL_law_289 : decode cL_law 289 = .ok (.ireturn, 1) := by decide +kernel
theorem dL_sees_0 : decode cL_sees 0 = .ok (.aload_n 0, 1) := by decide +kernel
theorem dL_sees_1 : decode cL_sees 1 = .ok (.iconst 2, 1) := by decide +kernel
theorem dL_sees_2 : decode cL_sees 2 = .ok (.iconst 2, 1) := by decide +kernel
theorem dL_sees_3 : decode cL_sees 3 = .ok (.iconst 0, 1) := by decide +kernel
theorem dL_sees_4 : decode cL_sees 4 = .ok (.iconst 0, 1) := by decide +kernel
theorem dL_sees_5 : decode cL_sees 5 = .ok (.invokestatic 143, 3) := by decide +kernel
theorem dL_sees_8 : decode cL_sees 8 = .ok (.bipush 20, 2) := by decide +kernel
theorem dL_sees_10 : decode cL_sees 10 = .ok (.if_icmp .ne 5, 3) := by decide +kernel
theorem dL_sees_13 : decode cL_sees 13 = .ok (.iconst 1, 1) := by decide +kernel
theorem dL_sees_14 : decode cL_sees 14 = .ok (.ireturn, 1) := by decide +kernel
theorem dL_sees_15 : decode cL_sees 15 = .ok (.iload_n 2, 1) := by decide +kernel
theorem dL_sees_16 : decode cL_sees 16 = .ok (.sipush 256, 3) := by decide +kernel
theorem dL_sees_19 : decode cL_sees 19 = .ok (.irem, 1) := by decide +kernel
theorem dL_sees_20 : decode cL_sees 20 = .ok (.istore_n 3, 1) := by decide +kernel
theorem dL_sees_21 : decode cL_sees 21 = .ok (.iload_n 2, 1) := by decide +kernel
theorem dL_sees_22 : decode cL_sees 22 = .ok (.sipush 256, 3) := by decide +kernel
theorem dL_sees_25 : decode cL_sees 25 = .ok (.idiv, 1) := by decide +kernel
theorem dL_sees_26 : decode cL_sees 26 = .ok (.bipush 12, 2) := by decide +kernel
theorem dL_sees_28 : decode cL_sees 28 = .ok (.irem, 1) := by decide +kernel
theorem dL_sees_29 : decode cL_sees 29 = .ok (.istore 4, 2) := by decide +kernel
theorem dL_sees_31 : decode cL_sees 31 = .ok (.aload_n 0, 1) := by decide +kernel
theorem dL_sees_32 : decode cL_sees 32 = .ok (.bipush 12, 2) := by decide +kernel
theorem dL_sees_34 : decode cL_sees 34 = .ok (.iload_n 3, 1) := by decide +kernel
theorem dL_sees_35 : decode cL_sees 35 = .ok (.iconst 0, 1) := by decide +kernel
theorem dL_sees_36 : decode cL_sees 36 = .ok (.iconst 0, 1) := by decide +kernel
theorem dL_sees_37 : decode cL_sees 37 = .ok (.invokestatic 143, 3) := by decide +kernel
theorem dL_sees_40 : decode cL_sees 40 = .ok (.istore 5, 2) := by decide +kernel
theorem dL_sees_42 : decode cL_sees 42 = .ok (.iload 5, 2) := by decide +kernel
theorem dL_sees_44 : decode cL_sees 44 = .ok (.iconst (-1), 1) := by decide +kernel
theorem dL_sees_45 : decode cL_sees 45 = .ok (.if_icmp .ne 7, 3) := by decide +kernel
theorem dL_sees_48 : decode cL_sees 48 = .ok (.iconst 0, 1) := by decide +kernel
theorem dL_sees_49 : decode cL_sees 49 = .ok (.goto 13, 3) := by decide +kernel
theorem dL_sees_52 : decode cL_sees 52 = .ok (.aload_n 0, 1) := by decide +kernel
theorem dL_sees_53 : decode cL_sees 53 = .ok (.bipush 11, 2) := by decide +kernel
theorem dL_sees_55 : decode cL_sees 55 = .ok (.iload 5, 2) := by decide +kernel
theorem dL_sees_57 : decode cL_sees 57 = .ok (.iconst 0, 1) := by decide +kernel
theorem dL_sees_58 : decode cL_sees 58 = .ok (.iconst 0, 1) := by decide +kernel
theorem dL_sees_59 : decode cL_sees 59 = .ok (.invokestatic 143, 3) := by decide +kernel
theorem dL_sees_62 : decode cL_sees 62 = .ok (.istore 6, 2) := by decide +kernel
theorem dL_sees_64 : decode cL_sees 64 = .ok (.aload_n 0, 1) := by decide +kernel
theorem dL_sees_65 : decode cL_sees 65 = .ok (.iconst 2, 1) := by decide +kernel
theorem dL_sees_66 : decode cL_sees 66 = .ok (.iconst 2, 1) := by decide +kernel
theorem dL_sees_67 : decode cL_sees 67 = .ok (.iconst 0, 1) := by decide +kernel
theorem dL_sees_68 : decode cL_sees 68 = .ok (.iconst 0, 1) := by decide +kernel
theorem dL_sees_69 : decode cL_sees 69 = .ok (.invokestatic 143, 3) := by decide +kernel
theorem dL_sees_72 : decode cL_sees 72 = .ok (.istore 7, 2) := by decide +kernel
theorem dL_sees_74 : decode cL_sees 74 = .ok (.aload_n 0, 1) := by decide +kernel
theorem dL_sees_75 : decode cL_sees 75 = .ok (.iload_n 2, 1) := by decide +kernel
theorem dL_sees_76 : decode cL_sees 76 = .ok (.bipush 8, 2) := by decide +kernel
theorem dL_sees_78 : decode cL_sees 78 = .ok (.irem, 1) := by decide +kernel
theorem dL_sees_79 : decode cL_sees 79 = .ok (.iload 4, 2) := by decide +kernel
theorem dL_sees_81 : decode cL_sees 81 = .ok (.iload_n 3, 1) := by decide +kernel
theorem dL_sees_82 : decode cL_sees 82 = .ok (.iconst 0, 1) := by decide +kernel
theorem dL_sees_83 : decode cL_sees 83 = .ok (.iconst 1, 1) := by decide +kernel
theorem dL_sees_84 : decode cL_sees 84 = .ok (.invokestatic 150, 3) := by decide +kernel
theorem dL_sees_87 : decode cL_sees 87 = .ok (.iload 5, 2) := by decide +kernel
theorem dL_sees_89 : decode cL_sees 89 = .ok (.if_icmp .ne 52, 3) := by decide +kernel
theorem dL_sees_92 : decode cL_sees 92 = .ok (.aload_n 1, 1) := by decide +kernel
theorem dL_sees_93 : decode cL_sees 93 = .ok (.iload_n 2, 1) := by decide +kernel
theorem dL_sees_94 : decode cL_sees 94 = .ok (.bipush 8, 2) := by decide +kernel
theorem dL_sees_96 : decode cL_sees 96 = .ok (.irem, 1) := by decide +kernel
theorem dL_sees_97 : decode cL_sees 97 = .ok (.iload 4, 2) := by decide +kernel
theorem dL_sees_99 : decode cL_sees 99 = .ok (.iload_n 3, 1) := by decide +kernel
theorem dL_sees_100 : decode cL_sees 100 = .ok (.iconst 0, 1) := by decide +kernel
theorem dL_sees_101 : decode cL_sees 101 = .ok (.iconst 1, 1) := by decide +kernel
theorem dL_sees_102 : decode cL_sees 102 = .ok (.invokestatic 150, 3) := by decide +kernel
theorem dL_sees_105 : decode cL_sees 105 = .ok (.iload 5, 2) := by decide +kernel
theorem dL_sees_107 : decode cL_sees 107 = .ok (.if_icmp .ne 34, 3) := by decide +kernel
theorem dL_sees_110 : decode cL_sees 110 = .ok (.aload_n 0, 1) := by decide +kernel
theorem dL_sees_111 : decode cL_sees 111 = .ok (.iconst 4, 1) := by decide +kernel
theorem dL_sees_112 : decode cL_sees 112 = .ok (.iload 7, 2) := by decide +kernel
theorem dL_sees_114 : decode cL_sees 114 = .ok (.iconst 5, 1) := by decide +kernel
theorem dL_sees_115 : decode cL_sees 115 = .ok (.iconst 0, 1) := by decide +kernel
theorem dL_sees_116 : decode cL_sees 116 = .ok (.invokestatic 143, 3) := by decide +kernel
theorem dL_sees_119 : decode cL_sees 119 = .ok (.iload 5, 2) := by decide +kernel
theorem dL_sees_121 : decode cL_sees 121 = .ok (.if_icmp .ne 20, 3) := by decide +kernel
theorem dL_sees_124 : decode cL_sees 124 = .ok (.aload_n 0, 1) := by decide +kernel
theorem dL_sees_125 : decode cL_sees 125 = .ok (.iconst 4, 1) := by decide +kernel
theorem dL_sees_126 : decode cL_sees 126 = .ok (.iload 7, 2) := by decide +kernel
theorem dL_sees_128 : decode cL_sees 128 = .ok (.iconst 3, 1) := by decide +kernel
theorem dL_sees_129 : decode cL_sees 129 = .ok (.iconst 0, 1) := by decide +kernel
theorem dL_sees_130 : decode cL_sees 130 = .ok (.invokestatic 143, 3) := by decide +kernel
theorem dL_sees_133 : decode cL_sees 133 = .ok (.iload_n 3, 1) := by decide +kernel
theorem dL_sees_134 : decode cL_sees 134 = .ok (.if_icmp .ne 7, 3) := by decide +kernel
theorem dL_sees_137 : decode cL_sees 137 = .ok (.iconst 1, 1) := by decide +kernel
theorem dL_sees_138 : decode cL_sees 138 = .ok (.goto 4, 3) := by decide +kernel
theorem dL_sees_141 : decode cL_sees 141 = .ok (.iconst 0, 1) := by decide +kernel
theorem dL_sees_142 : decode cL_sees 142 = .ok (.istore 8, 2) := by decide +kernel
theorem dL_sees_144 : decode cL_sees 144 = .ok (.iload 5, 2) := by decide +kernel
theorem dL_sees_146 : decode cL_sees 146 = .ok (.iconst (-1), 1) := by decide +kernel
theorem dL_sees_147 : decode cL_sees 147 = .ok (.if_icmp .eq 85, 3) := by decide +kernel
theorem dL_sees_150 : decode cL_sees 150 = .ok (.aload_n 0, 1) := by decide +kernel
theorem dL_sees_151 : decode cL_sees 151 = .ok (.bipush 11, 2) := by decide +kernel
theorem dL_sees_153 : decode cL_sees 153 = .ok (.iload 5, 2) := by decide +kernel
theorem dL_sees_155 : decode cL_sees 155 = .ok (.iconst 0, 1) := by decide +kernel
theorem dL_sees_156 : decode cL_sees 156 = .ok (.iconst 0, 1) := by decide +kernel
theorem dL_sees_157 : decode cL_sees 157 = .ok (.invokestatic 143, 3) := by decide +kernel
theorem dL_sees_160 : decode cL_sees 160 = .ok (.istore 9, 2) := by decide +kernel
theorem dL_sees_162 : decode cL_sees 162 = .ok (.aload_n 0, 1) := by decide +kernel
theorem dL_sees_163 : decode cL_sees 163 = .ok (.iconst 4, 1) := by decide +kernel
theorem dL_sees_164 : decode cL_sees 164 = .ok (.iload 7, 2) := by decide +kernel
theorem dL_sees_166 : decode cL_sees 166 = .ok (.bipush 7, 2) := by decide +kernel
theorem dL_sees_168 : decode cL_sees 168 = .ok (.iconst 0, 1) := by decide +kernel
theorem dL_sees_169 : decode cL_sees 169 = .ok (.invokestatic 143, 3) := by decide +kernel
theorem dL_sees_172 : decode cL_sees 172 = .ok (.istore 10, 2) := by decide +kernel
theorem dL_sees_174 : decode cL_sees 174 = .ok (.iload 8, 2) := by decide +kernel
theorem dL_sees_176 : decode cL_sees 176 = .ok (.ifCond .eq 53, 3) := by decide +kernel
theorem dL_sees_179 : decode cL_sees 179 = .ok (.aload_n 0, 1) := by decide +kernel
theorem dL_sees_180 : decode cL_sees 180 = .ok (.iconst 4, 1) := by decide +kernel
theorem dL_sees_181 : decode cL_sees 181 = .ok (.iload 7, 2) := by decide +kernel
theorem dL_sees_183 : decode cL_sees 183 = .ok (.bipush 8, 2) := by decide +kernel
theorem dL_sees_185 : decode cL_sees 185 = .ok (.iconst 0, 1) := by decide +kernel
theorem dL_sees_186 : decode cL_sees 186 = .ok (.invokestatic 143, 3) := by decide +kernel
theorem dL_sees_189 : decode cL_sees 189 = .ok (.iconst 1, 1) := by decide +kernel
theorem dL_sees_190 : decode cL_sees 190 = .ok (.iload 10, 2) := by decide +kernel
theorem dL_sees_192 : decode cL_sees 192 = .ok (.isub, 1) := by decide +kernel
theorem dL_sees_193 : decode cL_sees 193 = .ok (.if_icmp .ne 36, 3) := by decide +kernel
theorem dL_sees_196 : decode cL_sees 196 = .ok (.iload 10, 2) := by decide +kernel
theorem dL_sees_198 : decode cL_sees 198 = .ok (.ifCond .ne 13, 3) := by decide +kernel
theorem dL_sees_201 : decode cL_sees 201 = .ok (.iload 9, 2) := by decide +kernel
theorem dL_sees_203 : decode cL_sees 203 = .ok (.iload 6, 2) := by decide +kernel
theorem dL_sees_205 : decode cL_sees 205 = .ok (.if_icmp .ne 24, 3) := by decide +kernel
theorem dL_sees_208 : decode cL_sees 208 = .ok (.goto 17, 3) := by decide +kernel
theorem dL_sees_211 : decode cL_sees 211 = .ok (.iload 9, 2) := by decide +kernel
theorem dL_sees_213 : decode cL_sees 213 = .ok (.ifCond .eq 12, 3) := by decide +kernel
theorem dL_sees_216 : decode cL_sees 216 = .ok (.iload 9, 2) := by decide +kernel
theorem dL_sees_218 : decode cL_sees 218 = .ok (.iconst 1, 1) := by decide +kernel
theorem dL_sees_219 : decode cL_sees 219 = .ok (.iload 4, 2) := by decide +kernel
theorem dL_sees_221 : decode cL_sees 221 = .ok (.ishl, 1) := by decide +kernel
theorem dL_sees_222 : decode cL_sees 222 = .ok (.if_icmp .ne 7, 3) := by decide +kernel
theorem dL_sees_225 : decode cL_sees 225 = .ok (.iconst 1, 1) := by decide +kernel
theorem dL_sees_226 : decode cL_sees 226 = .ok (.goto 4, 3) := by decide +kernel
theorem dL_sees_229 : decode cL_sees 229 = .ok (.iconst 0, 1) := by decide +kernel
theorem dL_sees_230 : decode cL_sees 230 = .ok (.istore 8, 2) := by decide +kernel
theorem dL_sees_232 : decode cL_sees 232 = .ok (.iload 8, 2) := by decide +kernel
theorem dL_sees_234 : decode cL_sees 234 = .ok (.ifCond .eq 71, 3) := by decide +kernel
theorem dL_sees_237 : decode cL_sees 237 = .ok (.aload_n 0, 1) := by decide +kernel
theorem dL_sees_238 : decode cL_sees 238 = .ok (.bipush 10, 2) := by decide +kernel
theorem dL_sees_240 : decode cL_sees 240 = .ok (.iconst 0, 1) := by decide +kernel
theorem dL_sees_241 : decode cL_sees 241 = .ok (.iconst 0, 1) := by decide +kernel
theorem dL_sees_242 : decode cL_sees 242 = .ok (.iconst 0, 1) := by decide +kernel
theorem dL_sees_243 : decode cL_sees 243 = .ok (.invokestatic 143, 3) := by decide +kernel
theorem dL_sees_246 : decode cL_sees 246 = .ok (.invokestatic 201, 3) := by decide +kernel
theorem dL_sees_249 : decode cL_sees 249 = .ok (.ifCond .ne 56, 3) := by decide +kernel
theorem dL_sees_252 : decode cL_sees 252 = .ok (.aload_n 1, 1) := by decide +kernel
theorem dL_sees_253 : decode cL_sees 253 = .ok (.bipush 10, 2) := by decide +kernel
theorem dL_sees_255 : decode cL_sees 255 = .ok (.iconst 0, 1) := by decide +kernel
theorem dL_sees_256 : decode cL_sees 256 = .ok (.iconst 0, 1) := by decide +kernel
theorem dL_sees_257 : decode cL_sees 257 = .ok (.iconst 0, 1) := by decide +kernel
theorem dL_sees_258 : decode cL_sees 258 = .ok (.invokestatic 143, 3) := by decide +kernel
theorem dL_sees_261 : decode cL_sees 261 = .ok (.invokestatic 201, 3) := by decide +kernel
theorem dL_sees_264 : decode cL_sees 264 = .ok (.ifCond .ne 41, 3) := by decide +kernel
theorem dL_sees_267 : decode cL_sees 267 = .ok (.aload_n 0, 1) := by decide +kernel
theorem dL_sees_268 : decode cL_sees 268 = .ok (.iconst 2, 1) := by decide +kernel
theorem dL_sees_269 : decode cL_sees 269 = .ok (.iconst 2, 1) := by decide +kernel
theorem dL_sees_270 : decode cL_sees 270 = .ok (.iconst 0, 1) := by decide +kernel
theorem dL_sees_271 : decode cL_sees 271 = .ok (.iconst 0, 1) := by decide +kernel
theorem dL_sees_272 : decode cL_sees 272 = .ok (.invokestatic 143, 3) := by decide +kernel
theorem dL_sees_275 : decode cL_sees 275 = .ok (.iload 7, 2) := by decide +kernel
theorem dL_sees_277 : decode cL_sees 277 = .ok (.if_icmp .ne 28, 3) := by decide +kernel
theorem dL_sees_280 : decode cL_sees 280 = .ok (.iload 5, 2) := by decide +kernel
theorem dL_sees_282 : decode cL_sees 282 = .ok (.iconst (-1), 1) := by decide +kernel
theorem dL_sees_283 : decode cL_sees 283 = .ok (.if_icmp .eq 18, 3) := by decide +kernel
theorem dL_sees_286 : decode cL_sees 286 = .ok (.aload_n 0, 1) := by decide +kernel
theorem dL_sees_287 : decode cL_sees 287 = .ok (.bipush 11, 2) := by decide +kernel
theorem dL_sees_289 : decode cL_sees 289 = .ok (.iload 5, 2) := by decide +kernel
theorem dL_sees_291 : decode cL_sees 291 = .ok (.iconst 0, 1) := by decide +kernel
theorem dL_sees_292 : decode cL_sees 292 = .ok (.iconst 0, 1) := by decide +kernel
theorem dL_sees_293 : decode cL_sees 293 = .ok (.invokestatic 143, 3) := by decide +kernel
theorem dL_sees_296 : decode cL_sees 296 = .ok (.iload 6, 2) := by decide +kernel
theorem dL_sees_298 : decode cL_sees 298 = .ok (.if_icmp .ne 7, 3) := by decide +kernel
theorem dL_sees_301 : decode cL_sees 301 = .ok (.iconst 1, 1) := by decide +kernel
theorem dL_sees_302 : decode cL_sees 302 = .ok (.goto 4, 3) := by decide +kernel
theorem dL_sees_305 : decode cL_sees 305 = .ok (.iconst 0, 1) := by decide +kernel
theorem dL_sees_306 : decode cL_sees 306 = .ok (.ireturn, 1) := by decide +kernel
theorem dL_found_0 : decode cL_found 0 = .ok (.iload_n 2, 1) := by decide +kernel
theorem dL_found_1 : decode cL_found 1 = .ok (.aload_n 0, 1) := by decide +kernel
theorem dL_found_2 : decode cL_found 2 = .ok (.iconst 2, 1) := by decide +kernel
theorem dL_found_3 : decode cL_found 3 = .ok (.iconst 0, 1) := by decide +kernel
theorem dL_found_4 : decode cL_found 4 = .ok (.iconst 0, 1) := by decide +kernel
theorem dL_found_5 : decode cL_found 5 = .ok (.iconst 0, 1) := by decide +kernel
theorem dL_found_6 : decode cL_found 6 = .ok (.invokestatic 143, 3) := by decide +kernel
theorem dL_found_9 : decode cL_found 9 = .ok (.irem, 1) := by decide +kernel
theorem dL_found_10 : decode cL_found 10 = .ok (.istore_n 3, 1) := by decide +kernel
theorem dL_found_11 : decode cL_found 11 = .ok (.aload_n 0, 1) := by decide +kernel
theorem dL_found_12 : decode cL_found 12 = .ok (.iconst 3, 1) := by decide +kernel
theorem dL_found_13 : decode cL_found 13 = .ok (.iload_n 3, 1) := by decide +kernel
theorem dL_found_14 : decode cL_found 14 = .ok (.iconst 5, 1) := by decide +kernel
theorem dL_found_15 : decode cL_found 15 = .ok (.iconst 0, 1) := by decide +kernel
theorem dL_found_16 : decode cL_found 16 = .ok (.invokestatic 143, 3) := by decide +kernel
theorem dL_found_19 : decode cL_found 19 = .ok (.ifCond .ne 5, 3) := by decide +kernel
theorem dL_found_22 : decode cL_found 22 = .ok (.iconst 1, 1) := by decide +kernel
theorem dL_found_23 : decode cL_found 23 = .ok (.ireturn, 1) := by decide +kernel
theorem dL_found_24 : decode cL_found 24 = .ok (.iload_n 2, 1) := by decide +kernel
theorem dL_found_25 : decode cL_found 25 = .ok (.bipush 6, 2) := by decide +kernel
theorem dL_found_27 : decode cL_found 27 = .ok (.idiv, 1) := by decide +kernel
theorem dL_found_28 : decode cL_found 28 = .ok (.bipush 8, 2) := by decide +kernel
theorem dL_found_30 : decode cL_found 30 = .ok (.irem, 1) := by decide +kernel
theorem dL_found_31 : decode cL_found 31 = .ok (.istore 4, 2) := by decide +kernel
theorem dL_found_33 : decode cL_found 33 = .ok (.iload_n 2, 1) := by decide +kernel
theorem dL_found_34 : decode cL_found 34 = .ok (.bipush 48, 2) := by decide +kernel
theorem dL_found_36 : decode cL_found 36 = .ok (.idiv, 1) := by decide +kernel
theorem dL_found_37 : decode cL_found 37 = .ok (.bipush 8, 2) := by decide +kernel
theorem dL_found_39 : decode cL_found 39 = .ok (.irem, 1) := by decide +kernel
theorem dL_found_40 : decode cL_found 40 = .ok (.istore 5, 2) := by decide +kernel
theorem dL_found_42 : decode cL_found 42 = .ok (.iload_n 2, 1) := by decide +kernel
theorem dL_found_43 : decode cL_found 43 = .ok (.sipush 384, 3) := by decide +kernel
theorem dL_found_46 : decode cL_found 46 = .ok (.idiv, 1) := by decide +kernel
theorem dL_found_47 : decode cL_found 47 = .ok (.bipush 12, 2) := by decide +kernel
theorem dL_found_49 : decode cL_found 49 = .ok (.irem, 1) := by decide +kernel
theorem dL_found_50 : decode cL_found 50 = .ok (.istore 6, 2) := by decide +kernel
theorem dL_found_52 : decode cL_found 52 = .ok (.aload_n 0, 1) := by decide +kernel
theorem dL_found_53 : decode cL_found 53 = .ok (.iload_n 3, 1) := by decide +kernel
theorem dL_found_54 : decode cL_found 54 = .ok (.iload 4, 2) := by decide +kernel
theorem dL_found_56 : decode cL_found 56 = .ok (.iload 6, 2) := by decide +kernel
theorem dL_found_58 : decode cL_found 58 = .ok (.iload 5, 2) := by decide +kernel
theorem dL_found_60 : decode cL_found 60 = .ok (.invokestatic 158, 3) := by decide +kernel
theorem dL_found_63 : decode cL_found 63 = .ok (.istore 7, 2) := by decide +kernel
theorem dL_found_65 : decode cL_found 65 = .ok (.aload_n 0, 1) := by decide +kernel
theorem dL_found_66 : decode cL_found 66 = .ok (.iload_n 3, 1) := by decide +kernel
theorem dL_found_67 : decode cL_found 67 = .ok (.iload 4, 2) := by decide +kernel
theorem dL_found_69 : decode cL_found 69 = .ok (.iload 6, 2) := by decide +kernel
theorem dL_found_71 : decode cL_found 71 = .ok (.iload 4, 2) := by decide +kernel
theorem dL_found_73 : decode cL_found 73 = .ok (.invokestatic 158, 3) := by decide +kernel
theorem dL_found_76 : decode cL_found 76 = .ok (.istore 8, 2) := by decide +kernel
theorem dL_found_78 : decode cL_found 78 = .ok (.aload_n 0, 1) := by decide +kernel
theorem dL_found_79 : decode cL_found 79 = .ok (.iconst 5, 1) := by decide +kernel
theorem dL_found_80 : decode cL_found 80 = .ok (.iload 5, 2) := by decide +kernel
theorem dL_found_82 : decode cL_found 82 = .ok (.iconst 0, 1) := by decide +kernel
theorem dL_found_83 : decode cL_found 83 = .ok (.iconst 0, 1) := by decide +kernel
theorem dL_found_84 : decode cL_found 84 = .ok (.invokestatic 143, 3) := by decide +kernel
theorem dL_found_87 : decode cL_found 87 = .ok (.istore 9, 2) := by decide +kernel
theorem dL_found_89 : decode cL_found 89 = .ok (.aload_n 0, 1) := by decide +kernel
theorem dL_found_90 : decode cL_found 90 = .ok (.iconst 2, 1) := by decide +kernel
theorem dL_found_91 : decode cL_found 91 = .ok (.iconst 5, 1) := by decide +kernel
theorem dL_found_92 : decode cL_found 92 = .ok (.iconst 0, 1) := by decide +kernel
theorem dL_found_93 : decode cL_found 93 = .ok (.iconst 0, 1) := by decide +kernel
theorem dL_found_94 : decode cL_found 94 = .ok (.invokestatic 143, 3) := by decide +kernel
theorem dL_found_97 : decode cL_found 97 = .ok (.istore 10, 2) := by decide +kernel
theorem dL_found_99 : decode cL_found 99 = .ok (.aload_n 0, 1) := by decide +kernel
theorem dL_found_100 : decode cL_found 100 = .ok (.iconst 2, 1) := by decide +kernel
theorem dL_found_101 : decode cL_found 101 = .ok (.bipush 6, 2) := by decide +kernel
theorem dL_found_103 : decode cL_found 103 = .ok (.iconst 0, 1) := by decide +kernel
theorem dL_found_104 : decode cL_found 104 = .ok (.iconst 0, 1) := by decide +kernel
theorem dL_found_105 : decode cL_found 105 = .ok (.invokestatic 143, 3) := by decide +kernel
theorem dL_found_108 : decode cL_found 108 = .ok (.istore 11, 2) := by decide +kernel
theorem dL_found_110 : decode cL_found 110 = .ok (.aload_n 0, 1) := by decide +kernel
theorem dL_found_111 : decode cL_found 111 = .ok (.iconst 3, 1) := by decide +kernel
theorem dL_found_112 : decode cL_found 112 = .ok (.iload_n 3, 1) := by decide +kernel
theorem dL_found_113 : decode cL_found 113 = .ok (.iconst 4, 1) := by decide +kernel
theorem dL_found_114 : decode cL_found 114 = .ok (.iconst 0, 1) := by decide +kernel
theorem dL_found_115 : decode cL_found 115 = .ok (.invokestatic 143, 3) := by decide +kernel
theorem dL_found_118 : decode cL_found 118 = .ok (.istore 12, 2) := by decide +kernel
theorem dL_found_120 : decode cL_found 120 = .ok (.iconst 0, 1) := by decide +kernel
theorem dL_found_121 : decode cL_found 121 = .ok (.istore 13, 2) := by decide +kernel
theorem dL_found_123 : decode cL_found 123 = .ok (.iconst 0, 1) := by decide +kernel
theorem dL_found_124 : decode cL_found 124 = .ok (.istore 14, 2) := by decide +kernel
theorem dL_found_126 : decode cL_found 126 = .ok (.iload 14, 2) := by decide +kernel
theorem dL_found_128 : decode cL_found 128 = .ok (.bipush 8, 2) := by decide +kernel
theorem dL_found_130 : decode cL_found 130 = .ok (.if_icmp .ge 25, 3) := by decide +kernel
theorem dL_found_133 : decode cL_found 133 = .ok (.iload 13, 2) := by decide +kernel
theorem dL_found_135 : decode cL_found 135 = .ok (.aload_n 0, 1) := by decide +kernel
theorem dL_found_136 : decode cL_found 136 = .ok (.iload_n 3, 1) := by decide +kernel
theorem dL_found_137 : decode cL_found 137 = .ok (.iload 4, 2) := by decide +kernel
theorem dL_found_139 : decode cL_found 139 = .ok (.iload 6, 2) := by decide +kernel
theorem dL_found_141 : decode cL_found 141 = .ok (.iload 14, 2) := by decide +kernel
theorem dL_found_143 : decode cL_found 143 = .ok (.invokestatic 158, 3) := by decide +kernel
theorem dL_found_146 : decode cL_found 146 = .ok (.iadd, 1) := by decide +kernel
theorem dL_found_147 : decode cL_found 147 = .ok (.istore 13, 2) := by decide +kernel
theorem dL_found_149 : decode cL_found 149 = .ok (.iinc 14 1, 3) := by decide +kernel
theorem dL_found_152 : decode cL_found 152 = .ok (.goto (-26), 3) := by decide +kernel
theorem dL_found_155 : decode cL_found 155 = .ok (.aload_n 0, 1) := by decide +kernel
theorem dL_found_156 : decode cL_found 156 = .ok (.iconst 2, 1) := by decide +kernel
theorem dL_found_157 : decode cL_found 157 = .ok (.bipush 8, 2) := by decide +kernel
theorem dL_found_159 : decode cL_found 159 = .ok (.iconst 0, 1) := by decide +kernel
theorem dL_found_160 : decode cL_found 160 = .ok (.iconst 0, 1) := by decide +kernel
theorem dL_found_161 : decode cL_found 161 = .ok (.invokestatic 143, 3) := by decide +kernel
theorem dL_found_164 : decode cL_found 164 = .ok (.istore 14, 2) := by decide +kernel
theorem dL_found_166 : decode cL_found 166 = .ok (.aload_n 0, 1) := by decide +kernel
theorem dL_found_167 : decode cL_found 167 = .ok (.bipush 7, 2) := by decide +kernel
theorem dL_found_169 : decode cL_found 169 = .ok (.iload_n 3, 1) := by decide +kernel
theorem dL_found_170 : decode cL_found 170 = .ok (.iload 4, 2) := by decide +kernel
theorem dL_found_172 : decode cL_found 172 = .ok (.iload 6, 2) := by decide +kernel
theorem dL_found_174 : decode cL_found 174 = .ok (.invokestatic 143, 3) := by decide +kernel
theorem dL_found_177 : decode cL_found 177 = .ok (.iload 8, 2) := by decide +kernel
theorem dL_found_179 : decode cL_found 179 = .ok (.if_icmp .ne 135, 3) := by decide +kernel
theorem dL_found_182 : decode cL_found 182 = .ok (.aload_n 1, 1) := by decide +kernel
theorem dL_found_183 : decode cL_found 183 = .ok (.bipush 7, 2) := by decide +kernel
theorem dL_found_185 : decode cL_found 185 = .ok (.iload_n 3, 1) := by decide +kernel
theorem dL_found_186 : decode cL_found 186 = .ok (.iload 4, 2) := by decide +kernel
theorem dL_found_188 : decode cL_found 188 = .ok (.iload 6, 2) := by decide +kernel
theorem dL_found_190 : decode cL_found 190 = .ok (.invokestatic 143, 3) := by decide +kernel
theorem dL_found_193 : decode cL_found 193 = .ok (.iload 8, 2) := by decide +kernel
theorem dL_found_195 : decode cL_found 195 = .ok (.if_icmp .ne 119, 3) := by decide +kernel
theorem dL_found_198 : decode cL_found 198 = .ok (.aload_n 0, 1) := by decide +kernel
theorem dL_found_199 : decode cL_found 199 = .ok (.iconst 5, 1) := by decide +kernel
theorem dL_found_200 : decode cL_found 200 = .ok (.iload 5, 2) := by decide +kernel
theorem dL_found_202 : decode cL_found 202 = .ok (.iconst 0, 1) := by decide +kernel
theorem dL_found_203 : decode cL_found 203 = .ok (.iconst 0, 1) := by decide +kernel
theorem dL_found_204 : decode cL_found 204 = .ok (.invokestatic 143, 3) := by decide +kernel
theorem dL_found_207 : decode cL_found 207 = .ok (.iload 9, 2) := by decide +kernel
theorem dL_found_209 : decode cL_found 209 = .ok (.iload 7, 2) := by decide +kernel
theorem dL_found_211 : decode cL_found 211 = .ok (.iadd, 1) := by decide +kernel
theorem dL_found_212 : decode cL_found 212 = .ok (.if_icmp .ne 102, 3) := by decide +kernel
theorem dL_found_215 : decode cL_found 215 = .ok (.aload_n 0, 1) := by decide +kernel
theorem dL_found_216 : decode cL_found 216 = .ok (.iconst 2, 1) := by decide +kernel
theorem dL_found_217 : decode cL_found 217 = .ok (.iconst 5, 1) := by decide +kernel
theorem dL_found_218 : decode cL_found 218 = .ok (.iconst 0, 1) := by decide +kernel
theorem dL_found_219 : decode cL_found 219 = .ok (.iconst 0, 1) := by decide +kernel
theorem dL_found_220 : decode cL_found 220 = .ok (.invokestatic 143, 3) := by decide +kernel
theorem dL_found_223 : decode cL_found 223 = .ok (.iload 10, 2) := by decide +kernel
theorem dL_found_225 : decode cL_found 225 = .ok (.iload 13, 2) := by decide +kernel
theorem dL_found_227 : decode cL_found 227 = .ok (.iadd, 1) := by decide +kernel
theorem dL_found_228 : decode cL_found 228 = .ok (.if_icmp .ne 86, 3) := by decide +kernel
theorem dL_found_231 : decode cL_found 231 = .ok (.aload_n 0, 1) := by decide +kernel
theorem dL_found_232 : decode cL_found 232 = .ok (.iconst 2, 1) := by decide +kernel
theorem dL_found_233 : decode cL_found 233 = .ok (.bipush 6, 2) := by decide +kernel
theorem dL_found_235 : decode cL_found 235 = .ok (.iconst 0, 1) := by decide +kernel
theorem dL_found_236 : decode cL_found 236 = .ok (.iconst 0, 1) := by decide +kernel
theorem dL_found_237 : decode cL_found 237 = .ok (.invokestatic 143, 3) := by decide +kernel
theorem dL_found_240 : decode cL_found 240 = .ok (.iload 11, 2) := by decide +kernel
theorem dL_found_242 : decode cL_found 242 = .ok (.iload 12, 2) := by decide +kernel
theorem dL_found_244 : decode cL_found 244 = .ok (.iadd, 1) := by decide +kernel
theorem dL_found_245 : decode cL_found 245 = .ok (.iload 13, 2) := by decide +kernel
theorem dL_found_247 : decode cL_found 247 = .ok (.isub, 1) := by decide +kernel
theorem dL_found_248 : decode cL_found 248 = .ok (.if_icmp .ne 66, 3) := by decide +kernel
theorem dL_found_251 : decode cL_found 251 = .ok (.iload 13, 2) := by decide +kernel
theorem dL_found_253 : decode cL_found 253 = .ok (.iload 12, 2) := by decide +kernel
theorem dL_found_255 : decode cL_found 255 = .ok (.if_icmp .gt 59, 3) := by decide +kernel
theorem dL_found_258 : decode cL_found 258 = .ok (.iload 12, 2) := by decide +kernel
theorem dL_found_260 : decode cL_found 260 = .ok (.iload 13, 2) := by decide +kernel
theorem dL_found_262 : decode cL_found 262 = .ok (.isub, 1) := by decide +kernel
theorem dL_found_263 : decode cL_found 263 = .ok (.bipush 8, 2) := by decide +kernel
theorem dL_found_265 : decode cL_found 265 = .ok (.if_icmp .ge 49, 3) := by decide +kernel
theorem dL_found_268 : decode cL_found 268 = .ok (.aload_n 0, 1) := by decide +kernel
theorem dL_found_269 : decode cL_found 269 = .ok (.iconst 3, 1) := by decide +kernel
theorem dL_found_270 : decode cL_found 270 = .ok (.iload_n 3, 1) := by decide +kernel
theorem dL_found_271 : decode cL_found 271 = .ok (.bipush 8, 2) := by decide +kernel
theorem dL_found_273 : decode cL_found 273 = .ok (.iconst 0, 1) := by decide +kernel
theorem dL_found_274 : decode cL_found 274 = .ok (.invokestatic 143, 3) := by decide +kernel
theorem dL_found_277 : decode cL_found 277 = .ok (.iload 6, 2) := by decide +kernel
theorem dL_found_279 : decode cL_found 279 = .ok (.if_icmp .ne 35, 3) := by decide +kernel
theorem dL_found_282 : decode cL_found 282 = .ok (.aload_n 0, 1) := by decide +kernel
theorem dL_found_283 : decode cL_found 283 = .ok (.iconst 3, 1) := by decide +kernel
theorem dL_found_284 : decode cL_found 284 = .ok (.iload_n 3, 1) := by decide +kernel
theorem dL_found_285 : decode cL_found 285 = .ok (.bipush 9, 2) := by decide +kernel
theorem dL_found_287 : decode cL_found 287 = .ok (.iconst 0, 1) := by decide +kernel
theorem dL_found_288 : decode cL_found 288 = .ok (.invokestatic 143, 3) := by decide +kernel
theorem dL_found_291 : decode cL_found 291 = .ok (.iload 4, 2) := by decide +kernel
theorem dL_found_293 : decode cL_found 293 = .ok (.if_icmp .ne 21, 3) := by decide +kernel
theorem dL_found_296 : decode cL_found 296 = .ok (.aload_n 0, 1) := by decide +kernel
theorem dL_found_297 : decode cL_found 297 = .ok (.iconst 2, 1) := by decide +kernel
theorem dL_found_298 : decode cL_found 298 = .ok (.bipush 8, 2) := by decide +kernel
theorem dL_found_300 : decode cL_found 300 = .ok (.iconst 0, 1) := by decide +kernel
theorem dL_found_301 : decode cL_found 301 = .ok (.iconst 0, 1) := by decide +kernel
theorem dL_found_302 : decode cL_found 302 = .ok (.invokestatic 143, 3) := by decide +kernel
theorem dL_found_305 : decode cL_found 305 = .ok (.iload 14, 2) := by decide +kernel
theorem dL_found_307 : decode cL_found 307 = .ok (.if_icmp .ne 7, 3) := by decide +kernel
theorem dL_found_310 : decode cL_found 310 = .ok (.iconst 1, 1) := by decide +kernel
theorem dL_found_311 : decode cL_found 311 = .ok (.goto 4, 3) := by decide +kernel
theorem dL_found_314 : decode cL_found 314 = .ok (.iconst 0, 1) := by decide +kernel
theorem dL_found_315 : decode cL_found 315 = .ok (.istore 15, 2) := by decide +kernel
theorem dL_found_317 : decode cL_found 317 = .ok (.aload_n 0, 1) := by decide +kernel
theorem dL_found_318 : decode cL_found 318 = .ok (.iconst 3, 1) := by decide +kernel
theorem dL_found_319 : decode cL_found 319 = .ok (.iload_n 3, 1) := by decide +kernel
theorem dL_found_320 : decode cL_found 320 = .ok (.bipush 7, 2) := by decide +kernel
theorem dL_found_322 : decode cL_found 322 = .ok (.iconst 0, 1) := by decide +kernel
theorem dL_found_323 : decode cL_found 323 = .ok (.invokestatic 143, 3) := by decide +kernel
theorem dL_found_326 : decode cL_found 326 = .ok (.istore 16, 2) := by decide +kernel
theorem dL_found_328 : decode cL_found 328 = .ok (.iload_n 2, 1) := by decide +kernel
theorem dL_found_329 : decode cL_found 329 = .ok (.sipush 4608, 3) := by decide +kernel
theorem dL_found_332 : decode cL_found 332 = .ok (.idiv, 1) := by decide +kernel
theorem dL_found_333 : decode cL_found 333 = .ok (.bipush 8, 2) := by decide +kernel
theorem dL_found_335 : decode cL_found 335 = .ok (.irem, 1) := by decide +kernel
theorem dL_found_336 : decode cL_found 336 = .ok (.istore 17, 2) := by decide +kernel
theorem dL_found_338 : decode cL_found 338 = .ok (.iload 15, 2) := by decide +kernel
theorem dL_found_340 : decode cL_found 340 = .ok (.ifCond .eq 68, 3) := by decide +kernel
theorem dL_found_343 : decode cL_found 343 = .ok (.aload_n 0, 1) := by decide +kernel
theorem dL_found_344 : decode cL_found 344 = .ok (.iload 17, 2) := by decide +kernel
theorem dL_found_346 : decode cL_found 346 = .ok (.iload 17, 2) := by decide +kernel
theorem dL_found_348 : decode cL_found 348 = .ok (.iconst 4, 1) := by decide +kernel
theorem dL_found_349 : decode cL_found 349 = .ok (.iadd, 1) := by decide +kernel
theorem dL_found_350 : decode cL_found 350 = .ok (.iconst 1, 1) := by decide +kernel
theorem dL_found_351 : decode cL_found 351 = .ok (.invokestatic 154, 3) := by decide +kernel
theorem dL_found_354 : decode cL_found 354 = .ok (.invokestatic 201, 3) := by decide +kernel
theorem dL_found_357 : decode cL_found 357 = .ok (.ifCond .ne 51, 3) := by decide +kernel
theorem dL_found_360 : decode cL_found 360 = .ok (.aload_n 1, 1) := by decide +kernel
theorem dL_found_361 : decode cL_found 361 = .ok (.iload 17, 2) := by decide +kernel
theorem dL_found_363 : decode cL_found 363 = .ok (.iload 17, 2) := by decide +kernel
theorem dL_found_365 : decode cL_found 365 = .ok (.iconst 4, 1) := by decide +kernel
theorem dL_found_366 : decode cL_found 366 = .ok (.iadd, 1) := by decide +kernel
theorem dL_found_367 : decode cL_found 367 = .ok (.iconst 1, 1) := by decide +kernel
theorem dL_found_368 : decode cL_found 368 = .ok (.invokestatic 154, 3) := by decide +kernel
theorem dL_found_371 : decode cL_found 371 = .ok (.invokestatic 201, 3) := by decide +kernel
theorem dL_found_374 : decode cL_found 374 = .ok (.ifCond .ne 34, 3) := by decide +kernel
theorem dL_found_377 : decode cL_found 377 = .ok (.aload_n 0, 1) := by decide +kernel
theorem dL_found_378 : decode cL_found 378 = .ok (.iconst 3, 1) := by decide +kernel
theorem dL_found_379 : decode cL_found 379 = .ok (.iload_n 3, 1) := by decide +kernel
theorem dL_found_380 : decode cL_found 380 = .ok (.bipush 7, 2) := by decide +kernel
theorem dL_found_382 : decode cL_found 382 = .ok (.iconst 0, 1) := by decide +kernel
theorem dL_found_383 : decode cL_found 383 = .ok (.invokestatic 143, 3) := by decide +kernel
theorem dL_found_386 : decode cL_found 386 = .ok (.iload 16, 2) := by decide +kernel
theorem dL_found_388 : decode cL_found 388 = .ok (.if_icmp .ne 20, 3) := by decide +kernel
theorem dL_found_391 : decode cL_found 391 = .ok (.aload_n 0, 1) := by decide +kernel
theorem dL_found_392 : decode cL_found 392 = .ok (.iconst 3, 1) := by decide +kernel
theorem dL_found_393 : decode cL_found 393 = .ok (.iload_n 3, 1) := by decide +kernel
theorem dL_found_394 : decode cL_found 394 = .ok (.iconst 4, 1) := by decide +kernel
theorem dL_found_395 : decode cL_found 395 = .ok (.iconst 0, 1) := by decide +kernel
theorem dL_found_396 : decode cL_found 396 = .ok (.invokestatic 143, 3) := by decide +kernel
theorem dL_found_399 : decode cL_found 399 = .ok (.iload 12, 2) := by decide +kernel
theorem dL_found_401 : decode cL_found 401 = .ok (.if_icmp .ne 7, 3) := by decide +kernel
theorem dL_found_404 : decode cL_found 404 = .ok (.iconst 1, 1) := by decide +kernel
theorem dL_found_405 : decode cL_found 405 = .ok (.goto 4, 3) := by decide +kernel
theorem dL_found_408 : decode cL_found 408 = .ok (.iconst 0, 1) := by decide +kernel
theorem dL_found_409 : decode cL_found 409 = .ok (.istore 15, 2) := by decide +kernel
theorem dL_found_411 : decode cL_found 411 = .ok (.iload 15, 2) := by decide +kernel
theorem dL_found_413 : decode cL_found 413 = .ok (.ifCond .eq 93, 3) := by decide +kernel
theorem dL_found_416 : decode cL_found 416 = .ok (.aload_n 0, 1) := by decide +kernel
theorem dL_found_417 : decode cL_found 417 = .ok (.bipush 10, 2) := by decide +kernel
theorem dL_found_419 : decode cL_found 419 = .ok (.iconst 0, 1) := by decide +kernel
theorem dL_found_420 : decode cL_found 420 = .ok (.iconst 0, 1) := by decide +kernel
theorem dL_found_421 : decode cL_found 421 = .ok (.iconst 0, 1) := by decide +kernel
theorem dL_found_422 : decode cL_found 422 = .ok (.invokestatic 143, 3) := by decide +kernel
theorem dL_found_425 : decode cL_found 425 = .ok (.invokestatic 201, 3) := by decide +kernel
theorem dL_found_428 : decode cL_found 428 = .ok (.ifCond .ne 78, 3) := by decide +kernel
theorem dL_found_431 : decode cL_found 431 = .ok (.aload_n 1, 1) := by decide +kernel
theorem dL_found_432 : decode cL_found 432 = .ok (.bipush 10, 2) := by decide +kernel
theorem dL_found_434 : decode cL_found 434 = .ok (.iconst 0, 1) := by decide +kernel
theorem dL_found_435 : decode cL_found 435 = .ok (.iconst 0, 1) := by decide +kernel
theorem dL_found_436 : decode cL_found 436 = .ok (.iconst 0, 1) := by decide +kernel
theorem dL_found_437 : decode cL_found 437 = .ok (.invokestatic 143, 3) := by decide +kernel
theorem dL_found_440 : decode cL_found 440 = .ok (.invokestatic 201, 3) := by decide +kernel
theorem dL_found_443 : decode cL_found 443 = .ok (.ifCond .ne 63, 3) := by decide +kernel
theorem dL_found_446 : decode cL_found 446 = .ok (.aload_n 0, 1) := by decide +kernel
theorem dL_found_447 : decode cL_found 447 = .ok (.bipush 10, 2) := by decide +kernel
theorem dL_found_449 : decode cL_found 449 = .ok (.iconst 0, 1) := by decide +kernel
theorem dL_found_450 : decode cL_found 450 = .ok (.iconst 0, 1) := by decide +kernel
theorem dL_found_451 : decode cL_found 451 = .ok (.iconst 0, 1) := by decide +kernel
theorem dL_found_452 : decode cL_found 452 = .ok (.invokestatic 143, 3) := by decide +kernel
theorem dL_found_455 : decode cL_found 455 = .ok (.invokestatic 201, 3) := by decide +kernel
theorem dL_found_458 : decode cL_found 458 = .ok (.ifCond .ne 48, 3) := by decide +kernel
theorem dL_found_461 : decode cL_found 461 = .ok (.aload_n 1, 1) := by decide +kernel
theorem dL_found_462 : decode cL_found 462 = .ok (.bipush 10, 2) := by decide +kernel
theorem dL_found_464 : decode cL_found 464 = .ok (.iconst 0, 1) := by decide +kernel
theorem dL_found_465 : decode cL_found 465 = .ok (.iconst 0, 1) := by decide +kernel
theorem dL_found_466 : decode cL_found 466 = .ok (.iconst 0, 1) := by decide +kernel
theorem dL_found_467 : decode cL_found 467 = .ok (.invokestatic 143, 3) := by decide +kernel
theorem dL_found_470 : decode cL_found 470 = .ok (.invokestatic 201, 3) := by decide +kernel
theorem dL_found_473 : decode cL_found 473 = .ok (.ifCond .ne 33, 3) := by decide +kernel
theorem dL_found_476 : decode cL_found 476 = .ok (.aload_n 0, 1) := by decide +kernel
theorem dL_found_477 : decode cL_found 477 = .ok (.iconst 3, 1) := by decide +kernel
theorem dL_found_478 : decode cL_found 478 = .ok (.iload_n 3, 1) := by decide +kernel
theorem dL_found_479 : decode cL_found 479 = .ok (.iconst 5, 1) := by decide +kernel
theorem dL_found_480 : decode cL_found 480 = .ok (.iconst 0, 1) := by decide +kernel
theorem dL_found_481 : decode cL_found 481 = .ok (.invokestatic 143, 3) := by decide +kernel
theorem dL_found_484 : decode cL_found 484 = .ok (.iconst 1, 1) := by decide +kernel
theorem dL_found_485 : decode cL_found 485 = .ok (.if_icmp .ne 21, 3) := by decide +kernel
theorem dL_found_488 : decode cL_found 488 = .ok (.aload_n 0, 1) := by decide +kernel
theorem dL_found_489 : decode cL_found 489 = .ok (.iconst 5, 1) := by decide +kernel
theorem dL_found_490 : decode cL_found 490 = .ok (.iload 5, 2) := by decide +kernel
theorem dL_found_492 : decode cL_found 492 = .ok (.iconst 0, 1) := by decide +kernel
theorem dL_found_493 : decode cL_found 493 = .ok (.iconst 0, 1) := by decide +kernel
theorem dL_found_494 : decode cL_found 494 = .ok (.invokestatic 143, 3) := by decide +kernel
theorem dL_found_497 : decode cL_found 497 = .ok (.iload 9, 2) := by decide +kernel
theorem dL_found_499 : decode cL_found 499 = .ok (.if_icmp .ne 7, 3) := by decide +kernel
theorem dL_found_502 : decode cL_found 502 = .ok (.iconst 1, 1) := by decide +kernel
theorem dL_found_503 : decode cL_found 503 = .ok (.goto 4, 3) := by decide +kernel
theorem dL_found_506 : decode cL_found 506 = .ok (.iconst 0, 1) := by decide +kernel
theorem dL_found_507 : decode cL_found 507 = .ok (.ireturn, 1) := by decide +kernel
