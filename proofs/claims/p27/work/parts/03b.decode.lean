theorem dX0_init_0 : decode cX0_init 0 = .ok (.aload_n 0, 1) := by decide +kernel
theorem dX0_init_1 : decode cX0_init 1 = .ok (.invokespecial 3, 3) := by decide +kernel
theorem dX0_init_4 : decode cX0_init 4 = .ok (.aload_n 0, 1) := by decide +kernel
theorem dX0_init_5 : decode cX0_init 5 = .ok (.new 9, 3) := by decide +kernel
theorem dX0_init_8 : decode cX0_init 8 = .ok (.dup, 1) := by decide +kernel
theorem dX0_init_9 : decode cX0_init 9 = .ok (.invokespecial 11, 3) := by decide +kernel
theorem dX0_init_12 : decode cX0_init 12 = .ok (.putfield 12, 3) := by decide +kernel
theorem dX0_init_15 : decode cX0_init 15 = .ok (.aload_n 0, 1) := by decide +kernel
theorem dX0_init_16 : decode cX0_init 16 = .ok (.new 18, 3) := by decide +kernel
theorem dX0_init_19 : decode cX0_init 19 = .ok (.dup, 1) := by decide +kernel
theorem dX0_init_20 : decode cX0_init 20 = .ok (.bipush 6, 2) := by decide +kernel
theorem dX0_init_22 : decode cX0_init 22 = .ok (.bipush 11, 2) := by decide +kernel
theorem dX0_init_24 : decode cX0_init 24 = .ok (.invokespecial 20, 3) := by decide +kernel
theorem dX0_init_27 : decode cX0_init 27 = .ok (.putfield 23, 3) := by decide +kernel
theorem dX0_init_30 : decode cX0_init 30 = .ok (.aload_n 0, 1) := by decide +kernel
theorem dX0_init_31 : decode cX0_init 31 = .ok (.new 18, 3) := by decide +kernel
theorem dX0_init_34 : decode cX0_init 34 = .ok (.dup, 1) := by decide +kernel
theorem dX0_init_35 : decode cX0_init 35 = .ok (.bipush 20, 2) := by decide +kernel
theorem dX0_init_37 : decode cX0_init 37 = .ok (.bipush 6, 2) := by decide +kernel
theorem dX0_init_39 : decode cX0_init 39 = .ok (.invokespecial 20, 3) := by decide +kernel
theorem dX0_init_42 : decode cX0_init 42 = .ok (.putfield 27, 3) := by decide +kernel
theorem dX0_init_45 : decode cX0_init 45 = .ok (.aload_n 0, 1) := by decide +kernel
theorem dX0_init_46 : decode cX0_init 46 = .ok (.bipush 8, 2) := by decide +kernel
theorem dX0_init_48 : decode cX0_init 48 = .ok (.newarray .int, 2) := by decide +kernel
theorem dX0_init_50 : decode cX0_init 50 = .ok (.putfield 30, 3) := by decide +kernel
theorem dX0_init_53 : decode cX0_init 53 = .ok (.aload_n 0, 1) := by decide +kernel
theorem dX0_init_54 : decode cX0_init 54 = .ok (.bipush 6, 2) := by decide +kernel
theorem dX0_init_56 : decode cX0_init 56 = .ok (.newarray .int, 2) := by decide +kernel
theorem dX0_init_58 : decode cX0_init 58 = .ok (.putfield 34, 3) := by decide +kernel
theorem dX0_init_61 : decode cX0_init 61 = .ok (.return_, 1) := by decide +kernel
theorem dX0_makeNew_0 : decode cX0_makeNew 0 = .ok (.aload_n 0, 1) := by decide +kernel
theorem dX0_makeNew_1 : decode cX0_makeNew 1 = .ok (.getfield 12, 3) := by decide +kernel
theorem dX0_makeNew_4 : decode cX0_makeNew 4 = .ok (.invokevirtual 37, 3) := by decide +kernel
theorem dX0_makeNew_7 : decode cX0_makeNew 7 = .ok (.aload_n 0, 1) := by decide +kernel
theorem dX0_makeNew_8 : decode cX0_makeNew 8 = .ok (.getfield 23, 3) := by decide +kernel
theorem dX0_makeNew_11 : decode cX0_makeNew 11 = .ok (.invokevirtual 40, 3) := by decide +kernel
theorem dX0_makeNew_14 : decode cX0_makeNew 14 = .ok (.aload_n 0, 1) := by decide +kernel
theorem dX0_makeNew_15 : decode cX0_makeNew 15 = .ok (.getfield 27, 3) := by decide +kernel
theorem dX0_makeNew_18 : decode cX0_makeNew 18 = .ok (.invokevirtual 40, 3) := by decide +kernel
theorem dX0_makeNew_21 : decode cX0_makeNew 21 = .ok (.aload_n 0, 1) := by decide +kernel
theorem dX0_makeNew_22 : decode cX0_makeNew 22 = .ok (.getfield 30, 3) := by decide +kernel
theorem dX0_makeNew_25 : decode cX0_makeNew 25 = .ok (.iconst 0, 1) := by decide +kernel
theorem dX0_makeNew_26 : decode cX0_makeNew 26 = .ok (.invokestatic 43, 3) := by decide +kernel
theorem dX0_makeNew_29 : decode cX0_makeNew 29 = .ok (.aload_n 0, 1) := by decide +kernel
theorem dX0_makeNew_30 : decode cX0_makeNew 30 = .ok (.iconst 0, 1) := by decide +kernel
theorem dX0_makeNew_31 : decode cX0_makeNew 31 = .ok (.putfield 49, 3) := by decide +kernel
theorem dX0_makeNew_34 : decode cX0_makeNew 34 = .ok (.aload_n 0, 1) := by decide +kernel
theorem dX0_makeNew_35 : decode cX0_makeNew 35 = .ok (.iconst 0, 1) := by decide +kernel
theorem dX0_makeNew_36 : decode cX0_makeNew 36 = .ok (.putfield 53, 3) := by decide +kernel
theorem dX0_makeNew_39 : decode cX0_makeNew 39 = .ok (.aload_n 0, 1) := by decide +kernel
theorem dX0_makeNew_40 : decode cX0_makeNew 40 = .ok (.iconst 0, 1) := by decide +kernel
theorem dX0_makeNew_41 : decode cX0_makeNew 41 = .ok (.putfield 56, 3) := by decide +kernel
theorem dX0_makeNew_44 : decode cX0_makeNew 44 = .ok (.aload_n 0, 1) := by decide +kernel
theorem dX0_makeNew_45 : decode cX0_makeNew 45 = .ok (.iconst 0, 1) := by decide +kernel
theorem dX0_makeNew_46 : decode cX0_makeNew 46 = .ok (.putfield 59, 3) := by decide +kernel
theorem dX0_makeNew_49 : decode cX0_makeNew 49 = .ok (.aload_n 0, 1) := by decide +kernel
theorem dX0_makeNew_50 : decode cX0_makeNew 50 = .ok (.iconst 5, 1) := by decide +kernel
theorem dX0_makeNew_51 : decode cX0_makeNew 51 = .ok (.putfield 62, 3) := by decide +kernel
theorem dX0_makeNew_54 : decode cX0_makeNew 54 = .ok (.aload_n 0, 1) := by decide +kernel
theorem dX0_makeNew_55 : decode cX0_makeNew 55 = .ok (.iconst 2, 1) := by decide +kernel
theorem dX0_makeNew_56 : decode cX0_makeNew 56 = .ok (.putfield 65, 3) := by decide +kernel
theorem dX0_makeNew_59 : decode cX0_makeNew 59 = .ok (.return_, 1) := by decide +kernel
theorem dX0_copyFrom_0 : decode cX0_copyFrom 0 = .ok (.aload_n 0, 1) := by decide +kernel
theorem dX0_copyFrom_1 : decode cX0_copyFrom 1 = .ok (.getfield 12, 3) := by decide +kernel
theorem dX0_copyFrom_4 : decode cX0_copyFrom 4 = .ok (.aload_n 1, 1) := by decide +kernel
theorem dX0_copyFrom_5 : decode cX0_copyFrom 5 = .ok (.getfield 12, 3) := by decide +kernel
theorem dX0_copyFrom_8 : decode cX0_copyFrom 8 = .ok (.invokevirtual 68, 3) := by decide +kernel
theorem dX0_copyFrom_11 : decode cX0_copyFrom 11 = .ok (.aload_n 0, 1) := by decide +kernel
theorem dX0_copyFrom_12 : decode cX0_copyFrom 12 = .ok (.getfield 23, 3) := by decide +kernel
theorem dX0_copyFrom_15 : decode cX0_copyFrom 15 = .ok (.aload_n 1, 1) := by decide +kernel
theorem dX0_copyFrom_16 : decode cX0_copyFrom 16 = .ok (.getfield 23, 3) := by decide +kernel
theorem dX0_copyFrom_19 : decode cX0_copyFrom 19 = .ok (.invokevirtual 72, 3) := by decide +kernel
theorem dX0_copyFrom_22 : decode cX0_copyFrom 22 = .ok (.aload_n 0, 1) := by decide +kernel
theorem dX0_copyFrom_23 : decode cX0_copyFrom 23 = .ok (.getfield 27, 3) := by decide +kernel
theorem dX0_copyFrom_26 : decode cX0_copyFrom 26 = .ok (.aload_n 1, 1) := by decide +kernel
theorem dX0_copyFrom_27 : decode cX0_copyFrom 27 = .ok (.getfield 27, 3) := by decide +kernel
theorem dX0_copyFrom_30 : decode cX0_copyFrom 30 = .ok (.invokevirtual 72, 3) := by decide +kernel
theorem dX0_copyFrom_33 : decode cX0_copyFrom 33 = .ok (.aload_n 1, 1) := by decide +kernel
theorem dX0_copyFrom_34 : decode cX0_copyFrom 34 = .ok (.getfield 30, 3) := by decide +kernel
theorem dX0_copyFrom_37 : decode cX0_copyFrom 37 = .ok (.iconst 0, 1) := by decide +kernel
theorem dX0_copyFrom_38 : decode cX0_copyFrom 38 = .ok (.aload_n 0, 1) := by decide +kernel
theorem dX0_copyFrom_39 : decode cX0_copyFrom 39 = .ok (.getfield 30, 3) := by decide +kernel
theorem dX0_copyFrom_42 : decode cX0_copyFrom 42 = .ok (.iconst 0, 1) := by decide +kernel
theorem dX0_copyFrom_43 : decode cX0_copyFrom 43 = .ok (.aload_n 1, 1) := by decide +kernel
theorem dX0_copyFrom_44 : decode cX0_copyFrom 44 = .ok (.getfield 30, 3) := by decide +kernel
theorem dX0_copyFrom_47 : decode cX0_copyFrom 47 = .ok (.arraylength, 1) := by decide +kernel
theorem dX0_copyFrom_48 : decode cX0_copyFrom 48 = .ok (.aload_n 0, 1) := by decide +kernel
theorem dX0_copyFrom_49 : decode cX0_copyFrom 49 = .ok (.getfield 30, 3) := by decide +kernel
theorem dX0_copyFrom_52 : decode cX0_copyFrom 52 = .ok (.arraylength, 1) := by decide +kernel
theorem dX0_copyFrom_53 : decode cX0_copyFrom 53 = .ok (.invokestatic 75, 3) := by decide +kernel
theorem dX0_copyFrom_56 : decode cX0_copyFrom 56 = .ok (.invokestatic 81, 3) := by decide +kernel
theorem dX0_copyFrom_59 : decode cX0_copyFrom 59 = .ok (.aload_n 0, 1) := by decide +kernel
theorem dX0_copyFrom_60 : decode cX0_copyFrom 60 = .ok (.aload_n 1, 1) := by decide +kernel
theorem dX0_copyFrom_61 : decode cX0_copyFrom 61 = .ok (.getfield 49, 3) := by decide +kernel
theorem dX0_copyFrom_64 : decode cX0_copyFrom 64 = .ok (.putfield 49, 3) := by decide +kernel
theorem dX0_copyFrom_67 : decode cX0_copyFrom 67 = .ok (.aload_n 0, 1) := by decide +kernel
theorem dX0_copyFrom_68 : decode cX0_copyFrom 68 = .ok (.aload_n 1, 1) := by decide +kernel
theorem dX0_copyFrom_69 : decode cX0_copyFrom 69 = .ok (.getfield 53, 3) := by decide +kernel
theorem dX0_copyFrom_72 : decode cX0_copyFrom 72 = .ok (.putfield 53, 3) := by decide +kernel
theorem dX0_copyFrom_75 : decode cX0_copyFrom 75 = .ok (.aload_n 0, 1) := by decide +kernel
theorem dX0_copyFrom_76 : decode cX0_copyFrom 76 = .ok (.aload_n 1, 1) := by decide +kernel
theorem dX0_copyFrom_77 : decode cX0_copyFrom 77 = .ok (.getfield 56, 3) := by decide +kernel
theorem dX0_copyFrom_80 : decode cX0_copyFrom 80 = .ok (.putfield 56, 3) := by decide +kernel
theorem dX0_copyFrom_83 : decode cX0_copyFrom 83 = .ok (.aload_n 0, 1) := by decide +kernel
theorem dX0_copyFrom_84 : decode cX0_copyFrom 84 = .ok (.aload_n 1, 1) := by decide +kernel
theorem dX0_copyFrom_85 : decode cX0_copyFrom 85 = .ok (.getfield 59, 3) := by decide +kernel
theorem dX0_copyFrom_88 : decode cX0_copyFrom 88 = .ok (.putfield 59, 3) := by decide +kernel
theorem dX0_copyFrom_91 : decode cX0_copyFrom 91 = .ok (.aload_n 0, 1) := by decide +kernel
theorem dX0_copyFrom_92 : decode cX0_copyFrom 92 = .ok (.aload_n 1, 1) := by decide +kernel
theorem dX0_copyFrom_93 : decode cX0_copyFrom 93 = .ok (.getfield 62, 3) := by decide +kernel
theorem dX0_copyFrom_96 : decode cX0_copyFrom 96 = .ok (.putfield 62, 3) := by decide +kernel
theorem dX0_copyFrom_99 : decode cX0_copyFrom 99 = .ok (.aload_n 0, 1) := by decide +kernel
theorem dX0_copyFrom_100 : decode cX0_copyFrom 100 = .ok (.aload_n 1, 1) := by decide +kernel
theorem dX0_copyFrom_101 : decode cX0_copyFrom 101 = .ok (.getfield 65, 3) := by decide +kernel
theorem dX0_copyFrom_104 : decode cX0_copyFrom 104 = .ok (.putfield 65, 3) := by decide +kernel
theorem dX0_copyFrom_107 : decode cX0_copyFrom 107 = .ok (.return_, 1) := by decide +kernel
theorem dX0_numberOfBoard_0 : decode cX0_numberOfBoard 0 = .ok (.iload_n 1, 1) := by decide +kernel
theorem dX0_numberOfBoard_1 : decode cX0_numberOfBoard 1 = .ok (.tableswitch 127 0 10 #[59, 67, 72, 80, 85, 90, 95, 100, 105, 110, 119], 59) := by decide +kernel
theorem dX0_numberOfBoard_60 : decode cX0_numberOfBoard 60 = .ok (.aload_n 0, 1) := by decide +kernel
theorem dX0_numberOfBoard_61 : decode cX0_numberOfBoard 61 = .ok (.getfield 23, 3) := by decide +kernel
theorem dX0_numberOfBoard_64 : decode cX0_numberOfBoard 64 = .ok (.invokevirtual 87, 3) := by decide +kernel
theorem dX0_numberOfBoard_67 : decode cX0_numberOfBoard 67 = .ok (.ireturn, 1) := by decide +kernel
theorem dX0_numberOfBoard_68 : decode cX0_numberOfBoard 68 = .ok (.aload_n 0, 1) := by decide +kernel
theorem dX0_numberOfBoard_69 : decode cX0_numberOfBoard 69 = .ok (.invokevirtual 91, 3) := by decide +kernel
theorem dX0_numberOfBoard_72 : decode cX0_numberOfBoard 72 = .ok (.ireturn, 1) := by decide +kernel
theorem dX0_numberOfBoard_73 : decode cX0_numberOfBoard 73 = .ok (.aload_n 0, 1) := by decide +kernel
theorem dX0_numberOfBoard_74 : decode cX0_numberOfBoard 74 = .ok (.getfield 27, 3) := by decide +kernel
theorem dX0_numberOfBoard_77 : decode cX0_numberOfBoard 77 = .ok (.invokevirtual 87, 3) := by decide +kernel
theorem dX0_numberOfBoard_80 : decode cX0_numberOfBoard 80 = .ok (.ireturn, 1) := by decide +kernel
theorem dX0_numberOfBoard_81 : decode cX0_numberOfBoard 81 = .ok (.aload_n 0, 1) := by decide +kernel
theorem dX0_numberOfBoard_82 : decode cX0_numberOfBoard 82 = .ok (.getfield 49, 3) := by decide +kernel
theorem dX0_numberOfBoard_85 : decode cX0_numberOfBoard 85 = .ok (.ireturn, 1) := by decide +kernel
theorem dX0_numberOfBoard_86 : decode cX0_numberOfBoard 86 = .ok (.aload_n 0, 1) := by decide +kernel
theorem dX0_numberOfBoard_87 : decode cX0_numberOfBoard 87 = .ok (.getfield 53, 3) := by decide +kernel
theorem dX0_numberOfBoard_90 : decode cX0_numberOfBoard 90 = .ok (.ireturn, 1) := by decide +kernel
theorem dX0_numberOfBoard_91 : decode cX0_numberOfBoard 91 = .ok (.aload_n 0, 1) := by decide +kernel
theorem dX0_numberOfBoard_92 : decode cX0_numberOfBoard 92 = .ok (.getfield 56, 3) := by decide +kernel
theorem dX0_numberOfBoard_95 : decode cX0_numberOfBoard 95 = .ok (.ireturn, 1) := by decide +kernel
theorem dX0_numberOfBoard_96 : decode cX0_numberOfBoard 96 = .ok (.aload_n 0, 1) := by decide +kernel
theorem dX0_numberOfBoard_97 : decode cX0_numberOfBoard 97 = .ok (.getfield 59, 3) := by decide +kernel
theorem dX0_numberOfBoard_100 : decode cX0_numberOfBoard 100 = .ok (.ireturn, 1) := by decide +kernel
theorem dX0_numberOfBoard_101 : decode cX0_numberOfBoard 101 = .ok (.aload_n 0, 1) := by decide +kernel
theorem dX0_numberOfBoard_102 : decode cX0_numberOfBoard 102 = .ok (.invokevirtual 94, 3) := by decide +kernel
theorem dX0_numberOfBoard_105 : decode cX0_numberOfBoard 105 = .ok (.ireturn, 1) := by decide +kernel
theorem dX0_numberOfBoard_106 : decode cX0_numberOfBoard 106 = .ok (.aload_n 0, 1) := by decide +kernel
theorem dX0_numberOfBoard_107 : decode cX0_numberOfBoard 107 = .ok (.invokevirtual 97, 3) := by decide +kernel
theorem dX0_numberOfBoard_110 : decode cX0_numberOfBoard 110 = .ok (.ireturn, 1) := by decide +kernel
theorem dX0_numberOfBoard_111 : decode cX0_numberOfBoard 111 = .ok (.aload_n 0, 1) := by decide +kernel
theorem dX0_numberOfBoard_112 : decode cX0_numberOfBoard 112 = .ok (.iconst (-1), 1) := by decide +kernel
theorem dX0_numberOfBoard_113 : decode cX0_numberOfBoard 113 = .ok (.invokevirtual 100, 3) := by decide +kernel
theorem dX0_numberOfBoard_116 : decode cX0_numberOfBoard 116 = .ok (.invokestatic 104, 3) := by decide +kernel
theorem dX0_numberOfBoard_119 : decode cX0_numberOfBoard 119 = .ok (.ireturn, 1) := by decide +kernel
theorem dX0_numberOfBoard_120 : decode cX0_numberOfBoard 120 = .ok (.aload_n 0, 1) := by decide +kernel
theorem dX0_numberOfBoard_121 : decode cX0_numberOfBoard 121 = .ok (.getfield 12, 3) := by decide +kernel
theorem dX0_numberOfBoard_124 : decode cX0_numberOfBoard 124 = .ok (.invokevirtual 109, 3) := by decide +kernel
theorem dX0_numberOfBoard_127 : decode cX0_numberOfBoard 127 = .ok (.ireturn, 1) := by decide +kernel
theorem dX0_numberOfBoard_128 : decode cX0_numberOfBoard 128 = .ok (.iconst (-1), 1) := by decide +kernel
theorem dX0_numberOfBoard_129 : decode cX0_numberOfBoard 129 = .ok (.ireturn, 1) := by decide +kernel
theorem dX0_numberOfDog_0 : decode cX0_numberOfDog 0 = .ok (.iload_n 2, 1) := by decide +kernel
theorem dX0_numberOfDog_1 : decode cX0_numberOfDog 1 = .ok (.tableswitch 170 0 10 #[59, 69, 79, 89, 99, 109, 119, 128, 137, 148, 159], 59) := by decide +kernel
theorem dX0_numberOfDog_60 : decode cX0_numberOfDog 60 = .ok (.aload_n 0, 1) := by decide +kernel
theorem dX0_numberOfDog_61 : decode cX0_numberOfDog 61 = .ok (.getfield 23, 3) := by decide +kernel
theorem dX0_numberOfDog_64 : decode cX0_numberOfDog 64 = .ok (.iload_n 1, 1) := by decide +kernel
theorem dX0_numberOfDog_65 : decode cX0_numberOfDog 65 = .ok (.iconst 0, 1) := by decide +kernel
theorem dX0_numberOfDog_66 : decode cX0_numberOfDog 66 = .ok (.invokevirtual 112, 3) := by decide +kernel
theorem dX0_numberOfDog_69 : decode cX0_numberOfDog 69 = .ok (.ireturn, 1) := by decide +kernel
theorem dX0_numberOfDog_70 : decode cX0_numberOfDog 70 = .ok (.aload_n 0, 1) := by decide +kernel
theorem dX0_numberOfDog_71 : decode cX0_numberOfDog 71 = .ok (.getfield 23, 3) := by decide +kernel
theorem dX0_numberOfDog_74 : decode cX0_numberOfDog 74 = .ok (.iload_n 1, 1) := by decide +kernel
theorem dX0_numberOfDog_75 : decode cX0_numberOfDog 75 = .ok (.iconst 1, 1) := by decide +kernel
theorem dX0_numberOfDog_76 : decode cX0_numberOfDog 76 = .ok (.invokevirtual 112, 3) := by decide +kernel
theorem dX0_numberOfDog_79 : decode cX0_numberOfDog 79 = .ok (.ireturn, 1) := by decide +kernel
theorem dX0_numberOfDog_80 : decode cX0_numberOfDog 80 = .ok (.aload_n 0, 1) := by decide +kernel
theorem dX0_numberOfDog_81 : decode cX0_numberOfDog 81 = .ok (.getfield 23, 3) := by decide +kernel
theorem dX0_numberOfDog_84 : decode cX0_numberOfDog 84 = .ok (.iload_n 1, 1) := by decide +kernel
theorem dX0_numberOfDog_85 : decode cX0_numberOfDog 85 = .ok (.iconst 2, 1) := by decide +kernel
theorem dX0_numberOfDog_86 : decode cX0_numberOfDog 86 = .ok (.invokevirtual 112, 3) := by decide +kernel
theorem dX0_numberOfDog_89 : decode cX0_numberOfDog 89 = .ok (.ireturn, 1) := by decide +kernel
theorem dX0_numberOfDog_90 : decode cX0_numberOfDog 90 = .ok (.aload_n 0, 1) := by decide +kernel
theorem dX0_numberOfDog_91 : decode cX0_numberOfDog 91 = .ok (.getfield 23, 3) := by decide +kernel
theorem dX0_numberOfDog_94 : decode cX0_numberOfDog 94 = .ok (.iload_n 1, 1) := by decide +kernel
theorem dX0_numberOfDog_95 : decode cX0_numberOfDog 95 = .ok (.iconst 3, 1) := by decide +kernel
theorem dX0_numberOfDog_96 : decode cX0_numberOfDog 96 = .ok (.invokevirtual 112, 3) := by decide +kernel
theorem dX0_numberOfDog_99 : decode cX0_numberOfDog 99 = .ok (.ireturn, 1) := by decide +kernel
theorem dX0_numberOfDog_100 : decode cX0_numberOfDog 100 = .ok (.aload_n 0, 1) := by decide +kernel
theorem dX0_numberOfDog_101 : decode cX0_numberOfDog 101 = .ok (.getfield 23, 3) := by decide +kernel
theorem dX0_numberOfDog_104 : decode cX0_numberOfDog 104 = .ok (.iload_n 1, 1) := by decide +kernel
theorem dX0_numberOfDog_105 : decode cX0_numberOfDog 105 = .ok (.iconst 4, 1) := by decide +kernel
theorem dX0_numberOfDog_106 : decode cX0_numberOfDog 106 = .ok (.invokevirtual 112, 3) := by decide +kernel
theorem dX0_numberOfDog_109 : decode cX0_numberOfDog 109 = .ok (.ireturn, 1) := by decide +kernel
theorem dX0_numberOfDog_110 : decode cX0_numberOfDog 110 = .ok (.aload_n 0, 1) := by decide +kernel
theorem dX0_numberOfDog_111 : decode cX0_numberOfDog 111 = .ok (.getfield 23, 3) := by decide +kernel
theorem dX0_numberOfDog_114 : decode cX0_numberOfDog 114 = .ok (.iload_n 1, 1) := by decide +kernel
theorem dX0_numberOfDog_115 : decode cX0_numberOfDog 115 = .ok (.iconst 5, 1) := by decide +kernel
theorem dX0_numberOfDog_116 : decode cX0_numberOfDog 116 = .ok (.invokevirtual 112, 3) := by decide +kernel
theorem dX0_numberOfDog_119 : decode cX0_numberOfDog 119 = .ok (.ireturn, 1) := by decide +kernel
theorem dX0_numberOfDog_120 : decode cX0_numberOfDog 120 = .ok (.aload_n 0, 1) := by decide +kernel
theorem dX0_numberOfDog_121 : decode cX0_numberOfDog 121 = .ok (.iload_n 1, 1) := by decide +kernel
theorem dX0_numberOfDog_122 : decode cX0_numberOfDog 122 = .ok (.invokevirtual 100, 3) := by decide +kernel
theorem dX0_numberOfDog_125 : decode cX0_numberOfDog 125 = .ok (.invokestatic 104, 3) := by decide +kernel
theorem dX0_numberOfDog_128 : decode cX0_numberOfDog 128 = .ok (.ireturn, 1) := by decide +kernel
theorem dX0_numberOfDog_129 : decode cX0_numberOfDog 129 = .ok (.aload_n 0, 1) := by decide +kernel
theorem dX0_numberOfDog_130 : decode cX0_numberOfDog 130 = .ok (.iload_n 1, 1) := by decide +kernel
theorem dX0_numberOfDog_131 : decode cX0_numberOfDog 131 = .ok (.invokevirtual 115, 3) := by decide +kernel
theorem dX0_numberOfDog_134 : decode cX0_numberOfDog 134 = .ok (.invokestatic 104, 3) := by decide +kernel
theorem dX0_numberOfDog_137 : decode cX0_numberOfDog 137 = .ok (.ireturn, 1) := by decide +kernel
theorem dX0_numberOfDog_138 : decode cX0_numberOfDog 138 = .ok (.aload_n 0, 1) := by decide +kernel
theorem dX0_numberOfDog_139 : decode cX0_numberOfDog 139 = .ok (.getfield 23, 3) := by decide +kernel
theorem dX0_numberOfDog_142 : decode cX0_numberOfDog 142 = .ok (.iload_n 1, 1) := by decide +kernel
theorem dX0_numberOfDog_143 : decode cX0_numberOfDog 143 = .ok (.bipush 6, 2) := by decide +kernel
theorem dX0_numberOfDog_145 : decode cX0_numberOfDog 145 = .ok (.invokevirtual 112, 3) := by decide +kernel
theorem dX0_numberOfDog_148 : decode cX0_numberOfDog 148 = .ok (.ireturn, 1) := by decide +kernel
theorem dX0_numberOfDog_149 : decode cX0_numberOfDog 149 = .ok (.aload_n 0, 1) := by decide +kernel
theorem dX0_numberOfDog_150 : decode cX0_numberOfDog 150 = .ok (.getfield 23, 3) := by decide +kernel
theorem dX0_numberOfDog_153 : decode cX0_numberOfDog 153 = .ok (.iload_n 1, 1) := by decide +kernel
theorem dX0_numberOfDog_154 : decode cX0_numberOfDog 154 = .ok (.bipush 7, 2) := by decide +kernel
theorem dX0_numberOfDog_156 : decode cX0_numberOfDog 156 = .ok (.invokevirtual 112, 3) := by decide +kernel
theorem dX0_numberOfDog_159 : decode cX0_numberOfDog 159 = .ok (.ireturn, 1) := by decide +kernel
theorem dX0_numberOfDog_160 : decode cX0_numberOfDog 160 = .ok (.aload_n 0, 1) := by decide +kernel
theorem dX0_numberOfDog_161 : decode cX0_numberOfDog 161 = .ok (.getfield 23, 3) := by decide +kernel
theorem dX0_numberOfDog_164 : decode cX0_numberOfDog 164 = .ok (.iload_n 1, 1) := by decide +kernel
theorem dX0_numberOfDog_165 : decode cX0_numberOfDog 165 = .ok (.bipush 8, 2) := by decide +kernel
theorem dX0_numberOfDog_167 : decode cX0_numberOfDog 167 = .ok (.invokevirtual 112, 3) := by decide +kernel
theorem dX0_numberOfDog_170 : decode cX0_numberOfDog 170 = .ok (.ireturn, 1) := by decide +kernel
theorem dX0_numberOfDog_171 : decode cX0_numberOfDog 171 = .ok (.iconst (-1), 1) := by decide +kernel
theorem dX0_numberOfDog_172 : decode cX0_numberOfDog 172 = .ok (.ireturn, 1) := by decide +kernel
theorem dX0_numberOfSighting_0 : decode cX0_numberOfSighting 0 = .ok (.aload_n 0, 1) := by decide +kernel
theorem dX0_numberOfSighting_1 : decode cX0_numberOfSighting 1 = .ok (.getfield 27, 3) := by decide +kernel
theorem dX0_numberOfSighting_4 : decode cX0_numberOfSighting 4 = .ok (.iload_n 1, 1) := by decide +kernel
theorem dX0_numberOfSighting_5 : decode cX0_numberOfSighting 5 = .ok (.iconst 5, 1) := by decide +kernel
theorem dX0_numberOfSighting_6 : decode cX0_numberOfSighting 6 = .ok (.invokevirtual 112, 3) := by decide +kernel
theorem dX0_numberOfSighting_9 : decode cX0_numberOfSighting 9 = .ok (.istore_n 3, 1) := by decide +kernel
theorem dX0_numberOfSighting_10 : decode cX0_numberOfSighting 10 = .ok (.iload_n 2, 1) := by decide +kernel
theorem dX0_numberOfSighting_11 : decode cX0_numberOfSighting 11 = .ok (.tableswitch 163 0 8 #[49, 59, 69, 79, 89, 99, 101, 125, 144], 49) := by decide +kernel
theorem dX0_numberOfSighting_60 : decode cX0_numberOfSighting 60 = .ok (.aload_n 0, 1) := by decide +kernel
theorem dX0_numberOfSighting_61 : decode cX0_numberOfSighting 61 = .ok (.getfield 27, 3) := by decide +kernel
theorem dX0_numberOfSighting_64 : decode cX0_numberOfSighting 64 = .ok (.iload_n 1, 1) := by decide +kernel
theorem dX0_numberOfSighting_65 : decode cX0_numberOfSighting 65 = .ok (.iconst 0, 1) := by decide +kernel
theorem dX0_numberOfSighting_66 : decode cX0_numberOfSighting 66 = .ok (.invokevirtual 112, 3) := by decide +kernel
theorem dX0_numberOfSighting_69 : decode cX0_numberOfSighting 69 = .ok (.ireturn, 1) := by decide +kernel
theorem dX0_numberOfSighting_70 : decode cX0_numberOfSighting 70 = .ok (.aload_n 0, 1) := by decide +kernel
theorem dX0_numberOfSighting_71 : decode cX0_numberOfSighting 71 = .ok (.getfield 27, 3) := by decide +kernel
theorem dX0_numberOfSighting_74 : decode cX0_numberOfSighting 74 = .ok (.iload_n 1, 1) := by decide +kernel
theorem dX0_numberOfSighting_75 : decode cX0_numberOfSighting 75 = .ok (.iconst 1, 1) := by decide +kernel
theorem dX0_numberOfSighting_76 : decode cX0_numberOfSighting 76 = .ok (.invokevirtual 112, 3) := by decide +kernel
theorem dX0_numberOfSighting_79 : decode cX0_numberOfSighting 79 = .ok (.ireturn, 1) := by decide +kernel
theorem dX0_numberOfSighting_80 : decode cX0_numberOfSighting 80 = .ok (.aload_n 0, 1) := by decide +kernel
theorem dX0_numberOfSighting_81 : decode cX0_numberOfSighting 81 = .ok (.getfield 27, 3) := by decide +kernel
theorem dX0_numberOfSighting_84 : decode cX0_numberOfSighting 84 = .ok (.iload_n 1, 1) := by decide +kernel
theorem dX0_numberOfSighting_85 : decode cX0_numberOfSighting 85 = .ok (.iconst 2, 1) := by decide +kernel
theorem dX0_numberOfSighting_86 : decode cX0_numberOfSighting 86 = .ok (.invokevirtual 112, 3) := by decide +kernel
theorem dX0_numberOfSighting_89 : decode cX0_numberOfSighting 89 = .ok (.ireturn, 1) := by decide +kernel
theorem dX0_numberOfSighting_90 : decode cX0_numberOfSighting 90 = .ok (.aload_n 0, 1) := by decide +kernel
theorem dX0_numberOfSighting_91 : decode cX0_numberOfSighting 91 = .ok (.getfield 27, 3) := by decide +kernel
theorem dX0_numberOfSighting_94 : decode cX0_numberOfSighting 94 = .ok (.iload_n 1, 1) := by decide +kernel
theorem dX0_numberOfSighting_95 : decode cX0_numberOfSighting 95 = .ok (.iconst 3, 1) := by decide +kernel
theorem dX0_numberOfSighting_96 : decode cX0_numberOfSighting 96 = .ok (.invokevirtual 112, 3) := by decide +kernel
theorem dX0_numberOfSighting_99 : decode cX0_numberOfSighting 99 = .ok (.ireturn, 1) := by decide +kernel
theorem dX0_numberOfSighting_100 : decode cX0_numberOfSighting 100 = .ok (.aload_n 0, 1) := by decide +kernel
theorem dX0_numberOfSighting_101 : decode cX0_numberOfSighting 101 = .ok (.getfield 27, 3) := by decide +kernel
theorem dX0_numberOfSighting_104 : decode cX0_numberOfSighting 104 = .ok (.iload_n 1, 1) := by decide +kernel
theorem dX0_numberOfSighting_105 : decode cX0_numberOfSighting 105 = .ok (.iconst 4, 1) := by decide +kernel
theorem dX0_numberOfSighting_106 : decode cX0_numberOfSighting 106 = .ok (.invokevirtual 112, 3) := by decide +kernel
theorem dX0_numberOfSighting_109 : decode cX0_numberOfSighting 109 = .ok (.ireturn, 1) := by decide +kernel
theorem dX0_numberOfSighting_110 : decode cX0_numberOfSighting 110 = .ok (.iload_n 3, 1) := by decide +kernel
theorem dX0_numberOfSighting_111 : decode cX0_numberOfSighting 111 = .ok (.ireturn, 1) := by decide +kernel
theorem dX0_numberOfSighting_112 : decode cX0_numberOfSighting 112 = .ok (.iload_n 3, 1) := by decide +kernel
theorem dX0_numberOfSighting_113 : decode cX0_numberOfSighting 113 = .ok (.iconst (-1), 1) := by decide +kernel
theorem dX0_numberOfSighting_114 : decode cX0_numberOfSighting 114 = .ok (.if_icmp .ne 7, 3) := by decide +kernel
theorem dX0_numberOfSighting_117 : decode cX0_numberOfSighting 117 = .ok (.iconst (-1), 1) := by decide +kernel
theorem dX0_numberOfSighting_118 : decode cX0_numberOfSighting 118 = .ok (.goto 17, 3) := by decide +kernel
theorem dX0_numberOfSighting_121 : decode cX0_numberOfSighting 121 = .ok (.aload_n 0, 1) := by decide +kernel
theorem dX0_numberOfSighting_122 : decode cX0_numberOfSighting 122 = .ok (.iload_n 3, 1) := by decide +kernel
theorem dX0_numberOfSighting_123 : decode cX0_numberOfSighting 123 = .ok (.aload_n 0, 1) := by decide +kernel
theorem dX0_numberOfSighting_124 : decode cX0_numberOfSighting 124 = .ok (.getfield 27, 3) := by decide +kernel
theorem dX0_numberOfSighting_127 : decode cX0_numberOfSighting 127 = .ok (.iload_n 1, 1) := by decide +kernel
theorem dX0_numberOfSighting_128 : decode cX0_numberOfSighting 128 = .ok (.iconst 3, 1) := by decide +kernel
theorem dX0_numberOfSighting_129 : decode cX0_numberOfSighting 129 = .ok (.invokevirtual 112, 3) := by decide +kernel
theorem dX0_numberOfSighting_132 : decode cX0_numberOfSighting 132 = .ok (.invokevirtual 118, 3) := by decide +kernel
theorem dX0_numberOfSighting_135 : decode cX0_numberOfSighting 135 = .ok (.ireturn, 1) := by decide +kernel
theorem dX0_numberOfSighting_136 : decode cX0_numberOfSighting 136 = .ok (.iload_n 3, 1) := by decide +kernel
theorem dX0_numberOfSighting_137 : decode cX0_numberOfSighting 137 = .ok (.iconst (-1), 1) := by decide +kernel
theorem dX0_numberOfSighting_138 : decode cX0_numberOfSighting 138 = .ok (.if_icmp .ne 7, 3) := by decide +kernel
theorem dX0_numberOfSighting_141 : decode cX0_numberOfSighting 141 = .ok (.iconst (-1), 1) := by decide +kernel
theorem dX0_numberOfSighting_142 : decode cX0_numberOfSighting 142 = .ok (.goto 12, 3) := by decide +kernel
theorem dX0_numberOfSighting_145 : decode cX0_numberOfSighting 145 = .ok (.aload_n 0, 1) := by decide +kernel
theorem dX0_numberOfSighting_146 : decode cX0_numberOfSighting 146 = .ok (.iload_n 3, 1) := by decide +kernel
theorem dX0_numberOfSighting_147 : decode cX0_numberOfSighting 147 = .ok (.invokevirtual 121, 3) := by decide +kernel
theorem dX0_numberOfSighting_150 : decode cX0_numberOfSighting 150 = .ok (.iload_n 1, 1) := by decide +kernel
theorem dX0_numberOfSighting_151 : decode cX0_numberOfSighting 151 = .ok (.ishr, 1) := by decide +kernel
theorem dX0_numberOfSighting_152 : decode cX0_numberOfSighting 152 = .ok (.iconst 1, 1) := by decide +kernel
theorem dX0_numberOfSighting_153 : decode cX0_numberOfSighting 153 = .ok (.iand, 1) := by decide +kernel
theorem dX0_numberOfSighting_154 : decode cX0_numberOfSighting 154 = .ok (.ireturn, 1) := by decide +kernel
theorem dX0_numberOfSighting_155 : decode cX0_numberOfSighting 155 = .ok (.iload_n 3, 1) := by decide +kernel
theorem dX0_numberOfSighting_156 : decode cX0_numberOfSighting 156 = .ok (.iconst (-1), 1) := by decide +kernel
theorem dX0_numberOfSighting_157 : decode cX0_numberOfSighting 157 = .ok (.if_icmp .ne 7, 3) := by decide +kernel
theorem dX0_numberOfSighting_160 : decode cX0_numberOfSighting 160 = .ok (.iconst 0, 1) := by decide +kernel
theorem dX0_numberOfSighting_161 : decode cX0_numberOfSighting 161 = .ok (.goto 12, 3) := by decide +kernel
theorem dX0_numberOfSighting_164 : decode cX0_numberOfSighting 164 = .ok (.aload_n 0, 1) := by decide +kernel
theorem dX0_numberOfSighting_165 : decode cX0_numberOfSighting 165 = .ok (.iload_n 3, 1) := by decide +kernel
theorem dX0_numberOfSighting_166 : decode cX0_numberOfSighting 166 = .ok (.invokevirtual 124, 3) := by decide +kernel
theorem dX0_numberOfSighting_169 : decode cX0_numberOfSighting 169 = .ok (.iload_n 1, 1) := by decide +kernel
theorem dX0_numberOfSighting_170 : decode cX0_numberOfSighting 170 = .ok (.ishr, 1) := by decide +kernel
theorem dX0_numberOfSighting_171 : decode cX0_numberOfSighting 171 = .ok (.iconst 1, 1) := by decide +kernel
theorem dX0_numberOfSighting_172 : decode cX0_numberOfSighting 172 = .ok (.iand, 1) := by decide +kernel
theorem dX0_numberOfSighting_173 : decode cX0_numberOfSighting 173 = .ok (.ireturn, 1) := by decide +kernel
theorem dX0_numberOfSighting_174 : decode cX0_numberOfSighting 174 = .ok (.iconst (-1), 1) := by decide +kernel
theorem dX0_numberOfSighting_175 : decode cX0_numberOfSighting 175 = .ok (.ireturn, 1) := by decide +kernel
theorem dX0_coinsOf_0 : decode cX0_coinsOf 0 = .ok (.iload_n 1, 1) := by decide +kernel
theorem dX0_coinsOf_1 : decode cX0_coinsOf 1 = .ok (.ifCond .lt 21, 3) := by decide +kernel
theorem dX0_coinsOf_4 : decode cX0_coinsOf 4 = .ok (.iload_n 1, 1) := by decide +kernel
theorem dX0_coinsOf_5 : decode cX0_coinsOf 5 = .ok (.aload_n 0, 1) := by decide +kernel
theorem dX0_coinsOf_6 : decode cX0_coinsOf 6 = .ok (.getfield 30, 3) := by decide +kernel
theorem dX0_coinsOf_9 : decode cX0_coinsOf 9 = .ok (.arraylength, 1) := by decide +kernel
theorem dX0_coinsOf_10 : decode cX0_coinsOf 10 = .ok (.if_icmp .ge 12, 3) := by decide +kernel
theorem dX0_coinsOf_13 : decode cX0_coinsOf 13 = .ok (.aload_n 0, 1) := by decide +kernel
theorem dX0_coinsOf_14 : decode cX0_coinsOf 14 = .ok (.getfield 30, 3) := by decide +kernel
theorem dX0_coinsOf_17 : decode cX0_coinsOf 17 = .ok (.iload_n 1, 1) := by decide +kernel
theorem dX0_coinsOf_18 : decode cX0_coinsOf 18 = .ok (.iaload, 1) := by decide +kernel
theorem dX0_coinsOf_19 : decode cX0_coinsOf 19 = .ok (.goto 4, 3) := by decide +kernel
theorem dX0_coinsOf_22 : decode cX0_coinsOf 22 = .ok (.iconst 0, 1) := by decide +kernel
theorem dX0_coinsOf_23 : decode cX0_coinsOf 23 = .ok (.ireturn, 1) := by decide +kernel
theorem dX0_isMissing_0 : decode cX0_isMissing 0 = .ok (.aload_n 0, 1) := by decide +kernel
theorem dX0_isMissing_1 : decode cX0_isMissing 1 = .ok (.getfield 23, 3) := by decide +kernel
theorem dX0_isMissing_4 : decode cX0_isMissing 4 = .ok (.iload_n 1, 1) := by decide +kernel
theorem dX0_isMissing_5 : decode cX0_isMissing 5 = .ok (.iconst 5, 1) := by decide +kernel
theorem dX0_isMissing_6 : decode cX0_isMissing 6 = .ok (.invokevirtual 112, 3) := by decide +kernel
theorem dX0_isMissing_9 : decode cX0_isMissing 9 = .ok (.iconst 1, 1) := by decide +kernel
theorem dX0_isMissing_10 : decode cX0_isMissing 10 = .ok (.if_icmp .ne 7, 3) := by decide +kernel
theorem dX0_isMissing_13 : decode cX0_isMissing 13 = .ok (.iconst 1, 1) := by decide +kernel
theorem dX0_isMissing_14 : decode cX0_isMissing 14 = .ok (.goto 4, 3) := by decide +kernel
theorem dX0_isMissing_17 : decode cX0_isMissing 17 = .ok (.iconst 0, 1) := by decide +kernel
theorem dX0_isMissing_18 : decode cX0_isMissing 18 = .ok (.ireturn, 1) := by decide +kernel
theorem dX0_missingDogs_0 : decode cX0_missingDogs 0 = .ok (.iconst 0, 1) := by decide +kernel
theorem dX0_missingDogs_1 : decode cX0_missingDogs 1 = .ok (.istore_n 1, 1) := by decide +kernel
theorem dX0_missingDogs_2 : decode cX0_missingDogs 2 = .ok (.iconst 0, 1) := by decide +kernel
theorem dX0_missingDogs_3 : decode cX0_missingDogs 3 = .ok (.istore_n 2, 1) := by decide +kernel
theorem dX0_missingDogs_4 : decode cX0_missingDogs 4 = .ok (.iload_n 2, 1) := by decide +kernel
theorem dX0_missingDogs_5 : decode cX0_missingDogs 5 = .ok (.aload_n 0, 1) := by decide +kernel
theorem dX0_missingDogs_6 : decode cX0_missingDogs 6 = .ok (.getfield 23, 3) := by decide +kernel
theorem dX0_missingDogs_9 : decode cX0_missingDogs 9 = .ok (.invokevirtual 87, 3) := by decide +kernel
theorem dX0_missingDogs_12 : decode cX0_missingDogs 12 = .ok (.if_icmp .ge 21, 3) := by decide +kernel
theorem dX0_missingDogs_15 : decode cX0_missingDogs 15 = .ok (.iload_n 1, 1) := by decide +kernel
theorem dX0_missingDogs_16 : decode cX0_missingDogs 16 = .ok (.aload_n 0, 1) := by decide +kernel
theorem dX0_missingDogs_17 : decode cX0_missingDogs 17 = .ok (.getfield 23, 3) := by decide +kernel
theorem dX0_missingDogs_20 : decode cX0_missingDogs 20 = .ok (.iload_n 2, 1) := by decide +kernel
theorem dX0_missingDogs_21 : decode cX0_missingDogs 21 = .ok (.iconst 5, 1) := by decide +kernel
theorem dX0_missingDogs_22 : decode cX0_missingDogs 22 = .ok (.invokevirtual 112, 3) := by decide +kernel
theorem dX0_missingDogs_25 : decode cX0_missingDogs 25 = .ok (.iadd, 1) := by decide +kernel
theorem dX0_missingDogs_26 : decode cX0_missingDogs 26 = .ok (.istore_n 1, 1) := by decide +kernel
theorem dX0_missingDogs_27 : decode cX0_missingDogs 27 = .ok (.iinc 2 1, 3) := by decide +kernel
theorem dX0_missingDogs_30 : decode cX0_missingDogs 30 = .ok (.goto (-26), 3) := by decide +kernel
theorem dX0_missingDogs_33 : decode cX0_missingDogs 33 = .ok (.iload_n 1, 1) := by decide +kernel
theorem dX0_missingDogs_34 : decode cX0_missingDogs 34 = .ok (.ireturn, 1) := by decide +kernel
theorem dX0_missingRewards_0 : decode cX0_missingRewards 0 = .ok (.iconst 0, 1) := by decide +kernel
theorem dX0_missingRewards_1 : decode cX0_missingRewards 1 = .ok (.istore_n 1, 1) := by decide +kernel
theorem dX0_missingRewards_2 : decode cX0_missingRewards 2 = .ok (.iconst 0, 1) := by decide +kernel
theorem dX0_missingRewards_3 : decode cX0_missingRewards 3 = .ok (.istore_n 2, 1) := by decide +kernel
theorem dX0_missingRewards_4 : decode cX0_missingRewards 4 = .ok (.iload_n 2, 1) := by decide +kernel
theorem dX0_missingRewards_5 : decode cX0_missingRewards 5 = .ok (.aload_n 0, 1) := by decide +kernel
theorem dX0_missingRewards_6 : decode cX0_missingRewards 6 = .ok (.getfield 23, 3) := by decide +kernel
theorem dX0_missingRewards_9 : decode cX0_missingRewards 9 = .ok (.invokevirtual 87, 3) := by decide +kernel
theorem dX0_missingRewards_12 : decode cX0_missingRewards 12 = .ok (.if_icmp .ge 33, 3) := by decide +kernel
theorem dX0_missingRewards_15 : decode cX0_missingRewards 15 = .ok (.iload_n 1, 1) := by decide +kernel
theorem dX0_missingRewards_16 : decode cX0_missingRewards 16 = .ok (.aload_n 0, 1) := by decide +kernel
theorem dX0_missingRewards_17 : decode cX0_missingRewards 17 = .ok (.iload_n 2, 1) := by decide +kernel
theorem dX0_missingRewards_18 : decode cX0_missingRewards 18 = .ok (.invokevirtual 127, 3) := by decide +kernel
theorem dX0_missingRewards_21 : decode cX0_missingRewards 21 = .ok (.ifCond .eq 15, 3) := by decide +kernel
theorem dX0_missingRewards_24 : decode cX0_missingRewards 24 = .ok (.aload_n 0, 1) := by decide +kernel
theorem dX0_missingRewards_25 : decode cX0_missingRewards 25 = .ok (.getfield 23, 3) := by decide +kernel
theorem dX0_missingRewards_28 : decode cX0_missingRewards 28 = .ok (.iload_n 2, 1) := by decide +kernel
theorem dX0_missingRewards_29 : decode cX0_missingRewards 29 = .ok (.iconst 4, 1) := by decide +kernel
theorem dX0_missingRewards_30 : decode cX0_missingRewards 30 = .ok (.invokevirtual 112, 3) := by decide +kernel
theorem dX0_missingRewards_33 : decode cX0_missingRewards 33 = .ok (.goto 4, 3) := by decide +kernel
theorem dX0_missingRewards_36 : decode cX0_missingRewards 36 = .ok (.iconst 0, 1) := by decide +kernel
theorem dX0_missingRewards_37 : decode cX0_missingRewards 37 = .ok (.iadd, 1) := by decide +kernel
theorem dX0_missingRewards_38 : decode cX0_missingRewards 38 = .ok (.istore_n 1, 1) := by decide +kernel
theorem dX0_missingRewards_39 : decode cX0_missingRewards 39 = .ok (.iinc 2 1, 3) := by decide +kernel
theorem dX0_missingRewards_42 : decode cX0_missingRewards 42 = .ok (.goto (-38), 3) := by decide +kernel
theorem dX0_missingRewards_45 : decode cX0_missingRewards 45 = .ok (.iload_n 1, 1) := by decide +kernel
theorem dX0_missingRewards_46 : decode cX0_missingRewards 46 = .ok (.ireturn, 1) := by decide +kernel
theorem dX0_fraudsInAll_0 : decode cX0_fraudsInAll 0 = .ok (.iconst 0, 1) := by decide +kernel
theorem dX0_fraudsInAll_1 : decode cX0_fraudsInAll 1 = .ok (.istore_n 1, 1) := by decide +kernel
theorem dX0_fraudsInAll_2 : decode cX0_fraudsInAll 2 = .ok (.iconst 0, 1) := by decide +kernel
theorem dX0_fraudsInAll_3 : decode cX0_fraudsInAll 3 = .ok (.istore_n 2, 1) := by decide +kernel
theorem dX0_fraudsInAll_4 : decode cX0_fraudsInAll 4 = .ok (.iload_n 2, 1) := by decide +kernel
theorem dX0_fraudsInAll_5 : decode cX0_fraudsInAll 5 = .ok (.aload_n 0, 1) := by decide +kernel
theorem dX0_fraudsInAll_6 : decode cX0_fraudsInAll 6 = .ok (.getfield 23, 3) := by decide +kernel
theorem dX0_fraudsInAll_9 : decode cX0_fraudsInAll 9 = .ok (.invokevirtual 87, 3) := by decide +kernel
theorem dX0_fraudsInAll_12 : decode cX0_fraudsInAll 12 = .ok (.if_icmp .ge 20, 3) := by decide +kernel
theorem dX0_fraudsInAll_15 : decode cX0_fraudsInAll 15 = .ok (.iload_n 1, 1) := by decide +kernel
theorem dX0_fraudsInAll_16 : decode cX0_fraudsInAll 16 = .ok (.aload_n 0, 1) := by decide +kernel
theorem dX0_fraudsInAll_17 : decode cX0_fraudsInAll 17 = .ok (.iload_n 2, 1) := by decide +kernel
theorem dX0_fraudsInAll_18 : decode cX0_fraudsInAll 18 = .ok (.invokevirtual 124, 3) := by decide +kernel
theorem dX0_fraudsInAll_21 : decode cX0_fraudsInAll 21 = .ok (.invokestatic 104, 3) := by decide +kernel
theorem dX0_fraudsInAll_24 : decode cX0_fraudsInAll 24 = .ok (.iadd, 1) := by decide +kernel
theorem dX0_fraudsInAll_25 : decode cX0_fraudsInAll 25 = .ok (.istore_n 1, 1) := by decide +kernel
theorem dX0_fraudsInAll_26 : decode cX0_fraudsInAll 26 = .ok (.iinc 2 1, 3) := by decide +kernel
theorem dX0_fraudsInAll_29 : decode cX0_fraudsInAll 29 = .ok (.goto (-25), 3) := by decide +kernel
theorem dX0_fraudsInAll_32 : decode cX0_fraudsInAll 32 = .ok (.iload_n 1, 1) := by decide +kernel
theorem dX0_fraudsInAll_33 : decode cX0_fraudsInAll 33 = .ok (.ireturn, 1) := by decide +kernel
theorem dX0_unlikeMarks_0 : decode cX0_unlikeMarks 0 = .ok (.aload_n 0, 1) := by decide +kernel
theorem dX0_unlikeMarks_1 : decode cX0_unlikeMarks 1 = .ok (.getfield 23, 3) := by decide +kernel
theorem dX0_unlikeMarks_4 : decode cX0_unlikeMarks 4 = .ok (.iload_n 1, 1) := by decide +kernel
theorem dX0_unlikeMarks_5 : decode cX0_unlikeMarks 5 = .ok (.iconst 0, 1) := by decide +kernel
theorem dX0_unlikeMarks_6 : decode cX0_unlikeMarks 6 = .ok (.invokevirtual 112, 3) := by decide +kernel
theorem dX0_unlikeMarks_9 : decode cX0_unlikeMarks 9 = .ok (.iload_n 2, 1) := by decide +kernel
theorem dX0_unlikeMarks_10 : decode cX0_unlikeMarks 10 = .ok (.ixor, 1) := by decide +kernel
theorem dX0_unlikeMarks_11 : decode cX0_unlikeMarks 11 = .ok (.invokestatic 104, 3) := by decide +kernel
theorem dX0_unlikeMarks_14 : decode cX0_unlikeMarks 14 = .ok (.ireturn, 1) := by decide +kernel
theorem dX0_dogMeantBy_0 : decode cX0_dogMeantBy 0 = .ok (.iconst (-1), 1) := by decide +kernel
theorem dX0_dogMeantBy_1 : decode cX0_dogMeantBy 1 = .ok (.istore_n 3, 1) := by decide +kernel
theorem dX0_dogMeantBy_2 : decode cX0_dogMeantBy 2 = .ok (.iconst 0, 1) := by decide +kernel
theorem dX0_dogMeantBy_3 : decode cX0_dogMeantBy 3 = .ok (.istore 4, 2) := by decide +kernel
theorem dX0_dogMeantBy_5 : decode cX0_dogMeantBy 5 = .ok (.iload 4, 2) := by decide +kernel
theorem dX0_dogMeantBy_7 : decode cX0_dogMeantBy 7 = .ok (.aload_n 0, 1) := by decide +kernel
theorem dX0_dogMeantBy_8 : decode cX0_dogMeantBy 8 = .ok (.getfield 23, 3) := by decide +kernel
theorem dX0_dogMeantBy_11 : decode cX0_dogMeantBy 11 = .ok (.invokevirtual 87, 3) := by decide +kernel
theorem dX0_dogMeantBy_14 : decode cX0_dogMeantBy 14 = .ok (.if_icmp .ge 77, 3) := by decide +kernel
theorem dX0_dogMeantBy_17 : decode cX0_dogMeantBy 17 = .ok (.aload_n 0, 1) := by decide +kernel
theorem dX0_dogMeantBy_18 : decode cX0_dogMeantBy 18 = .ok (.iload 4, 2) := by decide +kernel
theorem dX0_dogMeantBy_20 : decode cX0_dogMeantBy 20 = .ok (.invokevirtual 127, 3) := by decide +kernel
theorem dX0_dogMeantBy_23 : decode cX0_dogMeantBy 23 = .ok (.ifCond .eq 35, 3) := by decide +kernel
theorem dX0_dogMeantBy_26 : decode cX0_dogMeantBy 26 = .ok (.aload_n 0, 1) := by decide +kernel
theorem dX0_dogMeantBy_27 : decode cX0_dogMeantBy 27 = .ok (.getfield 23, 3) := by decide +kernel
theorem dX0_dogMeantBy_30 : decode cX0_dogMeantBy 30 = .ok (.iload 4, 2) := by decide +kernel
theorem dX0_dogMeantBy_32 : decode cX0_dogMeantBy 32 = .ok (.iconst 3, 1) := by decide +kernel
theorem dX0_dogMeantBy_33 : decode cX0_dogMeantBy 33 = .ok (.invokevirtual 112, 3) := by decide +kernel
theorem dX0_dogMeantBy_36 : decode cX0_dogMeantBy 36 = .ok (.iload_n 2, 1) := by decide +kernel
theorem dX0_dogMeantBy_37 : decode cX0_dogMeantBy 37 = .ok (.if_icmp .gt 21, 3) := by decide +kernel
theorem dX0_dogMeantBy_40 : decode cX0_dogMeantBy 40 = .ok (.aload_n 0, 1) := by decide +kernel
theorem dX0_dogMeantBy_41 : decode cX0_dogMeantBy 41 = .ok (.iload 4, 2) := by decide +kernel
theorem dX0_dogMeantBy_43 : decode cX0_dogMeantBy 43 = .ok (.iload_n 1, 1) := by decide +kernel
theorem dX0_dogMeantBy_44 : decode cX0_dogMeantBy 44 = .ok (.invokevirtual 118, 3) := by decide +kernel
theorem dX0_dogMeantBy_47 : decode cX0_dogMeantBy 47 = .ok (.aload_n 0, 1) := by decide +kernel
theorem dX0_dogMeantBy_48 : decode cX0_dogMeantBy 48 = .ok (.getfield 65, 3) := by decide +kernel
theorem dX0_dogMeantBy_51 : decode cX0_dogMeantBy 51 = .ok (.if_icmp .gt 7, 3) := by decide +kernel
theorem dX0_dogMeantBy_54 : decode cX0_dogMeantBy 54 = .ok (.iconst 1, 1) := by decide +kernel
theorem dX0_dogMeantBy_55 : decode cX0_dogMeantBy 55 = .ok (.goto 4, 3) := by decide +kernel
theorem dX0_dogMeantBy_58 : decode cX0_dogMeantBy 58 = .ok (.iconst 0, 1) := by decide +kernel
theorem dX0_dogMeantBy_59 : decode cX0_dogMeantBy 59 = .ok (.istore 5, 2) := by decide +kernel
theorem dX0_dogMeantBy_61 : decode cX0_dogMeantBy 61 = .ok (.iload 5, 2) := by decide +kernel
theorem dX0_dogMeantBy_63 : decode cX0_dogMeantBy 63 = .ok (.ifCond .eq 22, 3) := by decide +kernel
theorem dX0_dogMeantBy_66 : decode cX0_dogMeantBy 66 = .ok (.iload_n 3, 1) := by decide +kernel
theorem dX0_dogMeantBy_67 : decode cX0_dogMeantBy 67 = .ok (.iconst (-1), 1) := by decide +kernel
theorem dX0_dogMeantBy_68 : decode cX0_dogMeantBy 68 = .ok (.if_icmp .eq 14, 3) := by decide +kernel
theorem dX0_dogMeantBy_71 : decode cX0_dogMeantBy 71 = .ok (.aload_n 0, 1) := by decide +kernel
theorem dX0_dogMeantBy_72 : decode cX0_dogMeantBy 72 = .ok (.iload 4, 2) := by decide +kernel
theorem dX0_dogMeantBy_74 : decode cX0_dogMeantBy 74 = .ok (.iload_n 3, 1) := by decide +kernel
theorem dX0_dogMeantBy_75 : decode cX0_dogMeantBy 75 = .ok (.iload_n 1, 1) := by decide +kernel
theorem dX0_dogMeantBy_76 : decode cX0_dogMeantBy 76 = .ok (.invokevirtual 131, 3) := by decide +kernel
theorem dX0_dogMeantBy_79 : decode cX0_dogMeantBy 79 = .ok (.ifCond .eq 6, 3) := by decide +kernel
theorem dX0_dogMeantBy_82 : decode cX0_dogMeantBy 82 = .ok (.iload 4, 2) := by decide +kernel
theorem dX0_dogMeantBy_84 : decode cX0_dogMeantBy 84 = .ok (.istore_n 3, 1) := by decide +kernel
theorem dX0_dogMeantBy_85 : decode cX0_dogMeantBy 85 = .ok (.iinc 4 1, 3) := by decide +kernel
theorem dX0_dogMeantBy_88 : decode cX0_dogMeantBy 88 = .ok (.goto (-83), 3) := by decide +kernel
theorem dX0_dogMeantBy_91 : decode cX0_dogMeantBy 91 = .ok (.iload_n 3, 1) := by decide +kernel
theorem dX0_dogMeantBy_92 : decode cX0_dogMeantBy 92 = .ok (.ireturn, 1) := by decide +kernel
theorem dX0_isMeantBefore_0 : decode cX0_isMeantBefore 0 = .ok (.aload_n 0, 1) := by decide +kernel
theorem dX0_isMeantBefore_1 : decode cX0_isMeantBefore 1 = .ok (.iload_n 1, 1) := by decide +kernel
theorem dX0_isMeantBefore_2 : decode cX0_isMeantBefore 2 = .ok (.iload_n 3, 1) := by decide +kernel
theorem dX0_isMeantBefore_3 : decode cX0_isMeantBefore 3 = .ok (.invokevirtual 118, 3) := by decide +kernel
theorem dX0_isMeantBefore_6 : decode cX0_isMeantBefore 6 = .ok (.istore 4, 2) := by decide +kernel
theorem dX0_isMeantBefore_8 : decode cX0_isMeantBefore 8 = .ok (.aload_n 0, 1) := by decide +kernel
theorem dX0_isMeantBefore_9 : decode cX0_isMeantBefore 9 = .ok (.iload_n 2, 1) := by decide +kernel
theorem dX0_isMeantBefore_10 : decode cX0_isMeantBefore 10 = .ok (.iload_n 3, 1) := by decide +kernel
theorem dX0_isMeantBefore_11 : decode cX0_isMeantBefore 11 = .ok (.invokevirtual 118, 3) := by decide +kernel
theorem dX0_isMeantBefore_14 : decode cX0_isMeantBefore 14 = .ok (.istore 5, 2) := by decide +kernel
theorem dX0_isMeantBefore_16 : decode cX0_isMeantBefore 16 = .ok (.iload 4, 2) := by decide +kernel
theorem dX0_isMeantBefore_18 : decode cX0_isMeantBefore 18 = .ok (.iload 5, 2) := by decide +kernel
theorem dX0_isMeantBefore_20 : decode cX0_isMeantBefore 20 = .ok (.if_icmp .eq 16, 3) := by decide +kernel
theorem dX0_isMeantBefore_23 : decode cX0_isMeantBefore 23 = .ok (.iload 4, 2) := by decide +kernel
theorem dX0_isMeantBefore_25 : decode cX0_isMeantBefore 25 = .ok (.iload 5, 2) := by decide +kernel
theorem dX0_isMeantBefore_27 : decode cX0_isMeantBefore 27 = .ok (.if_icmp .ge 7, 3) := by decide +kernel
theorem dX0_isMeantBefore_30 : decode cX0_isMeantBefore 30 = .ok (.iconst 1, 1) := by decide +kernel
theorem dX0_isMeantBefore_31 : decode cX0_isMeantBefore 31 = .ok (.goto 4, 3) := by decide +kernel
theorem dX0_isMeantBefore_34 : decode cX0_isMeantBefore 34 = .ok (.iconst 0, 1) := by decide +kernel
theorem dX0_isMeantBefore_35 : decode cX0_isMeantBefore 35 = .ok (.ireturn, 1) := by decide +kernel
theorem dX0_isMeantBefore_36 : decode cX0_isMeantBefore 36 = .ok (.aload_n 0, 1) := by decide +kernel
theorem dX0_isMeantBefore_37 : decode cX0_isMeantBefore 37 = .ok (.getfield 23, 3) := by decide +kernel
theorem dX0_isMeantBefore_40 : decode cX0_isMeantBefore 40 = .ok (.iload_n 1, 1) := by decide +kernel
theorem dX0_isMeantBefore_41 : decode cX0_isMeantBefore 41 = .ok (.iconst 4, 1) := by decide +kernel
theorem dX0_isMeantBefore_42 : decode cX0_isMeantBefore 42 = .ok (.invokevirtual 112, 3) := by decide +kernel
theorem dX0_isMeantBefore_45 : decode cX0_isMeantBefore 45 = .ok (.aload_n 0, 1) := by decide +kernel
theorem dX0_isMeantBefore_46 : decode cX0_isMeantBefore 46 = .ok (.getfield 23, 3) := by decide +kernel
theorem dX0_isMeantBefore_49 : decode cX0_isMeantBefore 49 = .ok (.iload_n 2, 1) := by decide +kernel
theorem dX0_isMeantBefore_50 : decode cX0_isMeantBefore 50 = .ok (.iconst 4, 1) := by decide +kernel
theorem dX0_isMeantBefore_51 : decode cX0_isMeantBefore 51 = .ok (.invokevirtual 112, 3) := by decide +kernel
theorem dX0_isMeantBefore_54 : decode cX0_isMeantBefore 54 = .ok (.if_icmp .le 7, 3) := by decide +kernel
theorem dX0_isMeantBefore_57 : decode cX0_isMeantBefore 57 = .ok (.iconst 1, 1) := by decide +kernel
theorem dX0_isMeantBefore_58 : decode cX0_isMeantBefore 58 = .ok (.goto 4, 3) := by decide +kernel
theorem dX0_isMeantBefore_61 : decode cX0_isMeantBefore 61 = .ok (.iconst 0, 1) := by decide +kernel
theorem dX0_isMeantBefore_62 : decode cX0_isMeantBefore 62 = .ok (.ireturn, 1) := by decide +kernel
theorem dX0_sightingsMeaning_0 : decode cX0_sightingsMeaning 0 = .ok (.iconst 0, 1) := by decide +kernel
theorem dX0_sightingsMeaning_1 : decode cX0_sightingsMeaning 1 = .ok (.istore_n 2, 1) := by decide +kernel
theorem dX0_sightingsMeaning_2 : decode cX0_sightingsMeaning 2 = .ok (.iconst 0, 1) := by decide +kernel
theorem dX0_sightingsMeaning_3 : decode cX0_sightingsMeaning 3 = .ok (.istore_n 3, 1) := by decide +kernel
theorem dX0_sightingsMeaning_4 : decode cX0_sightingsMeaning 4 = .ok (.iload_n 3, 1) := by decide +kernel
theorem dX0_sightingsMeaning_5 : decode cX0_sightingsMeaning 5 = .ok (.aload_n 0, 1) := by decide +kernel
theorem dX0_sightingsMeaning_6 : decode cX0_sightingsMeaning 6 = .ok (.getfield 27, 3) := by decide +kernel
theorem dX0_sightingsMeaning_9 : decode cX0_sightingsMeaning 9 = .ok (.invokevirtual 87, 3) := by decide +kernel
theorem dX0_sightingsMeaning_12 : decode cX0_sightingsMeaning 12 = .ok (.if_icmp .ge 32, 3) := by decide +kernel
theorem dX0_sightingsMeaning_15 : decode cX0_sightingsMeaning 15 = .ok (.iload_n 2, 1) := by decide +kernel
theorem dX0_sightingsMeaning_16 : decode cX0_sightingsMeaning 16 = .ok (.aload_n 0, 1) := by decide +kernel
theorem dX0_sightingsMeaning_17 : decode cX0_sightingsMeaning 17 = .ok (.getfield 27, 3) := by decide +kernel
theorem dX0_sightingsMeaning_20 : decode cX0_sightingsMeaning 20 = .ok (.iload_n 3, 1) := by decide +kernel
theorem dX0_sightingsMeaning_21 : decode cX0_sightingsMeaning 21 = .ok (.iconst 5, 1) := by decide +kernel
theorem dX0_sightingsMeaning_22 : decode cX0_sightingsMeaning 22 = .ok (.invokevirtual 112, 3) := by decide +kernel
theorem dX0_sightingsMeaning_25 : decode cX0_sightingsMeaning 25 = .ok (.iload_n 1, 1) := by decide +kernel
theorem dX0_sightingsMeaning_26 : decode cX0_sightingsMeaning 26 = .ok (.if_icmp .ne 9, 3) := by decide +kernel
theorem dX0_sightingsMeaning_29 : decode cX0_sightingsMeaning 29 = .ok (.iconst 1, 1) := by decide +kernel
theorem dX0_sightingsMeaning_30 : decode cX0_sightingsMeaning 30 = .ok (.iload_n 3, 1) := by decide +kernel
theorem dX0_sightingsMeaning_31 : decode cX0_sightingsMeaning 31 = .ok (.ishl, 1) := by decide +kernel
theorem dX0_sightingsMeaning_32 : decode cX0_sightingsMeaning 32 = .ok (.goto 4, 3) := by decide +kernel
theorem dX0_sightingsMeaning_35 : decode cX0_sightingsMeaning 35 = .ok (.iconst 0, 1) := by decide +kernel
theorem dX0_sightingsMeaning_36 : decode cX0_sightingsMeaning 36 = .ok (.ior, 1) := by decide +kernel
theorem dX0_sightingsMeaning_37 : decode cX0_sightingsMeaning 37 = .ok (.istore_n 2, 1) := by decide +kernel
theorem dX0_sightingsMeaning_38 : decode cX0_sightingsMeaning 38 = .ok (.iinc 3 1, 3) := by decide +kernel
theorem dX0_sightingsMeaning_41 : decode cX0_sightingsMeaning 41 = .ok (.goto (-37), 3) := by decide +kernel
theorem dX0_sightingsMeaning_44 : decode cX0_sightingsMeaning 44 = .ok (.iload_n 2, 1) := by decide +kernel
theorem dX0_sightingsMeaning_45 : decode cX0_sightingsMeaning 45 = .ok (.ireturn, 1) := by decide +kernel
theorem dX0_trueFor_0 : decode cX0_trueFor 0 = .ok (.aload_n 0, 1) := by decide +kernel
theorem dX0_trueFor_1 : decode cX0_trueFor 1 = .ok (.iload_n 1, 1) := by decide +kernel
theorem dX0_trueFor_2 : decode cX0_trueFor 2 = .ok (.invokevirtual 127, 3) := by decide +kernel
theorem dX0_trueFor_5 : decode cX0_trueFor 5 = .ok (.ifCond .eq 11, 3) := by decide +kernel
theorem dX0_trueFor_8 : decode cX0_trueFor 8 = .ok (.aload_n 0, 1) := by decide +kernel
theorem dX0_trueFor_9 : decode cX0_trueFor 9 = .ok (.iload_n 1, 1) := by decide +kernel
theorem dX0_trueFor_10 : decode cX0_trueFor 10 = .ok (.invokevirtual 135, 3) := by decide +kernel
theorem dX0_trueFor_13 : decode cX0_trueFor 13 = .ok (.goto 13, 3) := by decide +kernel
theorem dX0_trueFor_16 : decode cX0_trueFor 16 = .ok (.aload_n 0, 1) := by decide +kernel
theorem dX0_trueFor_17 : decode cX0_trueFor 17 = .ok (.getfield 23, 3) := by decide +kernel
theorem dX0_trueFor_20 : decode cX0_trueFor 20 = .ok (.iload_n 1, 1) := by decide +kernel
theorem dX0_trueFor_21 : decode cX0_trueFor 21 = .ok (.bipush 9, 2) := by decide +kernel
theorem dX0_trueFor_23 : decode cX0_trueFor 23 = .ok (.invokevirtual 112, 3) := by decide +kernel
theorem dX0_trueFor_26 : decode cX0_trueFor 26 = .ok (.ireturn, 1) := by decide +kernel
theorem dX0_trueNowFor_0 : decode cX0_trueNowFor 0 = .ok (.iconst 0, 1) := by decide +kernel
theorem dX0_trueNowFor_1 : decode cX0_trueNowFor 1 = .ok (.istore_n 2, 1) := by decide +kernel
theorem dX0_trueNowFor_2 : decode cX0_trueNowFor 2 = .ok (.iconst 0, 1) := by decide +kernel
theorem dX0_trueNowFor_3 : decode cX0_trueNowFor 3 = .ok (.istore_n 3, 1) := by decide +kernel
theorem dX0_trueNowFor_4 : decode cX0_trueNowFor 4 = .ok (.iload_n 3, 1) := by decide +kernel
theorem dX0_trueNowFor_5 : decode cX0_trueNowFor 5 = .ok (.aload_n 0, 1) := by decide +kernel
theorem dX0_trueNowFor_6 : decode cX0_trueNowFor 6 = .ok (.getfield 27, 3) := by decide +kernel
theorem dX0_trueNowFor_9 : decode cX0_trueNowFor 9 = .ok (.invokevirtual 87, 3) := by decide +kernel
theorem dX0_trueNowFor_12 : decode cX0_trueNowFor 12 = .ok (.if_icmp .ge 105, 3) := by decide +kernel
theorem dX0_trueNowFor_15 : decode cX0_trueNowFor 15 = .ok (.aload_n 0, 1) := by decide +kernel
theorem dX0_trueNowFor_16 : decode cX0_trueNowFor 16 = .ok (.getfield 23, 3) := by decide +kernel
theorem dX0_trueNowFor_19 : decode cX0_trueNowFor 19 = .ok (.iload_n 1, 1) := by decide +kernel
theorem dX0_trueNowFor_20 : decode cX0_trueNowFor 20 = .ok (.iconst 1, 1) := by decide +kernel
theorem dX0_trueNowFor_21 : decode cX0_trueNowFor 21 = .ok (.invokevirtual 112, 3) := by decide +kernel
theorem dX0_trueNowFor_24 : decode cX0_trueNowFor 24 = .ok (.aload_n 0, 1) := by decide +kernel
theorem dX0_trueNowFor_25 : decode cX0_trueNowFor 25 = .ok (.getfield 27, 3) := by decide +kernel
theorem dX0_trueNowFor_28 : decode cX0_trueNowFor 28 = .ok (.iload_n 3, 1) := by decide +kernel
theorem dX0_trueNowFor_29 : decode cX0_trueNowFor 29 = .ok (.iconst 2, 1) := by decide +kernel
theorem dX0_trueNowFor_30 : decode cX0_trueNowFor 30 = .ok (.invokevirtual 112, 3) := by decide +kernel
theorem dX0_trueNowFor_33 : decode cX0_trueNowFor 33 = .ok (.aload_n 0, 1) := by decide +kernel
theorem dX0_trueNowFor_34 : decode cX0_trueNowFor 34 = .ok (.getfield 23, 3) := by decide +kernel
theorem dX0_trueNowFor_37 : decode cX0_trueNowFor 37 = .ok (.iload_n 1, 1) := by decide +kernel
theorem dX0_trueNowFor_38 : decode cX0_trueNowFor 38 = .ok (.iconst 3, 1) := by decide +kernel
theorem dX0_trueNowFor_39 : decode cX0_trueNowFor 39 = .ok (.invokevirtual 112, 3) := by decide +kernel
theorem dX0_trueNowFor_42 : decode cX0_trueNowFor 42 = .ok (.isub, 1) := by decide +kernel
theorem dX0_trueNowFor_43 : decode cX0_trueNowFor 43 = .ok (.imul, 1) := by decide +kernel
theorem dX0_trueNowFor_44 : decode cX0_trueNowFor 44 = .ok (.istore 4, 2) := by decide +kernel
theorem dX0_trueNowFor_46 : decode cX0_trueNowFor 46 = .ok (.aload_n 0, 1) := by decide +kernel
theorem dX0_trueNowFor_47 : decode cX0_trueNowFor 47 = .ok (.getfield 27, 3) := by decide +kernel
theorem dX0_trueNowFor_50 : decode cX0_trueNowFor 50 = .ok (.iload_n 3, 1) := by decide +kernel
theorem dX0_trueNowFor_51 : decode cX0_trueNowFor 51 = .ok (.iconst 1, 1) := by decide +kernel
theorem dX0_trueNowFor_52 : decode cX0_trueNowFor 52 = .ok (.invokevirtual 112, 3) := by decide +kernel
theorem dX0_trueNowFor_55 : decode cX0_trueNowFor 55 = .ok (.istore 5, 2) := by decide +kernel
theorem dX0_trueNowFor_57 : decode cX0_trueNowFor 57 = .ok (.aload_n 0, 1) := by decide +kernel
theorem dX0_trueNowFor_58 : decode cX0_trueNowFor 58 = .ok (.getfield 27, 3) := by decide +kernel
theorem dX0_trueNowFor_61 : decode cX0_trueNowFor 61 = .ok (.iload_n 3, 1) := by decide +kernel
theorem dX0_trueNowFor_62 : decode cX0_trueNowFor 62 = .ok (.iconst 5, 1) := by decide +kernel
theorem dX0_trueNowFor_63 : decode cX0_trueNowFor 63 = .ok (.invokevirtual 112, 3) := by decide +kernel
theorem dX0_trueNowFor_66 : decode cX0_trueNowFor 66 = .ok (.iload_n 1, 1) := by decide +kernel
theorem dX0_trueNowFor_67 : decode cX0_trueNowFor 67 = .ok (.if_icmp .ne 7, 3) := by decide +kernel
theorem dX0_trueNowFor_70 : decode cX0_trueNowFor 70 = .ok (.iconst 1, 1) := by decide +kernel
theorem dX0_trueNowFor_71 : decode cX0_trueNowFor 71 = .ok (.goto 4, 3) := by decide +kernel
theorem dX0_trueNowFor_74 : decode cX0_trueNowFor 74 = .ok (.iconst 0, 1) := by decide +kernel
theorem dX0_trueNowFor_75 : decode cX0_trueNowFor 75 = .ok (.istore 6, 2) := by decide +kernel
theorem dX0_trueNowFor_77 : decode cX0_trueNowFor 77 = .ok (.iload 6, 2) := by decide +kernel
theorem dX0_trueNowFor_79 : decode cX0_trueNowFor 79 = .ok (.ifCond .eq 32, 3) := by decide +kernel
theorem dX0_trueNowFor_82 : decode cX0_trueNowFor 82 = .ok (.aload_n 0, 1) := by decide +kernel
theorem dX0_trueNowFor_83 : decode cX0_trueNowFor 83 = .ok (.getfield 12, 3) := by decide +kernel
theorem dX0_trueNowFor_86 : decode cX0_trueNowFor 86 = .ok (.aload_n 0, 1) := by decide +kernel
theorem dX0_trueNowFor_87 : decode cX0_trueNowFor 87 = .ok (.getfield 23, 3) := by decide +kernel
theorem dX0_trueNowFor_90 : decode cX0_trueNowFor 90 = .ok (.iload_n 1, 1) := by decide +kernel
theorem dX0_trueNowFor_91 : decode cX0_trueNowFor 91 = .ok (.iconst 2, 1) := by decide +kernel
theorem dX0_trueNowFor_92 : decode cX0_trueNowFor 92 = .ok (.invokevirtual 112, 3) := by decide +kernel
theorem dX0_trueNowFor_95 : decode cX0_trueNowFor 95 = .ok (.iload 5, 2) := by decide +kernel
theorem dX0_trueNowFor_97 : decode cX0_trueNowFor 97 = .ok (.iload 4, 2) := by decide +kernel
theorem dX0_trueNowFor_99 : decode cX0_trueNowFor 99 = .ok (.invokevirtual 138, 3) := by decide +kernel
theorem dX0_trueNowFor_102 : decode cX0_trueNowFor 102 = .ok (.ifCond .eq 9, 3) := by decide +kernel
theorem dX0_trueNowFor_105 : decode cX0_trueNowFor 105 = .ok (.iload_n 2, 1) := by decide +kernel
theorem dX0_trueNowFor_106 : decode cX0_trueNowFor 106 = .ok (.iconst 1, 1) := by decide +kernel
theorem dX0_trueNowFor_107 : decode cX0_trueNowFor 107 = .ok (.iload_n 3, 1) := by decide +kernel
theorem dX0_trueNowFor_108 : decode cX0_trueNowFor 108 = .ok (.ishl, 1) := by decide +kernel
theorem dX0_trueNowFor_109 : decode cX0_trueNowFor 109 = .ok (.ior, 1) := by decide +kernel
theorem dX0_trueNowFor_110 : decode cX0_trueNowFor 110 = .ok (.istore_n 2, 1) := by decide +kernel
theorem dX0_trueNowFor_111 : decode cX0_trueNowFor 111 = .ok (.iinc 3 1, 3) := by decide +kernel
theorem dX0_trueNowFor_114 : decode cX0_trueNowFor 114 = .ok (.goto (-110), 3) := by decide +kernel
theorem dX0_trueNowFor_117 : decode cX0_trueNowFor 117 = .ok (.iload_n 2, 1) := by decide +kernel
theorem dX0_trueNowFor_118 : decode cX0_trueNowFor 118 = .ok (.ireturn, 1) := by decide +kernel
theorem dX0_fraudsFor_0 : decode cX0_fraudsFor 0 = .ok (.aload_n 0, 1) := by decide +kernel
theorem dX0_fraudsFor_1 : decode cX0_fraudsFor 1 = .ok (.iload_n 1, 1) := by decide +kernel
theorem dX0_fraudsFor_2 : decode cX0_fraudsFor 2 = .ok (.invokevirtual 127, 3) := by decide +kernel
theorem dX0_fraudsFor_5 : decode cX0_fraudsFor 5 = .ok (.ifCond .ne 14, 3) := by decide +kernel
theorem dX0_fraudsFor_8 : decode cX0_fraudsFor 8 = .ok (.aload_n 0, 1) := by decide +kernel
theorem dX0_fraudsFor_9 : decode cX0_fraudsFor 9 = .ok (.getfield 23, 3) := by decide +kernel
theorem dX0_fraudsFor_12 : decode cX0_fraudsFor 12 = .ok (.iload_n 1, 1) := by decide +kernel
theorem dX0_fraudsFor_13 : decode cX0_fraudsFor 13 = .ok (.bipush 10, 2) := by decide +kernel
theorem dX0_fraudsFor_15 : decode cX0_fraudsFor 15 = .ok (.invokevirtual 112, 3) := by decide +kernel
theorem dX0_fraudsFor_18 : decode cX0_fraudsFor 18 = .ok (.ireturn, 1) := by decide +kernel
theorem dX0_fraudsFor_19 : decode cX0_fraudsFor 19 = .ok (.aload_n 0, 1) := by decide +kernel
theorem dX0_fraudsFor_20 : decode cX0_fraudsFor 20 = .ok (.iload_n 1, 1) := by decide +kernel
theorem dX0_fraudsFor_21 : decode cX0_fraudsFor 21 = .ok (.invokevirtual 135, 3) := by decide +kernel
theorem dX0_fraudsFor_24 : decode cX0_fraudsFor 24 = .ok (.istore_n 2, 1) := by decide +kernel
theorem dX0_fraudsFor_25 : decode cX0_fraudsFor 25 = .ok (.aload_n 0, 1) := by decide +kernel
theorem dX0_fraudsFor_26 : decode cX0_fraudsFor 26 = .ok (.iload_n 1, 1) := by decide +kernel
theorem dX0_fraudsFor_27 : decode cX0_fraudsFor 27 = .ok (.invokevirtual 100, 3) := by decide +kernel
theorem dX0_fraudsFor_30 : decode cX0_fraudsFor 30 = .ok (.iload_n 2, 1) := by decide +kernel
theorem dX0_fraudsFor_31 : decode cX0_fraudsFor 31 = .ok (.iconst (-1), 1) := by decide +kernel
theorem dX0_fraudsFor_32 : decode cX0_fraudsFor 32 = .ok (.ixor, 1) := by decide +kernel
theorem dX0_fraudsFor_33 : decode cX0_fraudsFor 33 = .ok (.iand, 1) := by decide +kernel
theorem dX0_fraudsFor_34 : decode cX0_fraudsFor 34 = .ok (.istore_n 3, 1) := by decide +kernel
theorem dX0_fraudsFor_35 : decode cX0_fraudsFor 35 = .ok (.iconst 0, 1) := by decide +kernel
theorem dX0_fraudsFor_36 : decode cX0_fraudsFor 36 = .ok (.istore 4, 2) := by decide +kernel
theorem dX0_fraudsFor_38 : decode cX0_fraudsFor 38 = .ok (.iload 4, 2) := by decide +kernel
theorem dX0_fraudsFor_40 : decode cX0_fraudsFor 40 = .ok (.aload_n 0, 1) := by decide +kernel
theorem dX0_fraudsFor_41 : decode cX0_fraudsFor 41 = .ok (.getfield 27, 3) := by decide +kernel
theorem dX0_fraudsFor_44 : decode cX0_fraudsFor 44 = .ok (.invokevirtual 87, 3) := by decide +kernel
theorem dX0_fraudsFor_47 : decode cX0_fraudsFor 47 = .ok (.if_icmp .ge 85, 3) := by decide +kernel
theorem dX0_fraudsFor_50 : decode cX0_fraudsFor 50 = .ok (.iload_n 2, 1) := by decide +kernel
theorem dX0_fraudsFor_51 : decode cX0_fraudsFor 51 = .ok (.iconst 1, 1) := by decide +kernel
theorem dX0_fraudsFor_52 : decode cX0_fraudsFor 52 = .ok (.iload 4, 2) := by decide +kernel
theorem dX0_fraudsFor_54 : decode cX0_fraudsFor 54 = .ok (.ishl, 1) := by decide +kernel
theorem dX0_fraudsFor_55 : decode cX0_fraudsFor 55 = .ok (.iconst (-1), 1) := by decide +kernel
theorem dX0_fraudsFor_56 : decode cX0_fraudsFor 56 = .ok (.ixor, 1) := by decide +kernel
theorem dX0_fraudsFor_57 : decode cX0_fraudsFor 57 = .ok (.iand, 1) := by decide +kernel
theorem dX0_fraudsFor_58 : decode cX0_fraudsFor 58 = .ok (.istore 5, 2) := by decide +kernel
theorem dX0_fraudsFor_60 : decode cX0_fraudsFor 60 = .ok (.iload_n 2, 1) := by decide +kernel
theorem dX0_fraudsFor_61 : decode cX0_fraudsFor 61 = .ok (.iload 4, 2) := by decide +kernel
theorem dX0_fraudsFor_63 : decode cX0_fraudsFor 63 = .ok (.invokestatic 141, 3) := by decide +kernel
theorem dX0_fraudsFor_66 : decode cX0_fraudsFor 66 = .ok (.ifCond .eq 25, 3) := by decide +kernel
theorem dX0_fraudsFor_69 : decode cX0_fraudsFor 69 = .ok (.aload_n 0, 1) := by decide +kernel
theorem dX0_fraudsFor_70 : decode cX0_fraudsFor 70 = .ok (.getfield 27, 3) := by decide +kernel
theorem dX0_fraudsFor_73 : decode cX0_fraudsFor 73 = .ok (.iload 4, 2) := by decide +kernel
theorem dX0_fraudsFor_75 : decode cX0_fraudsFor 75 = .ok (.iconst 4, 1) := by decide +kernel
theorem dX0_fraudsFor_76 : decode cX0_fraudsFor 76 = .ok (.invokevirtual 112, 3) := by decide +kernel
theorem dX0_fraudsFor_79 : decode cX0_fraudsFor 79 = .ok (.ifCond .ne 12, 3) := by decide +kernel
theorem dX0_fraudsFor_82 : decode cX0_fraudsFor 82 = .ok (.iload 5, 2) := by decide +kernel
theorem dX0_fraudsFor_84 : decode cX0_fraudsFor 84 = .ok (.ifCond .eq 7, 3) := by decide +kernel
theorem dX0_fraudsFor_87 : decode cX0_fraudsFor 87 = .ok (.iconst 1, 1) := by decide +kernel
theorem dX0_fraudsFor_88 : decode cX0_fraudsFor 88 = .ok (.goto 4, 3) := by decide +kernel
theorem dX0_fraudsFor_91 : decode cX0_fraudsFor 91 = .ok (.iconst 0, 1) := by decide +kernel
theorem dX0_fraudsFor_92 : decode cX0_fraudsFor 92 = .ok (.istore 6, 2) := by decide +kernel
theorem dX0_fraudsFor_94 : decode cX0_fraudsFor 94 = .ok (.iload 6, 2) := by decide +kernel
theorem dX0_fraudsFor_96 : decode cX0_fraudsFor 96 = .ok (.ifCond .eq 30, 3) := by decide +kernel
theorem dX0_fraudsFor_99 : decode cX0_fraudsFor 99 = .ok (.aload_n 0, 1) := by decide +kernel
theorem dX0_fraudsFor_100 : decode cX0_fraudsFor 100 = .ok (.iload 5, 2) := by decide +kernel
theorem dX0_fraudsFor_102 : decode cX0_fraudsFor 102 = .ok (.iload 4, 2) := by decide +kernel
theorem dX0_fraudsFor_104 : decode cX0_fraudsFor 104 = .ok (.aload_n 0, 1) := by decide +kernel
theorem dX0_fraudsFor_105 : decode cX0_fraudsFor 105 = .ok (.getfield 23, 3) := by decide +kernel
theorem dX0_fraudsFor_108 : decode cX0_fraudsFor 108 = .ok (.iload_n 1, 1) := by decide +kernel
theorem dX0_fraudsFor_109 : decode cX0_fraudsFor 109 = .ok (.iconst 1, 1) := by decide +kernel
theorem dX0_fraudsFor_110 : decode cX0_fraudsFor 110 = .ok (.invokevirtual 112, 3) := by decide +kernel
theorem dX0_fraudsFor_113 : decode cX0_fraudsFor 113 = .ok (.invokevirtual 145, 3) := by decide +kernel
theorem dX0_fraudsFor_116 : decode cX0_fraudsFor 116 = .ok (.ifCond .ne 10, 3) := by decide +kernel
theorem dX0_fraudsFor_119 : decode cX0_fraudsFor 119 = .ok (.iload_n 3, 1) := by decide +kernel
theorem dX0_fraudsFor_120 : decode cX0_fraudsFor 120 = .ok (.iconst 1, 1) := by decide +kernel
theorem dX0_fraudsFor_121 : decode cX0_fraudsFor 121 = .ok (.iload 4, 2) := by decide +kernel
theorem dX0_fraudsFor_123 : decode cX0_fraudsFor 123 = .ok (.ishl, 1) := by decide +kernel
theorem dX0_fraudsFor_124 : decode cX0_fraudsFor 124 = .ok (.ior, 1) := by decide +kernel
theorem dX0_fraudsFor_125 : decode cX0_fraudsFor 125 = .ok (.istore_n 3, 1) := by decide +kernel
theorem dX0_fraudsFor_126 : decode cX0_fraudsFor 126 = .ok (.iinc 4 1, 3) := by decide +kernel
theorem dX0_fraudsFor_129 : decode cX0_fraudsFor 129 = .ok (.goto (-91), 3) := by decide +kernel
theorem dX0_fraudsFor_132 : decode cX0_fraudsFor 132 = .ok (.iload_n 3, 1) := by decide +kernel
theorem dX0_fraudsFor_133 : decode cX0_fraudsFor 133 = .ok (.ireturn, 1) := by decide +kernel
theorem dX0_fitsOneOf_0 : decode cX0_fitsOneOf 0 = .ok (.iconst 0, 1) := by decide +kernel
theorem dX0_fitsOneOf_1 : decode cX0_fitsOneOf 1 = .ok (.istore 4, 2) := by decide +kernel
theorem dX0_fitsOneOf_3 : decode cX0_fitsOneOf 3 = .ok (.iload 4, 2) := by decide +kernel
theorem dX0_fitsOneOf_5 : decode cX0_fitsOneOf 5 = .ok (.aload_n 0, 1) := by decide +kernel
theorem dX0_fitsOneOf_6 : decode cX0_fitsOneOf 6 = .ok (.getfield 27, 3) := by decide +kernel
theorem dX0_fitsOneOf_9 : decode cX0_fitsOneOf 9 = .ok (.invokevirtual 87, 3) := by decide +kernel
theorem dX0_fitsOneOf_12 : decode cX0_fitsOneOf 12 = .ok (.if_icmp .ge 78, 3) := by decide +kernel
theorem dX0_fitsOneOf_15 : decode cX0_fitsOneOf 15 = .ok (.aload_n 0, 1) := by decide +kernel
theorem dX0_fitsOneOf_16 : decode cX0_fitsOneOf 16 = .ok (.getfield 27, 3) := by decide +kernel
theorem dX0_fitsOneOf_19 : decode cX0_fitsOneOf 19 = .ok (.iload_n 2, 1) := by decide +kernel
theorem dX0_fitsOneOf_20 : decode cX0_fitsOneOf 20 = .ok (.iconst 2, 1) := by decide +kernel
theorem dX0_fitsOneOf_21 : decode cX0_fitsOneOf 21 = .ok (.invokevirtual 112, 3) := by decide +kernel
theorem dX0_fitsOneOf_24 : decode cX0_fitsOneOf 24 = .ok (.aload_n 0, 1) := by decide +kernel
theorem dX0_fitsOneOf_25 : decode cX0_fitsOneOf 25 = .ok (.getfield 27, 3) := by decide +kernel
theorem dX0_fitsOneOf_28 : decode cX0_fitsOneOf 28 = .ok (.iload 4, 2) := by decide +kernel
theorem dX0_fitsOneOf_30 : decode cX0_fitsOneOf 30 = .ok (.iconst 2, 1) := by decide +kernel
theorem dX0_fitsOneOf_31 : decode cX0_fitsOneOf 31 = .ok (.invokevirtual 112, 3) := by decide +kernel
theorem dX0_fitsOneOf_34 : decode cX0_fitsOneOf 34 = .ok (.isub, 1) := by decide +kernel
theorem dX0_fitsOneOf_35 : decode cX0_fitsOneOf 35 = .ok (.invokestatic 148, 3) := by decide +kernel
theorem dX0_fitsOneOf_38 : decode cX0_fitsOneOf 38 = .ok (.istore 5, 2) := by decide +kernel
theorem dX0_fitsOneOf_40 : decode cX0_fitsOneOf 40 = .ok (.iload_n 1, 1) := by decide +kernel
theorem dX0_fitsOneOf_41 : decode cX0_fitsOneOf 41 = .ok (.iload 4, 2) := by decide +kernel
theorem dX0_fitsOneOf_43 : decode cX0_fitsOneOf 43 = .ok (.invokestatic 141, 3) := by decide +kernel
theorem dX0_fitsOneOf_46 : decode cX0_fitsOneOf 46 = .ok (.ifCond .eq 38, 3) := by decide +kernel
theorem dX0_fitsOneOf_49 : decode cX0_fitsOneOf 49 = .ok (.aload_n 0, 1) := by decide +kernel
theorem dX0_fitsOneOf_50 : decode cX0_fitsOneOf 50 = .ok (.getfield 12, 3) := by decide +kernel
theorem dX0_fitsOneOf_53 : decode cX0_fitsOneOf 53 = .ok (.aload_n 0, 1) := by decide +kernel
theorem dX0_fitsOneOf_54 : decode cX0_fitsOneOf 54 = .ok (.getfield 27, 3) := by decide +kernel
theorem dX0_fitsOneOf_57 : decode cX0_fitsOneOf 57 = .ok (.iload_n 2, 1) := by decide +kernel
theorem dX0_fitsOneOf_58 : decode cX0_fitsOneOf 58 = .ok (.iconst 1, 1) := by decide +kernel
theorem dX0_fitsOneOf_59 : decode cX0_fitsOneOf 59 = .ok (.invokevirtual 112, 3) := by decide +kernel
theorem dX0_fitsOneOf_62 : decode cX0_fitsOneOf 62 = .ok (.aload_n 0, 1) := by decide +kernel
theorem dX0_fitsOneOf_63 : decode cX0_fitsOneOf 63 = .ok (.getfield 27, 3) := by decide +kernel
theorem dX0_fitsOneOf_66 : decode cX0_fitsOneOf 66 = .ok (.iload 4, 2) := by decide +kernel
theorem dX0_fitsOneOf_68 : decode cX0_fitsOneOf 68 = .ok (.iconst 1, 1) := by decide +kernel
theorem dX0_fitsOneOf_69 : decode cX0_fitsOneOf 69 = .ok (.invokevirtual 112, 3) := by decide +kernel
theorem dX0_fitsOneOf_72 : decode cX0_fitsOneOf 72 = .ok (.iload_n 3, 1) := by decide +kernel
theorem dX0_fitsOneOf_73 : decode cX0_fitsOneOf 73 = .ok (.iload 5, 2) := by decide +kernel
theorem dX0_fitsOneOf_75 : decode cX0_fitsOneOf 75 = .ok (.imul, 1) := by decide +kernel
theorem dX0_fitsOneOf_76 : decode cX0_fitsOneOf 76 = .ok (.invokevirtual 138, 3) := by decide +kernel
theorem dX0_fitsOneOf_79 : decode cX0_fitsOneOf 79 = .ok (.ifCond .eq 5, 3) := by decide +kernel
theorem dX0_fitsOneOf_82 : decode cX0_fitsOneOf 82 = .ok (.iconst 1, 1) := by decide +kernel
theorem dX0_fitsOneOf_83 : decode cX0_fitsOneOf 83 = .ok (.ireturn, 1) := by decide +kernel
theorem dX0_fitsOneOf_84 : decode cX0_fitsOneOf 84 = .ok (.iinc 4 1, 3) := by decide +kernel
theorem dX0_fitsOneOf_87 : decode cX0_fitsOneOf 87 = .ok (.goto (-84), 3) := by decide +kernel
theorem dX0_fitsOneOf_90 : decode cX0_fitsOneOf 90 = .ok (.iconst 0, 1) := by decide +kernel
theorem dX0_fitsOneOf_91 : decode cX0_fitsOneOf 91 = .ok (.ireturn, 1) := by decide +kernel
theorem dX0_honestFor_0 : decode cX0_honestFor 0 = .ok (.aload_n 0, 1) := by decide +kernel
theorem dX0_honestFor_1 : decode cX0_honestFor 1 = .ok (.iload_n 1, 1) := by decide +kernel
theorem dX0_honestFor_2 : decode cX0_honestFor 2 = .ok (.invokevirtual 100, 3) := by decide +kernel
theorem dX0_honestFor_5 : decode cX0_honestFor 5 = .ok (.aload_n 0, 1) := by decide +kernel
theorem dX0_honestFor_6 : decode cX0_honestFor 6 = .ok (.iload_n 1, 1) := by decide +kernel
theorem dX0_honestFor_7 : decode cX0_honestFor 7 = .ok (.invokevirtual 124, 3) := by decide +kernel
theorem dX0_honestFor_10 : decode cX0_honestFor 10 = .ok (.iconst (-1), 1) := by decide +kernel
theorem dX0_honestFor_11 : decode cX0_honestFor 11 = .ok (.ixor, 1) := by decide +kernel
theorem dX0_honestFor_12 : decode cX0_honestFor 12 = .ok (.iand, 1) := by decide +kernel
theorem dX0_honestFor_13 : decode cX0_honestFor 13 = .ok (.ireturn, 1) := by decide +kernel
theorem dX0_faultOfAsking_0 : decode cX0_faultOfAsking 0 = .ok (.aload_n 0, 1) := by decide +kernel
theorem dX0_faultOfAsking_1 : decode cX0_faultOfAsking 1 = .ok (.getfield 23, 3) := by decide +kernel
theorem dX0_faultOfAsking_4 : decode cX0_faultOfAsking 4 = .ok (.iload_n 1, 1) := by decide +kernel
theorem dX0_faultOfAsking_5 : decode cX0_faultOfAsking 5 = .ok (.invokevirtual 151, 3) := by decide +kernel
theorem dX0_faultOfAsking_8 : decode cX0_faultOfAsking 8 = .ok (.ifCond .ne 5, 3) := by decide +kernel
theorem dX0_faultOfAsking_11 : decode cX0_faultOfAsking 11 = .ok (.iconst 1, 1) := by decide +kernel
theorem dX0_faultOfAsking_12 : decode cX0_faultOfAsking 12 = .ok (.ireturn, 1) := by decide +kernel
theorem dX0_faultOfAsking_13 : decode cX0_faultOfAsking 13 = .ok (.aload_n 0, 1) := by decide +kernel
theorem dX0_faultOfAsking_14 : decode cX0_faultOfAsking 14 = .ok (.iload_n 1, 1) := by decide +kernel
theorem dX0_faultOfAsking_15 : decode cX0_faultOfAsking 15 = .ok (.invokevirtual 127, 3) := by decide +kernel
theorem dX0_faultOfAsking_18 : decode cX0_faultOfAsking 18 = .ok (.ifCond .eq 7, 3) := by decide +kernel
theorem dX0_faultOfAsking_21 : decode cX0_faultOfAsking 21 = .ok (.iconst 0, 1) := by decide +kernel
theorem dX0_faultOfAsking_22 : decode cX0_faultOfAsking 22 = .ok (.goto 4, 3) := by decide +kernel
theorem dX0_faultOfAsking_25 : decode cX0_faultOfAsking 25 = .ok (.iconst 3, 1) := by decide +kernel
theorem dX0_faultOfAsking_26 : decode cX0_faultOfAsking 26 = .ok (.ireturn, 1) := by decide +kernel
theorem dX0_placesOf_0 : decode cX0_placesOf 0 = .ok (.aload_n 0, 1) := by decide +kernel
theorem dX0_placesOf_1 : decode cX0_placesOf 1 = .ok (.iload_n 1, 1) := by decide +kernel
theorem dX0_placesOf_2 : decode cX0_placesOf 2 = .ok (.invokevirtual 115, 3) := by decide +kernel
theorem dX0_placesOf_5 : decode cX0_placesOf 5 = .ok (.istore_n 2, 1) := by decide +kernel
theorem dX0_placesOf_6 : decode cX0_placesOf 6 = .ok (.iconst 0, 1) := by decide +kernel
theorem dX0_placesOf_7 : decode cX0_placesOf 7 = .ok (.istore_n 3, 1) := by decide +kernel
theorem dX0_placesOf_8 : decode cX0_placesOf 8 = .ok (.iconst 0, 1) := by decide +kernel
theorem dX0_placesOf_9 : decode cX0_placesOf 9 = .ok (.istore 4, 2) := by decide +kernel
theorem dX0_placesOf_11 : decode cX0_placesOf 11 = .ok (.iload 4, 2) := by decide +kernel
theorem dX0_placesOf_13 : decode cX0_placesOf 13 = .ok (.bipush 12, 2) := by decide +kernel
theorem dX0_placesOf_15 : decode cX0_placesOf 15 = .ok (.if_icmp .ge 31, 3) := by decide +kernel
theorem dX0_placesOf_18 : decode cX0_placesOf 18 = .ok (.iload_n 3, 1) := by decide +kernel
theorem dX0_placesOf_19 : decode cX0_placesOf 19 = .ok (.aload_n 0, 1) := by decide +kernel
theorem dX0_placesOf_20 : decode cX0_placesOf 20 = .ok (.iload_n 1, 1) := by decide +kernel
theorem dX0_placesOf_21 : decode cX0_placesOf 21 = .ok (.iload 4, 2) := by decide +kernel
theorem dX0_placesOf_23 : decode cX0_placesOf 23 = .ok (.iload_n 2, 1) := by decide +kernel
theorem dX0_placesOf_24 : decode cX0_placesOf 24 = .ok (.invokevirtual 154, 3) := by decide +kernel
theorem dX0_placesOf_27 : decode cX0_placesOf 27 = .ok (.ifCond .eq 10, 3) := by decide +kernel
theorem dX0_placesOf_30 : decode cX0_placesOf 30 = .ok (.iconst 1, 1) := by decide +kernel
theorem dX0_placesOf_31 : decode cX0_placesOf 31 = .ok (.iload 4, 2) := by decide +kernel
theorem dX0_placesOf_33 : decode cX0_placesOf 33 = .ok (.ishl, 1) := by decide +kernel
theorem dX0_placesOf_34 : decode cX0_placesOf 34 = .ok (.goto 4, 3) := by decide +kernel
theorem dX0_placesOf_37 : decode cX0_placesOf 37 = .ok (.iconst 0, 1) := by decide +kernel
theorem dX0_placesOf_38 : decode cX0_placesOf 38 = .ok (.ior, 1) := by decide +kernel
theorem dX0_placesOf_39 : decode cX0_placesOf 39 = .ok (.istore_n 3, 1) := by decide +kernel
theorem dX0_placesOf_40 : decode cX0_placesOf 40 = .ok (.iinc 4 1, 3) := by decide +kernel
theorem dX0_placesOf_43 : decode cX0_placesOf 43 = .ok (.goto (-32), 3) := by decide +kernel
theorem dX0_placesOf_46 : decode cX0_placesOf 46 = .ok (.iload_n 3, 1) := by decide +kernel
theorem dX0_placesOf_47 : decode cX0_placesOf 47 = .ok (.ireturn, 1) := by decide +kernel
theorem dX0_canReach_0 : decode cX0_canReach 0 = .ok (.aload_n 0, 1) := by decide +kernel
theorem dX0_canReach_1 : decode cX0_canReach 1 = .ok (.getfield 23, 3) := by decide +kernel
theorem dX0_canReach_4 : decode cX0_canReach 4 = .ok (.iload_n 1, 1) := by decide +kernel
theorem dX0_canReach_5 : decode cX0_canReach 5 = .ok (.iconst 1, 1) := by decide +kernel
theorem dX0_canReach_6 : decode cX0_canReach 6 = .ok (.invokevirtual 112, 3) := by decide +kernel
theorem dX0_canReach_9 : decode cX0_canReach 9 = .ok (.istore 4, 2) := by decide +kernel
theorem dX0_canReach_11 : decode cX0_canReach 11 = .ok (.aload_n 0, 1) := by decide +kernel
theorem dX0_canReach_12 : decode cX0_canReach 12 = .ok (.getfield 49, 3) := by decide +kernel
theorem dX0_canReach_15 : decode cX0_canReach 15 = .ok (.aload_n 0, 1) := by decide +kernel
theorem dX0_canReach_16 : decode cX0_canReach 16 = .ok (.getfield 23, 3) := by decide +kernel
theorem dX0_canReach_19 : decode cX0_canReach 19 = .ok (.iload_n 1, 1) := by decide +kernel
theorem dX0_canReach_20 : decode cX0_canReach 20 = .ok (.iconst 3, 1) := by decide +kernel
theorem dX0_canReach_21 : decode cX0_canReach 21 = .ok (.invokevirtual 112, 3) := by decide +kernel
theorem dX0_canReach_24 : decode cX0_canReach 24 = .ok (.isub, 1) := by decide +kernel
theorem dX0_canReach_25 : decode cX0_canReach 25 = .ok (.istore 5, 2) := by decide +kernel
theorem dX0_canReach_27 : decode cX0_canReach 27 = .ok (.aload_n 0, 1) := by decide +kernel
theorem dX0_canReach_28 : decode cX0_canReach 28 = .ok (.getfield 12, 3) := by decide +kernel
theorem dX0_canReach_31 : decode cX0_canReach 31 = .ok (.aload_n 0, 1) := by decide +kernel
theorem dX0_canReach_32 : decode cX0_canReach 32 = .ok (.getfield 23, 3) := by decide +kernel
theorem dX0_canReach_35 : decode cX0_canReach 35 = .ok (.iload_n 1, 1) := by decide +kernel
theorem dX0_canReach_36 : decode cX0_canReach 36 = .ok (.iconst 2, 1) := by decide +kernel
theorem dX0_canReach_37 : decode cX0_canReach 37 = .ok (.invokevirtual 112, 3) := by decide +kernel
theorem dX0_canReach_40 : decode cX0_canReach 40 = .ok (.iload_n 2, 1) := by decide +kernel
theorem dX0_canReach_41 : decode cX0_canReach 41 = .ok (.iload 4, 2) := by decide +kernel
theorem dX0_canReach_43 : decode cX0_canReach 43 = .ok (.iload 5, 2) := by decide +kernel
theorem dX0_canReach_45 : decode cX0_canReach 45 = .ok (.imul, 1) := by decide +kernel
theorem dX0_canReach_46 : decode cX0_canReach 46 = .ok (.invokevirtual 138, 3) := by decide +kernel
theorem dX0_canReach_49 : decode cX0_canReach 49 = .ok (.ifCond .ne 5, 3) := by decide +kernel
theorem dX0_canReach_52 : decode cX0_canReach 52 = .ok (.iconst 0, 1) := by decide +kernel
theorem dX0_canReach_53 : decode cX0_canReach 53 = .ok (.ireturn, 1) := by decide +kernel
theorem dX0_canReach_54 : decode cX0_canReach 54 = .ok (.iconst 0, 1) := by decide +kernel
theorem dX0_canReach_55 : decode cX0_canReach 55 = .ok (.istore 6, 2) := by decide +kernel
theorem dX0_canReach_57 : decode cX0_canReach 57 = .ok (.iload 6, 2) := by decide +kernel
theorem dX0_canReach_59 : decode cX0_canReach 59 = .ok (.aload_n 0, 1) := by decide +kernel
theorem dX0_canReach_60 : decode cX0_canReach 60 = .ok (.getfield 27, 3) := by decide +kernel
theorem dX0_canReach_63 : decode cX0_canReach 63 = .ok (.invokevirtual 87, 3) := by decide +kernel
theorem dX0_canReach_66 : decode cX0_canReach 66 = .ok (.if_icmp .ge 63, 3) := by decide +kernel
theorem dX0_canReach_69 : decode cX0_canReach 69 = .ok (.aload_n 0, 1) := by decide +kernel
theorem dX0_canReach_70 : decode cX0_canReach 70 = .ok (.getfield 49, 3) := by decide +kernel
theorem dX0_canReach_73 : decode cX0_canReach 73 = .ok (.aload_n 0, 1) := by decide +kernel
theorem dX0_canReach_74 : decode cX0_canReach 74 = .ok (.getfield 27, 3) := by decide +kernel
theorem dX0_canReach_77 : decode cX0_canReach 77 = .ok (.iload 6, 2) := by decide +kernel
theorem dX0_canReach_79 : decode cX0_canReach 79 = .ok (.iconst 2, 1) := by decide +kernel
theorem dX0_canReach_80 : decode cX0_canReach 80 = .ok (.invokevirtual 112, 3) := by decide +kernel
theorem dX0_canReach_83 : decode cX0_canReach 83 = .ok (.isub, 1) := by decide +kernel
theorem dX0_canReach_84 : decode cX0_canReach 84 = .ok (.istore 7, 2) := by decide +kernel
theorem dX0_canReach_86 : decode cX0_canReach 86 = .ok (.iload_n 3, 1) := by decide +kernel
theorem dX0_canReach_87 : decode cX0_canReach 87 = .ok (.iload 6, 2) := by decide +kernel
theorem dX0_canReach_89 : decode cX0_canReach 89 = .ok (.invokestatic 141, 3) := by decide +kernel
theorem dX0_canReach_92 : decode cX0_canReach 92 = .ok (.ifCond .eq 31, 3) := by decide +kernel
theorem dX0_canReach_95 : decode cX0_canReach 95 = .ok (.aload_n 0, 1) := by decide +kernel
theorem dX0_canReach_96 : decode cX0_canReach 96 = .ok (.getfield 12, 3) := by decide +kernel
theorem dX0_canReach_99 : decode cX0_canReach 99 = .ok (.aload_n 0, 1) := by decide +kernel
theorem dX0_canReach_100 : decode cX0_canReach 100 = .ok (.getfield 27, 3) := by decide +kernel
theorem dX0_canReach_103 : decode cX0_canReach 103 = .ok (.iload 6, 2) := by decide +kernel
theorem dX0_canReach_105 : decode cX0_canReach 105 = .ok (.iconst 1, 1) := by decide +kernel
theorem dX0_canReach_106 : decode cX0_canReach 106 = .ok (.invokevirtual 112, 3) := by decide +kernel
theorem dX0_canReach_109 : decode cX0_canReach 109 = .ok (.iload_n 2, 1) := by decide +kernel
theorem dX0_canReach_110 : decode cX0_canReach 110 = .ok (.iload 4, 2) := by decide +kernel
theorem dX0_canReach_112 : decode cX0_canReach 112 = .ok (.iload 7, 2) := by decide +kernel
theorem dX0_canReach_114 : decode cX0_canReach 114 = .ok (.imul, 1) := by decide +kernel
theorem dX0_canReach_115 : decode cX0_canReach 115 = .ok (.invokevirtual 138, 3) := by decide +kernel
theorem dX0_canReach_118 : decode cX0_canReach 118 = .ok (.ifCond .ne 5, 3) := by decide +kernel
theorem dX0_canReach_121 : decode cX0_canReach 121 = .ok (.iconst 0, 1) := by decide +kernel
theorem dX0_canReach_122 : decode cX0_canReach 122 = .ok (.ireturn, 1) := by decide +kernel
theorem dX0_canReach_123 : decode cX0_canReach 123 = .ok (.iinc 6 1, 3) := by decide +kernel
theorem dX0_canReach_126 : decode cX0_canReach 126 = .ok (.goto (-69), 3) := by decide +kernel
theorem dX0_canReach_129 : decode cX0_canReach 129 = .ok (.iconst 1, 1) := by decide +kernel
theorem dX0_canReach_130 : decode cX0_canReach 130 = .ok (.ireturn, 1) := by decide +kernel
theorem dX0_cornerToWatch_0 : decode cX0_cornerToWatch 0 = .ok (.aload_n 0, 1) := by decide +kernel
theorem dX0_cornerToWatch_1 : decode cX0_cornerToWatch 1 = .ok (.invokevirtual 91, 3) := by decide +kernel
theorem dX0_cornerToWatch_4 : decode cX0_cornerToWatch 4 = .ok (.ifCond .ne 5, 3) := by decide +kernel
theorem dX0_cornerToWatch_7 : decode cX0_cornerToWatch 7 = .ok (.iconst (-1), 1) := by decide +kernel
theorem dX0_cornerToWatch_8 : decode cX0_cornerToWatch 8 = .ok (.ireturn, 1) := by decide +kernel
theorem dX0_cornerToWatch_9 : decode cX0_cornerToWatch 9 = .ok (.iconst 0, 1) := by decide +kernel
theorem dX0_cornerToWatch_10 : decode cX0_cornerToWatch 10 = .ok (.istore_n 1, 1) := by decide +kernel
theorem dX0_cornerToWatch_11 : decode cX0_cornerToWatch 11 = .ok (.iload_n 1, 1) := by decide +kernel
theorem dX0_cornerToWatch_12 : decode cX0_cornerToWatch 12 = .ok (.aload_n 0, 1) := by decide +kernel
theorem dX0_cornerToWatch_13 : decode cX0_cornerToWatch 13 = .ok (.getfield 34, 3) := by decide +kernel
theorem dX0_cornerToWatch_16 : decode cX0_cornerToWatch 16 = .ok (.arraylength, 1) := by decide +kernel
theorem dX0_cornerToWatch_17 : decode cX0_cornerToWatch 17 = .ok (.if_icmp .ge 32, 3) := by decide +kernel
theorem dX0_cornerToWatch_20 : decode cX0_cornerToWatch 20 = .ok (.aload_n 0, 1) := by decide +kernel
theorem dX0_cornerToWatch_21 : decode cX0_cornerToWatch 21 = .ok (.getfield 34, 3) := by decide +kernel
theorem dX0_cornerToWatch_24 : decode cX0_cornerToWatch 24 = .ok (.iload_n 1, 1) := by decide +kernel
theorem dX0_cornerToWatch_25 : decode cX0_cornerToWatch 25 = .ok (.aload_n 0, 1) := by decide +kernel
theorem dX0_cornerToWatch_26 : decode cX0_cornerToWatch 26 = .ok (.iload_n 1, 1) := by decide +kernel
theorem dX0_cornerToWatch_27 : decode cX0_cornerToWatch 27 = .ok (.invokevirtual 127, 3) := by decide +kernel
theorem dX0_cornerToWatch_30 : decode cX0_cornerToWatch 30 = .ok (.ifCond .eq 11, 3) := by decide +kernel
theorem dX0_cornerToWatch_33 : decode cX0_cornerToWatch 33 = .ok (.aload_n 0, 1) := by decide +kernel
theorem dX0_cornerToWatch_34 : decode cX0_cornerToWatch 34 = .ok (.iload_n 1, 1) := by decide +kernel
theorem dX0_cornerToWatch_35 : decode cX0_cornerToWatch 35 = .ok (.invokevirtual 157, 3) := by decide +kernel
theorem dX0_cornerToWatch_38 : decode cX0_cornerToWatch 38 = .ok (.goto 4, 3) := by decide +kernel
theorem dX0_cornerToWatch_41 : decode cX0_cornerToWatch 41 = .ok (.iconst 0, 1) := by decide +kernel
theorem dX0_cornerToWatch_42 : decode cX0_cornerToWatch 42 = .ok (.iastore, 1) := by decide +kernel
theorem dX0_cornerToWatch_43 : decode cX0_cornerToWatch 43 = .ok (.iinc 1 1, 3) := by decide +kernel
theorem dX0_cornerToWatch_46 : decode cX0_cornerToWatch 46 = .ok (.goto (-35), 3) := by decide +kernel
theorem dX0_cornerToWatch_49 : decode cX0_cornerToWatch 49 = .ok (.iconst 0, 1) := by decide +kernel
theorem dX0_cornerToWatch_50 : decode cX0_cornerToWatch 50 = .ok (.istore_n 1, 1) := by decide +kernel
theorem dX0_cornerToWatch_51 : decode cX0_cornerToWatch 51 = .ok (.iconst 1, 1) := by decide +kernel
theorem dX0_cornerToWatch_52 : decode cX0_cornerToWatch 52 = .ok (.istore_n 2, 1) := by decide +kernel
theorem dX0_cornerToWatch_53 : decode cX0_cornerToWatch 53 = .ok (.iload_n 2, 1) := by decide +kernel
theorem dX0_cornerToWatch_54 : decode cX0_cornerToWatch 54 = .ok (.bipush 12, 2) := by decide +kernel
theorem dX0_cornerToWatch_56 : decode cX0_cornerToWatch 56 = .ok (.if_icmp .ge 44, 3) := by decide +kernel
theorem dX0_cornerToWatch_59 : decode cX0_cornerToWatch 59 = .ok (.aload_n 0, 1) := by decide +kernel
theorem dX0_cornerToWatch_60 : decode cX0_cornerToWatch 60 = .ok (.iload_n 2, 1) := by decide +kernel
theorem dX0_cornerToWatch_61 : decode cX0_cornerToWatch 61 = .ok (.invokevirtual 160, 3) := by decide +kernel
theorem dX0_cornerToWatch_64 : decode cX0_cornerToWatch 64 = .ok (.aload_n 0, 1) := by decide +kernel
theorem dX0_cornerToWatch_65 : decode cX0_cornerToWatch 65 = .ok (.iload_n 1, 1) := by decide +kernel
theorem dX0_cornerToWatch_66 : decode cX0_cornerToWatch 66 = .ok (.invokevirtual 160, 3) := by decide +kernel
theorem dX0_cornerToWatch_69 : decode cX0_cornerToWatch 69 = .ok (.isub, 1) := by decide +kernel
theorem dX0_cornerToWatch_70 : decode cX0_cornerToWatch 70 = .ok (.istore_n 3, 1) := by decide +kernel
theorem dX0_cornerToWatch_71 : decode cX0_cornerToWatch 71 = .ok (.iload_n 3, 1) := by decide +kernel
theorem dX0_cornerToWatch_72 : decode cX0_cornerToWatch 72 = .ok (.ifCond .gt 20, 3) := by decide +kernel
theorem dX0_cornerToWatch_75 : decode cX0_cornerToWatch 75 = .ok (.iload_n 3, 1) := by decide +kernel
theorem dX0_cornerToWatch_76 : decode cX0_cornerToWatch 76 = .ok (.ifCond .ne 18, 3) := by decide +kernel
theorem dX0_cornerToWatch_79 : decode cX0_cornerToWatch 79 = .ok (.aload_n 0, 1) := by decide +kernel
theorem dX0_cornerToWatch_80 : decode cX0_cornerToWatch 80 = .ok (.iload_n 2, 1) := by decide +kernel
theorem dX0_cornerToWatch_81 : decode cX0_cornerToWatch 81 = .ok (.invokevirtual 163, 3) := by decide +kernel
theorem dX0_cornerToWatch_84 : decode cX0_cornerToWatch 84 = .ok (.aload_n 0, 1) := by decide +kernel
theorem dX0_cornerToWatch_85 : decode cX0_cornerToWatch 85 = .ok (.iload_n 1, 1) := by decide +kernel
theorem dX0_cornerToWatch_86 : decode cX0_cornerToWatch 86 = .ok (.invokevirtual 163, 3) := by decide +kernel
theorem dX0_cornerToWatch_89 : decode cX0_cornerToWatch 89 = .ok (.if_icmp .le 5, 3) := by decide +kernel
theorem dX0_cornerToWatch_92 : decode cX0_cornerToWatch 92 = .ok (.iload_n 2, 1) := by decide +kernel
theorem dX0_cornerToWatch_93 : decode cX0_cornerToWatch 93 = .ok (.istore_n 1, 1) := by decide +kernel
theorem dX0_cornerToWatch_94 : decode cX0_cornerToWatch 94 = .ok (.iinc 2 1, 3) := by decide +kernel
theorem dX0_cornerToWatch_97 : decode cX0_cornerToWatch 97 = .ok (.goto (-44), 3) := by decide +kernel
theorem dX0_cornerToWatch_100 : decode cX0_cornerToWatch 100 = .ok (.iload_n 1, 1) := by decide +kernel
theorem dX0_cornerToWatch_101 : decode cX0_cornerToWatch 101 = .ok (.ireturn, 1) := by decide +kernel
theorem dX0_dogsAt_0 : decode cX0_dogsAt 0 = .ok (.iconst 0, 1) := by decide +kernel
theorem dX0_dogsAt_1 : decode cX0_dogsAt 1 = .ok (.istore_n 2, 1) := by decide +kernel
theorem dX0_dogsAt_2 : decode cX0_dogsAt 2 = .ok (.iconst 0, 1) := by decide +kernel
theorem dX0_dogsAt_3 : decode cX0_dogsAt 3 = .ok (.istore_n 3, 1) := by decide +kernel
theorem dX0_dogsAt_4 : decode cX0_dogsAt 4 = .ok (.iload_n 3, 1) := by decide +kernel
theorem dX0_dogsAt_5 : decode cX0_dogsAt 5 = .ok (.aload_n 0, 1) := by decide +kernel
theorem dX0_dogsAt_6 : decode cX0_dogsAt 6 = .ok (.getfield 34, 3) := by decide +kernel
theorem dX0_dogsAt_9 : decode cX0_dogsAt 9 = .ok (.arraylength, 1) := by decide +kernel
theorem dX0_dogsAt_10 : decode cX0_dogsAt 10 = .ok (.if_icmp .ge 22, 3) := by decide +kernel
theorem dX0_dogsAt_13 : decode cX0_dogsAt 13 = .ok (.iload_n 2, 1) := by decide +kernel
theorem dX0_dogsAt_14 : decode cX0_dogsAt 14 = .ok (.aload_n 0, 1) := by decide +kernel
theorem dX0_dogsAt_15 : decode cX0_dogsAt 15 = .ok (.getfield 34, 3) := by decide +kernel
theorem dX0_dogsAt_18 : decode cX0_dogsAt 18 = .ok (.iload_n 3, 1) := by decide +kernel
theorem dX0_dogsAt_19 : decode cX0_dogsAt 19 = .ok (.iaload, 1) := by decide +kernel
theorem dX0_dogsAt_20 : decode cX0_dogsAt 20 = .ok (.iload_n 1, 1) := by decide +kernel
theorem dX0_dogsAt_21 : decode cX0_dogsAt 21 = .ok (.ishr, 1) := by decide +kernel
theorem dX0_dogsAt_22 : decode cX0_dogsAt 22 = .ok (.iconst 1, 1) := by decide +kernel
theorem dX0_dogsAt_23 : decode cX0_dogsAt 23 = .ok (.iand, 1) := by decide +kernel
theorem dX0_dogsAt_24 : decode cX0_dogsAt 24 = .ok (.iadd, 1) := by decide +kernel
theorem dX0_dogsAt_25 : decode cX0_dogsAt 25 = .ok (.istore_n 2, 1) := by decide +kernel
theorem dX0_dogsAt_26 : decode cX0_dogsAt 26 = .ok (.iinc 3 1, 3) := by decide +kernel
theorem dX0_dogsAt_29 : decode cX0_dogsAt 29 = .ok (.goto (-25), 3) := by decide +kernel
theorem dX0_dogsAt_32 : decode cX0_dogsAt 32 = .ok (.iload_n 2, 1) := by decide +kernel
theorem dX0_dogsAt_33 : decode cX0_dogsAt 33 = .ok (.ireturn, 1) := by decide +kernel
theorem dX0_rewardsAt_0 : decode cX0_rewardsAt 0 = .ok (.iconst 0, 1) := by decide +kernel
theorem dX0_rewardsAt_1 : decode cX0_rewardsAt 1 = .ok (.istore_n 2, 1) := by decide +kernel
theorem dX0_rewardsAt_2 : decode cX0_rewardsAt 2 = .ok (.iconst 0, 1) := by decide +kernel
theorem dX0_rewardsAt_3 : decode cX0_rewardsAt 3 = .ok (.istore_n 3, 1) := by decide +kernel
theorem dX0_rewardsAt_4 : decode cX0_rewardsAt 4 = .ok (.iload_n 3, 1) := by decide +kernel
theorem dX0_rewardsAt_5 : decode cX0_rewardsAt 5 = .ok (.aload_n 0, 1) := by decide +kernel
theorem dX0_rewardsAt_6 : decode cX0_rewardsAt 6 = .ok (.getfield 34, 3) := by decide +kernel
theorem dX0_rewardsAt_9 : decode cX0_rewardsAt 9 = .ok (.arraylength, 1) := by decide +kernel
theorem dX0_rewardsAt_10 : decode cX0_rewardsAt 10 = .ok (.if_icmp .ge 38, 3) := by decide +kernel
theorem dX0_rewardsAt_13 : decode cX0_rewardsAt 13 = .ok (.iload_n 2, 1) := by decide +kernel
theorem dX0_rewardsAt_14 : decode cX0_rewardsAt 14 = .ok (.aload_n 0, 1) := by decide +kernel
theorem dX0_rewardsAt_15 : decode cX0_rewardsAt 15 = .ok (.getfield 34, 3) := by decide +kernel
theorem dX0_rewardsAt_18 : decode cX0_rewardsAt 18 = .ok (.iload_n 3, 1) := by decide +kernel
theorem dX0_rewardsAt_19 : decode cX0_rewardsAt 19 = .ok (.iaload, 1) := by decide +kernel
theorem dX0_rewardsAt_20 : decode cX0_rewardsAt 20 = .ok (.iload_n 1, 1) := by decide +kernel
theorem dX0_rewardsAt_21 : decode cX0_rewardsAt 21 = .ok (.invokestatic 141, 3) := by decide +kernel
theorem dX0_rewardsAt_24 : decode cX0_rewardsAt 24 = .ok (.ifCond .eq 15, 3) := by decide +kernel
theorem dX0_rewardsAt_27 : decode cX0_rewardsAt 27 = .ok (.aload_n 0, 1) := by decide +kernel
theorem dX0_rewardsAt_28 : decode cX0_rewardsAt 28 = .ok (.getfield 23, 3) := by decide +kernel
theorem dX0_rewardsAt_31 : decode cX0_rewardsAt 31 = .ok (.iload_n 3, 1) := by decide +kernel
theorem dX0_rewardsAt_32 : decode cX0_rewardsAt 32 = .ok (.iconst 4, 1) := by decide +kernel
theorem dX0_rewardsAt_33 : decode cX0_rewardsAt 33 = .ok (.invokevirtual 112, 3) := by decide +kernel
theorem dX0_rewardsAt_36 : decode cX0_rewardsAt 36 = .ok (.goto 4, 3) := by decide +kernel
theorem dX0_rewardsAt_39 : decode cX0_rewardsAt 39 = .ok (.iconst 0, 1) := by decide +kernel
theorem dX0_rewardsAt_40 : decode cX0_rewardsAt 40 = .ok (.iadd, 1) := by decide +kernel
theorem dX0_rewardsAt_41 : decode cX0_rewardsAt 41 = .ok (.istore_n 2, 1) := by decide +kernel
theorem dX0_rewardsAt_42 : decode cX0_rewardsAt 42 = .ok (.iinc 3 1, 3) := by decide +kernel
theorem dX0_rewardsAt_45 : decode cX0_rewardsAt 45 = .ok (.goto (-41), 3) := by decide +kernel
theorem dX0_rewardsAt_48 : decode cX0_rewardsAt 48 = .ok (.iload_n 2, 1) := by decide +kernel
theorem dX0_rewardsAt_49 : decode cX0_rewardsAt 49 = .ok (.ireturn, 1) := by decide +kernel
theorem dX0_faultOfLosing_0 : decode cX0_faultOfLosing 0 = .ok (.iload_n 3, 1) := by decide +kernel
theorem dX0_faultOfLosing_1 : decode cX0_faultOfLosing 1 = .ok (.invokestatic 166, 3) := by decide +kernel
theorem dX0_faultOfLosing_4 : decode cX0_faultOfLosing 4 = .ok (.ifCond .ne 5, 3) := by decide +kernel
theorem dX0_faultOfLosing_7 : decode cX0_faultOfLosing 7 = .ok (.iconst 1, 1) := by decide +kernel
theorem dX0_faultOfLosing_8 : decode cX0_faultOfLosing 8 = .ok (.ireturn, 1) := by decide +kernel
theorem dX0_faultOfLosing_9 : decode cX0_faultOfLosing 9 = .ok (.iload_n 1, 1) := by decide +kernel
theorem dX0_faultOfLosing_10 : decode cX0_faultOfLosing 10 = .ok (.iconst 1, 1) := by decide +kernel
theorem dX0_faultOfLosing_11 : decode cX0_faultOfLosing 11 = .ok (.sipush 255, 3) := by decide +kernel
theorem dX0_faultOfLosing_14 : decode cX0_faultOfLosing 14 = .ok (.invokestatic 169, 3) := by decide +kernel
theorem dX0_faultOfLosing_17 : decode cX0_faultOfLosing 17 = .ok (.ifCond .eq 24, 3) := by decide +kernel
theorem dX0_faultOfLosing_20 : decode cX0_faultOfLosing 20 = .ok (.iload_n 2, 1) := by decide +kernel
theorem dX0_faultOfLosing_21 : decode cX0_faultOfLosing 21 = .ok (.iconst 1, 1) := by decide +kernel
theorem dX0_faultOfLosing_22 : decode cX0_faultOfLosing 22 = .ok (.iconst 3, 1) := by decide +kernel
theorem dX0_faultOfLosing_23 : decode cX0_faultOfLosing 23 = .ok (.invokestatic 169, 3) := by decide +kernel
theorem dX0_faultOfLosing_26 : decode cX0_faultOfLosing 26 = .ok (.ifCond .eq 15, 3) := by decide +kernel
theorem dX0_faultOfLosing_29 : decode cX0_faultOfLosing 29 = .ok (.iload 4, 2) := by decide +kernel
theorem dX0_faultOfLosing_31 : decode cX0_faultOfLosing 31 = .ok (.iconst 1, 1) := by decide +kernel
theorem dX0_faultOfLosing_32 : decode cX0_faultOfLosing 32 = .ok (.sipush 500, 3) := by decide +kernel
theorem dX0_faultOfLosing_35 : decode cX0_faultOfLosing 35 = .ok (.invokestatic 169, 3) := by decide +kernel
theorem dX0_faultOfLosing_38 : decode cX0_faultOfLosing 38 = .ok (.ifCond .ne 5, 3) := by decide +kernel
theorem dX0_faultOfLosing_41 : decode cX0_faultOfLosing 41 = .ok (.iconst 2, 1) := by decide +kernel
theorem dX0_faultOfLosing_42 : decode cX0_faultOfLosing 42 = .ok (.ireturn, 1) := by decide +kernel
theorem dX0_faultOfLosing_43 : decode cX0_faultOfLosing 43 = .ok (.aload_n 0, 1) := by decide +kernel
theorem dX0_faultOfLosing_44 : decode cX0_faultOfLosing 44 = .ok (.getfield 23, 3) := by decide +kernel
theorem dX0_faultOfLosing_47 : decode cX0_faultOfLosing 47 = .ok (.invokevirtual 172, 3) := by decide +kernel
theorem dX0_faultOfLosing_50 : decode cX0_faultOfLosing 50 = .ok (.ifCond .eq 7, 3) := by decide +kernel
theorem dX0_faultOfLosing_53 : decode cX0_faultOfLosing 53 = .ok (.iconst 3, 1) := by decide +kernel
theorem dX0_faultOfLosing_54 : decode cX0_faultOfLosing 54 = .ok (.goto 4, 3) := by decide +kernel
theorem dX0_faultOfLosing_57 : decode cX0_faultOfLosing 57 = .ok (.iconst 0, 1) := by decide +kernel
theorem dX0_faultOfLosing_58 : decode cX0_faultOfLosing 58 = .ok (.ireturn, 1) := by decide +kernel
theorem dX0_loseDog_0 : decode cX0_loseDog 0 = .ok (.aload_n 0, 1) := by decide +kernel
theorem dX0_loseDog_1 : decode cX0_loseDog 1 = .ok (.iload_n 1, 1) := by decide +kernel
theorem dX0_loseDog_2 : decode cX0_loseDog 2 = .ok (.iload_n 2, 1) := by decide +kernel
theorem dX0_loseDog_3 : decode cX0_loseDog 3 = .ok (.iload_n 3, 1) := by decide +kernel
theorem dX0_loseDog_4 : decode cX0_loseDog 4 = .ok (.iload 4, 2) := by decide +kernel
theorem dX0_loseDog_6 : decode cX0_loseDog 6 = .ok (.invokevirtual 176, 3) := by decide +kernel
theorem dX0_loseDog_9 : decode cX0_loseDog 9 = .ok (.ifCond .eq 6, 3) := by decide +kernel
theorem dX0_loseDog_12 : decode cX0_loseDog 12 = .ok (.bipush (-2), 2) := by decide +kernel
theorem dX0_loseDog_14 : decode cX0_loseDog 14 = .ok (.ireturn, 1) := by decide +kernel
theorem dX0_loseDog_15 : decode cX0_loseDog 15 = .ok (.aload_n 0, 1) := by decide +kernel
theorem dX0_loseDog_16 : decode cX0_loseDog 16 = .ok (.getfield 23, 3) := by decide +kernel
theorem dX0_loseDog_19 : decode cX0_loseDog 19 = .ok (.invokevirtual 180, 3) := by decide +kernel
theorem dX0_loseDog_22 : decode cX0_loseDog 22 = .ok (.istore 5, 2) := by decide +kernel
theorem dX0_loseDog_24 : decode cX0_loseDog 24 = .ok (.aload_n 0, 1) := by decide +kernel
theorem dX0_loseDog_25 : decode cX0_loseDog 25 = .ok (.getfield 23, 3) := by decide +kernel
theorem dX0_loseDog_28 : decode cX0_loseDog 28 = .ok (.iload 5, 2) := by decide +kernel
theorem dX0_loseDog_30 : decode cX0_loseDog 30 = .ok (.iconst 0, 1) := by decide +kernel
theorem dX0_loseDog_31 : decode cX0_loseDog 31 = .ok (.iload_n 1, 1) := by decide +kernel
theorem dX0_loseDog_32 : decode cX0_loseDog 32 = .ok (.invokevirtual 183, 3) := by decide +kernel
theorem dX0_loseDog_35 : decode cX0_loseDog 35 = .ok (.aload_n 0, 1) := by decide +kernel
theorem dX0_loseDog_36 : decode cX0_loseDog 36 = .ok (.getfield 23, 3) := by decide +kernel
theorem dX0_loseDog_39 : decode cX0_loseDog 39 = .ok (.iload 5, 2) := by decide +kernel
theorem dX0_loseDog_41 : decode cX0_loseDog 41 = .ok (.iconst 1, 1) := by decide +kernel
theorem dX0_loseDog_42 : decode cX0_loseDog 42 = .ok (.iload_n 2, 1) := by decide +kernel
theorem dX0_loseDog_43 : decode cX0_loseDog 43 = .ok (.invokevirtual 183, 3) := by decide +kernel
theorem dX0_loseDog_46 : decode cX0_loseDog 46 = .ok (.aload_n 0, 1) := by decide +kernel
theorem dX0_loseDog_47 : decode cX0_loseDog 47 = .ok (.getfield 23, 3) := by decide +kernel
theorem dX0_loseDog_50 : decode cX0_loseDog 50 = .ok (.iload 5, 2) := by decide +kernel
theorem dX0_loseDog_52 : decode cX0_loseDog 52 = .ok (.iconst 2, 1) := by decide +kernel
theorem dX0_loseDog_53 : decode cX0_loseDog 53 = .ok (.iload_n 3, 1) := by decide +kernel
theorem dX0_loseDog_54 : decode cX0_loseDog 54 = .ok (.invokevirtual 183, 3) := by decide +kernel
theorem dX0_loseDog_57 : decode cX0_loseDog 57 = .ok (.aload_n 0, 1) := by decide +kernel
theorem dX0_loseDog_58 : decode cX0_loseDog 58 = .ok (.getfield 23, 3) := by decide +kernel
theorem dX0_loseDog_61 : decode cX0_loseDog 61 = .ok (.iload 5, 2) := by decide +kernel
theorem dX0_loseDog_63 : decode cX0_loseDog 63 = .ok (.iconst 3, 1) := by decide +kernel
theorem dX0_loseDog_64 : decode cX0_loseDog 64 = .ok (.aload_n 0, 1) := by decide +kernel
theorem dX0_loseDog_65 : decode cX0_loseDog 65 = .ok (.getfield 49, 3) := by decide +kernel
theorem dX0_loseDog_68 : decode cX0_loseDog 68 = .ok (.invokevirtual 183, 3) := by decide +kernel
theorem dX0_loseDog_71 : decode cX0_loseDog 71 = .ok (.aload_n 0, 1) := by decide +kernel
theorem dX0_loseDog_72 : decode cX0_loseDog 72 = .ok (.getfield 23, 3) := by decide +kernel
theorem dX0_loseDog_75 : decode cX0_loseDog 75 = .ok (.iload 5, 2) := by decide +kernel
theorem dX0_loseDog_77 : decode cX0_loseDog 77 = .ok (.iconst 4, 1) := by decide +kernel
theorem dX0_loseDog_78 : decode cX0_loseDog 78 = .ok (.iload 4, 2) := by decide +kernel
theorem dX0_loseDog_80 : decode cX0_loseDog 80 = .ok (.invokevirtual 183, 3) := by decide +kernel
theorem dX0_loseDog_83 : decode cX0_loseDog 83 = .ok (.aload_n 0, 1) := by decide +kernel
theorem dX0_loseDog_84 : decode cX0_loseDog 84 = .ok (.getfield 23, 3) := by decide +kernel
theorem dX0_loseDog_87 : decode cX0_loseDog 87 = .ok (.iload 5, 2) := by decide +kernel
theorem dX0_loseDog_89 : decode cX0_loseDog 89 = .ok (.iconst 5, 1) := by decide +kernel
theorem dX0_loseDog_90 : decode cX0_loseDog 90 = .ok (.iconst 1, 1) := by decide +kernel
theorem dX0_loseDog_91 : decode cX0_loseDog 91 = .ok (.invokevirtual 183, 3) := by decide +kernel
theorem dX0_loseDog_94 : decode cX0_loseDog 94 = .ok (.aload_n 0, 1) := by decide +kernel
theorem dX0_loseDog_95 : decode cX0_loseDog 95 = .ok (.getfield 23, 3) := by decide +kernel
theorem dX0_loseDog_98 : decode cX0_loseDog 98 = .ok (.iload 5, 2) := by decide +kernel
theorem dX0_loseDog_100 : decode cX0_loseDog 100 = .ok (.bipush 6, 2) := by decide +kernel
theorem dX0_loseDog_102 : decode cX0_loseDog 102 = .ok (.iconst (-1), 1) := by decide +kernel
theorem dX0_loseDog_103 : decode cX0_loseDog 103 = .ok (.invokevirtual 183, 3) := by decide +kernel
theorem dX0_loseDog_106 : decode cX0_loseDog 106 = .ok (.aload_n 0, 1) := by decide +kernel
theorem dX0_loseDog_107 : decode cX0_loseDog 107 = .ok (.getfield 23, 3) := by decide +kernel
theorem dX0_loseDog_110 : decode cX0_loseDog 110 = .ok (.iload 5, 2) := by decide +kernel
theorem dX0_loseDog_112 : decode cX0_loseDog 112 = .ok (.bipush 7, 2) := by decide +kernel
theorem dX0_loseDog_114 : decode cX0_loseDog 114 = .ok (.iconst (-1), 1) := by decide +kernel
theorem dX0_loseDog_115 : decode cX0_loseDog 115 = .ok (.invokevirtual 183, 3) := by decide +kernel
theorem dX0_loseDog_118 : decode cX0_loseDog 118 = .ok (.aload_n 0, 1) := by decide +kernel
theorem dX0_loseDog_119 : decode cX0_loseDog 119 = .ok (.getfield 23, 3) := by decide +kernel
theorem dX0_loseDog_122 : decode cX0_loseDog 122 = .ok (.iload 5, 2) := by decide +kernel
theorem dX0_loseDog_124 : decode cX0_loseDog 124 = .ok (.bipush 8, 2) := by decide +kernel
theorem dX0_loseDog_126 : decode cX0_loseDog 126 = .ok (.iconst (-1), 1) := by decide +kernel
theorem dX0_loseDog_127 : decode cX0_loseDog 127 = .ok (.invokevirtual 183, 3) := by decide +kernel
theorem dX0_loseDog_130 : decode cX0_loseDog 130 = .ok (.aload_n 0, 1) := by decide +kernel
theorem dX0_loseDog_131 : decode cX0_loseDog 131 = .ok (.dup, 1) := by decide +kernel
theorem dX0_loseDog_132 : decode cX0_loseDog 132 = .ok (.getfield 53, 3) := by decide +kernel
theorem dX0_loseDog_135 : decode cX0_loseDog 135 = .ok (.iload 4, 2) := by decide +kernel
theorem dX0_loseDog_137 : decode cX0_loseDog 137 = .ok (.iadd, 1) := by decide +kernel
theorem dX0_loseDog_138 : decode cX0_loseDog 138 = .ok (.putfield 53, 3) := by decide +kernel
theorem dX0_loseDog_141 : decode cX0_loseDog 141 = .ok (.iload 5, 2) := by decide +kernel
theorem dX0_loseDog_143 : decode cX0_loseDog 143 = .ok (.ireturn, 1) := by decide +kernel
theorem dX0_faultOfTelling_0 : decode cX0_faultOfTelling 0 = .ok (.iload_n 1, 1) := by decide +kernel
theorem dX0_faultOfTelling_1 : decode cX0_faultOfTelling 1 = .ok (.invokestatic 187, 3) := by decide +kernel
theorem dX0_faultOfTelling_4 : decode cX0_faultOfTelling 4 = .ok (.ifCond .eq 10, 3) := by decide +kernel
theorem dX0_faultOfTelling_7 : decode cX0_faultOfTelling 7 = .ok (.iload_n 2, 1) := by decide +kernel
theorem dX0_faultOfTelling_8 : decode cX0_faultOfTelling 8 = .ok (.invokestatic 166, 3) := by decide +kernel
theorem dX0_faultOfTelling_11 : decode cX0_faultOfTelling 11 = .ok (.ifCond .ne 5, 3) := by decide +kernel
theorem dX0_faultOfTelling_14 : decode cX0_faultOfTelling 14 = .ok (.iconst 1, 1) := by decide +kernel
theorem dX0_faultOfTelling_15 : decode cX0_faultOfTelling 15 = .ok (.ireturn, 1) := by decide +kernel
theorem dX0_faultOfTelling_16 : decode cX0_faultOfTelling 16 = .ok (.iload_n 3, 1) := by decide +kernel
theorem dX0_faultOfTelling_17 : decode cX0_faultOfTelling 17 = .ok (.iconst 0, 1) := by decide +kernel
theorem dX0_faultOfTelling_18 : decode cX0_faultOfTelling 18 = .ok (.sipush 255, 3) := by decide +kernel
theorem dX0_faultOfTelling_21 : decode cX0_faultOfTelling 21 = .ok (.invokestatic 169, 3) := by decide +kernel
theorem dX0_faultOfTelling_24 : decode cX0_faultOfTelling 24 = .ok (.ifCond .eq 23, 3) := by decide +kernel
theorem dX0_faultOfTelling_27 : decode cX0_faultOfTelling 27 = .ok (.iload 4, 2) := by decide +kernel
theorem dX0_faultOfTelling_29 : decode cX0_faultOfTelling 29 = .ok (.iconst 0, 1) := by decide +kernel
theorem dX0_faultOfTelling_30 : decode cX0_faultOfTelling 30 = .ok (.bipush 99, 2) := by decide +kernel
theorem dX0_faultOfTelling_32 : decode cX0_faultOfTelling 32 = .ok (.invokestatic 169, 3) := by decide +kernel
theorem dX0_faultOfTelling_35 : decode cX0_faultOfTelling 35 = .ok (.ifCond .eq 12, 3) := by decide +kernel
theorem dX0_faultOfTelling_38 : decode cX0_faultOfTelling 38 = .ok (.iload 4, 2) := by decide +kernel
theorem dX0_faultOfTelling_40 : decode cX0_faultOfTelling 40 = .ok (.aload_n 0, 1) := by decide +kernel
theorem dX0_faultOfTelling_41 : decode cX0_faultOfTelling 41 = .ok (.getfield 49, 3) := by decide +kernel
theorem dX0_faultOfTelling_44 : decode cX0_faultOfTelling 44 = .ok (.if_icmp .le 5, 3) := by decide +kernel
theorem dX0_faultOfTelling_47 : decode cX0_faultOfTelling 47 = .ok (.iconst 2, 1) := by decide +kernel
theorem dX0_faultOfTelling_48 : decode cX0_faultOfTelling 48 = .ok (.ireturn, 1) := by decide +kernel
theorem dX0_faultOfTelling_49 : decode cX0_faultOfTelling 49 = .ok (.aload_n 0, 1) := by decide +kernel
theorem dX0_faultOfTelling_50 : decode cX0_faultOfTelling 50 = .ok (.getfield 27, 3) := by decide +kernel
theorem dX0_faultOfTelling_53 : decode cX0_faultOfTelling 53 = .ok (.invokevirtual 172, 3) := by decide +kernel
theorem dX0_faultOfTelling_56 : decode cX0_faultOfTelling 56 = .ok (.ifCond .eq 7, 3) := by decide +kernel
theorem dX0_faultOfTelling_59 : decode cX0_faultOfTelling 59 = .ok (.iconst 3, 1) := by decide +kernel
theorem dX0_faultOfTelling_60 : decode cX0_faultOfTelling 60 = .ok (.goto 4, 3) := by decide +kernel
theorem dX0_faultOfTelling_63 : decode cX0_faultOfTelling 63 = .ok (.iconst 0, 1) := by decide +kernel
theorem dX0_faultOfTelling_64 : decode cX0_faultOfTelling 64 = .ok (.ireturn, 1) := by decide +kernel
theorem dX0_tellSighting_0 : decode cX0_tellSighting 0 = .ok (.aload_n 0, 1) := by decide +kernel
theorem dX0_tellSighting_1 : decode cX0_tellSighting 1 = .ok (.iload_n 1, 1) := by decide +kernel
theorem dX0_tellSighting_2 : decode cX0_tellSighting 2 = .ok (.iload_n 2, 1) := by decide +kernel
theorem dX0_tellSighting_3 : decode cX0_tellSighting 3 = .ok (.iload_n 3, 1) := by decide +kernel
theorem dX0_tellSighting_4 : decode cX0_tellSighting 4 = .ok (.iload 4, 2) := by decide +kernel
theorem dX0_tellSighting_6 : decode cX0_tellSighting 6 = .ok (.invokevirtual 190, 3) := by decide +kernel
theorem dX0_tellSighting_9 : decode cX0_tellSighting 9 = .ok (.ifCond .eq 6, 3) := by decide +kernel
theorem dX0_tellSighting_12 : decode cX0_tellSighting 12 = .ok (.bipush (-2), 2) := by decide +kernel
theorem dX0_tellSighting_14 : decode cX0_tellSighting 14 = .ok (.ireturn, 1) := by decide +kernel
theorem dX0_tellSighting_15 : decode cX0_tellSighting 15 = .ok (.aload_n 0, 1) := by decide +kernel
theorem dX0_tellSighting_16 : decode cX0_tellSighting 16 = .ok (.iload_n 3, 1) := by decide +kernel
theorem dX0_tellSighting_17 : decode cX0_tellSighting 17 = .ok (.aload_n 0, 1) := by decide +kernel
theorem dX0_tellSighting_18 : decode cX0_tellSighting 18 = .ok (.getfield 49, 3) := by decide +kernel
theorem dX0_tellSighting_21 : decode cX0_tellSighting 21 = .ok (.iload 4, 2) := by decide +kernel
theorem dX0_tellSighting_23 : decode cX0_tellSighting 23 = .ok (.isub, 1) := by decide +kernel
theorem dX0_tellSighting_24 : decode cX0_tellSighting 24 = .ok (.invokevirtual 193, 3) := by decide +kernel
theorem dX0_tellSighting_27 : decode cX0_tellSighting 27 = .ok (.istore 6, 2) := by decide +kernel
theorem dX0_tellSighting_29 : decode cX0_tellSighting 29 = .ok (.aload_n 0, 1) := by decide +kernel
theorem dX0_tellSighting_30 : decode cX0_tellSighting 30 = .ok (.getfield 27, 3) := by decide +kernel
theorem dX0_tellSighting_33 : decode cX0_tellSighting 33 = .ok (.invokevirtual 180, 3) := by decide +kernel
theorem dX0_tellSighting_36 : decode cX0_tellSighting 36 = .ok (.istore 7, 2) := by decide +kernel
theorem dX0_tellSighting_38 : decode cX0_tellSighting 38 = .ok (.aload_n 0, 1) := by decide +kernel
theorem dX0_tellSighting_39 : decode cX0_tellSighting 39 = .ok (.getfield 27, 3) := by decide +kernel
theorem dX0_tellSighting_42 : decode cX0_tellSighting 42 = .ok (.iload 7, 2) := by decide +kernel
theorem dX0_tellSighting_44 : decode cX0_tellSighting 44 = .ok (.iconst 0, 1) := by decide +kernel
theorem dX0_tellSighting_45 : decode cX0_tellSighting 45 = .ok (.iload_n 1, 1) := by decide +kernel
theorem dX0_tellSighting_46 : decode cX0_tellSighting 46 = .ok (.invokevirtual 183, 3) := by decide +kernel
theorem dX0_tellSighting_49 : decode cX0_tellSighting 49 = .ok (.aload_n 0, 1) := by decide +kernel
theorem dX0_tellSighting_50 : decode cX0_tellSighting 50 = .ok (.getfield 27, 3) := by decide +kernel
theorem dX0_tellSighting_53 : decode cX0_tellSighting 53 = .ok (.iload 7, 2) := by decide +kernel
theorem dX0_tellSighting_55 : decode cX0_tellSighting 55 = .ok (.iconst 1, 1) := by decide +kernel
theorem dX0_tellSighting_56 : decode cX0_tellSighting 56 = .ok (.iload_n 2, 1) := by decide +kernel
theorem dX0_tellSighting_57 : decode cX0_tellSighting 57 = .ok (.invokevirtual 183, 3) := by decide +kernel
theorem dX0_tellSighting_60 : decode cX0_tellSighting 60 = .ok (.aload_n 0, 1) := by decide +kernel
theorem dX0_tellSighting_61 : decode cX0_tellSighting 61 = .ok (.getfield 27, 3) := by decide +kernel
theorem dX0_tellSighting_64 : decode cX0_tellSighting 64 = .ok (.iload 7, 2) := by decide +kernel
theorem dX0_tellSighting_66 : decode cX0_tellSighting 66 = .ok (.iconst 2, 1) := by decide +kernel
theorem dX0_tellSighting_67 : decode cX0_tellSighting 67 = .ok (.aload_n 0, 1) := by decide +kernel
theorem dX0_tellSighting_68 : decode cX0_tellSighting 68 = .ok (.getfield 49, 3) := by decide +kernel
theorem dX0_tellSighting_71 : decode cX0_tellSighting 71 = .ok (.iload 4, 2) := by decide +kernel
theorem dX0_tellSighting_73 : decode cX0_tellSighting 73 = .ok (.isub, 1) := by decide +kernel
theorem dX0_tellSighting_74 : decode cX0_tellSighting 74 = .ok (.invokevirtual 183, 3) := by decide +kernel
theorem dX0_tellSighting_77 : decode cX0_tellSighting 77 = .ok (.aload_n 0, 1) := by decide +kernel
theorem dX0_tellSighting_78 : decode cX0_tellSighting 78 = .ok (.getfield 27, 3) := by decide +kernel
theorem dX0_tellSighting_81 : decode cX0_tellSighting 81 = .ok (.iload 7, 2) := by decide +kernel
theorem dX0_tellSighting_83 : decode cX0_tellSighting 83 = .ok (.iconst 3, 1) := by decide +kernel
theorem dX0_tellSighting_84 : decode cX0_tellSighting 84 = .ok (.iload_n 3, 1) := by decide +kernel
theorem dX0_tellSighting_85 : decode cX0_tellSighting 85 = .ok (.invokevirtual 183, 3) := by decide +kernel
theorem dX0_tellSighting_88 : decode cX0_tellSighting 88 = .ok (.aload_n 0, 1) := by decide +kernel
theorem dX0_tellSighting_89 : decode cX0_tellSighting 89 = .ok (.getfield 27, 3) := by decide +kernel
theorem dX0_tellSighting_92 : decode cX0_tellSighting 92 = .ok (.iload 7, 2) := by decide +kernel
theorem dX0_tellSighting_94 : decode cX0_tellSighting 94 = .ok (.iconst 4, 1) := by decide +kernel
theorem dX0_tellSighting_95 : decode cX0_tellSighting 95 = .ok (.iload 5, 2) := by decide +kernel
theorem dX0_tellSighting_97 : decode cX0_tellSighting 97 = .ok (.ifCond .eq 7, 3) := by decide +kernel
theorem dX0_tellSighting_100 : decode cX0_tellSighting 100 = .ok (.iconst 1, 1) := by decide +kernel
theorem dX0_tellSighting_101 : decode cX0_tellSighting 101 = .ok (.goto 4, 3) := by decide +kernel
theorem dX0_tellSighting_104 : decode cX0_tellSighting 104 = .ok (.iconst 0, 1) := by decide +kernel
theorem dX0_tellSighting_105 : decode cX0_tellSighting 105 = .ok (.invokevirtual 183, 3) := by decide +kernel
theorem dX0_tellSighting_108 : decode cX0_tellSighting 108 = .ok (.aload_n 0, 1) := by decide +kernel
theorem dX0_tellSighting_109 : decode cX0_tellSighting 109 = .ok (.getfield 27, 3) := by decide +kernel
theorem dX0_tellSighting_112 : decode cX0_tellSighting 112 = .ok (.iload 7, 2) := by decide +kernel
theorem dX0_tellSighting_114 : decode cX0_tellSighting 114 = .ok (.iconst 5, 1) := by decide +kernel
theorem dX0_tellSighting_115 : decode cX0_tellSighting 115 = .ok (.iload 6, 2) := by decide +kernel
theorem dX0_tellSighting_117 : decode cX0_tellSighting 117 = .ok (.invokevirtual 183, 3) := by decide +kernel
theorem dX0_tellSighting_120 : decode cX0_tellSighting 120 = .ok (.iload 6, 2) := by decide +kernel
theorem dX0_tellSighting_122 : decode cX0_tellSighting 122 = .ok (.ireturn, 1) := by decide +kernel
theorem dX0_faultOfFinding_0 : decode cX0_faultOfFinding 0 = .ok (.iload_n 2, 1) := by decide +kernel
theorem dX0_faultOfFinding_1 : decode cX0_faultOfFinding 1 = .ok (.invokestatic 187, 3) := by decide +kernel
theorem dX0_faultOfFinding_4 : decode cX0_faultOfFinding 4 = .ok (.ifCond .eq 18, 3) := by decide +kernel
theorem dX0_faultOfFinding_7 : decode cX0_faultOfFinding 7 = .ok (.iload_n 3, 1) := by decide +kernel
theorem dX0_faultOfFinding_8 : decode cX0_faultOfFinding 8 = .ok (.invokestatic 166, 3) := by decide +kernel
theorem dX0_faultOfFinding_11 : decode cX0_faultOfFinding 11 = .ok (.ifCond .eq 11, 3) := by decide +kernel
theorem dX0_faultOfFinding_14 : decode cX0_faultOfFinding 14 = .ok (.aload_n 0, 1) := by decide +kernel
theorem dX0_faultOfFinding_15 : decode cX0_faultOfFinding 15 = .ok (.iload_n 1, 1) := by decide +kernel
theorem dX0_faultOfFinding_16 : decode cX0_faultOfFinding 16 = .ok (.invokevirtual 196, 3) := by decide +kernel
theorem dX0_faultOfFinding_19 : decode cX0_faultOfFinding 19 = .ok (.goto 4, 3) := by decide +kernel
theorem dX0_faultOfFinding_22 : decode cX0_faultOfFinding 22 = .ok (.iconst 1, 1) := by decide +kernel
theorem dX0_faultOfFinding_23 : decode cX0_faultOfFinding 23 = .ok (.ireturn, 1) := by decide +kernel
theorem dX0_findDog_0 : decode cX0_findDog 0 = .ok (.aload_n 0, 1) := by decide +kernel
theorem dX0_findDog_1 : decode cX0_findDog 1 = .ok (.iload_n 1, 1) := by decide +kernel
theorem dX0_findDog_2 : decode cX0_findDog 2 = .ok (.iload_n 2, 1) := by decide +kernel
theorem dX0_findDog_3 : decode cX0_findDog 3 = .ok (.iload_n 3, 1) := by decide +kernel
theorem dX0_findDog_4 : decode cX0_findDog 4 = .ok (.invokevirtual 199, 3) := by decide +kernel
theorem dX0_findDog_7 : decode cX0_findDog 7 = .ok (.ifCond .eq 6, 3) := by decide +kernel
theorem dX0_findDog_10 : decode cX0_findDog 10 = .ok (.bipush (-2), 2) := by decide +kernel
theorem dX0_findDog_12 : decode cX0_findDog 12 = .ok (.ireturn, 1) := by decide +kernel
theorem dX0_findDog_13 : decode cX0_findDog 13 = .ok (.aload_n 0, 1) := by decide +kernel
theorem dX0_findDog_14 : decode cX0_findDog 14 = .ok (.iload_n 1, 1) := by decide +kernel
theorem dX0_findDog_15 : decode cX0_findDog 15 = .ok (.invokevirtual 121, 3) := by decide +kernel
theorem dX0_findDog_18 : decode cX0_findDog 18 = .ok (.istore 4, 2) := by decide +kernel
theorem dX0_findDog_20 : decode cX0_findDog 20 = .ok (.aload_n 0, 1) := by decide +kernel
theorem dX0_findDog_21 : decode cX0_findDog 21 = .ok (.iload_n 1, 1) := by decide +kernel
theorem dX0_findDog_22 : decode cX0_findDog 22 = .ok (.invokevirtual 124, 3) := by decide +kernel
theorem dX0_findDog_25 : decode cX0_findDog 25 = .ok (.istore 5, 2) := by decide +kernel
theorem dX0_findDog_27 : decode cX0_findDog 27 = .ok (.aload_n 0, 1) := by decide +kernel
theorem dX0_findDog_28 : decode cX0_findDog 28 = .ok (.iload_n 1, 1) := by decide +kernel
theorem dX0_findDog_29 : decode cX0_findDog 29 = .ok (.invokevirtual 100, 3) := by decide +kernel
theorem dX0_findDog_32 : decode cX0_findDog 32 = .ok (.iload 5, 2) := by decide +kernel
theorem dX0_findDog_34 : decode cX0_findDog 34 = .ok (.iconst (-1), 1) := by decide +kernel
theorem dX0_findDog_35 : decode cX0_findDog 35 = .ok (.ixor, 1) := by decide +kernel
theorem dX0_findDog_36 : decode cX0_findDog 36 = .ok (.iand, 1) := by decide +kernel
theorem dX0_findDog_37 : decode cX0_findDog 37 = .ok (.istore 6, 2) := by decide +kernel
theorem dX0_findDog_39 : decode cX0_findDog 39 = .ok (.aload_n 0, 1) := by decide +kernel
theorem dX0_findDog_40 : decode cX0_findDog 40 = .ok (.iload_n 2, 1) := by decide +kernel
theorem dX0_findDog_41 : decode cX0_findDog 41 = .ok (.invokevirtual 203, 3) := by decide +kernel
theorem dX0_findDog_44 : decode cX0_findDog 44 = .ok (.istore 7, 2) := by decide +kernel
theorem dX0_findDog_46 : decode cX0_findDog 46 = .ok (.aload_n 0, 1) := by decide +kernel
theorem dX0_findDog_47 : decode cX0_findDog 47 = .ok (.getfield 23, 3) := by decide +kernel
theorem dX0_findDog_50 : decode cX0_findDog 50 = .ok (.iload_n 1, 1) := by decide +kernel
theorem dX0_findDog_51 : decode cX0_findDog 51 = .ok (.iconst 4, 1) := by decide +kernel
theorem dX0_findDog_52 : decode cX0_findDog 52 = .ok (.invokevirtual 112, 3) := by decide +kernel
theorem dX0_findDog_55 : decode cX0_findDog 55 = .ok (.istore 8, 2) := by decide +kernel
theorem dX0_findDog_57 : decode cX0_findDog 57 = .ok (.iconst 0, 1) := by decide +kernel
theorem dX0_findDog_58 : decode cX0_findDog 58 = .ok (.istore 9, 2) := by decide +kernel
theorem dX0_findDog_60 : decode cX0_findDog 60 = .ok (.iload 9, 2) := by decide +kernel
theorem dX0_findDog_62 : decode cX0_findDog 62 = .ok (.aload_n 0, 1) := by decide +kernel
theorem dX0_findDog_63 : decode cX0_findDog 63 = .ok (.getfield 30, 3) := by decide +kernel
theorem dX0_findDog_66 : decode cX0_findDog 66 = .ok (.arraylength, 1) := by decide +kernel
theorem dX0_findDog_67 : decode cX0_findDog 67 = .ok (.if_icmp .ge 52, 3) := by decide +kernel
theorem dX0_findDog_70 : decode cX0_findDog 70 = .ok (.aload_n 0, 1) := by decide +kernel
theorem dX0_findDog_71 : decode cX0_findDog 71 = .ok (.iload_n 1, 1) := by decide +kernel
theorem dX0_findDog_72 : decode cX0_findDog 72 = .ok (.iload 6, 2) := by decide +kernel
theorem dX0_findDog_74 : decode cX0_findDog 74 = .ok (.iload_n 2, 1) := by decide +kernel
theorem dX0_findDog_75 : decode cX0_findDog 75 = .ok (.iload_n 3, 1) := by decide +kernel
theorem dX0_findDog_76 : decode cX0_findDog 76 = .ok (.iload 9, 2) := by decide +kernel
theorem dX0_findDog_78 : decode cX0_findDog 78 = .ok (.invokevirtual 206, 3) := by decide +kernel
theorem dX0_findDog_81 : decode cX0_findDog 81 = .ok (.istore 10, 2) := by decide +kernel
theorem dX0_findDog_83 : decode cX0_findDog 83 = .ok (.aload_n 0, 1) := by decide +kernel
theorem dX0_findDog_84 : decode cX0_findDog 84 = .ok (.getfield 30, 3) := by decide +kernel
theorem dX0_findDog_87 : decode cX0_findDog 87 = .ok (.iload 9, 2) := by decide +kernel
theorem dX0_findDog_89 : decode cX0_findDog 89 = .ok (.dup2, 1) := by decide +kernel
theorem dX0_findDog_90 : decode cX0_findDog 90 = .ok (.iaload, 1) := by decide +kernel
theorem dX0_findDog_91 : decode cX0_findDog 91 = .ok (.iload 10, 2) := by decide +kernel
theorem dX0_findDog_93 : decode cX0_findDog 93 = .ok (.iadd, 1) := by decide +kernel
theorem dX0_findDog_94 : decode cX0_findDog 94 = .ok (.iastore, 1) := by decide +kernel
theorem dX0_findDog_95 : decode cX0_findDog 95 = .ok (.aload_n 0, 1) := by decide +kernel
theorem dX0_findDog_96 : decode cX0_findDog 96 = .ok (.dup, 1) := by decide +kernel
theorem dX0_findDog_97 : decode cX0_findDog 97 = .ok (.getfield 56, 3) := by decide +kernel
theorem dX0_findDog_100 : decode cX0_findDog 100 = .ok (.iload 10, 2) := by decide +kernel
theorem dX0_findDog_102 : decode cX0_findDog 102 = .ok (.iadd, 1) := by decide +kernel
theorem dX0_findDog_103 : decode cX0_findDog 103 = .ok (.putfield 56, 3) := by decide +kernel
theorem dX0_findDog_106 : decode cX0_findDog 106 = .ok (.iload 8, 2) := by decide +kernel
theorem dX0_findDog_108 : decode cX0_findDog 108 = .ok (.iload 10, 2) := by decide +kernel
theorem dX0_findDog_110 : decode cX0_findDog 110 = .ok (.isub, 1) := by decide +kernel
theorem dX0_findDog_111 : decode cX0_findDog 111 = .ok (.istore 8, 2) := by decide +kernel
theorem dX0_findDog_113 : decode cX0_findDog 113 = .ok (.iinc 9 1, 3) := by decide +kernel
theorem dX0_findDog_116 : decode cX0_findDog 116 = .ok (.goto (-56), 3) := by decide +kernel
theorem dX0_findDog_119 : decode cX0_findDog 119 = .ok (.aload_n 0, 1) := by decide +kernel
theorem dX0_findDog_120 : decode cX0_findDog 120 = .ok (.dup, 1) := by decide +kernel
theorem dX0_findDog_121 : decode cX0_findDog 121 = .ok (.getfield 59, 3) := by decide +kernel
theorem dX0_findDog_124 : decode cX0_findDog 124 = .ok (.iload 8, 2) := by decide +kernel
theorem dX0_findDog_126 : decode cX0_findDog 126 = .ok (.iadd, 1) := by decide +kernel
theorem dX0_findDog_127 : decode cX0_findDog 127 = .ok (.putfield 59, 3) := by decide +kernel
theorem dX0_findDog_130 : decode cX0_findDog 130 = .ok (.aload_n 0, 1) := by decide +kernel
theorem dX0_findDog_131 : decode cX0_findDog 131 = .ok (.getfield 23, 3) := by decide +kernel
theorem dX0_findDog_134 : decode cX0_findDog 134 = .ok (.iload_n 1, 1) := by decide +kernel
theorem dX0_findDog_135 : decode cX0_findDog 135 = .ok (.iconst 5, 1) := by decide +kernel
theorem dX0_findDog_136 : decode cX0_findDog 136 = .ok (.iconst 0, 1) := by decide +kernel
theorem dX0_findDog_137 : decode cX0_findDog 137 = .ok (.invokevirtual 183, 3) := by decide +kernel
theorem dX0_findDog_140 : decode cX0_findDog 140 = .ok (.aload_n 0, 1) := by decide +kernel
theorem dX0_findDog_141 : decode cX0_findDog 141 = .ok (.getfield 23, 3) := by decide +kernel
theorem dX0_findDog_144 : decode cX0_findDog 144 = .ok (.iload_n 1, 1) := by decide +kernel
theorem dX0_findDog_145 : decode cX0_findDog 145 = .ok (.bipush 6, 2) := by decide +kernel
theorem dX0_findDog_147 : decode cX0_findDog 147 = .ok (.iload_n 3, 1) := by decide +kernel
theorem dX0_findDog_148 : decode cX0_findDog 148 = .ok (.invokevirtual 183, 3) := by decide +kernel
theorem dX0_findDog_151 : decode cX0_findDog 151 = .ok (.aload_n 0, 1) := by decide +kernel
theorem dX0_findDog_152 : decode cX0_findDog 152 = .ok (.getfield 23, 3) := by decide +kernel
theorem dX0_findDog_155 : decode cX0_findDog 155 = .ok (.iload_n 1, 1) := by decide +kernel
theorem dX0_findDog_156 : decode cX0_findDog 156 = .ok (.bipush 7, 2) := by decide +kernel
theorem dX0_findDog_158 : decode cX0_findDog 158 = .ok (.iload_n 2, 1) := by decide +kernel
theorem dX0_findDog_159 : decode cX0_findDog 159 = .ok (.invokevirtual 183, 3) := by decide +kernel
theorem dX0_findDog_162 : decode cX0_findDog 162 = .ok (.aload_n 0, 1) := by decide +kernel
theorem dX0_findDog_163 : decode cX0_findDog 163 = .ok (.getfield 23, 3) := by decide +kernel
theorem dX0_findDog_166 : decode cX0_findDog 166 = .ok (.iload_n 1, 1) := by decide +kernel
theorem dX0_findDog_167 : decode cX0_findDog 167 = .ok (.bipush 8, 2) := by decide +kernel
theorem dX0_findDog_169 : decode cX0_findDog 169 = .ok (.aload_n 0, 1) := by decide +kernel
theorem dX0_findDog_170 : decode cX0_findDog 170 = .ok (.getfield 49, 3) := by decide +kernel
theorem dX0_findDog_173 : decode cX0_findDog 173 = .ok (.invokevirtual 183, 3) := by decide +kernel
theorem dX0_findDog_176 : decode cX0_findDog 176 = .ok (.aload_n 0, 1) := by decide +kernel
theorem dX0_findDog_177 : decode cX0_findDog 177 = .ok (.getfield 23, 3) := by decide +kernel
theorem dX0_findDog_180 : decode cX0_findDog 180 = .ok (.iload_n 1, 1) := by decide +kernel
theorem dX0_findDog_181 : decode cX0_findDog 181 = .ok (.bipush 9, 2) := by decide +kernel
theorem dX0_findDog_183 : decode cX0_findDog 183 = .ok (.iload 4, 2) := by decide +kernel
theorem dX0_findDog_185 : decode cX0_findDog 185 = .ok (.invokevirtual 183, 3) := by decide +kernel
theorem dX0_findDog_188 : decode cX0_findDog 188 = .ok (.aload_n 0, 1) := by decide +kernel
theorem dX0_findDog_189 : decode cX0_findDog 189 = .ok (.getfield 23, 3) := by decide +kernel
theorem dX0_findDog_192 : decode cX0_findDog 192 = .ok (.iload_n 1, 1) := by decide +kernel
theorem dX0_findDog_193 : decode cX0_findDog 193 = .ok (.bipush 10, 2) := by decide +kernel
theorem dX0_findDog_195 : decode cX0_findDog 195 = .ok (.iload 5, 2) := by decide +kernel
theorem dX0_findDog_197 : decode cX0_findDog 197 = .ok (.invokevirtual 183, 3) := by decide +kernel
theorem dX0_findDog_200 : decode cX0_findDog 200 = .ok (.aload_n 0, 1) := by decide +kernel
theorem dX0_findDog_201 : decode cX0_findDog 201 = .ok (.iload_n 2, 1) := by decide +kernel
theorem dX0_findDog_202 : decode cX0_findDog 202 = .ok (.invokevirtual 203, 3) := by decide +kernel
theorem dX0_findDog_205 : decode cX0_findDog 205 = .ok (.iload 7, 2) := by decide +kernel
theorem dX0_findDog_207 : decode cX0_findDog 207 = .ok (.isub, 1) := by decide +kernel
theorem dX0_findDog_208 : decode cX0_findDog 208 = .ok (.ireturn, 1) := by decide +kernel
theorem dX0_shareOf_0 : decode cX0_shareOf 0 = .ok (.aload_n 0, 1) := by decide +kernel
theorem dX0_shareOf_1 : decode cX0_shareOf 1 = .ok (.iload_n 1, 1) := by decide +kernel
theorem dX0_shareOf_2 : decode cX0_shareOf 2 = .ok (.aload_n 0, 1) := by decide +kernel
theorem dX0_shareOf_3 : decode cX0_shareOf 3 = .ok (.iload_n 1, 1) := by decide +kernel
theorem dX0_shareOf_4 : decode cX0_shareOf 4 = .ok (.invokevirtual 115, 3) := by decide +kernel
theorem dX0_shareOf_7 : decode cX0_shareOf 7 = .ok (.iload_n 2, 1) := by decide +kernel
theorem dX0_shareOf_8 : decode cX0_shareOf 8 = .ok (.iload_n 3, 1) := by decide +kernel
theorem dX0_shareOf_9 : decode cX0_shareOf 9 = .ok (.iload 4, 2) := by decide +kernel
theorem dX0_shareOf_11 : decode cX0_shareOf 11 = .ok (.invokevirtual 206, 3) := by decide +kernel
theorem dX0_shareOf_14 : decode cX0_shareOf 14 = .ok (.ireturn, 1) := by decide +kernel
theorem dX0_shareBy_0 : decode cX0_shareBy 0 = .ok (.iload 5, 2) := by decide +kernel
theorem dX0_shareBy_2 : decode cX0_shareBy 2 = .ok (.iload_n 3, 1) := by decide +kernel
theorem dX0_shareBy_3 : decode cX0_shareBy 3 = .ok (.if_icmp .ne 7, 3) := by decide +kernel
theorem dX0_shareBy_6 : decode cX0_shareBy 6 = .ok (.iconst 3, 1) := by decide +kernel
theorem dX0_shareBy_7 : decode cX0_shareBy 7 = .ok (.goto 4, 3) := by decide +kernel
theorem dX0_shareBy_10 : decode cX0_shareBy 10 = .ok (.iconst 0, 1) := by decide +kernel
theorem dX0_shareBy_11 : decode cX0_shareBy 11 = .ok (.istore 6, 2) := by decide +kernel
theorem dX0_shareBy_13 : decode cX0_shareBy 13 = .ok (.iconst 3, 1) := by decide +kernel
theorem dX0_shareBy_14 : decode cX0_shareBy 14 = .ok (.istore 7, 2) := by decide +kernel
theorem dX0_shareBy_16 : decode cX0_shareBy 16 = .ok (.iconst 0, 1) := by decide +kernel
theorem dX0_shareBy_17 : decode cX0_shareBy 17 = .ok (.istore 8, 2) := by decide +kernel
theorem dX0_shareBy_19 : decode cX0_shareBy 19 = .ok (.iload 8, 2) := by decide +kernel
theorem dX0_shareBy_21 : decode cX0_shareBy 21 = .ok (.aload_n 0, 1) := by decide +kernel
theorem dX0_shareBy_22 : decode cX0_shareBy 22 = .ok (.getfield 27, 3) := by decide +kernel
theorem dX0_shareBy_25 : decode cX0_shareBy 25 = .ok (.invokevirtual 87, 3) := by decide +kernel
theorem dX0_shareBy_28 : decode cX0_shareBy 28 = .ok (.if_icmp .ge 65, 3) := by decide +kernel
theorem dX0_shareBy_31 : decode cX0_shareBy 31 = .ok (.iload_n 2, 1) := by decide +kernel
theorem dX0_shareBy_32 : decode cX0_shareBy 32 = .ok (.iload 8, 2) := by decide +kernel
theorem dX0_shareBy_34 : decode cX0_shareBy 34 = .ok (.invokestatic 141, 3) := by decide +kernel
theorem dX0_shareBy_37 : decode cX0_shareBy 37 = .ok (.ifCond .eq 14, 3) := by decide +kernel
theorem dX0_shareBy_40 : decode cX0_shareBy 40 = .ok (.aload_n 0, 1) := by decide +kernel
theorem dX0_shareBy_41 : decode cX0_shareBy 41 = .ok (.iload 8, 2) := by decide +kernel
theorem dX0_shareBy_43 : decode cX0_shareBy 43 = .ok (.iload 4, 2) := by decide +kernel
theorem dX0_shareBy_45 : decode cX0_shareBy 45 = .ok (.invokevirtual 210, 3) := by decide +kernel
theorem dX0_shareBy_48 : decode cX0_shareBy 48 = .ok (.goto 4, 3) := by decide +kernel
theorem dX0_shareBy_51 : decode cX0_shareBy 51 = .ok (.iconst 0, 1) := by decide +kernel
theorem dX0_shareBy_52 : decode cX0_shareBy 52 = .ok (.istore 9, 2) := by decide +kernel
theorem dX0_shareBy_54 : decode cX0_shareBy 54 = .ok (.iload 7, 2) := by decide +kernel
theorem dX0_shareBy_56 : decode cX0_shareBy 56 = .ok (.iload 9, 2) := by decide +kernel
theorem dX0_shareBy_58 : decode cX0_shareBy 58 = .ok (.iadd, 1) := by decide +kernel
theorem dX0_shareBy_59 : decode cX0_shareBy 59 = .ok (.istore 7, 2) := by decide +kernel
theorem dX0_shareBy_61 : decode cX0_shareBy 61 = .ok (.iload 6, 2) := by decide +kernel
theorem dX0_shareBy_63 : decode cX0_shareBy 63 = .ok (.aload_n 0, 1) := by decide +kernel
theorem dX0_shareBy_64 : decode cX0_shareBy 64 = .ok (.getfield 27, 3) := by decide +kernel
theorem dX0_shareBy_67 : decode cX0_shareBy 67 = .ok (.iload 8, 2) := by decide +kernel
theorem dX0_shareBy_69 : decode cX0_shareBy 69 = .ok (.iconst 0, 1) := by decide +kernel
theorem dX0_shareBy_70 : decode cX0_shareBy 70 = .ok (.invokevirtual 112, 3) := by decide +kernel
theorem dX0_shareBy_73 : decode cX0_shareBy 73 = .ok (.iload 5, 2) := by decide +kernel
theorem dX0_shareBy_75 : decode cX0_shareBy 75 = .ok (.if_icmp .ne 8, 3) := by decide +kernel
theorem dX0_shareBy_78 : decode cX0_shareBy 78 = .ok (.iload 9, 2) := by decide +kernel
theorem dX0_shareBy_80 : decode cX0_shareBy 80 = .ok (.goto 4, 3) := by decide +kernel
theorem dX0_shareBy_83 : decode cX0_shareBy 83 = .ok (.iconst 0, 1) := by decide +kernel
theorem dX0_shareBy_84 : decode cX0_shareBy 84 = .ok (.iadd, 1) := by decide +kernel
theorem dX0_shareBy_85 : decode cX0_shareBy 85 = .ok (.istore 6, 2) := by decide +kernel
theorem dX0_shareBy_87 : decode cX0_shareBy 87 = .ok (.iinc 8 1, 3) := by decide +kernel
theorem dX0_shareBy_90 : decode cX0_shareBy 90 = .ok (.goto (-71), 3) := by decide +kernel
theorem dX0_shareBy_93 : decode cX0_shareBy 93 = .ok (.iload 7, 2) := by decide +kernel
theorem dX0_shareBy_95 : decode cX0_shareBy 95 = .ok (.ifCond .le 21, 3) := by decide +kernel
theorem dX0_shareBy_98 : decode cX0_shareBy 98 = .ok (.aload_n 0, 1) := by decide +kernel
theorem dX0_shareBy_99 : decode cX0_shareBy 99 = .ok (.getfield 23, 3) := by decide +kernel
theorem dX0_shareBy_102 : decode cX0_shareBy 102 = .ok (.iload_n 1, 1) := by decide +kernel
theorem dX0_shareBy_103 : decode cX0_shareBy 103 = .ok (.iconst 4, 1) := by decide +kernel
theorem dX0_shareBy_104 : decode cX0_shareBy 104 = .ok (.invokevirtual 112, 3) := by decide +kernel
theorem dX0_shareBy_107 : decode cX0_shareBy 107 = .ok (.iload 6, 2) := by decide +kernel
theorem dX0_shareBy_109 : decode cX0_shareBy 109 = .ok (.imul, 1) := by decide +kernel
theorem dX0_shareBy_110 : decode cX0_shareBy 110 = .ok (.iload 7, 2) := by decide +kernel
theorem dX0_shareBy_112 : decode cX0_shareBy 112 = .ok (.idiv, 1) := by decide +kernel
theorem dX0_shareBy_113 : decode cX0_shareBy 113 = .ok (.goto 4, 3) := by decide +kernel
theorem dX0_shareBy_116 : decode cX0_shareBy 116 = .ok (.iconst 0, 1) := by decide +kernel
theorem dX0_shareBy_117 : decode cX0_shareBy 117 = .ok (.ireturn, 1) := by decide +kernel
theorem dX0_helpOf_0 : decode cX0_helpOf 0 = .ok (.aload_n 0, 1) := by decide +kernel
theorem dX0_helpOf_1 : decode cX0_helpOf 1 = .ok (.getfield 12, 3) := by decide +kernel
theorem dX0_helpOf_4 : decode cX0_helpOf 4 = .ok (.aload_n 0, 1) := by decide +kernel
theorem dX0_helpOf_5 : decode cX0_helpOf 5 = .ok (.getfield 27, 3) := by decide +kernel
theorem dX0_helpOf_8 : decode cX0_helpOf 8 = .ok (.iload_n 1, 1) := by decide +kernel
theorem dX0_helpOf_9 : decode cX0_helpOf 9 = .ok (.iconst 1, 1) := by decide +kernel
theorem dX0_helpOf_10 : decode cX0_helpOf 10 = .ok (.invokevirtual 112, 3) := by decide +kernel
theorem dX0_helpOf_13 : decode cX0_helpOf 13 = .ok (.iload_n 2, 1) := by decide +kernel
theorem dX0_helpOf_14 : decode cX0_helpOf 14 = .ok (.iconst 1, 1) := by decide +kernel
theorem dX0_helpOf_15 : decode cX0_helpOf 15 = .ok (.invokevirtual 138, 3) := by decide +kernel
theorem dX0_helpOf_18 : decode cX0_helpOf 18 = .ok (.ifCond .eq 7, 3) := by decide +kernel
theorem dX0_helpOf_21 : decode cX0_helpOf 21 = .ok (.iconst 1, 1) := by decide +kernel
theorem dX0_helpOf_22 : decode cX0_helpOf 22 = .ok (.goto 4, 3) := by decide +kernel
theorem dX0_helpOf_25 : decode cX0_helpOf 25 = .ok (.iconst 0, 1) := by decide +kernel
theorem dX0_helpOf_26 : decode cX0_helpOf 26 = .ok (.istore_n 3, 1) := by decide +kernel
theorem dX0_helpOf_27 : decode cX0_helpOf 27 = .ok (.iconst 1, 1) := by decide +kernel
theorem dX0_helpOf_28 : decode cX0_helpOf 28 = .ok (.aload_n 0, 1) := by decide +kernel
theorem dX0_helpOf_29 : decode cX0_helpOf 29 = .ok (.getfield 27, 3) := by decide +kernel
theorem dX0_helpOf_32 : decode cX0_helpOf 32 = .ok (.iload_n 1, 1) := by decide +kernel
theorem dX0_helpOf_33 : decode cX0_helpOf 33 = .ok (.iconst 4, 1) := by decide +kernel
theorem dX0_helpOf_34 : decode cX0_helpOf 34 = .ok (.invokevirtual 112, 3) := by decide +kernel
theorem dX0_helpOf_37 : decode cX0_helpOf 37 = .ok (.iadd, 1) := by decide +kernel
theorem dX0_helpOf_38 : decode cX0_helpOf 38 = .ok (.iload_n 3, 1) := by decide +kernel
theorem dX0_helpOf_39 : decode cX0_helpOf 39 = .ok (.iadd, 1) := by decide +kernel
theorem dX0_helpOf_40 : decode cX0_helpOf 40 = .ok (.ireturn, 1) := by decide +kernel
theorem dX0_faultOfClosing_0 : decode cX0_faultOfClosing 0 = .ok (.iload_n 1, 1) := by decide +kernel
theorem dX0_faultOfClosing_1 : decode cX0_faultOfClosing 1 = .ok (.invokestatic 166, 3) := by decide +kernel
theorem dX0_faultOfClosing_4 : decode cX0_faultOfClosing 4 = .ok (.ifCond .eq 10, 3) := by decide +kernel
theorem dX0_faultOfClosing_7 : decode cX0_faultOfClosing 7 = .ok (.iload_n 2, 1) := by decide +kernel
theorem dX0_faultOfClosing_8 : decode cX0_faultOfClosing 8 = .ok (.invokestatic 166, 3) := by decide +kernel
theorem dX0_faultOfClosing_11 : decode cX0_faultOfClosing 11 = .ok (.ifCond .ne 5, 3) := by decide +kernel
theorem dX0_faultOfClosing_14 : decode cX0_faultOfClosing 14 = .ok (.iconst 1, 1) := by decide +kernel
theorem dX0_faultOfClosing_15 : decode cX0_faultOfClosing 15 = .ok (.ireturn, 1) := by decide +kernel
theorem dX0_faultOfClosing_16 : decode cX0_faultOfClosing 16 = .ok (.iload_n 1, 1) := by decide +kernel
theorem dX0_faultOfClosing_17 : decode cX0_faultOfClosing 17 = .ok (.iload_n 2, 1) := by decide +kernel
theorem dX0_faultOfClosing_18 : decode cX0_faultOfClosing 18 = .ok (.invokestatic 213, 3) := by decide +kernel
theorem dX0_faultOfClosing_21 : decode cX0_faultOfClosing 21 = .ok (.iconst (-1), 1) := by decide +kernel
theorem dX0_faultOfClosing_22 : decode cX0_faultOfClosing 22 = .ok (.if_icmp .ne 7, 3) := by decide +kernel
theorem dX0_faultOfClosing_25 : decode cX0_faultOfClosing 25 = .ok (.iconst 2, 1) := by decide +kernel
theorem dX0_faultOfClosing_26 : decode cX0_faultOfClosing 26 = .ok (.goto 4, 3) := by decide +kernel
theorem dX0_faultOfClosing_29 : decode cX0_faultOfClosing 29 = .ok (.iconst 0, 1) := by decide +kernel
theorem dX0_faultOfClosing_30 : decode cX0_faultOfClosing 30 = .ok (.ireturn, 1) := by decide +kernel
theorem dX0_closeStreet_0 : decode cX0_closeStreet 0 = .ok (.aload_n 0, 1) := by decide +kernel
theorem dX0_closeStreet_1 : decode cX0_closeStreet 1 = .ok (.iload_n 1, 1) := by decide +kernel
theorem dX0_closeStreet_2 : decode cX0_closeStreet 2 = .ok (.iload_n 2, 1) := by decide +kernel
theorem dX0_closeStreet_3 : decode cX0_closeStreet 3 = .ok (.invokevirtual 216, 3) := by decide +kernel
theorem dX0_closeStreet_6 : decode cX0_closeStreet 6 = .ok (.ifCond .eq 6, 3) := by decide +kernel
theorem dX0_closeStreet_9 : decode cX0_closeStreet 9 = .ok (.bipush (-2), 2) := by decide +kernel
theorem dX0_closeStreet_11 : decode cX0_closeStreet 11 = .ok (.ireturn, 1) := by decide +kernel
theorem dX0_closeStreet_12 : decode cX0_closeStreet 12 = .ok (.aload_n 0, 1) := by decide +kernel
theorem dX0_closeStreet_13 : decode cX0_closeStreet 13 = .ok (.getfield 12, 3) := by decide +kernel
theorem dX0_closeStreet_16 : decode cX0_closeStreet 16 = .ok (.iload_n 1, 1) := by decide +kernel
theorem dX0_closeStreet_17 : decode cX0_closeStreet 17 = .ok (.iload_n 2, 1) := by decide +kernel
theorem dX0_closeStreet_18 : decode cX0_closeStreet 18 = .ok (.invokestatic 213, 3) := by decide +kernel
theorem dX0_closeStreet_21 : decode cX0_closeStreet 21 = .ok (.iload_n 3, 1) := by decide +kernel
theorem dX0_closeStreet_22 : decode cX0_closeStreet 22 = .ok (.invokevirtual 219, 3) := by decide +kernel
theorem dX0_closeStreet_25 : decode cX0_closeStreet 25 = .ok (.aload_n 0, 1) := by decide +kernel
theorem dX0_closeStreet_26 : decode cX0_closeStreet 26 = .ok (.getfield 12, 3) := by decide +kernel
theorem dX0_closeStreet_29 : decode cX0_closeStreet 29 = .ok (.invokevirtual 109, 3) := by decide +kernel
theorem dX0_closeStreet_32 : decode cX0_closeStreet 32 = .ok (.ireturn, 1) := by decide +kernel
theorem dX0_faultOfPassing_0 : decode cX0_faultOfPassing 0 = .ok (.iload_n 1, 1) := by decide +kernel
theorem dX0_faultOfPassing_1 : decode cX0_faultOfPassing 1 = .ok (.iconst 1, 1) := by decide +kernel
theorem dX0_faultOfPassing_2 : decode cX0_faultOfPassing 2 = .ok (.bipush 99, 2) := by decide +kernel
theorem dX0_faultOfPassing_4 : decode cX0_faultOfPassing 4 = .ok (.invokestatic 169, 3) := by decide +kernel
theorem dX0_faultOfPassing_7 : decode cX0_faultOfPassing 7 = .ok (.ifCond .eq 7, 3) := by decide +kernel
theorem dX0_faultOfPassing_10 : decode cX0_faultOfPassing 10 = .ok (.iconst 0, 1) := by decide +kernel
theorem dX0_faultOfPassing_11 : decode cX0_faultOfPassing 11 = .ok (.goto 4, 3) := by decide +kernel
theorem dX0_faultOfPassing_14 : decode cX0_faultOfPassing 14 = .ok (.iconst 2, 1) := by decide +kernel
theorem dX0_faultOfPassing_15 : decode cX0_faultOfPassing 15 = .ok (.ireturn, 1) := by decide +kernel
theorem dX0_passHours_0 : decode cX0_passHours 0 = .ok (.aload_n 0, 1) := by decide +kernel
theorem dX0_passHours_1 : decode cX0_passHours 1 = .ok (.iload_n 1, 1) := by decide +kernel
theorem dX0_passHours_2 : decode cX0_passHours 2 = .ok (.invokevirtual 223, 3) := by decide +kernel
theorem dX0_passHours_5 : decode cX0_passHours 5 = .ok (.ifCond .eq 6, 3) := by decide +kernel
theorem dX0_passHours_8 : decode cX0_passHours 8 = .ok (.bipush (-2), 2) := by decide +kernel
theorem dX0_passHours_10 : decode cX0_passHours 10 = .ok (.ireturn, 1) := by decide +kernel
theorem dX0_passHours_11 : decode cX0_passHours 11 = .ok (.iconst 0, 1) := by decide +kernel
theorem dX0_passHours_12 : decode cX0_passHours 12 = .ok (.istore_n 2, 1) := by decide +kernel
theorem dX0_passHours_13 : decode cX0_passHours 13 = .ok (.iconst 0, 1) := by decide +kernel
theorem dX0_passHours_14 : decode cX0_passHours 14 = .ok (.istore_n 3, 1) := by decide +kernel
theorem dX0_passHours_15 : decode cX0_passHours 15 = .ok (.iload_n 3, 1) := by decide +kernel
theorem dX0_passHours_16 : decode cX0_passHours 16 = .ok (.aload_n 0, 1) := by decide +kernel
theorem dX0_passHours_17 : decode cX0_passHours 17 = .ok (.getfield 23, 3) := by decide +kernel
theorem dX0_passHours_20 : decode cX0_passHours 20 = .ok (.invokevirtual 87, 3) := by decide +kernel
theorem dX0_passHours_23 : decode cX0_passHours 23 = .ok (.if_icmp .ge 87, 3) := by decide +kernel
theorem dX0_passHours_26 : decode cX0_passHours 26 = .ok (.aload_n 0, 1) := by decide +kernel
theorem dX0_passHours_27 : decode cX0_passHours 27 = .ok (.getfield 49, 3) := by decide +kernel
theorem dX0_passHours_30 : decode cX0_passHours 30 = .ok (.aload_n 0, 1) := by decide +kernel
theorem dX0_passHours_31 : decode cX0_passHours 31 = .ok (.getfield 23, 3) := by decide +kernel
theorem dX0_passHours_34 : decode cX0_passHours 34 = .ok (.iload_n 3, 1) := by decide +kernel
theorem dX0_passHours_35 : decode cX0_passHours 35 = .ok (.iconst 3, 1) := by decide +kernel
theorem dX0_passHours_36 : decode cX0_passHours 36 = .ok (.invokevirtual 112, 3) := by decide +kernel
theorem dX0_passHours_39 : decode cX0_passHours 39 = .ok (.isub, 1) := by decide +kernel
theorem dX0_passHours_40 : decode cX0_passHours 40 = .ok (.istore 4, 2) := by decide +kernel
theorem dX0_passHours_42 : decode cX0_passHours 42 = .ok (.iload 4, 2) := by decide +kernel
theorem dX0_passHours_44 : decode cX0_passHours 44 = .ok (.iload_n 1, 1) := by decide +kernel
theorem dX0_passHours_45 : decode cX0_passHours 45 = .ok (.iadd, 1) := by decide +kernel
theorem dX0_passHours_46 : decode cX0_passHours 46 = .ok (.bipush 24, 2) := by decide +kernel
theorem dX0_passHours_48 : decode cX0_passHours 48 = .ok (.idiv, 1) := by decide +kernel
theorem dX0_passHours_49 : decode cX0_passHours 49 = .ok (.iload 4, 2) := by decide +kernel
theorem dX0_passHours_51 : decode cX0_passHours 51 = .ok (.bipush 24, 2) := by decide +kernel
theorem dX0_passHours_53 : decode cX0_passHours 53 = .ok (.idiv, 1) := by decide +kernel
theorem dX0_passHours_54 : decode cX0_passHours 54 = .ok (.isub, 1) := by decide +kernel
theorem dX0_passHours_55 : decode cX0_passHours 55 = .ok (.istore 5, 2) := by decide +kernel
theorem dX0_passHours_57 : decode cX0_passHours 57 = .ok (.aload_n 0, 1) := by decide +kernel
theorem dX0_passHours_58 : decode cX0_passHours 58 = .ok (.iload_n 3, 1) := by decide +kernel
theorem dX0_passHours_59 : decode cX0_passHours 59 = .ok (.invokevirtual 127, 3) := by decide +kernel
theorem dX0_passHours_62 : decode cX0_passHours 62 = .ok (.ifCond .eq 13, 3) := by decide +kernel
theorem dX0_passHours_65 : decode cX0_passHours 65 = .ok (.iload 5, 2) := by decide +kernel
theorem dX0_passHours_67 : decode cX0_passHours 67 = .ok (.aload_n 0, 1) := by decide +kernel
theorem dX0_passHours_68 : decode cX0_passHours 68 = .ok (.getfield 62, 3) := by decide +kernel
theorem dX0_passHours_71 : decode cX0_passHours 71 = .ok (.imul, 1) := by decide +kernel
theorem dX0_passHours_72 : decode cX0_passHours 72 = .ok (.goto 4, 3) := by decide +kernel
theorem dX0_passHours_75 : decode cX0_passHours 75 = .ok (.iconst 0, 1) := by decide +kernel
theorem dX0_passHours_76 : decode cX0_passHours 76 = .ok (.istore 6, 2) := by decide +kernel
theorem dX0_passHours_78 : decode cX0_passHours 78 = .ok (.aload_n 0, 1) := by decide +kernel
theorem dX0_passHours_79 : decode cX0_passHours 79 = .ok (.getfield 23, 3) := by decide +kernel
theorem dX0_passHours_82 : decode cX0_passHours 82 = .ok (.iload_n 3, 1) := by decide +kernel
theorem dX0_passHours_83 : decode cX0_passHours 83 = .ok (.iconst 4, 1) := by decide +kernel
theorem dX0_passHours_84 : decode cX0_passHours 84 = .ok (.aload_n 0, 1) := by decide +kernel
theorem dX0_passHours_85 : decode cX0_passHours 85 = .ok (.getfield 23, 3) := by decide +kernel
theorem dX0_passHours_88 : decode cX0_passHours 88 = .ok (.iload_n 3, 1) := by decide +kernel
theorem dX0_passHours_89 : decode cX0_passHours 89 = .ok (.iconst 4, 1) := by decide +kernel
theorem dX0_passHours_90 : decode cX0_passHours 90 = .ok (.invokevirtual 112, 3) := by decide +kernel
theorem dX0_passHours_93 : decode cX0_passHours 93 = .ok (.iload 6, 2) := by decide +kernel
theorem dX0_passHours_95 : decode cX0_passHours 95 = .ok (.iadd, 1) := by decide +kernel
theorem dX0_passHours_96 : decode cX0_passHours 96 = .ok (.invokevirtual 183, 3) := by decide +kernel
theorem dX0_passHours_99 : decode cX0_passHours 99 = .ok (.iload_n 2, 1) := by decide +kernel
theorem dX0_passHours_100 : decode cX0_passHours 100 = .ok (.iload 6, 2) := by decide +kernel
theorem dX0_passHours_102 : decode cX0_passHours 102 = .ok (.iadd, 1) := by decide +kernel
theorem dX0_passHours_103 : decode cX0_passHours 103 = .ok (.istore_n 2, 1) := by decide +kernel
theorem dX0_passHours_104 : decode cX0_passHours 104 = .ok (.iinc 3 1, 3) := by decide +kernel
theorem dX0_passHours_107 : decode cX0_passHours 107 = .ok (.goto (-92), 3) := by decide +kernel
theorem dX0_passHours_110 : decode cX0_passHours 110 = .ok (.aload_n 0, 1) := by decide +kernel
theorem dX0_passHours_111 : decode cX0_passHours 111 = .ok (.dup, 1) := by decide +kernel
theorem dX0_passHours_112 : decode cX0_passHours 112 = .ok (.getfield 49, 3) := by decide +kernel
theorem dX0_passHours_115 : decode cX0_passHours 115 = .ok (.iload_n 1, 1) := by decide +kernel
theorem dX0_passHours_116 : decode cX0_passHours 116 = .ok (.iadd, 1) := by decide +kernel
theorem dX0_passHours_117 : decode cX0_passHours 117 = .ok (.putfield 49, 3) := by decide +kernel
theorem dX0_passHours_120 : decode cX0_passHours 120 = .ok (.aload_n 0, 1) := by decide +kernel
theorem dX0_passHours_121 : decode cX0_passHours 121 = .ok (.dup, 1) := by decide +kernel
theorem dX0_passHours_122 : decode cX0_passHours 122 = .ok (.getfield 53, 3) := by decide +kernel
theorem dX0_passHours_125 : decode cX0_passHours 125 = .ok (.iload_n 2, 1) := by decide +kernel
theorem dX0_passHours_126 : decode cX0_passHours 126 = .ok (.iadd, 1) := by decide +kernel
theorem dX0_passHours_127 : decode cX0_passHours 127 = .ok (.putfield 53, 3) := by decide +kernel
theorem dX0_passHours_130 : decode cX0_passHours 130 = .ok (.iload_n 2, 1) := by decide +kernel
theorem dX0_passHours_131 : decode cX0_passHours 131 = .ok (.ireturn, 1) := by decide +kernel
theorem dX0_faultOfSetting_0 : decode cX0_faultOfSetting 0 = .ok (.iload_n 1, 1) := by decide +kernel
theorem dX0_faultOfSetting_1 : decode cX0_faultOfSetting 1 = .ok (.ifCond .ne 13, 3) := by decide +kernel
theorem dX0_faultOfSetting_4 : decode cX0_faultOfSetting 4 = .ok (.iload_n 2, 1) := by decide +kernel
theorem dX0_faultOfSetting_5 : decode cX0_faultOfSetting 5 = .ok (.iconst 0, 1) := by decide +kernel
theorem dX0_faultOfSetting_6 : decode cX0_faultOfSetting 6 = .ok (.bipush 50, 2) := by decide +kernel
theorem dX0_faultOfSetting_8 : decode cX0_faultOfSetting 8 = .ok (.invokestatic 169, 3) := by decide +kernel
theorem dX0_faultOfSetting_11 : decode cX0_faultOfSetting 11 = .ok (.ifCond .ne 18, 3) := by decide +kernel
theorem dX0_faultOfSetting_14 : decode cX0_faultOfSetting 14 = .ok (.iload_n 1, 1) := by decide +kernel
theorem dX0_faultOfSetting_15 : decode cX0_faultOfSetting 15 = .ok (.iconst 1, 1) := by decide +kernel
theorem dX0_faultOfSetting_16 : decode cX0_faultOfSetting 16 = .ok (.if_icmp .ne 17, 3) := by decide +kernel
theorem dX0_faultOfSetting_19 : decode cX0_faultOfSetting 19 = .ok (.iload_n 2, 1) := by decide +kernel
theorem dX0_faultOfSetting_20 : decode cX0_faultOfSetting 20 = .ok (.iconst 0, 1) := by decide +kernel
theorem dX0_faultOfSetting_21 : decode cX0_faultOfSetting 21 = .ok (.bipush 8, 2) := by decide +kernel
theorem dX0_faultOfSetting_23 : decode cX0_faultOfSetting 23 = .ok (.invokestatic 169, 3) := by decide +kernel
theorem dX0_faultOfSetting_26 : decode cX0_faultOfSetting 26 = .ok (.ifCond .eq 7, 3) := by decide +kernel
theorem dX0_faultOfSetting_29 : decode cX0_faultOfSetting 29 = .ok (.iconst 1, 1) := by decide +kernel
theorem dX0_faultOfSetting_30 : decode cX0_faultOfSetting 30 = .ok (.goto 4, 3) := by decide +kernel
theorem dX0_faultOfSetting_33 : decode cX0_faultOfSetting 33 = .ok (.iconst 0, 1) := by decide +kernel
theorem dX0_faultOfSetting_34 : decode cX0_faultOfSetting 34 = .ok (.istore_n 3, 1) := by decide +kernel
theorem dX0_faultOfSetting_35 : decode cX0_faultOfSetting 35 = .ok (.iload_n 3, 1) := by decide +kernel
theorem dX0_faultOfSetting_36 : decode cX0_faultOfSetting 36 = .ok (.ifCond .eq 7, 3) := by decide +kernel
theorem dX0_faultOfSetting_39 : decode cX0_faultOfSetting 39 = .ok (.iconst 0, 1) := by decide +kernel
theorem dX0_faultOfSetting_40 : decode cX0_faultOfSetting 40 = .ok (.goto 4, 3) := by decide +kernel
theorem dX0_faultOfSetting_43 : decode cX0_faultOfSetting 43 = .ok (.iconst 2, 1) := by decide +kernel
theorem dX0_faultOfSetting_44 : decode cX0_faultOfSetting 44 = .ok (.ireturn, 1) := by decide +kernel
theorem dX0_changeSetting_0 : decode cX0_changeSetting 0 = .ok (.aload_n 0, 1) := by decide +kernel
theorem dX0_changeSetting_1 : decode cX0_changeSetting 1 = .ok (.iload_n 1, 1) := by decide +kernel
theorem dX0_changeSetting_2 : decode cX0_changeSetting 2 = .ok (.iload_n 2, 1) := by decide +kernel
theorem dX0_changeSetting_3 : decode cX0_changeSetting 3 = .ok (.invokevirtual 226, 3) := by decide +kernel
theorem dX0_changeSetting_6 : decode cX0_changeSetting 6 = .ok (.ifCond .eq 6, 3) := by decide +kernel
theorem dX0_changeSetting_9 : decode cX0_changeSetting 9 = .ok (.bipush (-2), 2) := by decide +kernel
theorem dX0_changeSetting_11 : decode cX0_changeSetting 11 = .ok (.ireturn, 1) := by decide +kernel
theorem dX0_changeSetting_12 : decode cX0_changeSetting 12 = .ok (.iload_n 1, 1) := by decide +kernel
theorem dX0_changeSetting_13 : decode cX0_changeSetting 13 = .ok (.ifCond .ne 10, 3) := by decide +kernel
theorem dX0_changeSetting_16 : decode cX0_changeSetting 16 = .ok (.aload_n 0, 1) := by decide +kernel
theorem dX0_changeSetting_17 : decode cX0_changeSetting 17 = .ok (.getfield 62, 3) := by decide +kernel
theorem dX0_changeSetting_20 : decode cX0_changeSetting 20 = .ok (.goto 7, 3) := by decide +kernel
theorem dX0_changeSetting_23 : decode cX0_changeSetting 23 = .ok (.aload_n 0, 1) := by decide +kernel
theorem dX0_changeSetting_24 : decode cX0_changeSetting 24 = .ok (.getfield 65, 3) := by decide +kernel
theorem dX0_changeSetting_27 : decode cX0_changeSetting 27 = .ok (.istore_n 3, 1) := by decide +kernel
theorem dX0_changeSetting_28 : decode cX0_changeSetting 28 = .ok (.iload_n 1, 1) := by decide +kernel
theorem dX0_changeSetting_29 : decode cX0_changeSetting 29 = .ok (.ifCond .ne 11, 3) := by decide +kernel
theorem dX0_changeSetting_32 : decode cX0_changeSetting 32 = .ok (.aload_n 0, 1) := by decide +kernel
theorem dX0_changeSetting_33 : decode cX0_changeSetting 33 = .ok (.iload_n 2, 1) := by decide +kernel
theorem dX0_changeSetting_34 : decode cX0_changeSetting 34 = .ok (.putfield 62, 3) := by decide +kernel
theorem dX0_changeSetting_37 : decode cX0_changeSetting 37 = .ok (.goto 8, 3) := by decide +kernel
theorem dX0_changeSetting_40 : decode cX0_changeSetting 40 = .ok (.aload_n 0, 1) := by decide +kernel
theorem dX0_changeSetting_41 : decode cX0_changeSetting 41 = .ok (.iload_n 2, 1) := by decide +kernel
theorem dX0_changeSetting_42 : decode cX0_changeSetting 42 = .ok (.putfield 65, 3) := by decide +kernel
theorem dX0_changeSetting_45 : decode cX0_changeSetting 45 = .ok (.iload_n 3, 1) := by decide +kernel
theorem dX0_changeSetting_46 : decode cX0_changeSetting 46 = .ok (.ireturn, 1) := by decide +kernel
theorem dX1_init_0 : decode cX1_init 0 = .ok (.aload_n 0, 1) := by decide +kernel
theorem dX1_init_1 : decode cX1_init 1 = .ok (.invokespecial 3, 3) := by decide +kernel
theorem dX1_init_4 : decode cX1_init 4 = .ok (.aload_n 0, 1) := by decide +kernel
theorem dX1_init_5 : decode cX1_init 5 = .ok (.bipush 14, 2) := by decide +kernel
theorem dX1_init_7 : decode cX1_init 7 = .ok (.anewarray 9, 3) := by decide +kernel
theorem dX1_init_10 : decode cX1_init 10 = .ok (.putfield 11, 3) := by decide +kernel
theorem dX1_init_13 : decode cX1_init 13 = .ok (.iconst 0, 1) := by decide +kernel
theorem dX1_init_14 : decode cX1_init 14 = .ok (.istore_n 1, 1) := by decide +kernel
theorem dX1_init_15 : decode cX1_init 15 = .ok (.iload_n 1, 1) := by decide +kernel
theorem dX1_init_16 : decode cX1_init 16 = .ok (.aload_n 0, 1) := by decide +kernel
theorem dX1_init_17 : decode cX1_init 17 = .ok (.getfield 11, 3) := by decide +kernel
theorem dX1_init_20 : decode cX1_init 20 = .ok (.arraylength, 1) := by decide +kernel
theorem dX1_init_21 : decode cX1_init 21 = .ok (.if_icmp .ge 22, 3) := by decide +kernel
theorem dX1_init_24 : decode cX1_init 24 = .ok (.aload_n 0, 1) := by decide +kernel
theorem dX1_init_25 : decode cX1_init 25 = .ok (.getfield 11, 3) := by decide +kernel
theorem dX1_init_28 : decode cX1_init 28 = .ok (.iload_n 1, 1) := by decide +kernel
theorem dX1_init_29 : decode cX1_init 29 = .ok (.new 9, 3) := by decide +kernel
theorem dX1_init_32 : decode cX1_init 32 = .ok (.dup, 1) := by decide +kernel
theorem dX1_init_33 : decode cX1_init 33 = .ok (.invokespecial 17, 3) := by decide +kernel
theorem dX1_init_36 : decode cX1_init 36 = .ok (.aastore, 1) := by decide +kernel
theorem dX1_init_37 : decode cX1_init 37 = .ok (.iinc 1 1, 3) := by decide +kernel
theorem dX1_init_40 : decode cX1_init 40 = .ok (.goto (-25), 3) := by decide +kernel
theorem dX1_init_43 : decode cX1_init 43 = .ok (.return_, 1) := by decide +kernel
theorem dX1_isEmpty_0 : decode cX1_isEmpty 0 = .ok (.aload_n 0, 1) := by decide +kernel
theorem dX1_isEmpty_1 : decode cX1_isEmpty 1 = .ok (.getfield 18, 3) := by decide +kernel
theorem dX1_isEmpty_4 : decode cX1_isEmpty 4 = .ok (.ifCond .ne 7, 3) := by decide +kernel
theorem dX1_isEmpty_7 : decode cX1_isEmpty 7 = .ok (.iconst 1, 1) := by decide +kernel
theorem dX1_isEmpty_8 : decode cX1_isEmpty 8 = .ok (.goto 4, 3) := by decide +kernel
theorem dX1_isEmpty_11 : decode cX1_isEmpty 11 = .ok (.iconst 0, 1) := by decide +kernel
theorem dX1_isEmpty_12 : decode cX1_isEmpty 12 = .ok (.ireturn, 1) := by decide +kernel
theorem dX1_forgetAll_0 : decode cX1_forgetAll 0 = .ok (.aload_n 0, 1) := by decide +kernel
theorem dX1_forgetAll_1 : decode cX1_forgetAll 1 = .ok (.iconst 0, 1) := by decide +kernel
theorem dX1_forgetAll_2 : decode cX1_forgetAll 2 = .ok (.putfield 22, 3) := by decide +kernel
theorem dX1_forgetAll_5 : decode cX1_forgetAll 5 = .ok (.aload_n 0, 1) := by decide +kernel
theorem dX1_forgetAll_6 : decode cX1_forgetAll 6 = .ok (.iconst 0, 1) := by decide +kernel
theorem dX1_forgetAll_7 : decode cX1_forgetAll 7 = .ok (.putfield 18, 3) := by decide +kernel
theorem dX1_forgetAll_10 : decode cX1_forgetAll 10 = .ok (.return_, 1) := by decide +kernel
theorem dX1_stateAt_0 : decode cX1_stateAt 0 = .ok (.aload_n 0, 1) := by decide +kernel
theorem dX1_stateAt_1 : decode cX1_stateAt 1 = .ok (.getfield 22, 3) := by decide +kernel
theorem dX1_stateAt_4 : decode cX1_stateAt 4 = .ok (.iload_n 1, 1) := by decide +kernel
theorem dX1_stateAt_5 : decode cX1_stateAt 5 = .ok (.iadd, 1) := by decide +kernel
theorem dX1_stateAt_6 : decode cX1_stateAt 6 = .ok (.bipush 14, 2) := by decide +kernel
theorem dX1_stateAt_8 : decode cX1_stateAt 8 = .ok (.irem, 1) := by decide +kernel
theorem dX1_stateAt_9 : decode cX1_stateAt 9 = .ok (.istore_n 2, 1) := by decide +kernel
theorem dX1_stateAt_10 : decode cX1_stateAt 10 = .ok (.iload_n 2, 1) := by decide +kernel
theorem dX1_stateAt_11 : decode cX1_stateAt 11 = .ok (.ifCond .lt 21, 3) := by decide +kernel
theorem dX1_stateAt_14 : decode cX1_stateAt 14 = .ok (.iload_n 2, 1) := by decide +kernel
theorem dX1_stateAt_15 : decode cX1_stateAt 15 = .ok (.aload_n 0, 1) := by decide +kernel
theorem dX1_stateAt_16 : decode cX1_stateAt 16 = .ok (.getfield 11, 3) := by decide +kernel
theorem dX1_stateAt_19 : decode cX1_stateAt 19 = .ok (.arraylength, 1) := by decide +kernel
theorem dX1_stateAt_20 : decode cX1_stateAt 20 = .ok (.if_icmp .ge 12, 3) := by decide +kernel
theorem dX1_stateAt_23 : decode cX1_stateAt 23 = .ok (.aload_n 0, 1) := by decide +kernel
theorem dX1_stateAt_24 : decode cX1_stateAt 24 = .ok (.getfield 11, 3) := by decide +kernel
theorem dX1_stateAt_27 : decode cX1_stateAt 27 = .ok (.iload_n 2, 1) := by decide +kernel
theorem dX1_stateAt_28 : decode cX1_stateAt 28 = .ok (.aaload, 1) := by decide +kernel
theorem dX1_stateAt_29 : decode cX1_stateAt 29 = .ok (.goto 4, 3) := by decide +kernel
theorem dX1_stateAt_32 : decode cX1_stateAt 32 = .ok (.aconst_null, 1) := by decide +kernel
theorem dX1_stateAt_33 : decode cX1_stateAt 33 = .ok (.areturn, 1) := by decide +kernel
theorem dX1_remember_0 : decode cX1_remember 0 = .ok (.aload_n 0, 1) := by decide +kernel
theorem dX1_remember_1 : decode cX1_remember 1 = .ok (.aload_n 0, 1) := by decide +kernel
theorem dX1_remember_2 : decode cX1_remember 2 = .ok (.getfield 18, 3) := by decide +kernel
theorem dX1_remember_5 : decode cX1_remember 5 = .ok (.invokevirtual 25, 3) := by decide +kernel
theorem dX1_remember_8 : decode cX1_remember 8 = .ok (.astore_n 2, 1) := by decide +kernel
theorem dX1_remember_9 : decode cX1_remember 9 = .ok (.aload_n 2, 1) := by decide +kernel
theorem dX1_remember_10 : decode cX1_remember 10 = .ok (.ifnonnull 4, 3) := by decide +kernel
theorem dX1_remember_13 : decode cX1_remember 13 = .ok (.return_, 1) := by decide +kernel
theorem dX1_remember_14 : decode cX1_remember 14 = .ok (.aload_n 2, 1) := by decide +kernel
theorem dX1_remember_15 : decode cX1_remember 15 = .ok (.aload_n 1, 1) := by decide +kernel
theorem dX1_remember_16 : decode cX1_remember 16 = .ok (.invokevirtual 29, 3) := by decide +kernel
theorem dX1_remember_19 : decode cX1_remember 19 = .ok (.aload_n 0, 1) := by decide +kernel
theorem dX1_remember_20 : decode cX1_remember 20 = .ok (.getfield 18, 3) := by decide +kernel
theorem dX1_remember_23 : decode cX1_remember 23 = .ok (.bipush 14, 2) := by decide +kernel
theorem dX1_remember_25 : decode cX1_remember 25 = .ok (.if_icmp .ge 16, 3) := by decide +kernel
theorem dX1_remember_28 : decode cX1_remember 28 = .ok (.aload_n 0, 1) := by decide +kernel
theorem dX1_remember_29 : decode cX1_remember 29 = .ok (.dup, 1) := by decide +kernel
theorem dX1_remember_30 : decode cX1_remember 30 = .ok (.getfield 18, 3) := by decide +kernel
theorem dX1_remember_33 : decode cX1_remember 33 = .ok (.iconst 1, 1) := by decide +kernel
theorem dX1_remember_34 : decode cX1_remember 34 = .ok (.iadd, 1) := by decide +kernel
theorem dX1_remember_35 : decode cX1_remember 35 = .ok (.putfield 18, 3) := by decide +kernel
theorem dX1_remember_38 : decode cX1_remember 38 = .ok (.goto 16, 3) := by decide +kernel
theorem dX1_remember_41 : decode cX1_remember 41 = .ok (.aload_n 0, 1) := by decide +kernel
theorem dX1_remember_42 : decode cX1_remember 42 = .ok (.aload_n 0, 1) := by decide +kernel
theorem dX1_remember_43 : decode cX1_remember 43 = .ok (.getfield 22, 3) := by decide +kernel
theorem dX1_remember_46 : decode cX1_remember 46 = .ok (.iconst 1, 1) := by decide +kernel
theorem dX1_remember_47 : decode cX1_remember 47 = .ok (.iadd, 1) := by decide +kernel
theorem dX1_remember_48 : decode cX1_remember 48 = .ok (.bipush 14, 2) := by decide +kernel
theorem dX1_remember_50 : decode cX1_remember 50 = .ok (.irem, 1) := by decide +kernel
theorem dX1_remember_51 : decode cX1_remember 51 = .ok (.putfield 22, 3) := by decide +kernel
theorem dX1_remember_54 : decode cX1_remember 54 = .ok (.return_, 1) := by decide +kernel
theorem dX1_giveBack_0 : decode cX1_giveBack 0 = .ok (.aload_n 0, 1) := by decide +kernel
theorem dX1_giveBack_1 : decode cX1_giveBack 1 = .ok (.getfield 18, 3) := by decide +kernel
theorem dX1_giveBack_4 : decode cX1_giveBack 4 = .ok (.ifCond .le 16, 3) := by decide +kernel
theorem dX1_giveBack_7 : decode cX1_giveBack 7 = .ok (.aload_n 0, 1) := by decide +kernel
theorem dX1_giveBack_8 : decode cX1_giveBack 8 = .ok (.aload_n 0, 1) := by decide +kernel
theorem dX1_giveBack_9 : decode cX1_giveBack 9 = .ok (.getfield 18, 3) := by decide +kernel
theorem dX1_giveBack_12 : decode cX1_giveBack 12 = .ok (.iconst 1, 1) := by decide +kernel
theorem dX1_giveBack_13 : decode cX1_giveBack 13 = .ok (.isub, 1) := by decide +kernel
theorem dX1_giveBack_14 : decode cX1_giveBack 14 = .ok (.invokevirtual 25, 3) := by decide +kernel
theorem dX1_giveBack_17 : decode cX1_giveBack 17 = .ok (.goto 4, 3) := by decide +kernel
theorem dX1_giveBack_20 : decode cX1_giveBack 20 = .ok (.aconst_null, 1) := by decide +kernel
theorem dX1_giveBack_21 : decode cX1_giveBack 21 = .ok (.astore_n 2, 1) := by decide +kernel
theorem dX1_giveBack_22 : decode cX1_giveBack 22 = .ok (.aload_n 2, 1) := by decide +kernel
theorem dX1_giveBack_23 : decode cX1_giveBack 23 = .ok (.ifnull 18, 3) := by decide +kernel
theorem dX1_giveBack_26 : decode cX1_giveBack 26 = .ok (.aload_n 1, 1) := by decide +kernel
theorem dX1_giveBack_27 : decode cX1_giveBack 27 = .ok (.aload_n 2, 1) := by decide +kernel
theorem dX1_giveBack_28 : decode cX1_giveBack 28 = .ok (.invokevirtual 29, 3) := by decide +kernel
theorem dX1_giveBack_31 : decode cX1_giveBack 31 = .ok (.aload_n 0, 1) := by decide +kernel
theorem dX1_giveBack_32 : decode cX1_giveBack 32 = .ok (.dup, 1) := by decide +kernel
theorem dX1_giveBack_33 : decode cX1_giveBack 33 = .ok (.getfield 18, 3) := by decide +kernel
theorem dX1_giveBack_36 : decode cX1_giveBack 36 = .ok (.iconst 1, 1) := by decide +kernel
theorem dX1_giveBack_37 : decode cX1_giveBack 37 = .ok (.isub, 1) := by decide +kernel
theorem dX1_giveBack_38 : decode cX1_giveBack 38 = .ok (.putfield 18, 3) := by decide +kernel
theorem dX1_giveBack_41 : decode cX1_giveBack 41 = .ok (.aload_n 0, 1) := by decide +kernel
theorem dX1_giveBack_42 : decode cX1_giveBack 42 = .ok (.getfield 18, 3) := by decide +kernel
theorem dX1_giveBack_45 : decode cX1_giveBack 45 = .ok (.ireturn, 1) := by decide +kernel
theorem dX2_init_0 : decode cX2_init 0 = .ok (.aload_n 0, 1) := by decide +kernel
theorem dX2_init_1 : decode cX2_init 1 = .ok (.invokespecial 3, 3) := by decide +kernel
theorem dX2_init_4 : decode cX2_init 4 = .ok (.aload_n 0, 1) := by decide +kernel
theorem dX2_init_5 : decode cX2_init 5 = .ok (.sipush 144, 3) := by decide +kernel
theorem dX2_init_8 : decode cX2_init 8 = .ok (.newarray .int, 2) := by decide +kernel
theorem dX2_init_10 : decode cX2_init 10 = .ok (.putfield 9, 3) := by decide +kernel
theorem dX2_init_13 : decode cX2_init 13 = .ok (.aload_n 0, 1) := by decide +kernel
theorem dX2_init_14 : decode cX2_init 14 = .ok (.bipush 12, 2) := by decide +kernel
theorem dX2_init_16 : decode cX2_init 16 = .ok (.newarray .int, 2) := by decide +kernel
theorem dX2_init_18 : decode cX2_init 18 = .ok (.putfield 15, 3) := by decide +kernel
theorem dX2_init_21 : decode cX2_init 21 = .ok (.return_, 1) := by decide +kernel
theorem dX2_openAll_0 : decode cX2_openAll 0 = .ok (.aload_n 0, 1) := by decide +kernel
theorem dX2_openAll_1 : decode cX2_openAll 1 = .ok (.iconst 0, 1) := by decide +kernel
theorem dX2_openAll_2 : decode cX2_openAll 2 = .ok (.putfield 18, 3) := by decide +kernel
theorem dX2_openAll_5 : decode cX2_openAll 5 = .ok (.aload_n 0, 1) := by decide +kernel
theorem dX2_openAll_6 : decode cX2_openAll 6 = .ok (.invokevirtual 22, 3) := by decide +kernel
theorem dX2_openAll_9 : decode cX2_openAll 9 = .ok (.return_, 1) := by decide +kernel
theorem dX2_copyFrom_0 : decode cX2_copyFrom 0 = .ok (.aload_n 1, 1) := by decide +kernel
theorem dX2_copyFrom_1 : decode cX2_copyFrom 1 = .ok (.getfield 9, 3) := by decide +kernel
theorem dX2_copyFrom_4 : decode cX2_copyFrom 4 = .ok (.iconst 0, 1) := by decide +kernel
theorem dX2_copyFrom_5 : decode cX2_copyFrom 5 = .ok (.aload_n 0, 1) := by decide +kernel
theorem dX2_copyFrom_6 : decode cX2_copyFrom 6 = .ok (.getfield 9, 3) := by decide +kernel
theorem dX2_copyFrom_9 : decode cX2_copyFrom 9 = .ok (.iconst 0, 1) := by decide +kernel
theorem dX2_copyFrom_10 : decode cX2_copyFrom 10 = .ok (.aload_n 1, 1) := by decide +kernel
theorem dX2_copyFrom_11 : decode cX2_copyFrom 11 = .ok (.getfield 9, 3) := by decide +kernel
theorem dX2_copyFrom_14 : decode cX2_copyFrom 14 = .ok (.arraylength, 1) := by decide +kernel
theorem dX2_copyFrom_15 : decode cX2_copyFrom 15 = .ok (.aload_n 0, 1) := by decide +kernel
theorem dX2_copyFrom_16 : decode cX2_copyFrom 16 = .ok (.getfield 9, 3) := by decide +kernel
theorem dX2_copyFrom_19 : decode cX2_copyFrom 19 = .ok (.arraylength, 1) := by decide +kernel
theorem dX2_copyFrom_20 : decode cX2_copyFrom 20 = .ok (.invokestatic 25, 3) := by decide +kernel
theorem dX2_copyFrom_23 : decode cX2_copyFrom 23 = .ok (.invokestatic 31, 3) := by decide +kernel
theorem dX2_copyFrom_26 : decode cX2_copyFrom 26 = .ok (.aload_n 0, 1) := by decide +kernel
theorem dX2_copyFrom_27 : decode cX2_copyFrom 27 = .ok (.aload_n 1, 1) := by decide +kernel
theorem dX2_copyFrom_28 : decode cX2_copyFrom 28 = .ok (.getfield 18, 3) := by decide +kernel
theorem dX2_copyFrom_31 : decode cX2_copyFrom 31 = .ok (.putfield 18, 3) := by decide +kernel
theorem dX2_copyFrom_34 : decode cX2_copyFrom 34 = .ok (.return_, 1) := by decide +kernel
theorem dX2_closedStreets_0 : decode cX2_closedStreets 0 = .ok (.aload_n 0, 1) := by decide +kernel
theorem dX2_closedStreets_1 : decode cX2_closedStreets 1 = .ok (.getfield 18, 3) := by decide +kernel
theorem dX2_closedStreets_4 : decode cX2_closedStreets 4 = .ok (.invokestatic 37, 3) := by decide +kernel
theorem dX2_closedStreets_7 : decode cX2_closedStreets 7 = .ok (.ireturn, 1) := by decide +kernel
theorem dX2_streetBetween_0 : decode cX2_streetBetween 0 = .ok (.iconst 0, 1) := by decide +kernel
theorem dX2_streetBetween_1 : decode cX2_streetBetween 1 = .ok (.istore_n 2, 1) := by decide +kernel
theorem dX2_streetBetween_2 : decode cX2_streetBetween 2 = .ok (.iload_n 2, 1) := by decide +kernel
theorem dX2_streetBetween_3 : decode cX2_streetBetween 3 = .ok (.iconst 1, 1) := by decide +kernel
theorem dX2_streetBetween_4 : decode cX2_streetBetween 4 = .ok (.iadd, 1) := by decide +kernel
theorem dX2_streetBetween_5 : decode cX2_streetBetween 5 = .ok (.getstatic 43, 3) := by decide +kernel
theorem dX2_streetBetween_8 : decode cX2_streetBetween 8 = .ok (.arraylength, 1) := by decide +kernel
theorem dX2_streetBetween_9 : decode cX2_streetBetween 9 = .ok (.if_icmp .ge 53, 3) := by decide +kernel
theorem dX2_streetBetween_12 : decode cX2_streetBetween 12 = .ok (.getstatic 43, 3) := by decide +kernel
theorem dX2_streetBetween_15 : decode cX2_streetBetween 15 = .ok (.iload_n 2, 1) := by decide +kernel
theorem dX2_streetBetween_16 : decode cX2_streetBetween 16 = .ok (.iaload, 1) := by decide +kernel
theorem dX2_streetBetween_17 : decode cX2_streetBetween 17 = .ok (.iload_n 0, 1) := by decide +kernel
theorem dX2_streetBetween_18 : decode cX2_streetBetween 18 = .ok (.if_icmp .ne 14, 3) := by decide +kernel
theorem dX2_streetBetween_21 : decode cX2_streetBetween 21 = .ok (.getstatic 43, 3) := by decide +kernel
theorem dX2_streetBetween_24 : decode cX2_streetBetween 24 = .ok (.iload_n 2, 1) := by decide +kernel
theorem dX2_streetBetween_25 : decode cX2_streetBetween 25 = .ok (.iconst 1, 1) := by decide +kernel
theorem dX2_streetBetween_26 : decode cX2_streetBetween 26 = .ok (.iadd, 1) := by decide +kernel
theorem dX2_streetBetween_27 : decode cX2_streetBetween 27 = .ok (.iaload, 1) := by decide +kernel
theorem dX2_streetBetween_28 : decode cX2_streetBetween 28 = .ok (.iload_n 1, 1) := by decide +kernel
theorem dX2_streetBetween_29 : decode cX2_streetBetween 29 = .ok (.if_icmp .eq 23, 3) := by decide +kernel
theorem dX2_streetBetween_32 : decode cX2_streetBetween 32 = .ok (.getstatic 43, 3) := by decide +kernel
theorem dX2_streetBetween_35 : decode cX2_streetBetween 35 = .ok (.iload_n 2, 1) := by decide +kernel
theorem dX2_streetBetween_36 : decode cX2_streetBetween 36 = .ok (.iaload, 1) := by decide +kernel
theorem dX2_streetBetween_37 : decode cX2_streetBetween 37 = .ok (.iload_n 1, 1) := by decide +kernel
theorem dX2_streetBetween_38 : decode cX2_streetBetween 38 = .ok (.if_icmp .ne 18, 3) := by decide +kernel
theorem dX2_streetBetween_41 : decode cX2_streetBetween 41 = .ok (.getstatic 43, 3) := by decide +kernel
theorem dX2_streetBetween_44 : decode cX2_streetBetween 44 = .ok (.iload_n 2, 1) := by decide +kernel
theorem dX2_streetBetween_45 : decode cX2_streetBetween 45 = .ok (.iconst 1, 1) := by decide +kernel
theorem dX2_streetBetween_46 : decode cX2_streetBetween 46 = .ok (.iadd, 1) := by decide +kernel
theorem dX2_streetBetween_47 : decode cX2_streetBetween 47 = .ok (.iaload, 1) := by decide +kernel
theorem dX2_streetBetween_48 : decode cX2_streetBetween 48 = .ok (.iload_n 0, 1) := by decide +kernel
theorem dX2_streetBetween_49 : decode cX2_streetBetween 49 = .ok (.if_icmp .ne 7, 3) := by decide +kernel
theorem dX2_streetBetween_52 : decode cX2_streetBetween 52 = .ok (.iload_n 2, 1) := by decide +kernel
theorem dX2_streetBetween_53 : decode cX2_streetBetween 53 = .ok (.iconst 2, 1) := by decide +kernel
theorem dX2_streetBetween_54 : decode cX2_streetBetween 54 = .ok (.idiv, 1) := by decide +kernel
theorem dX2_streetBetween_55 : decode cX2_streetBetween 55 = .ok (.ireturn, 1) := by decide +kernel
theorem dX2_streetBetween_56 : decode cX2_streetBetween 56 = .ok (.iinc 2 2, 3) := by decide +kernel
theorem dX2_streetBetween_59 : decode cX2_streetBetween 59 = .ok (.goto (-57), 3) := by decide +kernel
theorem dX2_streetBetween_62 : decode cX2_streetBetween 62 = .ok (.iconst (-1), 1) := by decide +kernel
theorem dX2_streetBetween_63 : decode cX2_streetBetween 63 = .ok (.ireturn, 1) := by decide +kernel
theorem dX2_setClosed_0 : decode cX2_setClosed 0 = .ok (.aload_n 0, 1) := by decide +kernel
theorem dX2_setClosed_1 : decode cX2_setClosed 1 = .ok (.getfield 18, 3) := by decide +kernel
theorem dX2_setClosed_4 : decode cX2_setClosed 4 = .ok (.istore_n 3, 1) := by decide +kernel
theorem dX2_setClosed_5 : decode cX2_setClosed 5 = .ok (.aload_n 0, 1) := by decide +kernel
theorem dX2_setClosed_6 : decode cX2_setClosed 6 = .ok (.iload_n 2, 1) := by decide +kernel
theorem dX2_setClosed_7 : decode cX2_setClosed 7 = .ok (.ifCond .eq 14, 3) := by decide +kernel
theorem dX2_setClosed_10 : decode cX2_setClosed 10 = .ok (.aload_n 0, 1) := by decide +kernel
theorem dX2_setClosed_11 : decode cX2_setClosed 11 = .ok (.getfield 18, 3) := by decide +kernel
theorem dX2_setClosed_14 : decode cX2_setClosed 14 = .ok (.iconst 1, 1) := by decide +kernel
theorem dX2_setClosed_15 : decode cX2_setClosed 15 = .ok (.iload_n 1, 1) := by decide +kernel
theorem dX2_setClosed_16 : decode cX2_setClosed 16 = .ok (.ishl, 1) := by decide +kernel
theorem dX2_setClosed_17 : decode cX2_setClosed 17 = .ok (.ior, 1) := by decide +kernel
theorem dX2_setClosed_18 : decode cX2_setClosed 18 = .ok (.goto 13, 3) := by decide +kernel
theorem dX2_setClosed_21 : decode cX2_setClosed 21 = .ok (.aload_n 0, 1) := by decide +kernel
theorem dX2_setClosed_22 : decode cX2_setClosed 22 = .ok (.getfield 18, 3) := by decide +kernel
theorem dX2_setClosed_25 : decode cX2_setClosed 25 = .ok (.iconst 1, 1) := by decide +kernel
theorem dX2_setClosed_26 : decode cX2_setClosed 26 = .ok (.iload_n 1, 1) := by decide +kernel
theorem dX2_setClosed_27 : decode cX2_setClosed 27 = .ok (.ishl, 1) := by decide +kernel
theorem dX2_setClosed_28 : decode cX2_setClosed 28 = .ok (.iconst (-1), 1) := by decide +kernel
theorem dX2_setClosed_29 : decode cX2_setClosed 29 = .ok (.ixor, 1) := by decide +kernel
theorem dX2_setClosed_30 : decode cX2_setClosed 30 = .ok (.iand, 1) := by decide +kernel
theorem dX2_setClosed_31 : decode cX2_setClosed 31 = .ok (.putfield 18, 3) := by decide +kernel
theorem dX2_setClosed_34 : decode cX2_setClosed 34 = .ok (.aload_n 0, 1) := by decide +kernel
theorem dX2_setClosed_35 : decode cX2_setClosed 35 = .ok (.getfield 18, 3) := by decide +kernel
theorem dX2_setClosed_38 : decode cX2_setClosed 38 = .ok (.iload_n 3, 1) := by decide +kernel
theorem dX2_setClosed_39 : decode cX2_setClosed 39 = .ok (.if_icmp .eq 7, 3) := by decide +kernel
theorem dX2_setClosed_42 : decode cX2_setClosed 42 = .ok (.aload_n 0, 1) := by decide +kernel
theorem dX2_setClosed_43 : decode cX2_setClosed 43 = .ok (.invokevirtual 22, 3) := by decide +kernel
theorem dX2_setClosed_46 : decode cX2_setClosed 46 = .ok (.return_, 1) := by decide +kernel
theorem dX2_wayBetween_0 : decode cX2_wayBetween 0 = .ok (.iload_n 1, 1) := by decide +kernel
theorem dX2_wayBetween_1 : decode cX2_wayBetween 1 = .ok (.bipush 12, 2) := by decide +kernel
theorem dX2_wayBetween_3 : decode cX2_wayBetween 3 = .ok (.imul, 1) := by decide +kernel
theorem dX2_wayBetween_4 : decode cX2_wayBetween 4 = .ok (.iload_n 2, 1) := by decide +kernel
theorem dX2_wayBetween_5 : decode cX2_wayBetween 5 = .ok (.iadd, 1) := by decide +kernel
theorem dX2_wayBetween_6 : decode cX2_wayBetween 6 = .ok (.istore_n 3, 1) := by decide +kernel
theorem dX2_wayBetween_7 : decode cX2_wayBetween 7 = .ok (.iload_n 3, 1) := by decide +kernel
theorem dX2_wayBetween_8 : decode cX2_wayBetween 8 = .ok (.ifCond .lt 21, 3) := by decide +kernel
theorem dX2_wayBetween_11 : decode cX2_wayBetween 11 = .ok (.iload_n 3, 1) := by decide +kernel
theorem dX2_wayBetween_12 : decode cX2_wayBetween 12 = .ok (.aload_n 0, 1) := by decide +kernel
theorem dX2_wayBetween_13 : decode cX2_wayBetween 13 = .ok (.getfield 9, 3) := by decide +kernel
theorem dX2_wayBetween_16 : decode cX2_wayBetween 16 = .ok (.arraylength, 1) := by decide +kernel
theorem dX2_wayBetween_17 : decode cX2_wayBetween 17 = .ok (.if_icmp .ge 12, 3) := by decide +kernel
theorem dX2_wayBetween_20 : decode cX2_wayBetween 20 = .ok (.aload_n 0, 1) := by decide +kernel
theorem dX2_wayBetween_21 : decode cX2_wayBetween 21 = .ok (.getfield 9, 3) := by decide +kernel
theorem dX2_wayBetween_24 : decode cX2_wayBetween 24 = .ok (.iload_n 3, 1) := by decide +kernel
theorem dX2_wayBetween_25 : decode cX2_wayBetween 25 = .ok (.iaload, 1) := by decide +kernel
theorem dX2_wayBetween_26 : decode cX2_wayBetween 26 = .ok (.goto 4, 3) := by decide +kernel
theorem dX2_wayBetween_29 : decode cX2_wayBetween 29 = .ok (.iconst (-1), 1) := by decide +kernel
theorem dX2_wayBetween_30 : decode cX2_wayBetween 30 = .ok (.ireturn, 1) := by decide +kernel
theorem dX2_isWithin_0 : decode cX2_isWithin 0 = .ok (.iload_n 1, 1) := by decide +kernel
theorem dX2_isWithin_1 : decode cX2_isWithin 1 = .ok (.bipush 12, 2) := by decide +kernel
theorem dX2_isWithin_3 : decode cX2_isWithin 3 = .ok (.imul, 1) := by decide +kernel
theorem dX2_isWithin_4 : decode cX2_isWithin 4 = .ok (.iload_n 2, 1) := by decide +kernel
theorem dX2_isWithin_5 : decode cX2_isWithin 5 = .ok (.iadd, 1) := by decide +kernel
theorem dX2_isWithin_6 : decode cX2_isWithin 6 = .ok (.istore 4, 2) := by decide +kernel
theorem dX2_isWithin_8 : decode cX2_isWithin 8 = .ok (.iload 4, 2) := by decide +kernel
theorem dX2_isWithin_10 : decode cX2_isWithin 10 = .ok (.ifCond .lt 39, 3) := by decide +kernel
theorem dX2_isWithin_13 : decode cX2_isWithin 13 = .ok (.iload 4, 2) := by decide +kernel
theorem dX2_isWithin_15 : decode cX2_isWithin 15 = .ok (.aload_n 0, 1) := by decide +kernel
theorem dX2_isWithin_16 : decode cX2_isWithin 16 = .ok (.getfield 9, 3) := by decide +kernel
theorem dX2_isWithin_19 : decode cX2_isWithin 19 = .ok (.arraylength, 1) := by decide +kernel
theorem dX2_isWithin_20 : decode cX2_isWithin 20 = .ok (.if_icmp .ge 29, 3) := by decide +kernel
theorem dX2_isWithin_23 : decode cX2_isWithin 23 = .ok (.aload_n 0, 1) := by decide +kernel
theorem dX2_isWithin_24 : decode cX2_isWithin 24 = .ok (.getfield 9, 3) := by decide +kernel
theorem dX2_isWithin_27 : decode cX2_isWithin 27 = .ok (.iload 4, 2) := by decide +kernel
theorem dX2_isWithin_29 : decode cX2_isWithin 29 = .ok (.iaload, 1) := by decide +kernel
theorem dX2_isWithin_30 : decode cX2_isWithin 30 = .ok (.iconst (-1), 1) := by decide +kernel
theorem dX2_isWithin_31 : decode cX2_isWithin 31 = .ok (.if_icmp .eq 18, 3) := by decide +kernel
theorem dX2_isWithin_34 : decode cX2_isWithin 34 = .ok (.aload_n 0, 1) := by decide +kernel
theorem dX2_isWithin_35 : decode cX2_isWithin 35 = .ok (.getfield 9, 3) := by decide +kernel
theorem dX2_isWithin_38 : decode cX2_isWithin 38 = .ok (.iload 4, 2) := by decide +kernel
theorem dX2_isWithin_40 : decode cX2_isWithin 40 = .ok (.iaload, 1) := by decide +kernel
theorem dX2_isWithin_41 : decode cX2_isWithin 41 = .ok (.iload_n 3, 1) := by decide +kernel
theorem dX2_isWithin_42 : decode cX2_isWithin 42 = .ok (.if_icmp .gt 7, 3) := by decide +kernel
theorem dX2_isWithin_45 : decode cX2_isWithin 45 = .ok (.iconst 1, 1) := by decide +kernel
theorem dX2_isWithin_46 : decode cX2_isWithin 46 = .ok (.goto 4, 3) := by decide +kernel
theorem dX2_isWithin_49 : decode cX2_isWithin 49 = .ok (.iconst 0, 1) := by decide +kernel
theorem dX2_isWithin_50 : decode cX2_isWithin 50 = .ok (.ireturn, 1) := by decide +kernel
theorem dX2_measureAll_0 : decode cX2_measureAll 0 = .ok (.aload_n 0, 1) := by decide +kernel
theorem dX2_measureAll_1 : decode cX2_measureAll 1 = .ok (.getfield 9, 3) := by decide +kernel
theorem dX2_measureAll_4 : decode cX2_measureAll 4 = .ok (.iconst (-1), 1) := by decide +kernel
theorem dX2_measureAll_5 : decode cX2_measureAll 5 = .ok (.invokestatic 46, 3) := by decide +kernel
theorem dX2_measureAll_8 : decode cX2_measureAll 8 = .ok (.iconst 0, 1) := by decide +kernel
theorem dX2_measureAll_9 : decode cX2_measureAll 9 = .ok (.istore_n 1, 1) := by decide +kernel
theorem dX2_measureAll_10 : decode cX2_measureAll 10 = .ok (.iload_n 1, 1) := by decide +kernel
theorem dX2_measureAll_11 : decode cX2_measureAll 11 = .ok (.bipush 12, 2) := by decide +kernel
theorem dX2_measureAll_13 : decode cX2_measureAll 13 = .ok (.if_icmp .ge 57, 3) := by decide +kernel
theorem dX2_measureAll_16 : decode cX2_measureAll 16 = .ok (.iconst 0, 1) := by decide +kernel
theorem dX2_measureAll_17 : decode cX2_measureAll 17 = .ok (.istore_n 2, 1) := by decide +kernel
theorem dX2_measureAll_18 : decode cX2_measureAll 18 = .ok (.iconst 1, 1) := by decide +kernel
theorem dX2_measureAll_19 : decode cX2_measureAll 19 = .ok (.iload_n 1, 1) := by decide +kernel
theorem dX2_measureAll_20 : decode cX2_measureAll 20 = .ok (.ishl, 1) := by decide +kernel
theorem dX2_measureAll_21 : decode cX2_measureAll 21 = .ok (.istore_n 3, 1) := by decide +kernel
theorem dX2_measureAll_22 : decode cX2_measureAll 22 = .ok (.iconst 0, 1) := by decide +kernel
theorem dX2_measureAll_23 : decode cX2_measureAll 23 = .ok (.istore 4, 2) := by decide +kernel
theorem dX2_measureAll_25 : decode cX2_measureAll 25 = .ok (.iload 4, 2) := by decide +kernel
theorem dX2_measureAll_27 : decode cX2_measureAll 27 = .ok (.bipush 12, 2) := by decide +kernel
theorem dX2_measureAll_29 : decode cX2_measureAll 29 = .ok (.if_icmp .ge 35, 3) := by decide +kernel
theorem dX2_measureAll_32 : decode cX2_measureAll 32 = .ok (.iload_n 3, 1) := by decide +kernel
theorem dX2_measureAll_33 : decode cX2_measureAll 33 = .ok (.ifCond .eq 31, 3) := by decide +kernel
theorem dX2_measureAll_36 : decode cX2_measureAll 36 = .ok (.aload_n 0, 1) := by decide +kernel
theorem dX2_measureAll_37 : decode cX2_measureAll 37 = .ok (.iload_n 1, 1) := by decide +kernel
theorem dX2_measureAll_38 : decode cX2_measureAll 38 = .ok (.iload_n 3, 1) := by decide +kernel
theorem dX2_measureAll_39 : decode cX2_measureAll 39 = .ok (.iload 4, 2) := by decide +kernel
theorem dX2_measureAll_41 : decode cX2_measureAll 41 = .ok (.invokevirtual 52, 3) := by decide +kernel
theorem dX2_measureAll_44 : decode cX2_measureAll 44 = .ok (.iload_n 2, 1) := by decide +kernel
theorem dX2_measureAll_45 : decode cX2_measureAll 45 = .ok (.iload_n 3, 1) := by decide +kernel
theorem dX2_measureAll_46 : decode cX2_measureAll 46 = .ok (.ior, 1) := by decide +kernel
theorem dX2_measureAll_47 : decode cX2_measureAll 47 = .ok (.istore_n 2, 1) := by decide +kernel
theorem dX2_measureAll_48 : decode cX2_measureAll 48 = .ok (.aload_n 0, 1) := by decide +kernel
theorem dX2_measureAll_49 : decode cX2_measureAll 49 = .ok (.iload_n 3, 1) := by decide +kernel
theorem dX2_measureAll_50 : decode cX2_measureAll 50 = .ok (.invokevirtual 56, 3) := by decide +kernel
theorem dX2_measureAll_53 : decode cX2_measureAll 53 = .ok (.iload_n 2, 1) := by decide +kernel
theorem dX2_measureAll_54 : decode cX2_measureAll 54 = .ok (.iconst (-1), 1) := by decide +kernel
theorem dX2_measureAll_55 : decode cX2_measureAll 55 = .ok (.ixor, 1) := by decide +kernel
theorem dX2_measureAll_56 : decode cX2_measureAll 56 = .ok (.iand, 1) := by decide +kernel
theorem dX2_measureAll_57 : decode cX2_measureAll 57 = .ok (.istore_n 3, 1) := by decide +kernel
theorem dX2_measureAll_58 : decode cX2_measureAll 58 = .ok (.iinc 4 1, 3) := by decide +kernel
theorem dX2_measureAll_61 : decode cX2_measureAll 61 = .ok (.goto (-36), 3) := by decide +kernel
theorem dX2_measureAll_64 : decode cX2_measureAll 64 = .ok (.iinc 1 1, 3) := by decide +kernel
theorem dX2_measureAll_67 : decode cX2_measureAll 67 = .ok (.goto (-57), 3) := by decide +kernel
theorem dX2_measureAll_70 : decode cX2_measureAll 70 = .ok (.return_, 1) := by decide +kernel
theorem dX2_noteWays_0 : decode cX2_noteWays 0 = .ok (.iconst 0, 1) := by decide +kernel
theorem dX2_noteWays_1 : decode cX2_noteWays 1 = .ok (.istore 4, 2) := by decide +kernel
theorem dX2_noteWays_3 : decode cX2_noteWays 3 = .ok (.iload 4, 2) := by decide +kernel
theorem dX2_noteWays_5 : decode cX2_noteWays 5 = .ok (.bipush 12, 2) := by decide +kernel
theorem dX2_noteWays_7 : decode cX2_noteWays 7 = .ok (.if_icmp .ge 50, 3) := by decide +kernel
theorem dX2_noteWays_10 : decode cX2_noteWays 10 = .ok (.iload_n 1, 1) := by decide +kernel
theorem dX2_noteWays_11 : decode cX2_noteWays 11 = .ok (.bipush 12, 2) := by decide +kernel
theorem dX2_noteWays_13 : decode cX2_noteWays 13 = .ok (.imul, 1) := by decide +kernel
theorem dX2_noteWays_14 : decode cX2_noteWays 14 = .ok (.iload 4, 2) := by decide +kernel
theorem dX2_noteWays_16 : decode cX2_noteWays 16 = .ok (.iadd, 1) := by decide +kernel
theorem dX2_noteWays_17 : decode cX2_noteWays 17 = .ok (.istore 5, 2) := by decide +kernel
theorem dX2_noteWays_19 : decode cX2_noteWays 19 = .ok (.iload_n 2, 1) := by decide +kernel
theorem dX2_noteWays_20 : decode cX2_noteWays 20 = .ok (.iload 4, 2) := by decide +kernel
theorem dX2_noteWays_22 : decode cX2_noteWays 22 = .ok (.invokestatic 59, 3) := by decide +kernel
theorem dX2_noteWays_25 : decode cX2_noteWays 25 = .ok (.ifCond .eq 26, 3) := by decide +kernel
theorem dX2_noteWays_28 : decode cX2_noteWays 28 = .ok (.iload 5, 2) := by decide +kernel
theorem dX2_noteWays_30 : decode cX2_noteWays 30 = .ok (.ifCond .lt 21, 3) := by decide +kernel
theorem dX2_noteWays_33 : decode cX2_noteWays 33 = .ok (.iload 5, 2) := by decide +kernel
theorem dX2_noteWays_35 : decode cX2_noteWays 35 = .ok (.aload_n 0, 1) := by decide +kernel
theorem dX2_noteWays_36 : decode cX2_noteWays 36 = .ok (.getfield 9, 3) := by decide +kernel
theorem dX2_noteWays_39 : decode cX2_noteWays 39 = .ok (.arraylength, 1) := by decide +kernel
theorem dX2_noteWays_40 : decode cX2_noteWays 40 = .ok (.if_icmp .ge 11, 3) := by decide +kernel
theorem dX2_noteWays_43 : decode cX2_noteWays 43 = .ok (.aload_n 0, 1) := by decide +kernel
theorem dX2_noteWays_44 : decode cX2_noteWays 44 = .ok (.getfield 9, 3) := by decide +kernel
theorem dX2_noteWays_47 : decode cX2_noteWays 47 = .ok (.iload 5, 2) := by decide +kernel
theorem dX2_noteWays_49 : decode cX2_noteWays 49 = .ok (.iload_n 3, 1) := by decide +kernel
theorem dX2_noteWays_50 : decode cX2_noteWays 50 = .ok (.iastore, 1) := by decide +kernel
theorem dX2_noteWays_51 : decode cX2_noteWays 51 = .ok (.iinc 4 1, 3) := by decide +kernel
theorem dX2_noteWays_54 : decode cX2_noteWays 54 = .ok (.goto (-51), 3) := by decide +kernel
theorem dX2_noteWays_57 : decode cX2_noteWays 57 = .ok (.return_, 1) := by decide +kernel
theorem dX2_besideAnyOf_0 : decode cX2_besideAnyOf 0 = .ok (.iconst 0, 1) := by decide +kernel
theorem dX2_besideAnyOf_1 : decode cX2_besideAnyOf 1 = .ok (.istore_n 2, 1) := by decide +kernel
theorem dX2_besideAnyOf_2 : decode cX2_besideAnyOf 2 = .ok (.iconst 0, 1) := by decide +kernel
theorem dX2_besideAnyOf_3 : decode cX2_besideAnyOf 3 = .ok (.istore_n 3, 1) := by decide +kernel
theorem dX2_besideAnyOf_4 : decode cX2_besideAnyOf 4 = .ok (.iload_n 3, 1) := by decide +kernel
theorem dX2_besideAnyOf_5 : decode cX2_besideAnyOf 5 = .ok (.iconst 1, 1) := by decide +kernel
theorem dX2_besideAnyOf_6 : decode cX2_besideAnyOf 6 = .ok (.iadd, 1) := by decide +kernel
theorem dX2_besideAnyOf_7 : decode cX2_besideAnyOf 7 = .ok (.getstatic 43, 3) := by decide +kernel
theorem dX2_besideAnyOf_10 : decode cX2_besideAnyOf 10 = .ok (.arraylength, 1) := by decide +kernel
theorem dX2_besideAnyOf_11 : decode cX2_besideAnyOf 11 = .ok (.if_icmp .ge 78, 3) := by decide +kernel
theorem dX2_besideAnyOf_14 : decode cX2_besideAnyOf 14 = .ok (.aload_n 0, 1) := by decide +kernel
theorem dX2_besideAnyOf_15 : decode cX2_besideAnyOf 15 = .ok (.getfield 18, 3) := by decide +kernel
theorem dX2_besideAnyOf_18 : decode cX2_besideAnyOf 18 = .ok (.iload_n 3, 1) := by decide +kernel
theorem dX2_besideAnyOf_19 : decode cX2_besideAnyOf 19 = .ok (.iconst 2, 1) := by decide +kernel
theorem dX2_besideAnyOf_20 : decode cX2_besideAnyOf 20 = .ok (.idiv, 1) := by decide +kernel
theorem dX2_besideAnyOf_21 : decode cX2_besideAnyOf 21 = .ok (.invokestatic 59, 3) := by decide +kernel
theorem dX2_besideAnyOf_24 : decode cX2_besideAnyOf 24 = .ok (.ifCond .ne 59, 3) := by decide +kernel
theorem dX2_besideAnyOf_27 : decode cX2_besideAnyOf 27 = .ok (.iload_n 2, 1) := by decide +kernel
theorem dX2_besideAnyOf_28 : decode cX2_besideAnyOf 28 = .ok (.iload_n 1, 1) := by decide +kernel
theorem dX2_besideAnyOf_29 : decode cX2_besideAnyOf 29 = .ok (.getstatic 43, 3) := by decide +kernel
theorem dX2_besideAnyOf_32 : decode cX2_besideAnyOf 32 = .ok (.iload_n 3, 1) := by decide +kernel
theorem dX2_besideAnyOf_33 : decode cX2_besideAnyOf 33 = .ok (.iaload, 1) := by decide +kernel
theorem dX2_besideAnyOf_34 : decode cX2_besideAnyOf 34 = .ok (.invokestatic 59, 3) := by decide +kernel
theorem dX2_besideAnyOf_37 : decode cX2_besideAnyOf 37 = .ok (.ifCond .eq 15, 3) := by decide +kernel
theorem dX2_besideAnyOf_40 : decode cX2_besideAnyOf 40 = .ok (.iconst 1, 1) := by decide +kernel
theorem dX2_besideAnyOf_41 : decode cX2_besideAnyOf 41 = .ok (.getstatic 43, 3) := by decide +kernel
theorem dX2_besideAnyOf_44 : decode cX2_besideAnyOf 44 = .ok (.iload_n 3, 1) := by decide +kernel
theorem dX2_besideAnyOf_45 : decode cX2_besideAnyOf 45 = .ok (.iconst 1, 1) := by decide +kernel
theorem dX2_besideAnyOf_46 : decode cX2_besideAnyOf 46 = .ok (.iadd, 1) := by decide +kernel
theorem dX2_besideAnyOf_47 : decode cX2_besideAnyOf 47 = .ok (.iaload, 1) := by decide +kernel
theorem dX2_besideAnyOf_48 : decode cX2_besideAnyOf 48 = .ok (.ishl, 1) := by decide +kernel
theorem dX2_besideAnyOf_49 : decode cX2_besideAnyOf 49 = .ok (.goto 4, 3) := by decide +kernel
theorem dX2_besideAnyOf_52 : decode cX2_besideAnyOf 52 = .ok (.iconst 0, 1) := by decide +kernel
theorem dX2_besideAnyOf_53 : decode cX2_besideAnyOf 53 = .ok (.ior, 1) := by decide +kernel
theorem dX2_besideAnyOf_54 : decode cX2_besideAnyOf 54 = .ok (.istore_n 2, 1) := by decide +kernel
theorem dX2_besideAnyOf_55 : decode cX2_besideAnyOf 55 = .ok (.iload_n 2, 1) := by decide +kernel
theorem dX2_besideAnyOf_56 : decode cX2_besideAnyOf 56 = .ok (.iload_n 1, 1) := by decide +kernel
theorem dX2_besideAnyOf_57 : decode cX2_besideAnyOf 57 = .ok (.getstatic 43, 3) := by decide +kernel
theorem dX2_besideAnyOf_60 : decode cX2_besideAnyOf 60 = .ok (.iload_n 3, 1) := by decide +kernel
theorem dX2_besideAnyOf_61 : decode cX2_besideAnyOf 61 = .ok (.iconst 1, 1) := by decide +kernel
theorem dX2_besideAnyOf_62 : decode cX2_besideAnyOf 62 = .ok (.iadd, 1) := by decide +kernel
theorem dX2_besideAnyOf_63 : decode cX2_besideAnyOf 63 = .ok (.iaload, 1) := by decide +kernel
theorem dX2_besideAnyOf_64 : decode cX2_besideAnyOf 64 = .ok (.invokestatic 59, 3) := by decide +kernel
theorem dX2_besideAnyOf_67 : decode cX2_besideAnyOf 67 = .ok (.ifCond .eq 13, 3) := by decide +kernel
theorem dX2_besideAnyOf_70 : decode cX2_besideAnyOf 70 = .ok (.iconst 1, 1) := by decide +kernel
theorem dX2_besideAnyOf_71 : decode cX2_besideAnyOf 71 = .ok (.getstatic 43, 3) := by decide +kernel
theorem dX2_besideAnyOf_74 : decode cX2_besideAnyOf 74 = .ok (.iload_n 3, 1) := by decide +kernel
theorem dX2_besideAnyOf_75 : decode cX2_besideAnyOf 75 = .ok (.iaload, 1) := by decide +kernel
theorem dX2_besideAnyOf_76 : decode cX2_besideAnyOf 76 = .ok (.ishl, 1) := by decide +kernel
theorem dX2_besideAnyOf_77 : decode cX2_besideAnyOf 77 = .ok (.goto 4, 3) := by decide +kernel
theorem dX2_besideAnyOf_80 : decode cX2_besideAnyOf 80 = .ok (.iconst 0, 1) := by decide +kernel
theorem dX2_besideAnyOf_81 : decode cX2_besideAnyOf 81 = .ok (.ior, 1) := by decide +kernel
theorem dX2_besideAnyOf_82 : decode cX2_besideAnyOf 82 = .ok (.istore_n 2, 1) := by decide +kernel
theorem dX2_besideAnyOf_83 : decode cX2_besideAnyOf 83 = .ok (.iinc 3 2, 3) := by decide +kernel
theorem dX2_besideAnyOf_86 : decode cX2_besideAnyOf 86 = .ok (.goto (-82), 3) := by decide +kernel
theorem dX2_besideAnyOf_89 : decode cX2_besideAnyOf 89 = .ok (.iload_n 2, 1) := by decide +kernel
theorem dX2_besideAnyOf_90 : decode cX2_besideAnyOf 90 = .ok (.ireturn, 1) := by decide +kernel
theorem dX2_wayBySweeps_0 : decode cX2_wayBySweeps 0 = .ok (.iload_n 1, 1) := by decide +kernel
theorem dX2_wayBySweeps_1 : decode cX2_wayBySweeps 1 = .ok (.ifCond .lt 25, 3) := by decide +kernel
theorem dX2_wayBySweeps_4 : decode cX2_wayBySweeps 4 = .ok (.iload_n 1, 1) := by decide +kernel
theorem dX2_wayBySweeps_5 : decode cX2_wayBySweeps 5 = .ok (.aload_n 0, 1) := by decide +kernel
theorem dX2_wayBySweeps_6 : decode cX2_wayBySweeps 6 = .ok (.getfield 15, 3) := by decide +kernel
theorem dX2_wayBySweeps_9 : decode cX2_wayBySweeps 9 = .ok (.arraylength, 1) := by decide +kernel
theorem dX2_wayBySweeps_10 : decode cX2_wayBySweeps 10 = .ok (.if_icmp .ge 16, 3) := by decide +kernel
theorem dX2_wayBySweeps_13 : decode cX2_wayBySweeps 13 = .ok (.iload_n 2, 1) := by decide +kernel
theorem dX2_wayBySweeps_14 : decode cX2_wayBySweeps 14 = .ok (.ifCond .lt 12, 3) := by decide +kernel
theorem dX2_wayBySweeps_17 : decode cX2_wayBySweeps 17 = .ok (.iload_n 2, 1) := by decide +kernel
theorem dX2_wayBySweeps_18 : decode cX2_wayBySweeps 18 = .ok (.aload_n 0, 1) := by decide +kernel
theorem dX2_wayBySweeps_19 : decode cX2_wayBySweeps 19 = .ok (.getfield 15, 3) := by decide +kernel
theorem dX2_wayBySweeps_22 : decode cX2_wayBySweeps 22 = .ok (.arraylength, 1) := by decide +kernel
theorem dX2_wayBySweeps_23 : decode cX2_wayBySweeps 23 = .ok (.if_icmp .lt 5, 3) := by decide +kernel
theorem dX2_wayBySweeps_26 : decode cX2_wayBySweeps 26 = .ok (.iconst (-1), 1) := by decide +kernel
theorem dX2_wayBySweeps_27 : decode cX2_wayBySweeps 27 = .ok (.ireturn, 1) := by decide +kernel
theorem dX2_wayBySweeps_28 : decode cX2_wayBySweeps 28 = .ok (.aload_n 0, 1) := by decide +kernel
theorem dX2_wayBySweeps_29 : decode cX2_wayBySweeps 29 = .ok (.getfield 15, 3) := by decide +kernel
theorem dX2_wayBySweeps_32 : decode cX2_wayBySweeps 32 = .ok (.sipush 1000, 3) := by decide +kernel
theorem dX2_wayBySweeps_35 : decode cX2_wayBySweeps 35 = .ok (.invokestatic 46, 3) := by decide +kernel
theorem dX2_wayBySweeps_38 : decode cX2_wayBySweeps 38 = .ok (.aload_n 0, 1) := by decide +kernel
theorem dX2_wayBySweeps_39 : decode cX2_wayBySweeps 39 = .ok (.getfield 15, 3) := by decide +kernel
theorem dX2_wayBySweeps_42 : decode cX2_wayBySweeps 42 = .ok (.iload_n 1, 1) := by decide +kernel
theorem dX2_wayBySweeps_43 : decode cX2_wayBySweeps 43 = .ok (.iconst 0, 1) := by decide +kernel
theorem dX2_wayBySweeps_44 : decode cX2_wayBySweeps 44 = .ok (.iastore, 1) := by decide +kernel
theorem dX2_wayBySweeps_45 : decode cX2_wayBySweeps 45 = .ok (.iconst 1, 1) := by decide +kernel
theorem dX2_wayBySweeps_46 : decode cX2_wayBySweeps 46 = .ok (.istore_n 3, 1) := by decide +kernel
theorem dX2_wayBySweeps_47 : decode cX2_wayBySweeps 47 = .ok (.iconst 0, 1) := by decide +kernel
theorem dX2_wayBySweeps_48 : decode cX2_wayBySweeps 48 = .ok (.istore 4, 2) := by decide +kernel
theorem dX2_wayBySweeps_50 : decode cX2_wayBySweeps 50 = .ok (.iload 4, 2) := by decide +kernel
theorem dX2_wayBySweeps_52 : decode cX2_wayBySweeps 52 = .ok (.bipush 12, 2) := by decide +kernel
theorem dX2_wayBySweeps_54 : decode cX2_wayBySweeps 54 = .ok (.if_icmp .gt 18, 3) := by decide +kernel
theorem dX2_wayBySweeps_57 : decode cX2_wayBySweeps 57 = .ok (.iload_n 3, 1) := by decide +kernel
theorem dX2_wayBySweeps_58 : decode cX2_wayBySweeps 58 = .ok (.ifCond .eq 14, 3) := by decide +kernel
theorem dX2_wayBySweeps_61 : decode cX2_wayBySweeps 61 = .ok (.aload_n 0, 1) := by decide +kernel
theorem dX2_wayBySweeps_62 : decode cX2_wayBySweeps 62 = .ok (.invokevirtual 63, 3) := by decide +kernel
theorem dX2_wayBySweeps_65 : decode cX2_wayBySweeps 65 = .ok (.istore_n 3, 1) := by decide +kernel
theorem dX2_wayBySweeps_66 : decode cX2_wayBySweeps 66 = .ok (.iinc 4 1, 3) := by decide +kernel
theorem dX2_wayBySweeps_69 : decode cX2_wayBySweeps 69 = .ok (.goto (-19), 3) := by decide +kernel
theorem dX2_wayBySweeps_72 : decode cX2_wayBySweeps 72 = .ok (.aload_n 0, 1) := by decide +kernel
theorem dX2_wayBySweeps_73 : decode cX2_wayBySweeps 73 = .ok (.getfield 15, 3) := by decide +kernel
theorem dX2_wayBySweeps_76 : decode cX2_wayBySweeps 76 = .ok (.iload_n 2, 1) := by decide +kernel
theorem dX2_wayBySweeps_77 : decode cX2_wayBySweeps 77 = .ok (.iaload, 1) := by decide +kernel
theorem dX2_wayBySweeps_78 : decode cX2_wayBySweeps 78 = .ok (.sipush 1000, 3) := by decide +kernel
theorem dX2_wayBySweeps_81 : decode cX2_wayBySweeps 81 = .ok (.if_icmp .ne 7, 3) := by decide +kernel
theorem dX2_wayBySweeps_84 : decode cX2_wayBySweeps 84 = .ok (.iconst (-1), 1) := by decide +kernel
theorem dX2_wayBySweeps_85 : decode cX2_wayBySweeps 85 = .ok (.goto 9, 3) := by decide +kernel
theorem dX2_wayBySweeps_88 : decode cX2_wayBySweeps 88 = .ok (.aload_n 0, 1) := by decide +kernel
theorem dX2_wayBySweeps_89 : decode cX2_wayBySweeps 89 = .ok (.getfield 15, 3) := by decide +kernel
theorem dX2_wayBySweeps_92 : decode cX2_wayBySweeps 92 = .ok (.iload_n 2, 1) := by decide +kernel
theorem dX2_wayBySweeps_93 : decode cX2_wayBySweeps 93 = .ok (.iaload, 1) := by decide +kernel
theorem dX2_wayBySweeps_94 : decode cX2_wayBySweeps 94 = .ok (.ireturn, 1) := by decide +kernel
theorem dX2_sweepOnce_0 : decode cX2_sweepOnce 0 = .ok (.iconst 0, 1) := by decide +kernel
theorem dX2_sweepOnce_1 : decode cX2_sweepOnce 1 = .ok (.istore_n 1, 1) := by decide +kernel
theorem dX2_sweepOnce_2 : decode cX2_sweepOnce 2 = .ok (.iconst 0, 1) := by decide +kernel
theorem dX2_sweepOnce_3 : decode cX2_sweepOnce 3 = .ok (.istore_n 2, 1) := by decide +kernel
theorem dX2_sweepOnce_4 : decode cX2_sweepOnce 4 = .ok (.iload_n 2, 1) := by decide +kernel
theorem dX2_sweepOnce_5 : decode cX2_sweepOnce 5 = .ok (.iconst 1, 1) := by decide +kernel
theorem dX2_sweepOnce_6 : decode cX2_sweepOnce 6 = .ok (.iadd, 1) := by decide +kernel
theorem dX2_sweepOnce_7 : decode cX2_sweepOnce 7 = .ok (.getstatic 43, 3) := by decide +kernel
theorem dX2_sweepOnce_10 : decode cX2_sweepOnce 10 = .ok (.arraylength, 1) := by decide +kernel
theorem dX2_sweepOnce_11 : decode cX2_sweepOnce 11 = .ok (.if_icmp .ge 43, 3) := by decide +kernel
theorem dX2_sweepOnce_14 : decode cX2_sweepOnce 14 = .ok (.aload_n 0, 1) := by decide +kernel
theorem dX2_sweepOnce_15 : decode cX2_sweepOnce 15 = .ok (.getfield 18, 3) := by decide +kernel
theorem dX2_sweepOnce_18 : decode cX2_sweepOnce 18 = .ok (.iload_n 2, 1) := by decide +kernel
theorem dX2_sweepOnce_19 : decode cX2_sweepOnce 19 = .ok (.iconst 2, 1) := by decide +kernel
theorem dX2_sweepOnce_20 : decode cX2_sweepOnce 20 = .ok (.idiv, 1) := by decide +kernel
theorem dX2_sweepOnce_21 : decode cX2_sweepOnce 21 = .ok (.invokestatic 59, 3) := by decide +kernel
theorem dX2_sweepOnce_24 : decode cX2_sweepOnce 24 = .ok (.ifCond .ne 24, 3) := by decide +kernel
theorem dX2_sweepOnce_27 : decode cX2_sweepOnce 27 = .ok (.aload_n 0, 1) := by decide +kernel
theorem dX2_sweepOnce_28 : decode cX2_sweepOnce 28 = .ok (.getstatic 43, 3) := by decide +kernel
theorem dX2_sweepOnce_31 : decode cX2_sweepOnce 31 = .ok (.iload_n 2, 1) := by decide +kernel
theorem dX2_sweepOnce_32 : decode cX2_sweepOnce 32 = .ok (.iaload, 1) := by decide +kernel
theorem dX2_sweepOnce_33 : decode cX2_sweepOnce 33 = .ok (.getstatic 43, 3) := by decide +kernel
theorem dX2_sweepOnce_36 : decode cX2_sweepOnce 36 = .ok (.iload_n 2, 1) := by decide +kernel
theorem dX2_sweepOnce_37 : decode cX2_sweepOnce 37 = .ok (.iconst 1, 1) := by decide +kernel
theorem dX2_sweepOnce_38 : decode cX2_sweepOnce 38 = .ok (.iadd, 1) := by decide +kernel
theorem dX2_sweepOnce_39 : decode cX2_sweepOnce 39 = .ok (.iaload, 1) := by decide +kernel
theorem dX2_sweepOnce_40 : decode cX2_sweepOnce 40 = .ok (.invokevirtual 67, 3) := by decide +kernel
theorem dX2_sweepOnce_43 : decode cX2_sweepOnce 43 = .ok (.ifCond .eq 5, 3) := by decide +kernel
theorem dX2_sweepOnce_46 : decode cX2_sweepOnce 46 = .ok (.iconst 1, 1) := by decide +kernel
theorem dX2_sweepOnce_47 : decode cX2_sweepOnce 47 = .ok (.istore_n 1, 1) := by decide +kernel
theorem dX2_sweepOnce_48 : decode cX2_sweepOnce 48 = .ok (.iinc 2 2, 3) := by decide +kernel
theorem dX2_sweepOnce_51 : decode cX2_sweepOnce 51 = .ok (.goto (-47), 3) := by decide +kernel
theorem dX2_sweepOnce_54 : decode cX2_sweepOnce 54 = .ok (.iload_n 1, 1) := by decide +kernel
theorem dX2_sweepOnce_55 : decode cX2_sweepOnce 55 = .ok (.ireturn, 1) := by decide +kernel
theorem dX2_shortensEither_0 : decode cX2_shortensEither 0 = .ok (.aload_n 0, 1) := by decide +kernel
theorem dX2_shortensEither_1 : decode cX2_shortensEither 1 = .ok (.iload_n 1, 1) := by decide +kernel
theorem dX2_shortensEither_2 : decode cX2_shortensEither 2 = .ok (.iload_n 2, 1) := by decide +kernel
theorem dX2_shortensEither_3 : decode cX2_shortensEither 3 = .ok (.invokevirtual 70, 3) := by decide +kernel
theorem dX2_shortensEither_6 : decode cX2_shortensEither 6 = .ok (.ifCond .ne 12, 3) := by decide +kernel
theorem dX2_shortensEither_9 : decode cX2_shortensEither 9 = .ok (.aload_n 0, 1) := by decide +kernel
theorem dX2_shortensEither_10 : decode cX2_shortensEither 10 = .ok (.iload_n 2, 1) := by decide +kernel
theorem dX2_shortensEither_11 : decode cX2_shortensEither 11 = .ok (.iload_n 1, 1) := by decide +kernel
theorem dX2_shortensEither_12 : decode cX2_shortensEither 12 = .ok (.invokevirtual 70, 3) := by decide +kernel
theorem dX2_shortensEither_15 : decode cX2_shortensEither 15 = .ok (.ifCond .eq 7, 3) := by decide +kernel
theorem dX2_shortensEither_18 : decode cX2_shortensEither 18 = .ok (.iconst 1, 1) := by decide +kernel
theorem dX2_shortensEither_19 : decode cX2_shortensEither 19 = .ok (.goto 4, 3) := by decide +kernel
theorem dX2_shortensEither_22 : decode cX2_shortensEither 22 = .ok (.iconst 0, 1) := by decide +kernel
theorem dX2_shortensEither_23 : decode cX2_shortensEither 23 = .ok (.ireturn, 1) := by decide +kernel
theorem dX2_shortens_0 : decode cX2_shortens 0 = .ok (.iload_n 1, 1) := by decide +kernel
theorem dX2_shortens_1 : decode cX2_shortens 1 = .ok (.ifCond .lt 25, 3) := by decide +kernel
theorem dX2_shortens_4 : decode cX2_shortens 4 = .ok (.iload_n 1, 1) := by decide +kernel
theorem dX2_shortens_5 : decode cX2_shortens 5 = .ok (.aload_n 0, 1) := by decide +kernel
theorem dX2_shortens_6 : decode cX2_shortens 6 = .ok (.getfield 15, 3) := by decide +kernel
theorem dX2_shortens_9 : decode cX2_shortens 9 = .ok (.arraylength, 1) := by decide +kernel
theorem dX2_shortens_10 : decode cX2_shortens 10 = .ok (.if_icmp .ge 16, 3) := by decide +kernel
theorem dX2_shortens_13 : decode cX2_shortens 13 = .ok (.iload_n 2, 1) := by decide +kernel
theorem dX2_shortens_14 : decode cX2_shortens 14 = .ok (.ifCond .lt 12, 3) := by decide +kernel
theorem dX2_shortens_17 : decode cX2_shortens 17 = .ok (.iload_n 2, 1) := by decide +kernel
theorem dX2_shortens_18 : decode cX2_shortens 18 = .ok (.aload_n 0, 1) := by decide +kernel
theorem dX2_shortens_19 : decode cX2_shortens 19 = .ok (.getfield 15, 3) := by decide +kernel
theorem dX2_shortens_22 : decode cX2_shortens 22 = .ok (.arraylength, 1) := by decide +kernel
theorem dX2_shortens_23 : decode cX2_shortens 23 = .ok (.if_icmp .lt 5, 3) := by decide +kernel
theorem dX2_shortens_26 : decode cX2_shortens 26 = .ok (.iconst 0, 1) := by decide +kernel
theorem dX2_shortens_27 : decode cX2_shortens 27 = .ok (.ireturn, 1) := by decide +kernel
theorem dX2_shortens_28 : decode cX2_shortens 28 = .ok (.aload_n 0, 1) := by decide +kernel
theorem dX2_shortens_29 : decode cX2_shortens 29 = .ok (.getfield 15, 3) := by decide +kernel
theorem dX2_shortens_32 : decode cX2_shortens 32 = .ok (.iload_n 1, 1) := by decide +kernel
theorem dX2_shortens_33 : decode cX2_shortens 33 = .ok (.iaload, 1) := by decide +kernel
theorem dX2_shortens_34 : decode cX2_shortens 34 = .ok (.iconst 1, 1) := by decide +kernel
theorem dX2_shortens_35 : decode cX2_shortens 35 = .ok (.iadd, 1) := by decide +kernel
theorem dX2_shortens_36 : decode cX2_shortens 36 = .ok (.aload_n 0, 1) := by decide +kernel
theorem dX2_shortens_37 : decode cX2_shortens 37 = .ok (.getfield 15, 3) := by decide +kernel
theorem dX2_shortens_40 : decode cX2_shortens 40 = .ok (.iload_n 2, 1) := by decide +kernel
theorem dX2_shortens_41 : decode cX2_shortens 41 = .ok (.iaload, 1) := by decide +kernel
theorem dX2_shortens_42 : decode cX2_shortens 42 = .ok (.if_icmp .lt 5, 3) := by decide +kernel
theorem dX2_shortens_45 : decode cX2_shortens 45 = .ok (.iconst 0, 1) := by decide +kernel
theorem dX2_shortens_46 : decode cX2_shortens 46 = .ok (.ireturn, 1) := by decide +kernel
theorem dX2_shortens_47 : decode cX2_shortens 47 = .ok (.aload_n 0, 1) := by decide +kernel
theorem dX2_shortens_48 : decode cX2_shortens 48 = .ok (.getfield 15, 3) := by decide +kernel
theorem dX2_shortens_51 : decode cX2_shortens 51 = .ok (.iload_n 2, 1) := by decide +kernel
theorem dX2_shortens_52 : decode cX2_shortens 52 = .ok (.aload_n 0, 1) := by decide +kernel
theorem dX2_shortens_53 : decode cX2_shortens 53 = .ok (.getfield 15, 3) := by decide +kernel
theorem dX2_shortens_56 : decode cX2_shortens 56 = .ok (.iload_n 1, 1) := by decide +kernel
theorem dX2_shortens_57 : decode cX2_shortens 57 = .ok (.iaload, 1) := by decide +kernel
theorem dX2_shortens_58 : decode cX2_shortens 58 = .ok (.iconst 1, 1) := by decide +kernel
theorem dX2_shortens_59 : decode cX2_shortens 59 = .ok (.iadd, 1) := by decide +kernel
theorem dX2_shortens_60 : decode cX2_shortens 60 = .ok (.iastore, 1) := by decide +kernel
theorem dX2_shortens_61 : decode cX2_shortens 61 = .ok (.iconst 1, 1) := by decide +kernel
theorem dX2_shortens_62 : decode cX2_shortens 62 = .ok (.ireturn, 1) := by decide +kernel
theorem dX3_init_0 : decode cX3_init 0 = .ok (.aload_n 0, 1) := by decide +kernel
theorem dX3_init_1 : decode cX3_init 1 = .ok (.invokespecial 3, 3) := by decide +kernel
theorem dX3_init_4 : decode cX3_init 4 = .ok (.aload_n 0, 1) := by decide +kernel
theorem dX3_init_5 : decode cX3_init 5 = .ok (.iload_n 1, 1) := by decide +kernel
theorem dX3_init_6 : decode cX3_init 6 = .ok (.putfield 9, 3) := by decide +kernel
theorem dX3_init_9 : decode cX3_init 9 = .ok (.aload_n 0, 1) := by decide +kernel
theorem dX3_init_10 : decode cX3_init 10 = .ok (.iload_n 2, 1) := by decide +kernel
theorem dX3_init_11 : decode cX3_init 11 = .ok (.putfield 15, 3) := by decide +kernel
theorem dX3_init_14 : decode cX3_init 14 = .ok (.aload_n 0, 1) := by decide +kernel
theorem dX3_init_15 : decode cX3_init 15 = .ok (.iconst 0, 1) := by decide +kernel
theorem dX3_init_16 : decode cX3_init 16 = .ok (.iload_n 1, 1) := by decide +kernel
theorem dX3_init_17 : decode cX3_init 17 = .ok (.iload_n 2, 1) := by decide +kernel
theorem dX3_init_18 : decode cX3_init 18 = .ok (.imul, 1) := by decide +kernel
theorem dX3_init_19 : decode cX3_init 19 = .ok (.invokestatic 18, 3) := by decide +kernel
theorem dX3_init_22 : decode cX3_init 22 = .ok (.newarray .int, 2) := by decide +kernel
theorem dX3_init_24 : decode cX3_init 24 = .ok (.putfield 24, 3) := by decide +kernel
theorem dX3_init_27 : decode cX3_init 27 = .ok (.return_, 1) := by decide +kernel
theorem dX3_count_0 : decode cX3_count 0 = .ok (.aload_n 0, 1) := by decide +kernel
theorem dX3_count_1 : decode cX3_count 1 = .ok (.getfield 28, 3) := by decide +kernel
theorem dX3_count_4 : decode cX3_count 4 = .ok (.ireturn, 1) := by decide +kernel
theorem dX3_isFull_0 : decode cX3_isFull 0 = .ok (.aload_n 0, 1) := by decide +kernel
theorem dX3_isFull_1 : decode cX3_isFull 1 = .ok (.getfield 28, 3) := by decide +kernel
theorem dX3_isFull_4 : decode cX3_isFull 4 = .ok (.aload_n 0, 1) := by decide +kernel
theorem dX3_isFull_5 : decode cX3_isFull 5 = .ok (.getfield 9, 3) := by decide +kernel
theorem dX3_isFull_8 : decode cX3_isFull 8 = .ok (.if_icmp .lt 7, 3) := by decide +kernel
theorem dX3_isFull_11 : decode cX3_isFull 11 = .ok (.iconst 1, 1) := by decide +kernel
theorem dX3_isFull_12 : decode cX3_isFull 12 = .ok (.goto 4, 3) := by decide +kernel
theorem dX3_isFull_15 : decode cX3_isFull 15 = .ok (.iconst 0, 1) := by decide +kernel
theorem dX3_isFull_16 : decode cX3_isFull 16 = .ok (.ireturn, 1) := by decide +kernel
theorem dX3_has_0 : decode cX3_has 0 = .ok (.iload_n 1, 1) := by decide +kernel
theorem dX3_has_1 : decode cX3_has 1 = .ok (.ifCond .lt 15, 3) := by decide +kernel
theorem dX3_has_4 : decode cX3_has 4 = .ok (.iload_n 1, 1) := by decide +kernel
theorem dX3_has_5 : decode cX3_has 5 = .ok (.aload_n 0, 1) := by decide +kernel
theorem dX3_has_6 : decode cX3_has 6 = .ok (.getfield 28, 3) := by decide +kernel
theorem dX3_has_9 : decode cX3_has 9 = .ok (.if_icmp .ge 7, 3) := by decide +kernel
theorem dX3_has_12 : decode cX3_has 12 = .ok (.iconst 1, 1) := by decide +kernel
theorem dX3_has_13 : decode cX3_has 13 = .ok (.goto 4, 3) := by decide +kernel
theorem dX3_has_16 : decode cX3_has 16 = .ok (.iconst 0, 1) := by decide +kernel
theorem dX3_has_17 : decode cX3_has 17 = .ok (.ireturn, 1) := by decide +kernel
theorem dX3_addRow_0 : decode cX3_addRow 0 = .ok (.aload_n 0, 1) := by decide +kernel
theorem dX3_addRow_1 : decode cX3_addRow 1 = .ok (.invokevirtual 31, 3) := by decide +kernel
theorem dX3_addRow_4 : decode cX3_addRow 4 = .ok (.ifCond .eq 5, 3) := by decide +kernel
theorem dX3_addRow_7 : decode cX3_addRow 7 = .ok (.iconst (-1), 1) := by decide +kernel
theorem dX3_addRow_8 : decode cX3_addRow 8 = .ok (.ireturn, 1) := by decide +kernel
theorem dX3_addRow_9 : decode cX3_addRow 9 = .ok (.aload_n 0, 1) := by decide +kernel
theorem dX3_addRow_10 : decode cX3_addRow 10 = .ok (.getfield 28, 3) := by decide +kernel
theorem dX3_addRow_13 : decode cX3_addRow 13 = .ok (.istore_n 1, 1) := by decide +kernel
theorem dX3_addRow_14 : decode cX3_addRow 14 = .ok (.aload_n 0, 1) := by decide +kernel
theorem dX3_addRow_15 : decode cX3_addRow 15 = .ok (.dup, 1) := by decide +kernel
theorem dX3_addRow_16 : decode cX3_addRow 16 = .ok (.getfield 28, 3) := by decide +kernel
theorem dX3_addRow_19 : decode cX3_addRow 19 = .ok (.iconst 1, 1) := by decide +kernel
theorem dX3_addRow_20 : decode cX3_addRow 20 = .ok (.iadd, 1) := by decide +kernel
theorem dX3_addRow_21 : decode cX3_addRow 21 = .ok (.putfield 28, 3) := by decide +kernel
theorem dX3_addRow_24 : decode cX3_addRow 24 = .ok (.iconst 0, 1) := by decide +kernel
theorem dX3_addRow_25 : decode cX3_addRow 25 = .ok (.istore_n 2, 1) := by decide +kernel
theorem dX3_addRow_26 : decode cX3_addRow 26 = .ok (.iload_n 2, 1) := by decide +kernel
theorem dX3_addRow_27 : decode cX3_addRow 27 = .ok (.aload_n 0, 1) := by decide +kernel
theorem dX3_addRow_28 : decode cX3_addRow 28 = .ok (.getfield 15, 3) := by decide +kernel
theorem dX3_addRow_31 : decode cX3_addRow 31 = .ok (.if_icmp .ge 16, 3) := by decide +kernel
theorem dX3_addRow_34 : decode cX3_addRow 34 = .ok (.aload_n 0, 1) := by decide +kernel
theorem dX3_addRow_35 : decode cX3_addRow 35 = .ok (.iload_n 1, 1) := by decide +kernel
theorem dX3_addRow_36 : decode cX3_addRow 36 = .ok (.iload_n 2, 1) := by decide +kernel
theorem dX3_addRow_37 : decode cX3_addRow 37 = .ok (.iconst 0, 1) := by decide +kernel
theorem dX3_addRow_38 : decode cX3_addRow 38 = .ok (.invokevirtual 35, 3) := by decide +kernel
theorem dX3_addRow_41 : decode cX3_addRow 41 = .ok (.iinc 2 1, 3) := by decide +kernel
theorem dX3_addRow_44 : decode cX3_addRow 44 = .ok (.goto (-18), 3) := by decide +kernel
theorem dX3_addRow_47 : decode cX3_addRow 47 = .ok (.iload_n 1, 1) := by decide +kernel
theorem dX3_addRow_48 : decode cX3_addRow 48 = .ok (.ireturn, 1) := by decide +kernel
theorem dX3_get_0 : decode cX3_get 0 = .ok (.iload_n 1, 1) := by decide +kernel
theorem dX3_get_1 : decode cX3_get 1 = .ok (.aload_n 0, 1) := by decide +kernel
theorem dX3_get_2 : decode cX3_get 2 = .ok (.getfield 15, 3) := by decide +kernel
theorem dX3_get_5 : decode cX3_get 5 = .ok (.imul, 1) := by decide +kernel
theorem dX3_get_6 : decode cX3_get 6 = .ok (.iload_n 2, 1) := by decide +kernel
theorem dX3_get_7 : decode cX3_get 7 = .ok (.iadd, 1) := by decide +kernel
theorem dX3_get_8 : decode cX3_get 8 = .ok (.istore_n 3, 1) := by decide +kernel
theorem dX3_get_9 : decode cX3_get 9 = .ok (.iload_n 1, 1) := by decide +kernel
theorem dX3_get_10 : decode cX3_get 10 = .ok (.ifCond .lt 33, 3) := by decide +kernel
theorem dX3_get_13 : decode cX3_get 13 = .ok (.iload_n 1, 1) := by decide +kernel
theorem dX3_get_14 : decode cX3_get 14 = .ok (.aload_n 0, 1) := by decide +kernel
theorem dX3_get_15 : decode cX3_get 15 = .ok (.getfield 28, 3) := by decide +kernel
theorem dX3_get_18 : decode cX3_get 18 = .ok (.if_icmp .ge 25, 3) := by decide +kernel
theorem dX3_get_21 : decode cX3_get 21 = .ok (.iload_n 3, 1) := by decide +kernel
theorem dX3_get_22 : decode cX3_get 22 = .ok (.ifCond .lt 21, 3) := by decide +kernel
theorem dX3_get_25 : decode cX3_get 25 = .ok (.iload_n 3, 1) := by decide +kernel
theorem dX3_get_26 : decode cX3_get 26 = .ok (.aload_n 0, 1) := by decide +kernel
theorem dX3_get_27 : decode cX3_get 27 = .ok (.getfield 24, 3) := by decide +kernel
theorem dX3_get_30 : decode cX3_get 30 = .ok (.arraylength, 1) := by decide +kernel
theorem dX3_get_31 : decode cX3_get 31 = .ok (.if_icmp .ge 12, 3) := by decide +kernel
theorem dX3_get_34 : decode cX3_get 34 = .ok (.aload_n 0, 1) := by decide +kernel
theorem dX3_get_35 : decode cX3_get 35 = .ok (.getfield 24, 3) := by decide +kernel
theorem dX3_get_38 : decode cX3_get 38 = .ok (.iload_n 3, 1) := by decide +kernel
theorem dX3_get_39 : decode cX3_get 39 = .ok (.iaload, 1) := by decide +kernel
theorem dX3_get_40 : decode cX3_get 40 = .ok (.goto 4, 3) := by decide +kernel
theorem dX3_get_43 : decode cX3_get 43 = .ok (.iconst 0, 1) := by decide +kernel
theorem dX3_get_44 : decode cX3_get 44 = .ok (.ireturn, 1) := by decide +kernel
theorem dX3_put_0 : decode cX3_put 0 = .ok (.iload_n 1, 1) := by decide +kernel
theorem dX3_put_1 : decode cX3_put 1 = .ok (.aload_n 0, 1) := by decide +kernel
theorem dX3_put_2 : decode cX3_put 2 = .ok (.getfield 15, 3) := by decide +kernel
theorem dX3_put_5 : decode cX3_put 5 = .ok (.imul, 1) := by decide +kernel
theorem dX3_put_6 : decode cX3_put 6 = .ok (.iload_n 2, 1) := by decide +kernel
theorem dX3_put_7 : decode cX3_put 7 = .ok (.iadd, 1) := by decide +kernel
theorem dX3_put_8 : decode cX3_put 8 = .ok (.istore 4, 2) := by decide +kernel
theorem dX3_put_10 : decode cX3_put 10 = .ok (.iload_n 1, 1) := by decide +kernel
theorem dX3_put_11 : decode cX3_put 11 = .ok (.ifCond .lt 34, 3) := by decide +kernel
theorem dX3_put_14 : decode cX3_put 14 = .ok (.iload_n 1, 1) := by decide +kernel
theorem dX3_put_15 : decode cX3_put 15 = .ok (.aload_n 0, 1) := by decide +kernel
theorem dX3_put_16 : decode cX3_put 16 = .ok (.getfield 28, 3) := by decide +kernel
theorem dX3_put_19 : decode cX3_put 19 = .ok (.if_icmp .ge 26, 3) := by decide +kernel
theorem dX3_put_22 : decode cX3_put 22 = .ok (.iload 4, 2) := by decide +kernel
theorem dX3_put_24 : decode cX3_put 24 = .ok (.ifCond .lt 21, 3) := by decide +kernel
theorem dX3_put_27 : decode cX3_put 27 = .ok (.iload 4, 2) := by decide +kernel
theorem dX3_put_29 : decode cX3_put 29 = .ok (.aload_n 0, 1) := by decide +kernel
theorem dX3_put_30 : decode cX3_put 30 = .ok (.getfield 24, 3) := by decide +kernel
theorem dX3_put_33 : decode cX3_put 33 = .ok (.arraylength, 1) := by decide +kernel
theorem dX3_put_34 : decode cX3_put 34 = .ok (.if_icmp .ge 11, 3) := by decide +kernel
theorem dX3_put_37 : decode cX3_put 37 = .ok (.aload_n 0, 1) := by decide +kernel
theorem dX3_put_38 : decode cX3_put 38 = .ok (.getfield 24, 3) := by decide +kernel
theorem dX3_put_41 : decode cX3_put 41 = .ok (.iload 4, 2) := by decide +kernel
theorem dX3_put_43 : decode cX3_put 43 = .ok (.iload_n 3, 1) := by decide +kernel
theorem dX3_put_44 : decode cX3_put 44 = .ok (.iastore, 1) := by decide +kernel
theorem dX3_put_45 : decode cX3_put 45 = .ok (.return_, 1) := by decide +kernel
theorem dX3_empty_0 : decode cX3_empty 0 = .ok (.aload_n 0, 1) := by decide +kernel
theorem dX3_empty_1 : decode cX3_empty 1 = .ok (.iconst 0, 1) := by decide +kernel
theorem dX3_empty_2 : decode cX3_empty 2 = .ok (.putfield 28, 3) := by decide +kernel
theorem dX3_empty_5 : decode cX3_empty 5 = .ok (.return_, 1) := by decide +kernel
theorem dX3_copyFrom_0 : decode cX3_copyFrom 0 = .ok (.aload_n 1, 1) := by decide +kernel
theorem dX3_copyFrom_1 : decode cX3_copyFrom 1 = .ok (.getfield 24, 3) := by decide +kernel
theorem dX3_copyFrom_4 : decode cX3_copyFrom 4 = .ok (.iconst 0, 1) := by decide +kernel
theorem dX3_copyFrom_5 : decode cX3_copyFrom 5 = .ok (.aload_n 0, 1) := by decide +kernel
theorem dX3_copyFrom_6 : decode cX3_copyFrom 6 = .ok (.getfield 24, 3) := by decide +kernel
theorem dX3_copyFrom_9 : decode cX3_copyFrom 9 = .ok (.iconst 0, 1) := by decide +kernel
theorem dX3_copyFrom_10 : decode cX3_copyFrom 10 = .ok (.aload_n 1, 1) := by decide +kernel
theorem dX3_copyFrom_11 : decode cX3_copyFrom 11 = .ok (.getfield 24, 3) := by decide +kernel
theorem dX3_copyFrom_14 : decode cX3_copyFrom 14 = .ok (.arraylength, 1) := by decide +kernel
theorem dX3_copyFrom_15 : decode cX3_copyFrom 15 = .ok (.aload_n 0, 1) := by decide +kernel
theorem dX3_copyFrom_16 : decode cX3_copyFrom 16 = .ok (.getfield 24, 3) := by decide +kernel
theorem dX3_copyFrom_19 : decode cX3_copyFrom 19 = .ok (.arraylength, 1) := by decide +kernel
theorem dX3_copyFrom_20 : decode cX3_copyFrom 20 = .ok (.invokestatic 39, 3) := by decide +kernel
theorem dX3_copyFrom_23 : decode cX3_copyFrom 23 = .ok (.invokestatic 42, 3) := by decide +kernel
theorem dX3_copyFrom_26 : decode cX3_copyFrom 26 = .ok (.aload_n 0, 1) := by decide +kernel
theorem dX3_copyFrom_27 : decode cX3_copyFrom 27 = .ok (.aload_n 1, 1) := by decide +kernel
theorem dX3_copyFrom_28 : decode cX3_copyFrom 28 = .ok (.getfield 28, 3) := by decide +kernel
theorem dX3_copyFrom_31 : decode cX3_copyFrom 31 = .ok (.putfield 28, 3) := by decide +kernel
theorem dX3_copyFrom_34 : decode cX3_copyFrom 34 = .ok (.return_, 1) := by decide +kernel
theorem dX4_succeeds_0 : decode cX4_succeeds 0 = .ok (.iload_n 1, 1) := by decide +kernel
theorem dX4_succeeds_1 : decode cX4_succeeds 1 = .ok (.sipush 10000, 3) := by decide +kernel
theorem dX4_succeeds_4 : decode cX4_succeeds 4 = .ok (.idiv, 1) := by decide +kernel
theorem dX4_succeeds_5 : decode cX4_succeeds 5 = .ok (.bipush 10, 2) := by decide +kernel
theorem dX4_succeeds_7 : decode cX4_succeeds 7 = .ok (.irem, 1) := by decide +kernel
theorem dX4_succeeds_8 : decode cX4_succeeds 8 = .ok (.istore_n 2, 1) := by decide +kernel
theorem dX4_succeeds_9 : decode cX4_succeeds 9 = .ok (.iload_n 1, 1) := by decide +kernel
theorem dX4_succeeds_10 : decode cX4_succeeds 10 = .ok (.sipush 1000, 3) := by decide +kernel
theorem dX4_succeeds_13 : decode cX4_succeeds 13 = .ok (.idiv, 1) := by decide +kernel
theorem dX4_succeeds_14 : decode cX4_succeeds 14 = .ok (.bipush 10, 2) := by decide +kernel
theorem dX4_succeeds_16 : decode cX4_succeeds 16 = .ok (.irem, 1) := by decide +kernel
theorem dX4_succeeds_17 : decode cX4_succeeds 17 = .ok (.istore_n 3, 1) := by decide +kernel
theorem dX4_succeeds_18 : decode cX4_succeeds 18 = .ok (.iload_n 1, 1) := by decide +kernel
theorem dX4_succeeds_19 : decode cX4_succeeds 19 = .ok (.bipush 100, 2) := by decide +kernel
theorem dX4_succeeds_21 : decode cX4_succeeds 21 = .ok (.idiv, 1) := by decide +kernel
theorem dX4_succeeds_22 : decode cX4_succeeds 22 = .ok (.bipush 100, 2) := by decide +kernel
theorem dX4_succeeds_24 : decode cX4_succeeds 24 = .ok (.irem, 1) := by decide +kernel
theorem dX4_succeeds_25 : decode cX4_succeeds 25 = .ok (.istore 4, 2) := by decide +kernel
theorem dX4_succeeds_27 : decode cX4_succeeds 27 = .ok (.iload_n 1, 1) := by decide +kernel
theorem dX4_succeeds_28 : decode cX4_succeeds 28 = .ok (.bipush 10, 2) := by decide +kernel
theorem dX4_succeeds_30 : decode cX4_succeeds 30 = .ok (.idiv, 1) := by decide +kernel
theorem dX4_succeeds_31 : decode cX4_succeeds 31 = .ok (.bipush 10, 2) := by decide +kernel
theorem dX4_succeeds_33 : decode cX4_succeeds 33 = .ok (.irem, 1) := by decide +kernel
theorem dX4_succeeds_34 : decode cX4_succeeds 34 = .ok (.istore 5, 2) := by decide +kernel
theorem dX4_succeeds_36 : decode cX4_succeeds 36 = .ok (.iload_n 1, 1) := by decide +kernel
theorem dX4_succeeds_37 : decode cX4_succeeds 37 = .ok (.bipush 10, 2) := by decide +kernel
theorem dX4_succeeds_39 : decode cX4_succeeds 39 = .ok (.irem, 1) := by decide +kernel
theorem dX4_succeeds_40 : decode cX4_succeeds 40 = .ok (.istore 6, 2) := by decide +kernel
theorem dX4_succeeds_42 : decode cX4_succeeds 42 = .ok (.iload_n 1, 1) := by decide +kernel
theorem dX4_succeeds_43 : decode cX4_succeeds 43 = .ok (.bipush 100, 2) := by decide +kernel
theorem dX4_succeeds_45 : decode cX4_succeeds 45 = .ok (.irem, 1) := by decide +kernel
theorem dX4_succeeds_46 : decode cX4_succeeds 46 = .ok (.istore 7, 2) := by decide +kernel
theorem dX4_succeeds_48 : decode cX4_succeeds 48 = .ok (.iload_n 1, 1) := by decide +kernel
theorem dX4_succeeds_49 : decode cX4_succeeds 49 = .ok (.sipush 1000, 3) := by decide +kernel
theorem dX4_succeeds_52 : decode cX4_succeeds 52 = .ok (.irem, 1) := by decide +kernel
theorem dX4_succeeds_53 : decode cX4_succeeds 53 = .ok (.istore 8, 2) := by decide +kernel
theorem dX4_succeeds_55 : decode cX4_succeeds 55 = .ok (.iload_n 1, 1) := by decide +kernel
theorem dX4_succeeds_56 : decode cX4_succeeds 56 = .ok (.ldc 9, 2) := by decide +kernel
theorem dX4_succeeds_58 : decode cX4_succeeds 58 = .ok (.idiv, 1) := by decide +kernel
theorem dX4_succeeds_59 : decode cX4_succeeds 59 = .ok (.tableswitch 334 1 9 #[49, 75, 109, 138, 185, 208, 248, 272, 307], 49) := by decide +kernel
theorem dX4_succeeds_108 : decode cX4_succeeds 108 = .ok (.iload_n 2, 1) := by decide +kernel
theorem dX4_succeeds_109 : decode cX4_succeeds 109 = .ok (.ifCond .ne 23, 3) := by decide +kernel
theorem dX4_succeeds_112 : decode cX4_succeeds 112 = .ok (.iload 4, 2) := by decide +kernel
theorem dX4_succeeds_114 : decode cX4_succeeds 114 = .ok (.ifCond .ne 18, 3) := by decide +kernel
theorem dX4_succeeds_117 : decode cX4_succeeds 117 = .ok (.aload_n 0, 1) := by decide +kernel
theorem dX4_succeeds_118 : decode cX4_succeeds 118 = .ok (.iload 7, 2) := by decide +kernel
theorem dX4_succeeds_120 : decode cX4_succeeds 120 = .ok (.invokevirtual 10, 3) := by decide +kernel
theorem dX4_succeeds_123 : decode cX4_succeeds 123 = .ok (.bipush (-2), 2) := by decide +kernel
theorem dX4_succeeds_125 : decode cX4_succeeds 125 = .ok (.if_icmp .eq 7, 3) := by decide +kernel
theorem dX4_succeeds_128 : decode cX4_succeeds 128 = .ok (.iconst 1, 1) := by decide +kernel
theorem dX4_succeeds_129 : decode cX4_succeeds 129 = .ok (.goto 4, 3) := by decide +kernel
theorem dX4_succeeds_132 : decode cX4_succeeds 132 = .ok (.iconst 0, 1) := by decide +kernel
theorem dX4_succeeds_133 : decode cX4_succeeds 133 = .ok (.ireturn, 1) := by decide +kernel
theorem dX4_succeeds_134 : decode cX4_succeeds 134 = .ok (.iload 5, 2) := by decide +kernel
theorem dX4_succeeds_136 : decode cX4_succeeds 136 = .ok (.bipush 8, 2) := by decide +kernel
theorem dX4_succeeds_138 : decode cX4_succeeds 138 = .ok (.if_icmp .ge 28, 3) := by decide +kernel
theorem dX4_succeeds_141 : decode cX4_succeeds 141 = .ok (.iload 6, 2) := by decide +kernel
theorem dX4_succeeds_143 : decode cX4_succeeds 143 = .ok (.ifCond .ne 23, 3) := by decide +kernel
theorem dX4_succeeds_146 : decode cX4_succeeds 146 = .ok (.aload_n 0, 1) := by decide +kernel
theorem dX4_succeeds_147 : decode cX4_succeeds 147 = .ok (.iload_n 2, 1) := by decide +kernel
theorem dX4_succeeds_148 : decode cX4_succeeds 148 = .ok (.iload 4, 2) := by decide +kernel
theorem dX4_succeeds_150 : decode cX4_succeeds 150 = .ok (.iconst 1, 1) := by decide +kernel
theorem dX4_succeeds_151 : decode cX4_succeeds 151 = .ok (.iload 5, 2) := by decide +kernel
theorem dX4_succeeds_153 : decode cX4_succeeds 153 = .ok (.ishl, 1) := by decide +kernel
theorem dX4_succeeds_154 : decode cX4_succeeds 154 = .ok (.iconst 0, 1) := by decide +kernel
theorem dX4_succeeds_155 : decode cX4_succeeds 155 = .ok (.iconst 0, 1) := by decide +kernel
theorem dX4_succeeds_156 : decode cX4_succeeds 156 = .ok (.invokevirtual 16, 3) := by decide +kernel
theorem dX4_succeeds_159 : decode cX4_succeeds 159 = .ok (.ifCond .lt 7, 3) := by decide +kernel
theorem dX4_succeeds_162 : decode cX4_succeeds 162 = .ok (.iconst 1, 1) := by decide +kernel
theorem dX4_succeeds_163 : decode cX4_succeeds 163 = .ok (.goto 4, 3) := by decide +kernel
theorem dX4_succeeds_166 : decode cX4_succeeds 166 = .ok (.iconst 0, 1) := by decide +kernel
theorem dX4_succeeds_167 : decode cX4_succeeds 167 = .ok (.ireturn, 1) := by decide +kernel
theorem dX4_succeeds_168 : decode cX4_succeeds 168 = .ok (.iload 6, 2) := by decide +kernel
theorem dX4_succeeds_170 : decode cX4_succeeds 170 = .ok (.ifCond .ne 25, 3) := by decide +kernel
theorem dX4_succeeds_173 : decode cX4_succeeds 173 = .ok (.aload_n 0, 1) := by decide +kernel
theorem dX4_succeeds_174 : decode cX4_succeeds 174 = .ok (.iload_n 2, 1) := by decide +kernel
theorem dX4_succeeds_175 : decode cX4_succeeds 175 = .ok (.iload_n 3, 1) := by decide +kernel
theorem dX4_succeeds_176 : decode cX4_succeeds 176 = .ok (.iload_n 1, 1) := by decide +kernel
theorem dX4_succeeds_177 : decode cX4_succeeds 177 = .ok (.bipush 10, 2) := by decide +kernel
theorem dX4_succeeds_179 : decode cX4_succeeds 179 = .ok (.idiv, 1) := by decide +kernel
theorem dX4_succeeds_180 : decode cX4_succeeds 180 = .ok (.bipush 100, 2) := by decide +kernel
theorem dX4_succeeds_182 : decode cX4_succeeds 182 = .ok (.irem, 1) := by decide +kernel
theorem dX4_succeeds_183 : decode cX4_succeeds 183 = .ok (.invokevirtual 20, 3) := by decide +kernel
theorem dX4_succeeds_186 : decode cX4_succeeds 186 = .ok (.bipush (-2), 2) := by decide +kernel
theorem dX4_succeeds_188 : decode cX4_succeeds 188 = .ok (.if_icmp .eq 7, 3) := by decide +kernel
theorem dX4_succeeds_191 : decode cX4_succeeds 191 = .ok (.iconst 1, 1) := by decide +kernel
theorem dX4_succeeds_192 : decode cX4_succeeds 192 = .ok (.goto 4, 3) := by decide +kernel
theorem dX4_succeeds_195 : decode cX4_succeeds 195 = .ok (.iconst 0, 1) := by decide +kernel
theorem dX4_succeeds_196 : decode cX4_succeeds 196 = .ok (.ireturn, 1) := by decide +kernel
theorem dX4_succeeds_197 : decode cX4_succeeds 197 = .ok (.iload 6, 2) := by decide +kernel
theorem dX4_succeeds_199 : decode cX4_succeeds 199 = .ok (.iconst 1, 1) := by decide +kernel
theorem dX4_succeeds_200 : decode cX4_succeeds 200 = .ok (.if_icmp .gt 42, 3) := by decide +kernel
theorem dX4_succeeds_203 : decode cX4_succeeds 203 = .ok (.aload_n 0, 1) := by decide +kernel
theorem dX4_succeeds_204 : decode cX4_succeeds 204 = .ok (.iload_n 1, 1) := by decide +kernel
theorem dX4_succeeds_205 : decode cX4_succeeds 205 = .ok (.sipush 1000, 3) := by decide +kernel
theorem dX4_succeeds_208 : decode cX4_succeeds 208 = .ok (.idiv, 1) := by decide +kernel
theorem dX4_succeeds_209 : decode cX4_succeeds 209 = .ok (.bipush 100, 2) := by decide +kernel
theorem dX4_succeeds_211 : decode cX4_succeeds 211 = .ok (.irem, 1) := by decide +kernel
theorem dX4_succeeds_212 : decode cX4_succeeds 212 = .ok (.iload_n 1, 1) := by decide +kernel
theorem dX4_succeeds_213 : decode cX4_succeeds 213 = .ok (.bipush 10, 2) := by decide +kernel
theorem dX4_succeeds_215 : decode cX4_succeeds 215 = .ok (.idiv, 1) := by decide +kernel
theorem dX4_succeeds_216 : decode cX4_succeeds 216 = .ok (.bipush 100, 2) := by decide +kernel
theorem dX4_succeeds_218 : decode cX4_succeeds 218 = .ok (.irem, 1) := by decide +kernel
theorem dX4_succeeds_219 : decode cX4_succeeds 219 = .ok (.iload 6, 2) := by decide +kernel
theorem dX4_succeeds_221 : decode cX4_succeeds 221 = .ok (.iconst 1, 1) := by decide +kernel
theorem dX4_succeeds_222 : decode cX4_succeeds 222 = .ok (.if_icmp .ne 7, 3) := by decide +kernel
theorem dX4_succeeds_225 : decode cX4_succeeds 225 = .ok (.iconst 1, 1) := by decide +kernel
theorem dX4_succeeds_226 : decode cX4_succeeds 226 = .ok (.goto 4, 3) := by decide +kernel
theorem dX4_succeeds_229 : decode cX4_succeeds 229 = .ok (.iconst 0, 1) := by decide +kernel
theorem dX4_succeeds_230 : decode cX4_succeeds 230 = .ok (.invokevirtual 24, 3) := by decide +kernel
theorem dX4_succeeds_233 : decode cX4_succeeds 233 = .ok (.bipush (-2), 2) := by decide +kernel
theorem dX4_succeeds_235 : decode cX4_succeeds 235 = .ok (.if_icmp .eq 7, 3) := by decide +kernel
theorem dX4_succeeds_238 : decode cX4_succeeds 238 = .ok (.iconst 1, 1) := by decide +kernel
theorem dX4_succeeds_239 : decode cX4_succeeds 239 = .ok (.goto 4, 3) := by decide +kernel
theorem dX4_succeeds_242 : decode cX4_succeeds 242 = .ok (.iconst 0, 1) := by decide +kernel
theorem dX4_succeeds_243 : decode cX4_succeeds 243 = .ok (.ireturn, 1) := by decide +kernel
theorem dX4_succeeds_244 : decode cX4_succeeds 244 = .ok (.iload 4, 2) := by decide +kernel
theorem dX4_succeeds_246 : decode cX4_succeeds 246 = .ok (.ifCond .ne 19, 3) := by decide +kernel
theorem dX4_succeeds_249 : decode cX4_succeeds 249 = .ok (.aload_n 0, 1) := by decide +kernel
theorem dX4_succeeds_250 : decode cX4_succeeds 250 = .ok (.iload_n 2, 1) := by decide +kernel
theorem dX4_succeeds_251 : decode cX4_succeeds 251 = .ok (.iload 7, 2) := by decide +kernel
theorem dX4_succeeds_253 : decode cX4_succeeds 253 = .ok (.invokevirtual 28, 3) := by decide +kernel
theorem dX4_succeeds_256 : decode cX4_succeeds 256 = .ok (.bipush (-2), 2) := by decide +kernel
theorem dX4_succeeds_258 : decode cX4_succeeds 258 = .ok (.if_icmp .eq 7, 3) := by decide +kernel
theorem dX4_succeeds_261 : decode cX4_succeeds 261 = .ok (.iconst 1, 1) := by decide +kernel
theorem dX4_succeeds_262 : decode cX4_succeeds 262 = .ok (.goto 4, 3) := by decide +kernel
theorem dX4_succeeds_265 : decode cX4_succeeds 265 = .ok (.iconst 0, 1) := by decide +kernel
theorem dX4_succeeds_266 : decode cX4_succeeds 266 = .ok (.ireturn, 1) := by decide +kernel
theorem dX4_succeeds_267 : decode cX4_succeeds 267 = .ok (.iload 7, 2) := by decide +kernel
theorem dX4_succeeds_269 : decode cX4_succeeds 269 = .ok (.ifCond .ne 36, 3) := by decide +kernel
theorem dX4_succeeds_272 : decode cX4_succeeds 272 = .ok (.iload 4, 2) := by decide +kernel
theorem dX4_succeeds_274 : decode cX4_succeeds 274 = .ok (.invokestatic 32, 3) := by decide +kernel
theorem dX4_succeeds_277 : decode cX4_succeeds 277 = .ok (.ifCond .eq 28, 3) := by decide +kernel
theorem dX4_succeeds_280 : decode cX4_succeeds 280 = .ok (.aload_n 0, 1) := by decide +kernel
theorem dX4_succeeds_281 : decode cX4_succeeds 281 = .ok (.iload_n 2, 1) := by decide +kernel
theorem dX4_succeeds_282 : decode cX4_succeeds 282 = .ok (.invokevirtual 36, 3) := by decide +kernel
theorem dX4_succeeds_285 : decode cX4_succeeds 285 = .ok (.ifCond .eq 20, 3) := by decide +kernel
theorem dX4_succeeds_288 : decode cX4_succeeds 288 = .ok (.aload_n 0, 1) := by decide +kernel
theorem dX4_succeeds_289 : decode cX4_succeeds 289 = .ok (.iload_n 2, 1) := by decide +kernel
theorem dX4_succeeds_290 : decode cX4_succeeds 290 = .ok (.invokevirtual 39, 3) := by decide +kernel
theorem dX4_succeeds_293 : decode cX4_succeeds 293 = .ok (.iload 4, 2) := by decide +kernel
theorem dX4_succeeds_295 : decode cX4_succeeds 295 = .ok (.invokestatic 42, 3) := by decide +kernel
theorem dX4_succeeds_298 : decode cX4_succeeds 298 = .ok (.ifCond .eq 7, 3) := by decide +kernel
theorem dX4_succeeds_301 : decode cX4_succeeds 301 = .ok (.iconst 1, 1) := by decide +kernel
theorem dX4_succeeds_302 : decode cX4_succeeds 302 = .ok (.goto 4, 3) := by decide +kernel
theorem dX4_succeeds_305 : decode cX4_succeeds 305 = .ok (.iconst 0, 1) := by decide +kernel
theorem dX4_succeeds_306 : decode cX4_succeeds 306 = .ok (.ireturn, 1) := by decide +kernel
theorem dX4_succeeds_307 : decode cX4_succeeds 307 = .ok (.iload_n 2, 1) := by decide +kernel
theorem dX4_succeeds_308 : decode cX4_succeeds 308 = .ok (.ifCond .ne 21, 3) := by decide +kernel
theorem dX4_succeeds_311 : decode cX4_succeeds 311 = .ok (.iload 4, 2) := by decide +kernel
theorem dX4_succeeds_313 : decode cX4_succeeds 313 = .ok (.ifCond .ne 16, 3) := by decide +kernel
theorem dX4_succeeds_316 : decode cX4_succeeds 316 = .ok (.aload_n 0, 1) := by decide +kernel
theorem dX4_succeeds_317 : decode cX4_succeeds 317 = .ok (.invokevirtual 46, 3) := by decide +kernel
theorem dX4_succeeds_320 : decode cX4_succeeds 320 = .ok (.iload 7, 2) := by decide +kernel
theorem dX4_succeeds_322 : decode cX4_succeeds 322 = .ok (.if_icmp .gt 7, 3) := by decide +kernel
theorem dX4_succeeds_325 : decode cX4_succeeds 325 = .ok (.iconst 1, 1) := by decide +kernel
theorem dX4_succeeds_326 : decode cX4_succeeds 326 = .ok (.goto 4, 3) := by decide +kernel
theorem dX4_succeeds_329 : decode cX4_succeeds 329 = .ok (.iconst 0, 1) := by decide +kernel
theorem dX4_succeeds_330 : decode cX4_succeeds 330 = .ok (.ireturn, 1) := by decide +kernel
theorem dX4_succeeds_331 : decode cX4_succeeds 331 = .ok (.iload_n 3, 1) := by decide +kernel
theorem dX4_succeeds_332 : decode cX4_succeeds 332 = .ok (.ifCond .ne 32, 3) := by decide +kernel
theorem dX4_succeeds_335 : decode cX4_succeeds 335 = .ok (.aload_n 0, 1) := by decide +kernel
theorem dX4_succeeds_336 : decode cX4_succeeds 336 = .ok (.getfield 50, 3) := by decide +kernel
theorem dX4_succeeds_339 : decode cX4_succeeds 339 = .ok (.iload_n 2, 1) := by decide +kernel
theorem dX4_succeeds_340 : decode cX4_succeeds 340 = .ok (.invokevirtual 54, 3) := by decide +kernel
theorem dX4_succeeds_343 : decode cX4_succeeds 343 = .ok (.ifCond .eq 21, 3) := by decide +kernel
theorem dX4_succeeds_346 : decode cX4_succeeds 346 = .ok (.aload_n 0, 1) := by decide +kernel
theorem dX4_succeeds_347 : decode cX4_succeeds 347 = .ok (.getfield 50, 3) := by decide +kernel
theorem dX4_succeeds_350 : decode cX4_succeeds 350 = .ok (.iload_n 2, 1) := by decide +kernel
theorem dX4_succeeds_351 : decode cX4_succeeds 351 = .ok (.iconst 4, 1) := by decide +kernel
theorem dX4_succeeds_352 : decode cX4_succeeds 352 = .ok (.invokevirtual 59, 3) := by decide +kernel
theorem dX4_succeeds_355 : decode cX4_succeeds 355 = .ok (.iload 8, 2) := by decide +kernel
theorem dX4_succeeds_357 : decode cX4_succeeds 357 = .ok (.if_icmp .lt 7, 3) := by decide +kernel
theorem dX4_succeeds_360 : decode cX4_succeeds 360 = .ok (.iconst 1, 1) := by decide +kernel
theorem dX4_succeeds_361 : decode cX4_succeeds 361 = .ok (.goto 4, 3) := by decide +kernel
theorem dX4_succeeds_364 : decode cX4_succeeds 364 = .ok (.iconst 0, 1) := by decide +kernel
theorem dX4_succeeds_365 : decode cX4_succeeds 365 = .ok (.ireturn, 1) := by decide +kernel
theorem dX4_succeeds_366 : decode cX4_succeeds 366 = .ok (.iload_n 3, 1) := by decide +kernel
theorem dX4_succeeds_367 : decode cX4_succeeds 367 = .ok (.ifCond .ne 24, 3) := by decide +kernel
theorem dX4_succeeds_370 : decode cX4_succeeds 370 = .ok (.iload_n 2, 1) := by decide +kernel
theorem dX4_succeeds_371 : decode cX4_succeeds 371 = .ok (.invokestatic 62, 3) := by decide +kernel
theorem dX4_succeeds_374 : decode cX4_succeeds 374 = .ok (.ifCond .eq 17, 3) := by decide +kernel
theorem dX4_succeeds_377 : decode cX4_succeeds 377 = .ok (.aload_n 0, 1) := by decide +kernel
theorem dX4_succeeds_378 : decode cX4_succeeds 378 = .ok (.iload_n 2, 1) := by decide +kernel
theorem dX4_succeeds_379 : decode cX4_succeeds 379 = .ok (.invokevirtual 65, 3) := by decide +kernel
theorem dX4_succeeds_382 : decode cX4_succeeds 382 = .ok (.iload 8, 2) := by decide +kernel
theorem dX4_succeeds_384 : decode cX4_succeeds 384 = .ok (.if_icmp .lt 7, 3) := by decide +kernel
theorem dX4_succeeds_387 : decode cX4_succeeds 387 = .ok (.iconst 1, 1) := by decide +kernel
theorem dX4_succeeds_388 : decode cX4_succeeds 388 = .ok (.goto 4, 3) := by decide +kernel
theorem dX4_succeeds_391 : decode cX4_succeeds 391 = .ok (.iconst 0, 1) := by decide +kernel
theorem dX4_succeeds_392 : decode cX4_succeeds 392 = .ok (.ireturn, 1) := by decide +kernel
theorem dX4_succeeds_393 : decode cX4_succeeds 393 = .ok (.iconst 0, 1) := by decide +kernel
theorem dX4_succeeds_394 : decode cX4_succeeds 394 = .ok (.ireturn, 1) := by decide +kernel
theorem dX5_playTurn_0 : decode cX5_playTurn 0 = .ok (.iload_n 1, 1) := by decide +kernel
theorem dX5_playTurn_1 : decode cX5_playTurn 1 = .ok (.bipush 8, 2) := by decide +kernel
theorem dX5_playTurn_3 : decode cX5_playTurn 3 = .ok (.idiv, 1) := by decide +kernel
theorem dX5_playTurn_4 : decode cX5_playTurn 4 = .ok (.istore_n 2, 1) := by decide +kernel
theorem dX5_playTurn_5 : decode cX5_playTurn 5 = .ok (.iload_n 1, 1) := by decide +kernel
theorem dX5_playTurn_6 : decode cX5_playTurn 6 = .ok (.bipush 8, 2) := by decide +kernel
theorem dX5_playTurn_8 : decode cX5_playTurn 8 = .ok (.irem, 1) := by decide +kernel
theorem dX5_playTurn_9 : decode cX5_playTurn 9 = .ok (.tableswitch 192 0 5 #[39, 79, 79, 79, 126, 149], 39) := by decide +kernel
theorem dX5_playTurn_48 : decode cX5_playTurn 48 = .ok (.aload_n 0, 1) := by decide +kernel
theorem dX5_playTurn_49 : decode cX5_playTurn 49 = .ok (.iconst 1, 1) := by decide +kernel
theorem dX5_playTurn_50 : decode cX5_playTurn 50 = .ok (.iload_n 2, 1) := by decide +kernel
theorem dX5_playTurn_51 : decode cX5_playTurn 51 = .ok (.sipush 255, 3) := by decide +kernel
theorem dX5_playTurn_54 : decode cX5_playTurn 54 = .ok (.irem, 1) := by decide +kernel
theorem dX5_playTurn_55 : decode cX5_playTurn 55 = .ok (.iadd, 1) := by decide +kernel
theorem dX5_playTurn_56 : decode cX5_playTurn 56 = .ok (.iconst 1, 1) := by decide +kernel
theorem dX5_playTurn_57 : decode cX5_playTurn 57 = .ok (.iload_n 2, 1) := by decide +kernel
theorem dX5_playTurn_58 : decode cX5_playTurn 58 = .ok (.sipush 256, 3) := by decide +kernel
theorem dX5_playTurn_61 : decode cX5_playTurn 61 = .ok (.idiv, 1) := by decide +kernel
theorem dX5_playTurn_62 : decode cX5_playTurn 62 = .ok (.iconst 3, 1) := by decide +kernel
theorem dX5_playTurn_63 : decode cX5_playTurn 63 = .ok (.irem, 1) := by decide +kernel
theorem dX5_playTurn_64 : decode cX5_playTurn 64 = .ok (.iadd, 1) := by decide +kernel
theorem dX5_playTurn_65 : decode cX5_playTurn 65 = .ok (.iload_n 2, 1) := by decide +kernel
theorem dX5_playTurn_66 : decode cX5_playTurn 66 = .ok (.sipush 1024, 3) := by decide +kernel
theorem dX5_playTurn_69 : decode cX5_playTurn 69 = .ok (.idiv, 1) := by decide +kernel
theorem dX5_playTurn_70 : decode cX5_playTurn 70 = .ok (.bipush 12, 2) := by decide +kernel
theorem dX5_playTurn_72 : decode cX5_playTurn 72 = .ok (.irem, 1) := by decide +kernel
theorem dX5_playTurn_73 : decode cX5_playTurn 73 = .ok (.iconst 1, 1) := by decide +kernel
theorem dX5_playTurn_74 : decode cX5_playTurn 74 = .ok (.iload_n 2, 1) := by decide +kernel
theorem dX5_playTurn_75 : decode cX5_playTurn 75 = .ok (.sipush 16384, 3) := by decide +kernel
theorem dX5_playTurn_78 : decode cX5_playTurn 78 = .ok (.idiv, 1) := by decide +kernel
theorem dX5_playTurn_79 : decode cX5_playTurn 79 = .ok (.sipush 500, 3) := by decide +kernel
theorem dX5_playTurn_82 : decode cX5_playTurn 82 = .ok (.irem, 1) := by decide +kernel
theorem dX5_playTurn_83 : decode cX5_playTurn 83 = .ok (.iadd, 1) := by decide +kernel
theorem dX5_playTurn_84 : decode cX5_playTurn 84 = .ok (.invokevirtual 7, 3) := by decide +kernel
theorem dX5_playTurn_87 : decode cX5_playTurn 87 = .ok (.ireturn, 1) := by decide +kernel
theorem dX5_playTurn_88 : decode cX5_playTurn 88 = .ok (.aload_n 0, 1) := by decide +kernel
theorem dX5_playTurn_89 : decode cX5_playTurn 89 = .ok (.iload_n 2, 1) := by decide +kernel
theorem dX5_playTurn_90 : decode cX5_playTurn 90 = .ok (.bipush 8, 2) := by decide +kernel
theorem dX5_playTurn_92 : decode cX5_playTurn 92 = .ok (.irem, 1) := by decide +kernel
theorem dX5_playTurn_93 : decode cX5_playTurn 93 = .ok (.iload_n 2, 1) := by decide +kernel
theorem dX5_playTurn_94 : decode cX5_playTurn 94 = .ok (.bipush 8, 2) := by decide +kernel
theorem dX5_playTurn_96 : decode cX5_playTurn 96 = .ok (.idiv, 1) := by decide +kernel
theorem dX5_playTurn_97 : decode cX5_playTurn 97 = .ok (.bipush 12, 2) := by decide +kernel
theorem dX5_playTurn_99 : decode cX5_playTurn 99 = .ok (.irem, 1) := by decide +kernel
theorem dX5_playTurn_100 : decode cX5_playTurn 100 = .ok (.iload_n 2, 1) := by decide +kernel
theorem dX5_playTurn_101 : decode cX5_playTurn 101 = .ok (.sipush 128, 3) := by decide +kernel
theorem dX5_playTurn_104 : decode cX5_playTurn 104 = .ok (.idiv, 1) := by decide +kernel
theorem dX5_playTurn_105 : decode cX5_playTurn 105 = .ok (.sipush 256, 3) := by decide +kernel
theorem dX5_playTurn_108 : decode cX5_playTurn 108 = .ok (.irem, 1) := by decide +kernel
theorem dX5_playTurn_109 : decode cX5_playTurn 109 = .ok (.iload_n 2, 1) := by decide +kernel
theorem dX5_playTurn_110 : decode cX5_playTurn 110 = .ok (.ldc 13, 2) := by decide +kernel
theorem dX5_playTurn_112 : decode cX5_playTurn 112 = .ok (.idiv, 1) := by decide +kernel
theorem dX5_playTurn_113 : decode cX5_playTurn 113 = .ok (.bipush 6, 2) := by decide +kernel
theorem dX5_playTurn_115 : decode cX5_playTurn 115 = .ok (.irem, 1) := by decide +kernel
theorem dX5_playTurn_116 : decode cX5_playTurn 116 = .ok (.iload_n 2, 1) := by decide +kernel
theorem dX5_playTurn_117 : decode cX5_playTurn 117 = .ok (.ldc 14, 2) := by decide +kernel
theorem dX5_playTurn_119 : decode cX5_playTurn 119 = .ok (.idiv, 1) := by decide +kernel
theorem dX5_playTurn_120 : decode cX5_playTurn 120 = .ok (.iconst 2, 1) := by decide +kernel
theorem dX5_playTurn_121 : decode cX5_playTurn 121 = .ok (.irem, 1) := by decide +kernel
theorem dX5_playTurn_122 : decode cX5_playTurn 122 = .ok (.iconst 1, 1) := by decide +kernel
theorem dX5_playTurn_123 : decode cX5_playTurn 123 = .ok (.if_icmp .ne 7, 3) := by decide +kernel
theorem dX5_playTurn_126 : decode cX5_playTurn 126 = .ok (.iconst 1, 1) := by decide +kernel
theorem dX5_playTurn_127 : decode cX5_playTurn 127 = .ok (.goto 4, 3) := by decide +kernel
theorem dX5_playTurn_130 : decode cX5_playTurn 130 = .ok (.iconst 0, 1) := by decide +kernel
theorem dX5_playTurn_131 : decode cX5_playTurn 131 = .ok (.invokevirtual 15, 3) := by decide +kernel
theorem dX5_playTurn_134 : decode cX5_playTurn 134 = .ok (.ireturn, 1) := by decide +kernel
theorem dX5_playTurn_135 : decode cX5_playTurn 135 = .ok (.aload_n 0, 1) := by decide +kernel
theorem dX5_playTurn_136 : decode cX5_playTurn 136 = .ok (.iload_n 2, 1) := by decide +kernel
theorem dX5_playTurn_137 : decode cX5_playTurn 137 = .ok (.bipush 6, 2) := by decide +kernel
theorem dX5_playTurn_139 : decode cX5_playTurn 139 = .ok (.irem, 1) := by decide +kernel
theorem dX5_playTurn_140 : decode cX5_playTurn 140 = .ok (.iload_n 2, 1) := by decide +kernel
theorem dX5_playTurn_141 : decode cX5_playTurn 141 = .ok (.bipush 8, 2) := by decide +kernel
theorem dX5_playTurn_143 : decode cX5_playTurn 143 = .ok (.idiv, 1) := by decide +kernel
theorem dX5_playTurn_144 : decode cX5_playTurn 144 = .ok (.bipush 8, 2) := by decide +kernel
theorem dX5_playTurn_146 : decode cX5_playTurn 146 = .ok (.irem, 1) := by decide +kernel
theorem dX5_playTurn_147 : decode cX5_playTurn 147 = .ok (.iload_n 2, 1) := by decide +kernel
theorem dX5_playTurn_148 : decode cX5_playTurn 148 = .ok (.bipush 64, 2) := by decide +kernel
theorem dX5_playTurn_150 : decode cX5_playTurn 150 = .ok (.idiv, 1) := by decide +kernel
theorem dX5_playTurn_151 : decode cX5_playTurn 151 = .ok (.bipush 12, 2) := by decide +kernel
theorem dX5_playTurn_153 : decode cX5_playTurn 153 = .ok (.irem, 1) := by decide +kernel
theorem dX5_playTurn_154 : decode cX5_playTurn 154 = .ok (.invokevirtual 19, 3) := by decide +kernel
theorem dX5_playTurn_157 : decode cX5_playTurn 157 = .ok (.ireturn, 1) := by decide +kernel
theorem dX5_playTurn_158 : decode cX5_playTurn 158 = .ok (.aload_n 0, 1) := by decide +kernel
theorem dX5_playTurn_159 : decode cX5_playTurn 159 = .ok (.iload_n 2, 1) := by decide +kernel
theorem dX5_playTurn_160 : decode cX5_playTurn 160 = .ok (.bipush 12, 2) := by decide +kernel
theorem dX5_playTurn_162 : decode cX5_playTurn 162 = .ok (.irem, 1) := by decide +kernel
theorem dX5_playTurn_163 : decode cX5_playTurn 163 = .ok (.iload_n 2, 1) := by decide +kernel
theorem dX5_playTurn_164 : decode cX5_playTurn 164 = .ok (.bipush 12, 2) := by decide +kernel
theorem dX5_playTurn_166 : decode cX5_playTurn 166 = .ok (.irem, 1) := by decide +kernel
theorem dX5_playTurn_167 : decode cX5_playTurn 167 = .ok (.iload_n 2, 1) := by decide +kernel
theorem dX5_playTurn_168 : decode cX5_playTurn 168 = .ok (.bipush 16, 2) := by decide +kernel
theorem dX5_playTurn_170 : decode cX5_playTurn 170 = .ok (.idiv, 1) := by decide +kernel
theorem dX5_playTurn_171 : decode cX5_playTurn 171 = .ok (.iconst 2, 1) := by decide +kernel
theorem dX5_playTurn_172 : decode cX5_playTurn 172 = .ok (.irem, 1) := by decide +kernel
theorem dX5_playTurn_173 : decode cX5_playTurn 173 = .ok (.ifCond .ne 7, 3) := by decide +kernel
theorem dX5_playTurn_176 : decode cX5_playTurn 176 = .ok (.iconst 1, 1) := by decide +kernel
theorem dX5_playTurn_177 : decode cX5_playTurn 177 = .ok (.goto 4, 3) := by decide +kernel
theorem dX5_playTurn_180 : decode cX5_playTurn 180 = .ok (.iconst 4, 1) := by decide +kernel
theorem dX5_playTurn_181 : decode cX5_playTurn 181 = .ok (.iadd, 1) := by decide +kernel
theorem dX5_playTurn_182 : decode cX5_playTurn 182 = .ok (.iload_n 2, 1) := by decide +kernel
theorem dX5_playTurn_183 : decode cX5_playTurn 183 = .ok (.bipush 64, 2) := by decide +kernel
theorem dX5_playTurn_185 : decode cX5_playTurn 185 = .ok (.idiv, 1) := by decide +kernel
theorem dX5_playTurn_186 : decode cX5_playTurn 186 = .ok (.iconst 2, 1) := by decide +kernel
theorem dX5_playTurn_187 : decode cX5_playTurn 187 = .ok (.irem, 1) := by decide +kernel
theorem dX5_playTurn_188 : decode cX5_playTurn 188 = .ok (.iconst 1, 1) := by decide +kernel
theorem dX5_playTurn_189 : decode cX5_playTurn 189 = .ok (.if_icmp .ne 7, 3) := by decide +kernel
theorem dX5_playTurn_192 : decode cX5_playTurn 192 = .ok (.iconst 1, 1) := by decide +kernel
theorem dX5_playTurn_193 : decode cX5_playTurn 193 = .ok (.goto 4, 3) := by decide +kernel
theorem dX5_playTurn_196 : decode cX5_playTurn 196 = .ok (.iconst 0, 1) := by decide +kernel
theorem dX5_playTurn_197 : decode cX5_playTurn 197 = .ok (.invokevirtual 23, 3) := by decide +kernel
theorem dX5_playTurn_200 : decode cX5_playTurn 200 = .ok (.ireturn, 1) := by decide +kernel
theorem dX5_playTurn_201 : decode cX5_playTurn 201 = .ok (.aload_n 0, 1) := by decide +kernel
theorem dX5_playTurn_202 : decode cX5_playTurn 202 = .ok (.iconst 1, 1) := by decide +kernel
theorem dX5_playTurn_203 : decode cX5_playTurn 203 = .ok (.iload_n 2, 1) := by decide +kernel
theorem dX5_playTurn_204 : decode cX5_playTurn 204 = .ok (.bipush 30, 2) := by decide +kernel
theorem dX5_playTurn_206 : decode cX5_playTurn 206 = .ok (.irem, 1) := by decide +kernel
theorem dX5_playTurn_207 : decode cX5_playTurn 207 = .ok (.iadd, 1) := by decide +kernel
theorem dX5_playTurn_208 : decode cX5_playTurn 208 = .ok (.invokevirtual 27, 3) := by decide +kernel
theorem dX5_playTurn_211 : decode cX5_playTurn 211 = .ok (.ireturn, 1) := by decide +kernel
theorem dX6_init_0 : decode cX6_init 0 = .ok (.aload_n 0, 1) := by decide +kernel
theorem dX6_init_1 : decode cX6_init 1 = .ok (.invokespecial 3, 3) := by decide +kernel
theorem dX6_init_4 : decode cX6_init 4 = .ok (.aload_n 0, 1) := by decide +kernel
theorem dX6_init_5 : decode cX6_init 5 = .ok (.bipush 120, 2) := by decide +kernel
theorem dX6_init_7 : decode cX6_init 7 = .ok (.newarray .int, 2) := by decide +kernel
theorem dX6_init_9 : decode cX6_init 9 = .ok (.putfield 9, 3) := by decide +kernel
theorem dX6_init_12 : decode cX6_init 12 = .ok (.aload_n 0, 1) := by decide +kernel
theorem dX6_init_13 : decode cX6_init 13 = .ok (.iconst 4, 1) := by decide +kernel
theorem dX6_init_14 : decode cX6_init 14 = .ok (.newarray .int, 2) := by decide +kernel
theorem dX6_init_16 : decode cX6_init 16 = .ok (.putfield 15, 3) := by decide +kernel
theorem dX6_init_19 : decode cX6_init 19 = .ok (.return_, 1) := by decide +kernel
theorem dX6_isFull_0 : decode cX6_isFull 0 = .ok (.aload_n 0, 1) := by decide +kernel
theorem dX6_isFull_1 : decode cX6_isFull 1 = .ok (.getfield 18, 3) := by decide +kernel
theorem dX6_isFull_4 : decode cX6_isFull 4 = .ok (.aload_n 0, 1) := by decide +kernel
theorem dX6_isFull_5 : decode cX6_isFull 5 = .ok (.getfield 9, 3) := by decide +kernel
theorem dX6_isFull_8 : decode cX6_isFull 8 = .ok (.arraylength, 1) := by decide +kernel
theorem dX6_isFull_9 : decode cX6_isFull 9 = .ok (.if_icmp .lt 7, 3) := by decide +kernel
theorem dX6_isFull_12 : decode cX6_isFull 12 = .ok (.iconst 1, 1) := by decide +kernel
theorem dX6_isFull_13 : decode cX6_isFull 13 = .ok (.goto 4, 3) := by decide +kernel
theorem dX6_isFull_16 : decode cX6_isFull 16 = .ok (.iconst 0, 1) := by decide +kernel
theorem dX6_isFull_17 : decode cX6_isFull 17 = .ok (.ireturn, 1) := by decide +kernel
theorem dX6_add_0 : decode cX6_add 0 = .ok (.aload_n 0, 1) := by decide +kernel
theorem dX6_add_1 : decode cX6_add 1 = .ok (.getfield 18, 3) := by decide +kernel
theorem dX6_add_4 : decode cX6_add 4 = .ok (.ifCond .lt 35, 3) := by decide +kernel
theorem dX6_add_7 : decode cX6_add 7 = .ok (.aload_n 0, 1) := by decide +kernel
theorem dX6_add_8 : decode cX6_add 8 = .ok (.getfield 18, 3) := by decide +kernel
theorem dX6_add_11 : decode cX6_add 11 = .ok (.aload_n 0, 1) := by decide +kernel
theorem dX6_add_12 : decode cX6_add 12 = .ok (.getfield 9, 3) := by decide +kernel
theorem dX6_add_15 : decode cX6_add 15 = .ok (.arraylength, 1) := by decide +kernel
theorem dX6_add_16 : decode cX6_add 16 = .ok (.if_icmp .ge 23, 3) := by decide +kernel
theorem dX6_add_19 : decode cX6_add 19 = .ok (.aload_n 0, 1) := by decide +kernel
theorem dX6_add_20 : decode cX6_add 20 = .ok (.getfield 9, 3) := by decide +kernel
theorem dX6_add_23 : decode cX6_add 23 = .ok (.aload_n 0, 1) := by decide +kernel
theorem dX6_add_24 : decode cX6_add 24 = .ok (.getfield 18, 3) := by decide +kernel
theorem dX6_add_27 : decode cX6_add 27 = .ok (.iload_n 1, 1) := by decide +kernel
theorem dX6_add_28 : decode cX6_add 28 = .ok (.iastore, 1) := by decide +kernel
theorem dX6_add_29 : decode cX6_add 29 = .ok (.aload_n 0, 1) := by decide +kernel
theorem dX6_add_30 : decode cX6_add 30 = .ok (.dup, 1) := by decide +kernel
theorem dX6_add_31 : decode cX6_add 31 = .ok (.getfield 18, 3) := by decide +kernel
theorem dX6_add_34 : decode cX6_add 34 = .ok (.iconst 1, 1) := by decide +kernel
theorem dX6_add_35 : decode cX6_add 35 = .ok (.iadd, 1) := by decide +kernel
theorem dX6_add_36 : decode cX6_add 36 = .ok (.putfield 18, 3) := by decide +kernel
theorem dX6_add_39 : decode cX6_add 39 = .ok (.aload_n 0, 1) := by decide +kernel
theorem dX6_add_40 : decode cX6_add 40 = .ok (.getfield 18, 3) := by decide +kernel
theorem dX6_add_43 : decode cX6_add 43 = .ok (.ireturn, 1) := by decide +kernel
theorem dX6_firstError_0 : decode cX6_firstError 0 = .ok (.aload_n 0, 1) := by decide +kernel
theorem dX6_firstError_1 : decode cX6_firstError 1 = .ok (.invokevirtual 22, 3) := by decide +kernel
theorem dX6_firstError_4 : decode cX6_firstError 4 = .ok (.istore_n 1, 1) := by decide +kernel
theorem dX6_firstError_5 : decode cX6_firstError 5 = .ok (.iconst 0, 1) := by decide +kernel
theorem dX6_firstError_6 : decode cX6_firstError 6 = .ok (.istore_n 2, 1) := by decide +kernel
theorem dX6_firstError_7 : decode cX6_firstError 7 = .ok (.iload_n 2, 1) := by decide +kernel
theorem dX6_firstError_8 : decode cX6_firstError 8 = .ok (.bipush 120, 2) := by decide +kernel
theorem dX6_firstError_10 : decode cX6_firstError 10 = .ok (.if_icmp .ge 25, 3) := by decide +kernel
theorem dX6_firstError_13 : decode cX6_firstError 13 = .ok (.iload_n 1, 1) := by decide +kernel
theorem dX6_firstError_14 : decode cX6_firstError 14 = .ok (.ifCond .eq 21, 3) := by decide +kernel
theorem dX6_firstError_17 : decode cX6_firstError 17 = .ok (.aload_n 0, 1) := by decide +kernel
theorem dX6_firstError_18 : decode cX6_firstError 18 = .ok (.invokevirtual 26, 3) := by decide +kernel
theorem dX6_firstError_21 : decode cX6_firstError 21 = .ok (.ifCond .eq 14, 3) := by decide +kernel
theorem dX6_firstError_24 : decode cX6_firstError 24 = .ok (.aload_n 0, 1) := by decide +kernel
theorem dX6_firstError_25 : decode cX6_firstError 25 = .ok (.invokevirtual 29, 3) := by decide +kernel
theorem dX6_firstError_28 : decode cX6_firstError 28 = .ok (.istore_n 1, 1) := by decide +kernel
theorem dX6_firstError_29 : decode cX6_firstError 29 = .ok (.iinc 2 1, 3) := by decide +kernel
theorem dX6_firstError_32 : decode cX6_firstError 32 = .ok (.goto (-25), 3) := by decide +kernel
theorem dX6_firstError_35 : decode cX6_firstError 35 = .ok (.iload_n 1, 1) := by decide +kernel
theorem dX6_firstError_36 : decode cX6_firstError 36 = .ok (.ifCond .eq 7, 3) := by decide +kernel
theorem dX6_firstError_39 : decode cX6_firstError 39 = .ok (.iconst (-1), 1) := by decide +kernel
theorem dX6_firstError_40 : decode cX6_firstError 40 = .ok (.goto 7, 3) := by decide +kernel
theorem dX6_firstError_43 : decode cX6_firstError 43 = .ok (.aload_n 0, 1) := by decide +kernel
theorem dX6_firstError_44 : decode cX6_firstError 44 = .ok (.getfield 32, 3) := by decide +kernel
theorem dX6_firstError_47 : decode cX6_firstError 47 = .ok (.ireturn, 1) := by decide +kernel
theorem dX6_hasMore_0 : decode cX6_hasMore 0 = .ok (.aload_n 0, 1) := by decide +kernel
theorem dX6_hasMore_1 : decode cX6_hasMore 1 = .ok (.getfield 32, 3) := by decide +kernel
theorem dX6_hasMore_4 : decode cX6_hasMore 4 = .ok (.aload_n 0, 1) := by decide +kernel
theorem dX6_hasMore_5 : decode cX6_hasMore 5 = .ok (.getfield 18, 3) := by decide +kernel
theorem dX6_hasMore_8 : decode cX6_hasMore 8 = .ok (.if_icmp .ge 7, 3) := by decide +kernel
theorem dX6_hasMore_11 : decode cX6_hasMore 11 = .ok (.iconst 1, 1) := by decide +kernel
theorem dX6_hasMore_12 : decode cX6_hasMore 12 = .ok (.goto 4, 3) := by decide +kernel
theorem dX6_hasMore_15 : decode cX6_hasMore 15 = .ok (.iconst 0, 1) := by decide +kernel
theorem dX6_hasMore_16 : decode cX6_hasMore 16 = .ok (.ireturn, 1) := by decide +kernel
theorem dX6_doCommand_0 : decode cX6_doCommand 0 = .ok (.aload_n 0, 1) := by decide +kernel
theorem dX6_doCommand_1 : decode cX6_doCommand 1 = .ok (.getfield 35, 3) := by decide +kernel
theorem dX6_doCommand_4 : decode cX6_doCommand 4 = .ok (.lookupswitch 171 #[(100, 52), (102, 112), (104, 161), (115, 77), (120, 132)], 52) := by decide +kernel
theorem dX6_doCommand_56 : decode cX6_doCommand 56 = .ok (.aload_n 1, 1) := by decide +kernel
theorem dX6_doCommand_57 : decode cX6_doCommand 57 = .ok (.aload_n 0, 1) := by decide +kernel
theorem dX6_doCommand_58 : decode cX6_doCommand 58 = .ok (.iconst 0, 1) := by decide +kernel
theorem dX6_doCommand_59 : decode cX6_doCommand 59 = .ok (.invokevirtual 38, 3) := by decide +kernel
theorem dX6_doCommand_62 : decode cX6_doCommand 62 = .ok (.aload_n 0, 1) := by decide +kernel
theorem dX6_doCommand_63 : decode cX6_doCommand 63 = .ok (.iconst 1, 1) := by decide +kernel
theorem dX6_doCommand_64 : decode cX6_doCommand 64 = .ok (.invokevirtual 38, 3) := by decide +kernel
theorem dX6_doCommand_67 : decode cX6_doCommand 67 = .ok (.aload_n 0, 1) := by decide +kernel
theorem dX6_doCommand_68 : decode cX6_doCommand 68 = .ok (.iconst 2, 1) := by decide +kernel
theorem dX6_doCommand_69 : decode cX6_doCommand 69 = .ok (.invokevirtual 38, 3) := by decide +kernel
theorem dX6_doCommand_72 : decode cX6_doCommand 72 = .ok (.aload_n 0, 1) := by decide +kernel
theorem dX6_doCommand_73 : decode cX6_doCommand 73 = .ok (.iconst 3, 1) := by decide +kernel
theorem dX6_doCommand_74 : decode cX6_doCommand 74 = .ok (.invokevirtual 38, 3) := by decide +kernel
theorem dX6_doCommand_77 : decode cX6_doCommand 77 = .ok (.invokevirtual 42, 3) := by decide +kernel
theorem dX6_doCommand_80 : decode cX6_doCommand 80 = .ok (.ireturn, 1) := by decide +kernel
theorem dX6_doCommand_81 : decode cX6_doCommand 81 = .ok (.aload_n 1, 1) := by decide +kernel
theorem dX6_doCommand_82 : decode cX6_doCommand 82 = .ok (.aload_n 0, 1) := by decide +kernel
theorem dX6_doCommand_83 : decode cX6_doCommand 83 = .ok (.iconst 0, 1) := by decide +kernel
theorem dX6_doCommand_84 : decode cX6_doCommand 84 = .ok (.invokevirtual 38, 3) := by decide +kernel
theorem dX6_doCommand_87 : decode cX6_doCommand 87 = .ok (.aload_n 0, 1) := by decide +kernel
theorem dX6_doCommand_88 : decode cX6_doCommand 88 = .ok (.iconst 1, 1) := by decide +kernel
theorem dX6_doCommand_89 : decode cX6_doCommand 89 = .ok (.invokevirtual 38, 3) := by decide +kernel
theorem dX6_doCommand_92 : decode cX6_doCommand 92 = .ok (.aload_n 0, 1) := by decide +kernel
theorem dX6_doCommand_93 : decode cX6_doCommand 93 = .ok (.iconst 2, 1) := by decide +kernel
theorem dX6_doCommand_94 : decode cX6_doCommand 94 = .ok (.invokevirtual 38, 3) := by decide +kernel
theorem dX6_doCommand_97 : decode cX6_doCommand 97 = .ok (.iconst 0, 1) := by decide +kernel
theorem dX6_doCommand_98 : decode cX6_doCommand 98 = .ok (.aload_n 0, 1) := by decide +kernel
theorem dX6_doCommand_99 : decode cX6_doCommand 99 = .ok (.iconst 3, 1) := by decide +kernel
theorem dX6_doCommand_100 : decode cX6_doCommand 100 = .ok (.invokevirtual 38, 3) := by decide +kernel
theorem dX6_doCommand_103 : decode cX6_doCommand 103 = .ok (.iconst 1, 1) := by decide +kernel
theorem dX6_doCommand_104 : decode cX6_doCommand 104 = .ok (.if_icmp .ne 7, 3) := by decide +kernel
theorem dX6_doCommand_107 : decode cX6_doCommand 107 = .ok (.iconst 1, 1) := by decide +kernel
theorem dX6_doCommand_108 : decode cX6_doCommand 108 = .ok (.goto 4, 3) := by decide +kernel
theorem dX6_doCommand_111 : decode cX6_doCommand 111 = .ok (.iconst 0, 1) := by decide +kernel
theorem dX6_doCommand_112 : decode cX6_doCommand 112 = .ok (.invokevirtual 48, 3) := by decide +kernel
theorem dX6_doCommand_115 : decode cX6_doCommand 115 = .ok (.ireturn, 1) := by decide +kernel
theorem dX6_doCommand_116 : decode cX6_doCommand 116 = .ok (.aload_n 1, 1) := by decide +kernel
theorem dX6_doCommand_117 : decode cX6_doCommand 117 = .ok (.aload_n 0, 1) := by decide +kernel
theorem dX6_doCommand_118 : decode cX6_doCommand 118 = .ok (.iconst 0, 1) := by decide +kernel
theorem dX6_doCommand_119 : decode cX6_doCommand 119 = .ok (.invokevirtual 38, 3) := by decide +kernel
theorem dX6_doCommand_122 : decode cX6_doCommand 122 = .ok (.aload_n 0, 1) := by decide +kernel
theorem dX6_doCommand_123 : decode cX6_doCommand 123 = .ok (.iconst 1, 1) := by decide +kernel
theorem dX6_doCommand_124 : decode cX6_doCommand 124 = .ok (.invokevirtual 38, 3) := by decide +kernel
theorem dX6_doCommand_127 : decode cX6_doCommand 127 = .ok (.aload_n 0, 1) := by decide +kernel
theorem dX6_doCommand_128 : decode cX6_doCommand 128 = .ok (.iconst 2, 1) := by decide +kernel
theorem dX6_doCommand_129 : decode cX6_doCommand 129 = .ok (.invokevirtual 38, 3) := by decide +kernel
theorem dX6_doCommand_132 : decode cX6_doCommand 132 = .ok (.invokevirtual 52, 3) := by decide +kernel
theorem dX6_doCommand_135 : decode cX6_doCommand 135 = .ok (.ireturn, 1) := by decide +kernel
theorem dX6_doCommand_136 : decode cX6_doCommand 136 = .ok (.aload_n 1, 1) := by decide +kernel
theorem dX6_doCommand_137 : decode cX6_doCommand 137 = .ok (.aload_n 0, 1) := by decide +kernel
theorem dX6_doCommand_138 : decode cX6_doCommand 138 = .ok (.iconst 0, 1) := by decide +kernel
theorem dX6_doCommand_139 : decode cX6_doCommand 139 = .ok (.invokevirtual 38, 3) := by decide +kernel
theorem dX6_doCommand_142 : decode cX6_doCommand 142 = .ok (.aload_n 0, 1) := by decide +kernel
theorem dX6_doCommand_143 : decode cX6_doCommand 143 = .ok (.iconst 1, 1) := by decide +kernel
theorem dX6_doCommand_144 : decode cX6_doCommand 144 = .ok (.invokevirtual 38, 3) := by decide +kernel
theorem dX6_doCommand_147 : decode cX6_doCommand 147 = .ok (.aload_n 0, 1) := by decide +kernel
theorem dX6_doCommand_148 : decode cX6_doCommand 148 = .ok (.iconst 2, 1) := by decide +kernel
theorem dX6_doCommand_149 : decode cX6_doCommand 149 = .ok (.invokevirtual 38, 3) := by decide +kernel
theorem dX6_doCommand_152 : decode cX6_doCommand 152 = .ok (.iconst 1, 1) := by decide +kernel
theorem dX6_doCommand_153 : decode cX6_doCommand 153 = .ok (.if_icmp .ne 7, 3) := by decide +kernel
theorem dX6_doCommand_156 : decode cX6_doCommand 156 = .ok (.iconst 1, 1) := by decide +kernel
theorem dX6_doCommand_157 : decode cX6_doCommand 157 = .ok (.goto 4, 3) := by decide +kernel
theorem dX6_doCommand_160 : decode cX6_doCommand 160 = .ok (.iconst 0, 1) := by decide +kernel
theorem dX6_doCommand_161 : decode cX6_doCommand 161 = .ok (.invokevirtual 56, 3) := by decide +kernel
theorem dX6_doCommand_164 : decode cX6_doCommand 164 = .ok (.ireturn, 1) := by decide +kernel
theorem dX6_doCommand_165 : decode cX6_doCommand 165 = .ok (.aload_n 1, 1) := by decide +kernel
theorem dX6_doCommand_166 : decode cX6_doCommand 166 = .ok (.aload_n 0, 1) := by decide +kernel
theorem dX6_doCommand_167 : decode cX6_doCommand 167 = .ok (.iconst 0, 1) := by decide +kernel
theorem dX6_doCommand_168 : decode cX6_doCommand 168 = .ok (.invokevirtual 38, 3) := by decide +kernel
theorem dX6_doCommand_171 : decode cX6_doCommand 171 = .ok (.invokevirtual 60, 3) := by decide +kernel
theorem dX6_doCommand_174 : decode cX6_doCommand 174 = .ok (.ireturn, 1) := by decide +kernel
theorem dX6_doCommand_175 : decode cX6_doCommand 175 = .ok (.bipush (-2), 2) := by decide +kernel
theorem dX6_doCommand_177 : decode cX6_doCommand 177 = .ok (.ireturn, 1) := by decide +kernel
theorem dX6_readStart_0 : decode cX6_readStart 0 = .ok (.aload_n 0, 1) := by decide +kernel
theorem dX6_readStart_1 : decode cX6_readStart 1 = .ok (.iconst 0, 1) := by decide +kernel
theorem dX6_readStart_2 : decode cX6_readStart 2 = .ok (.putfield 32, 3) := by decide +kernel
theorem dX6_readStart_5 : decode cX6_readStart 5 = .ok (.aload_n 0, 1) := by decide +kernel
theorem dX6_readStart_6 : decode cX6_readStart 6 = .ok (.invokevirtual 63, 3) := by decide +kernel
theorem dX6_readStart_9 : decode cX6_readStart 9 = .ok (.bipush 77, 2) := by decide +kernel
theorem dX6_readStart_11 : decode cX6_readStart 11 = .ok (.if_icmp .eq 5, 3) := by decide +kernel
theorem dX6_readStart_14 : decode cX6_readStart 14 = .ok (.iconst 0, 1) := by decide +kernel
theorem dX6_readStart_15 : decode cX6_readStart 15 = .ok (.ireturn, 1) := by decide +kernel
theorem dX6_readStart_16 : decode cX6_readStart 16 = .ok (.aload_n 0, 1) := by decide +kernel
theorem dX6_readStart_17 : decode cX6_readStart 17 = .ok (.dup, 1) := by decide +kernel
theorem dX6_readStart_18 : decode cX6_readStart 18 = .ok (.getfield 32, 3) := by decide +kernel
theorem dX6_readStart_21 : decode cX6_readStart 21 = .ok (.iconst 1, 1) := by decide +kernel
theorem dX6_readStart_22 : decode cX6_readStart 22 = .ok (.iadd, 1) := by decide +kernel
theorem dX6_readStart_23 : decode cX6_readStart 23 = .ok (.putfield 32, 3) := by decide +kernel
theorem dX6_readStart_26 : decode cX6_readStart 26 = .ok (.iconst 1, 1) := by decide +kernel
theorem dX6_readStart_27 : decode cX6_readStart 27 = .ok (.ireturn, 1) := by decide +kernel
theorem dX6_readCommand_0 : decode cX6_readCommand 0 = .ok (.aload_n 0, 1) := by decide +kernel
theorem dX6_readCommand_1 : decode cX6_readCommand 1 = .ok (.aload_n 0, 1) := by decide +kernel
theorem dX6_readCommand_2 : decode cX6_readCommand 2 = .ok (.invokevirtual 63, 3) := by decide +kernel
theorem dX6_readCommand_5 : decode cX6_readCommand 5 = .ok (.putfield 35, 3) := by decide +kernel
theorem dX6_readCommand_8 : decode cX6_readCommand 8 = .ok (.aload_n 0, 1) := by decide +kernel
theorem dX6_readCommand_9 : decode cX6_readCommand 9 = .ok (.iconst 0, 1) := by decide +kernel
theorem dX6_readCommand_10 : decode cX6_readCommand 10 = .ok (.putfield 67, 3) := by decide +kernel
theorem dX6_readCommand_13 : decode cX6_readCommand 13 = .ok (.aload_n 0, 1) := by decide +kernel
theorem dX6_readCommand_14 : decode cX6_readCommand 14 = .ok (.getfield 35, 3) := by decide +kernel
theorem dX6_readCommand_17 : decode cX6_readCommand 17 = .ok (.lookupswitch 253 #[(100, 51), (102, 157), (104, 234), (115, 108), (120, 197)], 51) := by decide +kernel
theorem dX6_readCommand_68 : decode cX6_readCommand 68 = .ok (.aload_n 0, 1) := by decide +kernel
theorem dX6_readCommand_69 : decode cX6_readCommand 69 = .ok (.dup, 1) := by decide +kernel
theorem dX6_readCommand_70 : decode cX6_readCommand 70 = .ok (.getfield 32, 3) := by decide +kernel
theorem dX6_readCommand_73 : decode cX6_readCommand 73 = .ok (.iconst 1, 1) := by decide +kernel
theorem dX6_readCommand_74 : decode cX6_readCommand 74 = .ok (.iadd, 1) := by decide +kernel
theorem dX6_readCommand_75 : decode cX6_readCommand 75 = .ok (.putfield 32, 3) := by decide +kernel
theorem dX6_readCommand_78 : decode cX6_readCommand 78 = .ok (.aload_n 0, 1) := by decide +kernel
theorem dX6_readCommand_79 : decode cX6_readCommand 79 = .ok (.iconst 3, 1) := by decide +kernel
theorem dX6_readCommand_80 : decode cX6_readCommand 80 = .ok (.iconst 1, 1) := by decide +kernel
theorem dX6_readCommand_81 : decode cX6_readCommand 81 = .ok (.sipush 255, 3) := by decide +kernel
theorem dX6_readCommand_84 : decode cX6_readCommand 84 = .ok (.invokevirtual 70, 3) := by decide +kernel
theorem dX6_readCommand_87 : decode cX6_readCommand 87 = .ok (.ifCond .eq 36, 3) := by decide +kernel
theorem dX6_readCommand_90 : decode cX6_readCommand 90 = .ok (.aload_n 0, 1) := by decide +kernel
theorem dX6_readCommand_91 : decode cX6_readCommand 91 = .ok (.iconst 1, 1) := by decide +kernel
theorem dX6_readCommand_92 : decode cX6_readCommand 92 = .ok (.iconst 1, 1) := by decide +kernel
theorem dX6_readCommand_93 : decode cX6_readCommand 93 = .ok (.iconst 3, 1) := by decide +kernel
theorem dX6_readCommand_94 : decode cX6_readCommand 94 = .ok (.invokevirtual 70, 3) := by decide +kernel
theorem dX6_readCommand_97 : decode cX6_readCommand 97 = .ok (.ifCond .eq 26, 3) := by decide +kernel
theorem dX6_readCommand_100 : decode cX6_readCommand 100 = .ok (.aload_n 0, 1) := by decide +kernel
theorem dX6_readCommand_101 : decode cX6_readCommand 101 = .ok (.invokevirtual 74, 3) := by decide +kernel
theorem dX6_readCommand_104 : decode cX6_readCommand 104 = .ok (.ifCond .eq 19, 3) := by decide +kernel
theorem dX6_readCommand_107 : decode cX6_readCommand 107 = .ok (.aload_n 0, 1) := by decide +kernel
theorem dX6_readCommand_108 : decode cX6_readCommand 108 = .ok (.iconst 3, 1) := by decide +kernel
theorem dX6_readCommand_109 : decode cX6_readCommand 109 = .ok (.iconst 1, 1) := by decide +kernel
theorem dX6_readCommand_110 : decode cX6_readCommand 110 = .ok (.sipush 500, 3) := by decide +kernel
theorem dX6_readCommand_113 : decode cX6_readCommand 113 = .ok (.invokevirtual 70, 3) := by decide +kernel
theorem dX6_readCommand_116 : decode cX6_readCommand 116 = .ok (.ifCond .eq 7, 3) := by decide +kernel
theorem dX6_readCommand_119 : decode cX6_readCommand 119 = .ok (.iconst 1, 1) := by decide +kernel
theorem dX6_readCommand_120 : decode cX6_readCommand 120 = .ok (.goto 4, 3) := by decide +kernel
theorem dX6_readCommand_123 : decode cX6_readCommand 123 = .ok (.iconst 0, 1) := by decide +kernel
theorem dX6_readCommand_124 : decode cX6_readCommand 124 = .ok (.ireturn, 1) := by decide +kernel
theorem dX6_readCommand_125 : decode cX6_readCommand 125 = .ok (.aload_n 0, 1) := by decide +kernel
theorem dX6_readCommand_126 : decode cX6_readCommand 126 = .ok (.dup, 1) := by decide +kernel
theorem dX6_readCommand_127 : decode cX6_readCommand 127 = .ok (.getfield 32, 3) := by decide +kernel
theorem dX6_readCommand_130 : decode cX6_readCommand 130 = .ok (.iconst 1, 1) := by decide +kernel
theorem dX6_readCommand_131 : decode cX6_readCommand 131 = .ok (.iadd, 1) := by decide +kernel
theorem dX6_readCommand_132 : decode cX6_readCommand 132 = .ok (.putfield 32, 3) := by decide +kernel
theorem dX6_readCommand_135 : decode cX6_readCommand 135 = .ok (.aload_n 0, 1) := by decide +kernel
theorem dX6_readCommand_136 : decode cX6_readCommand 136 = .ok (.invokevirtual 77, 3) := by decide +kernel
theorem dX6_readCommand_139 : decode cX6_readCommand 139 = .ok (.ifCond .eq 33, 3) := by decide +kernel
theorem dX6_readCommand_142 : decode cX6_readCommand 142 = .ok (.aload_n 0, 1) := by decide +kernel
theorem dX6_readCommand_143 : decode cX6_readCommand 143 = .ok (.invokevirtual 74, 3) := by decide +kernel
theorem dX6_readCommand_146 : decode cX6_readCommand 146 = .ok (.ifCond .eq 26, 3) := by decide +kernel
theorem dX6_readCommand_149 : decode cX6_readCommand 149 = .ok (.aload_n 0, 1) := by decide +kernel
theorem dX6_readCommand_150 : decode cX6_readCommand 150 = .ok (.iconst 3, 1) := by decide +kernel
theorem dX6_readCommand_151 : decode cX6_readCommand 151 = .ok (.iconst 0, 1) := by decide +kernel
theorem dX6_readCommand_152 : decode cX6_readCommand 152 = .ok (.sipush 255, 3) := by decide +kernel
theorem dX6_readCommand_155 : decode cX6_readCommand 155 = .ok (.invokevirtual 70, 3) := by decide +kernel
theorem dX6_readCommand_158 : decode cX6_readCommand 158 = .ok (.ifCond .eq 14, 3) := by decide +kernel
theorem dX6_readCommand_161 : decode cX6_readCommand 161 = .ok (.aload_n 0, 1) := by decide +kernel
theorem dX6_readCommand_162 : decode cX6_readCommand 162 = .ok (.invokevirtual 80, 3) := by decide +kernel
theorem dX6_readCommand_165 : decode cX6_readCommand 165 = .ok (.ifCond .eq 7, 3) := by decide +kernel
theorem dX6_readCommand_168 : decode cX6_readCommand 168 = .ok (.iconst 1, 1) := by decide +kernel
theorem dX6_readCommand_169 : decode cX6_readCommand 169 = .ok (.goto 4, 3) := by decide +kernel
theorem dX6_readCommand_172 : decode cX6_readCommand 172 = .ok (.iconst 0, 1) := by decide +kernel
theorem dX6_readCommand_173 : decode cX6_readCommand 173 = .ok (.ireturn, 1) := by decide +kernel
theorem dX6_readCommand_174 : decode cX6_readCommand 174 = .ok (.aload_n 0, 1) := by decide +kernel
theorem dX6_readCommand_175 : decode cX6_readCommand 175 = .ok (.dup, 1) := by decide +kernel
theorem dX6_readCommand_176 : decode cX6_readCommand 176 = .ok (.getfield 32, 3) := by decide +kernel
theorem dX6_readCommand_179 : decode cX6_readCommand 179 = .ok (.iconst 1, 1) := by decide +kernel
theorem dX6_readCommand_180 : decode cX6_readCommand 180 = .ok (.iadd, 1) := by decide +kernel
theorem dX6_readCommand_181 : decode cX6_readCommand 181 = .ok (.putfield 32, 3) := by decide +kernel
theorem dX6_readCommand_184 : decode cX6_readCommand 184 = .ok (.aload_n 0, 1) := by decide +kernel
theorem dX6_readCommand_185 : decode cX6_readCommand 185 = .ok (.iconst 1, 1) := by decide +kernel
theorem dX6_readCommand_186 : decode cX6_readCommand 186 = .ok (.iconst 0, 1) := by decide +kernel
theorem dX6_readCommand_187 : decode cX6_readCommand 187 = .ok (.iconst 5, 1) := by decide +kernel
theorem dX6_readCommand_188 : decode cX6_readCommand 188 = .ok (.invokevirtual 70, 3) := by decide +kernel
theorem dX6_readCommand_191 : decode cX6_readCommand 191 = .ok (.ifCond .eq 21, 3) := by decide +kernel
theorem dX6_readCommand_194 : decode cX6_readCommand 194 = .ok (.aload_n 0, 1) := by decide +kernel
theorem dX6_readCommand_195 : decode cX6_readCommand 195 = .ok (.invokevirtual 77, 3) := by decide +kernel
theorem dX6_readCommand_198 : decode cX6_readCommand 198 = .ok (.ifCond .eq 14, 3) := by decide +kernel
theorem dX6_readCommand_201 : decode cX6_readCommand 201 = .ok (.aload_n 0, 1) := by decide +kernel
theorem dX6_readCommand_202 : decode cX6_readCommand 202 = .ok (.invokevirtual 74, 3) := by decide +kernel
theorem dX6_readCommand_205 : decode cX6_readCommand 205 = .ok (.ifCond .eq 7, 3) := by decide +kernel
theorem dX6_readCommand_208 : decode cX6_readCommand 208 = .ok (.iconst 1, 1) := by decide +kernel
theorem dX6_readCommand_209 : decode cX6_readCommand 209 = .ok (.goto 4, 3) := by decide +kernel
theorem dX6_readCommand_212 : decode cX6_readCommand 212 = .ok (.iconst 0, 1) := by decide +kernel
theorem dX6_readCommand_213 : decode cX6_readCommand 213 = .ok (.ireturn, 1) := by decide +kernel
theorem dX6_readCommand_214 : decode cX6_readCommand 214 = .ok (.aload_n 0, 1) := by decide +kernel
theorem dX6_readCommand_215 : decode cX6_readCommand 215 = .ok (.dup, 1) := by decide +kernel
theorem dX6_readCommand_216 : decode cX6_readCommand 216 = .ok (.getfield 32, 3) := by decide +kernel
theorem dX6_readCommand_219 : decode cX6_readCommand 219 = .ok (.iconst 1, 1) := by decide +kernel
theorem dX6_readCommand_220 : decode cX6_readCommand 220 = .ok (.iadd, 1) := by decide +kernel
theorem dX6_readCommand_221 : decode cX6_readCommand 221 = .ok (.putfield 32, 3) := by decide +kernel
theorem dX6_readCommand_224 : decode cX6_readCommand 224 = .ok (.aload_n 0, 1) := by decide +kernel
theorem dX6_readCommand_225 : decode cX6_readCommand 225 = .ok (.invokevirtual 74, 3) := by decide +kernel
theorem dX6_readCommand_228 : decode cX6_readCommand 228 = .ok (.ifCond .eq 21, 3) := by decide +kernel
theorem dX6_readCommand_231 : decode cX6_readCommand 231 = .ok (.aload_n 0, 1) := by decide +kernel
theorem dX6_readCommand_232 : decode cX6_readCommand 232 = .ok (.invokevirtual 74, 3) := by decide +kernel
theorem dX6_readCommand_235 : decode cX6_readCommand 235 = .ok (.ifCond .eq 14, 3) := by decide +kernel
theorem dX6_readCommand_238 : decode cX6_readCommand 238 = .ok (.aload_n 0, 1) := by decide +kernel
theorem dX6_readCommand_239 : decode cX6_readCommand 239 = .ok (.invokevirtual 80, 3) := by decide +kernel
theorem dX6_readCommand_242 : decode cX6_readCommand 242 = .ok (.ifCond .eq 7, 3) := by decide +kernel
theorem dX6_readCommand_245 : decode cX6_readCommand 245 = .ok (.iconst 1, 1) := by decide +kernel
theorem dX6_readCommand_246 : decode cX6_readCommand 246 = .ok (.goto 4, 3) := by decide +kernel
theorem dX6_readCommand_249 : decode cX6_readCommand 249 = .ok (.iconst 0, 1) := by decide +kernel
theorem dX6_readCommand_250 : decode cX6_readCommand 250 = .ok (.ireturn, 1) := by decide +kernel
theorem dX6_readCommand_251 : decode cX6_readCommand 251 = .ok (.aload_n 0, 1) := by decide +kernel
theorem dX6_readCommand_252 : decode cX6_readCommand 252 = .ok (.dup, 1) := by decide +kernel
theorem dX6_readCommand_253 : decode cX6_readCommand 253 = .ok (.getfield 32, 3) := by decide +kernel
theorem dX6_readCommand_256 : decode cX6_readCommand 256 = .ok (.iconst 1, 1) := by decide +kernel
theorem dX6_readCommand_257 : decode cX6_readCommand 257 = .ok (.iadd, 1) := by decide +kernel
theorem dX6_readCommand_258 : decode cX6_readCommand 258 = .ok (.putfield 32, 3) := by decide +kernel
theorem dX6_readCommand_261 : decode cX6_readCommand 261 = .ok (.aload_n 0, 1) := by decide +kernel
theorem dX6_readCommand_262 : decode cX6_readCommand 262 = .ok (.iconst 2, 1) := by decide +kernel
theorem dX6_readCommand_263 : decode cX6_readCommand 263 = .ok (.iconst 1, 1) := by decide +kernel
theorem dX6_readCommand_264 : decode cX6_readCommand 264 = .ok (.bipush 99, 2) := by decide +kernel
theorem dX6_readCommand_266 : decode cX6_readCommand 266 = .ok (.invokevirtual 70, 3) := by decide +kernel
theorem dX6_readCommand_269 : decode cX6_readCommand 269 = .ok (.ireturn, 1) := by decide +kernel
theorem dX6_readCommand_270 : decode cX6_readCommand 270 = .ok (.iconst 0, 1) := by decide +kernel
theorem dX6_readCommand_271 : decode cX6_readCommand 271 = .ok (.ireturn, 1) := by decide +kernel
theorem dX6_readCorner_0 : decode cX6_readCorner 0 = .ok (.aload_n 0, 1) := by decide +kernel
theorem dX6_readCorner_1 : decode cX6_readCorner 1 = .ok (.iconst 2, 1) := by decide +kernel
theorem dX6_readCorner_2 : decode cX6_readCorner 2 = .ok (.iconst 0, 1) := by decide +kernel
theorem dX6_readCorner_3 : decode cX6_readCorner 3 = .ok (.bipush 11, 2) := by decide +kernel
theorem dX6_readCorner_5 : decode cX6_readCorner 5 = .ok (.invokevirtual 70, 3) := by decide +kernel
theorem dX6_readCorner_8 : decode cX6_readCorner 8 = .ok (.ireturn, 1) := by decide +kernel
theorem dX6_readFinder_0 : decode cX6_readFinder 0 = .ok (.aload_n 0, 1) := by decide +kernel
theorem dX6_readFinder_1 : decode cX6_readFinder 1 = .ok (.iconst 1, 1) := by decide +kernel
theorem dX6_readFinder_2 : decode cX6_readFinder 2 = .ok (.iconst 0, 1) := by decide +kernel
theorem dX6_readFinder_3 : decode cX6_readFinder 3 = .ok (.bipush 7, 2) := by decide +kernel
theorem dX6_readFinder_5 : decode cX6_readFinder 5 = .ok (.invokevirtual 70, 3) := by decide +kernel
theorem dX6_readFinder_8 : decode cX6_readFinder 8 = .ok (.ireturn, 1) := by decide +kernel
theorem dX6_readNumber_0 : decode cX6_readNumber 0 = .ok (.iconst 1, 1) := by decide +kernel
theorem dX6_readNumber_1 : decode cX6_readNumber 1 = .ok (.istore 4, 2) := by decide +kernel
theorem dX6_readNumber_3 : decode cX6_readNumber 3 = .ok (.iconst 1, 1) := by decide +kernel
theorem dX6_readNumber_4 : decode cX6_readNumber 4 = .ok (.istore 5, 2) := by decide +kernel
theorem dX6_readNumber_6 : decode cX6_readNumber 6 = .ok (.iload 5, 2) := by decide +kernel
theorem dX6_readNumber_8 : decode cX6_readNumber 8 = .ok (.iload_n 1, 1) := by decide +kernel
theorem dX6_readNumber_9 : decode cX6_readNumber 9 = .ok (.if_icmp .ge 16, 3) := by decide +kernel
theorem dX6_readNumber_12 : decode cX6_readNumber 12 = .ok (.iload 4, 2) := by decide +kernel
theorem dX6_readNumber_14 : decode cX6_readNumber 14 = .ok (.bipush 10, 2) := by decide +kernel
theorem dX6_readNumber_16 : decode cX6_readNumber 16 = .ok (.imul, 1) := by decide +kernel
theorem dX6_readNumber_17 : decode cX6_readNumber 17 = .ok (.istore 4, 2) := by decide +kernel
theorem dX6_readNumber_19 : decode cX6_readNumber 19 = .ok (.iinc 5 1, 3) := by decide +kernel
theorem dX6_readNumber_22 : decode cX6_readNumber 22 = .ok (.goto (-16), 3) := by decide +kernel
theorem dX6_readNumber_25 : decode cX6_readNumber 25 = .ok (.iconst 0, 1) := by decide +kernel
theorem dX6_readNumber_26 : decode cX6_readNumber 26 = .ok (.istore 5, 2) := by decide +kernel
theorem dX6_readNumber_28 : decode cX6_readNumber 28 = .ok (.iconst 0, 1) := by decide +kernel
theorem dX6_readNumber_29 : decode cX6_readNumber 29 = .ok (.istore 6, 2) := by decide +kernel
theorem dX6_readNumber_31 : decode cX6_readNumber 31 = .ok (.iload 6, 2) := by decide +kernel
theorem dX6_readNumber_33 : decode cX6_readNumber 33 = .ok (.iload_n 1, 1) := by decide +kernel
theorem dX6_readNumber_34 : decode cX6_readNumber 34 = .ok (.if_icmp .ge 78, 3) := by decide +kernel
theorem dX6_readNumber_37 : decode cX6_readNumber 37 = .ok (.aload_n 0, 1) := by decide +kernel
theorem dX6_readNumber_38 : decode cX6_readNumber 38 = .ok (.invokevirtual 63, 3) := by decide +kernel
theorem dX6_readNumber_41 : decode cX6_readNumber 41 = .ok (.istore 7, 2) := by decide +kernel
theorem dX6_readNumber_43 : decode cX6_readNumber 43 = .ok (.iload 5, 2) := by decide +kernel
theorem dX6_readNumber_45 : decode cX6_readNumber 45 = .ok (.iload 7, 2) := by decide +kernel
theorem dX6_readNumber_47 : decode cX6_readNumber 47 = .ok (.bipush 48, 2) := by decide +kernel
theorem dX6_readNumber_49 : decode cX6_readNumber 49 = .ok (.isub, 1) := by decide +kernel
theorem dX6_readNumber_50 : decode cX6_readNumber 50 = .ok (.iload 4, 2) := by decide +kernel
theorem dX6_readNumber_52 : decode cX6_readNumber 52 = .ok (.imul, 1) := by decide +kernel
theorem dX6_readNumber_53 : decode cX6_readNumber 53 = .ok (.iadd, 1) := by decide +kernel
theorem dX6_readNumber_54 : decode cX6_readNumber 54 = .ok (.istore 5, 2) := by decide +kernel
theorem dX6_readNumber_56 : decode cX6_readNumber 56 = .ok (.iload 7, 2) := by decide +kernel
theorem dX6_readNumber_58 : decode cX6_readNumber 58 = .ok (.bipush 48, 2) := by decide +kernel
theorem dX6_readNumber_60 : decode cX6_readNumber 60 = .ok (.if_icmp .lt 27, 3) := by decide +kernel
theorem dX6_readNumber_63 : decode cX6_readNumber 63 = .ok (.iload 7, 2) := by decide +kernel
theorem dX6_readNumber_65 : decode cX6_readNumber 65 = .ok (.bipush 57, 2) := by decide +kernel
theorem dX6_readNumber_67 : decode cX6_readNumber 67 = .ok (.if_icmp .gt 20, 3) := by decide +kernel
theorem dX6_readNumber_70 : decode cX6_readNumber 70 = .ok (.iload 5, 2) := by decide +kernel
theorem dX6_readNumber_72 : decode cX6_readNumber 72 = .ok (.iload_n 3, 1) := by decide +kernel
theorem dX6_readNumber_73 : decode cX6_readNumber 73 = .ok (.if_icmp .gt 14, 3) := by decide +kernel
theorem dX6_readNumber_76 : decode cX6_readNumber 76 = .ok (.iload 5, 2) := by decide +kernel
theorem dX6_readNumber_78 : decode cX6_readNumber 78 = .ok (.iload 4, 2) := by decide +kernel
theorem dX6_readNumber_80 : decode cX6_readNumber 80 = .ok (.iadd, 1) := by decide +kernel
theorem dX6_readNumber_81 : decode cX6_readNumber 81 = .ok (.iconst 1, 1) := by decide +kernel
theorem dX6_readNumber_82 : decode cX6_readNumber 82 = .ok (.isub, 1) := by decide +kernel
theorem dX6_readNumber_83 : decode cX6_readNumber 83 = .ok (.iload_n 2, 1) := by decide +kernel
theorem dX6_readNumber_84 : decode cX6_readNumber 84 = .ok (.if_icmp .ge 5, 3) := by decide +kernel
theorem dX6_readNumber_87 : decode cX6_readNumber 87 = .ok (.iconst 0, 1) := by decide +kernel
theorem dX6_readNumber_88 : decode cX6_readNumber 88 = .ok (.ireturn, 1) := by decide +kernel
theorem dX6_readNumber_89 : decode cX6_readNumber 89 = .ok (.aload_n 0, 1) := by decide +kernel
theorem dX6_readNumber_90 : decode cX6_readNumber 90 = .ok (.dup, 1) := by decide +kernel
theorem dX6_readNumber_91 : decode cX6_readNumber 91 = .ok (.getfield 32, 3) := by decide +kernel
theorem dX6_readNumber_94 : decode cX6_readNumber 94 = .ok (.iconst 1, 1) := by decide +kernel
theorem dX6_readNumber_95 : decode cX6_readNumber 95 = .ok (.iadd, 1) := by decide +kernel
theorem dX6_readNumber_96 : decode cX6_readNumber 96 = .ok (.putfield 32, 3) := by decide +kernel
theorem dX6_readNumber_99 : decode cX6_readNumber 99 = .ok (.iload 4, 2) := by decide +kernel
theorem dX6_readNumber_101 : decode cX6_readNumber 101 = .ok (.bipush 10, 2) := by decide +kernel
theorem dX6_readNumber_103 : decode cX6_readNumber 103 = .ok (.idiv, 1) := by decide +kernel
theorem dX6_readNumber_104 : decode cX6_readNumber 104 = .ok (.istore 4, 2) := by decide +kernel
theorem dX6_readNumber_106 : decode cX6_readNumber 106 = .ok (.iinc 6 1, 3) := by decide +kernel
theorem dX6_readNumber_109 : decode cX6_readNumber 109 = .ok (.goto (-78), 3) := by decide +kernel
theorem dX6_readNumber_112 : decode cX6_readNumber 112 = .ok (.aload_n 0, 1) := by decide +kernel
theorem dX6_readNumber_113 : decode cX6_readNumber 113 = .ok (.iload 5, 2) := by decide +kernel
theorem dX6_readNumber_115 : decode cX6_readNumber 115 = .ok (.invokevirtual 83, 3) := by decide +kernel
theorem dX6_readNumber_118 : decode cX6_readNumber 118 = .ok (.iconst 1, 1) := by decide +kernel
theorem dX6_readNumber_119 : decode cX6_readNumber 119 = .ok (.ireturn, 1) := by decide +kernel
theorem dX6_readPlusOrMinus_0 : decode cX6_readPlusOrMinus 0 = .ok (.aload_n 0, 1) := by decide +kernel
theorem dX6_readPlusOrMinus_1 : decode cX6_readPlusOrMinus 1 = .ok (.invokevirtual 63, 3) := by decide +kernel
theorem dX6_readPlusOrMinus_4 : decode cX6_readPlusOrMinus 4 = .ok (.istore_n 1, 1) := by decide +kernel
theorem dX6_readPlusOrMinus_5 : decode cX6_readPlusOrMinus 5 = .ok (.iload_n 1, 1) := by decide +kernel
theorem dX6_readPlusOrMinus_6 : decode cX6_readPlusOrMinus 6 = .ok (.bipush 43, 2) := by decide +kernel
theorem dX6_readPlusOrMinus_8 : decode cX6_readPlusOrMinus 8 = .ok (.if_icmp .eq 11, 3) := by decide +kernel
theorem dX6_readPlusOrMinus_11 : decode cX6_readPlusOrMinus 11 = .ok (.iload_n 1, 1) := by decide +kernel
theorem dX6_readPlusOrMinus_12 : decode cX6_readPlusOrMinus 12 = .ok (.bipush 45, 2) := by decide +kernel
theorem dX6_readPlusOrMinus_14 : decode cX6_readPlusOrMinus 14 = .ok (.if_icmp .eq 5, 3) := by decide +kernel
theorem dX6_readPlusOrMinus_17 : decode cX6_readPlusOrMinus 17 = .ok (.iconst 0, 1) := by decide +kernel
theorem dX6_readPlusOrMinus_18 : decode cX6_readPlusOrMinus 18 = .ok (.ireturn, 1) := by decide +kernel
theorem dX6_readPlusOrMinus_19 : decode cX6_readPlusOrMinus 19 = .ok (.aload_n 0, 1) := by decide +kernel
theorem dX6_readPlusOrMinus_20 : decode cX6_readPlusOrMinus 20 = .ok (.dup, 1) := by decide +kernel
theorem dX6_readPlusOrMinus_21 : decode cX6_readPlusOrMinus 21 = .ok (.getfield 32, 3) := by decide +kernel
theorem dX6_readPlusOrMinus_24 : decode cX6_readPlusOrMinus 24 = .ok (.iconst 1, 1) := by decide +kernel
theorem dX6_readPlusOrMinus_25 : decode cX6_readPlusOrMinus 25 = .ok (.iadd, 1) := by decide +kernel
theorem dX6_readPlusOrMinus_26 : decode cX6_readPlusOrMinus 26 = .ok (.putfield 32, 3) := by decide +kernel
theorem dX6_readPlusOrMinus_29 : decode cX6_readPlusOrMinus 29 = .ok (.aload_n 0, 1) := by decide +kernel
theorem dX6_readPlusOrMinus_30 : decode cX6_readPlusOrMinus 30 = .ok (.iload_n 1, 1) := by decide +kernel
theorem dX6_readPlusOrMinus_31 : decode cX6_readPlusOrMinus 31 = .ok (.bipush 43, 2) := by decide +kernel
theorem dX6_readPlusOrMinus_33 : decode cX6_readPlusOrMinus 33 = .ok (.if_icmp .ne 7, 3) := by decide +kernel
theorem dX6_readPlusOrMinus_36 : decode cX6_readPlusOrMinus 36 = .ok (.iconst 1, 1) := by decide +kernel
theorem dX6_readPlusOrMinus_37 : decode cX6_readPlusOrMinus 37 = .ok (.goto 4, 3) := by decide +kernel
theorem dX6_readPlusOrMinus_40 : decode cX6_readPlusOrMinus 40 = .ok (.iconst 0, 1) := by decide +kernel
theorem dX6_readPlusOrMinus_41 : decode cX6_readPlusOrMinus 41 = .ok (.invokevirtual 83, 3) := by decide +kernel
theorem dX6_readPlusOrMinus_44 : decode cX6_readPlusOrMinus 44 = .ok (.iconst 1, 1) := by decide +kernel
theorem dX6_readPlusOrMinus_45 : decode cX6_readPlusOrMinus 45 = .ok (.ireturn, 1) := by decide +kernel
theorem dX6_keepPart_0 : decode cX6_keepPart 0 = .ok (.aload_n 0, 1) := by decide +kernel
theorem dX6_keepPart_1 : decode cX6_keepPart 1 = .ok (.getfield 67, 3) := by decide +kernel
theorem dX6_keepPart_4 : decode cX6_keepPart 4 = .ok (.ifCond .lt 35, 3) := by decide +kernel
theorem dX6_keepPart_7 : decode cX6_keepPart 7 = .ok (.aload_n 0, 1) := by decide +kernel
theorem dX6_keepPart_8 : decode cX6_keepPart 8 = .ok (.getfield 67, 3) := by decide +kernel
theorem dX6_keepPart_11 : decode cX6_keepPart 11 = .ok (.aload_n 0, 1) := by decide +kernel
theorem dX6_keepPart_12 : decode cX6_keepPart 12 = .ok (.getfield 15, 3) := by decide +kernel
theorem dX6_keepPart_15 : decode cX6_keepPart 15 = .ok (.arraylength, 1) := by decide +kernel
theorem dX6_keepPart_16 : decode cX6_keepPart 16 = .ok (.if_icmp .ge 23, 3) := by decide +kernel
theorem dX6_keepPart_19 : decode cX6_keepPart 19 = .ok (.aload_n 0, 1) := by decide +kernel
theorem dX6_keepPart_20 : decode cX6_keepPart 20 = .ok (.getfield 15, 3) := by decide +kernel
theorem dX6_keepPart_23 : decode cX6_keepPart 23 = .ok (.aload_n 0, 1) := by decide +kernel
theorem dX6_keepPart_24 : decode cX6_keepPart 24 = .ok (.getfield 67, 3) := by decide +kernel
theorem dX6_keepPart_27 : decode cX6_keepPart 27 = .ok (.iload_n 1, 1) := by decide +kernel
theorem dX6_keepPart_28 : decode cX6_keepPart 28 = .ok (.iastore, 1) := by decide +kernel
theorem dX6_keepPart_29 : decode cX6_keepPart 29 = .ok (.aload_n 0, 1) := by decide +kernel
theorem dX6_keepPart_30 : decode cX6_keepPart 30 = .ok (.dup, 1) := by decide +kernel
theorem dX6_keepPart_31 : decode cX6_keepPart 31 = .ok (.getfield 67, 3) := by decide +kernel
theorem dX6_keepPart_34 : decode cX6_keepPart 34 = .ok (.iconst 1, 1) := by decide +kernel
theorem dX6_keepPart_35 : decode cX6_keepPart 35 = .ok (.iadd, 1) := by decide +kernel
theorem dX6_keepPart_36 : decode cX6_keepPart 36 = .ok (.putfield 67, 3) := by decide +kernel
theorem dX6_keepPart_39 : decode cX6_keepPart 39 = .ok (.return_, 1) := by decide +kernel
theorem dX6_part_0 : decode cX6_part 0 = .ok (.iload_n 1, 1) := by decide +kernel
theorem dX6_part_1 : decode cX6_part 1 = .ok (.ifCond .lt 29, 3) := by decide +kernel
theorem dX6_part_4 : decode cX6_part 4 = .ok (.iload_n 1, 1) := by decide +kernel
theorem dX6_part_5 : decode cX6_part 5 = .ok (.aload_n 0, 1) := by decide +kernel
theorem dX6_part_6 : decode cX6_part 6 = .ok (.getfield 67, 3) := by decide +kernel
theorem dX6_part_9 : decode cX6_part 9 = .ok (.if_icmp .ge 21, 3) := by decide +kernel
theorem dX6_part_12 : decode cX6_part 12 = .ok (.iload_n 1, 1) := by decide +kernel
theorem dX6_part_13 : decode cX6_part 13 = .ok (.aload_n 0, 1) := by decide +kernel
theorem dX6_part_14 : decode cX6_part 14 = .ok (.getfield 15, 3) := by decide +kernel
theorem dX6_part_17 : decode cX6_part 17 = .ok (.arraylength, 1) := by decide +kernel
theorem dX6_part_18 : decode cX6_part 18 = .ok (.if_icmp .ge 12, 3) := by decide +kernel
theorem dX6_part_21 : decode cX6_part 21 = .ok (.aload_n 0, 1) := by decide +kernel
theorem dX6_part_22 : decode cX6_part 22 = .ok (.getfield 15, 3) := by decide +kernel
theorem dX6_part_25 : decode cX6_part 25 = .ok (.iload_n 1, 1) := by decide +kernel
theorem dX6_part_26 : decode cX6_part 26 = .ok (.iaload, 1) := by decide +kernel
theorem dX6_part_27 : decode cX6_part 27 = .ok (.goto 4, 3) := by decide +kernel
theorem dX6_part_30 : decode cX6_part 30 = .ok (.iconst (-1), 1) := by decide +kernel
theorem dX6_part_31 : decode cX6_part 31 = .ok (.ireturn, 1) := by decide +kernel
theorem dX6_signHere_0 : decode cX6_signHere 0 = .ok (.aload_n 0, 1) := by decide +kernel
theorem dX6_signHere_1 : decode cX6_signHere 1 = .ok (.getfield 32, 3) := by decide +kernel
theorem dX6_signHere_4 : decode cX6_signHere 4 = .ok (.ifCond .lt 30, 3) := by decide +kernel
theorem dX6_signHere_7 : decode cX6_signHere 7 = .ok (.aload_n 0, 1) := by decide +kernel
theorem dX6_signHere_8 : decode cX6_signHere 8 = .ok (.getfield 32, 3) := by decide +kernel
theorem dX6_signHere_11 : decode cX6_signHere 11 = .ok (.aload_n 0, 1) := by decide +kernel
theorem dX6_signHere_12 : decode cX6_signHere 12 = .ok (.getfield 18, 3) := by decide +kernel
theorem dX6_signHere_15 : decode cX6_signHere 15 = .ok (.if_icmp .ge 19, 3) := by decide +kernel
theorem dX6_signHere_18 : decode cX6_signHere 18 = .ok (.aload_n 0, 1) := by decide +kernel
theorem dX6_signHere_19 : decode cX6_signHere 19 = .ok (.getfield 32, 3) := by decide +kernel
theorem dX6_signHere_22 : decode cX6_signHere 22 = .ok (.aload_n 0, 1) := by decide +kernel
theorem dX6_signHere_23 : decode cX6_signHere 23 = .ok (.getfield 9, 3) := by decide +kernel
theorem dX6_signHere_26 : decode cX6_signHere 26 = .ok (.arraylength, 1) := by decide +kernel
theorem dX6_signHere_27 : decode cX6_signHere 27 = .ok (.if_icmp .ge 7, 3) := by decide +kernel
theorem dX6_signHere_30 : decode cX6_signHere 30 = .ok (.iconst 1, 1) := by decide +kernel
theorem dX6_signHere_31 : decode cX6_signHere 31 = .ok (.goto 4, 3) := by decide +kernel
theorem dX6_signHere_34 : decode cX6_signHere 34 = .ok (.iconst 0, 1) := by decide +kernel
theorem dX6_signHere_35 : decode cX6_signHere 35 = .ok (.istore_n 1, 1) := by decide +kernel
theorem dX6_signHere_36 : decode cX6_signHere 36 = .ok (.iload_n 1, 1) := by decide +kernel
theorem dX6_signHere_37 : decode cX6_signHere 37 = .ok (.ifCond .eq 15, 3) := by decide +kernel
theorem dX6_signHere_40 : decode cX6_signHere 40 = .ok (.aload_n 0, 1) := by decide +kernel
theorem dX6_signHere_41 : decode cX6_signHere 41 = .ok (.getfield 9, 3) := by decide +kernel
theorem dX6_signHere_44 : decode cX6_signHere 44 = .ok (.aload_n 0, 1) := by decide +kernel
theorem dX6_signHere_45 : decode cX6_signHere 45 = .ok (.getfield 32, 3) := by decide +kernel
theorem dX6_signHere_48 : decode cX6_signHere 48 = .ok (.iaload, 1) := by decide +kernel
theorem dX6_signHere_49 : decode cX6_signHere 49 = .ok (.goto 4, 3) := by decide +kernel
theorem dX6_signHere_52 : decode cX6_signHere 52 = .ok (.iconst (-1), 1) := by decide +kernel
theorem dX6_signHere_53 : decode cX6_signHere 53 = .ok (.ireturn, 1) := by decide +kernel
theorem dX7_init_0 : decode cX7_init 0 = .ok (.aload_n 0, 1) := by decide +kernel
theorem dX7_init_1 : decode cX7_init 1 = .ok (.invokespecial 1, 3) := by decide +kernel
theorem dX7_init_4 : decode cX7_init 4 = .ok (.aload_n 0, 1) := by decide +kernel
theorem dX7_init_5 : decode cX7_init 5 = .ok (.new 7, 3) := by decide +kernel
theorem dX7_init_8 : decode cX7_init 8 = .ok (.dup, 1) := by decide +kernel
theorem dX7_init_9 : decode cX7_init 9 = .ok (.invokespecial 9, 3) := by decide +kernel
theorem dX7_init_12 : decode cX7_init 12 = .ok (.putfield 10, 3) := by decide +kernel
theorem dX7_init_15 : decode cX7_init 15 = .ok (.aload_n 0, 1) := by decide +kernel
theorem dX7_init_16 : decode cX7_init 16 = .ok (.new 7, 3) := by decide +kernel
theorem dX7_init_19 : decode cX7_init 19 = .ok (.dup, 1) := by decide +kernel
theorem dX7_init_20 : decode cX7_init 20 = .ok (.invokespecial 9, 3) := by decide +kernel
theorem dX7_init_23 : decode cX7_init 23 = .ok (.putfield 16, 3) := by decide +kernel
theorem dX7_init_26 : decode cX7_init 26 = .ok (.aload_n 0, 1) := by decide +kernel
theorem dX7_init_27 : decode cX7_init 27 = .ok (.new 19, 3) := by decide +kernel
theorem dX7_init_30 : decode cX7_init 30 = .ok (.dup, 1) := by decide +kernel
theorem dX7_init_31 : decode cX7_init 31 = .ok (.invokespecial 21, 3) := by decide +kernel
theorem dX7_init_34 : decode cX7_init 34 = .ok (.putfield 22, 3) := by decide +kernel
theorem dX7_init_37 : decode cX7_init 37 = .ok (.aload_n 0, 1) := by decide +kernel
theorem dX7_init_38 : decode cX7_init 38 = .ok (.iconst 2, 1) := by decide +kernel
theorem dX7_init_39 : decode cX7_init 39 = .ok (.anewarray 7, 3) := by decide +kernel
theorem dX7_init_42 : decode cX7_init 42 = .ok (.putfield 26, 3) := by decide +kernel
theorem dX7_init_45 : decode cX7_init 45 = .ok (.aload_n 0, 1) := by decide +kernel
theorem dX7_init_46 : decode cX7_init 46 = .ok (.iconst 2, 1) := by decide +kernel
theorem dX7_init_47 : decode cX7_init 47 = .ok (.newarray .boolean, 2) := by decide +kernel
theorem dX7_init_49 : decode cX7_init 49 = .ok (.putfield 30, 3) := by decide +kernel
theorem dX7_init_52 : decode cX7_init 52 = .ok (.aload_n 0, 1) := by decide +kernel
theorem dX7_init_53 : decode cX7_init 53 = .ok (.new 34, 3) := by decide +kernel
theorem dX7_init_56 : decode cX7_init 56 = .ok (.dup, 1) := by decide +kernel
theorem dX7_init_57 : decode cX7_init 57 = .ok (.invokespecial 36, 3) := by decide +kernel
theorem dX7_init_60 : decode cX7_init 60 = .ok (.putfield 37, 3) := by decide +kernel
theorem dX7_init_63 : decode cX7_init 63 = .ok (.iconst 0, 1) := by decide +kernel
theorem dX7_init_64 : decode cX7_init 64 = .ok (.istore_n 1, 1) := by decide +kernel
theorem dX7_init_65 : decode cX7_init 65 = .ok (.iload_n 1, 1) := by decide +kernel
theorem dX7_init_66 : decode cX7_init 66 = .ok (.aload_n 0, 1) := by decide +kernel
theorem dX7_init_67 : decode cX7_init 67 = .ok (.getfield 26, 3) := by decide +kernel
theorem dX7_init_70 : decode cX7_init 70 = .ok (.arraylength, 1) := by decide +kernel
theorem dX7_init_71 : decode cX7_init 71 = .ok (.if_icmp .ge 22, 3) := by decide +kernel
theorem dX7_init_74 : decode cX7_init 74 = .ok (.aload_n 0, 1) := by decide +kernel
theorem dX7_init_75 : decode cX7_init 75 = .ok (.getfield 26, 3) := by decide +kernel
theorem dX7_init_78 : decode cX7_init 78 = .ok (.iload_n 1, 1) := by decide +kernel
theorem dX7_init_79 : decode cX7_init 79 = .ok (.new 7, 3) := by decide +kernel
theorem dX7_init_82 : decode cX7_init 82 = .ok (.dup, 1) := by decide +kernel
theorem dX7_init_83 : decode cX7_init 83 = .ok (.invokespecial 9, 3) := by decide +kernel
theorem dX7_init_86 : decode cX7_init 86 = .ok (.aastore, 1) := by decide +kernel
theorem dX7_init_87 : decode cX7_init 87 = .ok (.iinc 1 1, 3) := by decide +kernel
theorem dX7_init_90 : decode cX7_init 90 = .ok (.goto (-25), 3) := by decide +kernel
theorem dX7_init_93 : decode cX7_init 93 = .ok (.aload_n 0, 1) := by decide +kernel
theorem dX7_init_94 : decode cX7_init 94 = .ok (.getfield 10, 3) := by decide +kernel
theorem dX7_init_97 : decode cX7_init 97 = .ok (.invokevirtual 41, 3) := by decide +kernel
theorem dX7_init_100 : decode cX7_init 100 = .ok (.return_, 1) := by decide +kernel
theorem dX7_append_0 : decode cX7_append 0 = .ok (.iload_n 1, 1) := by decide +kernel
theorem dX7_append_1 : decode cX7_append 1 = .ok (.iconst 0, 1) := by decide +kernel
theorem dX7_append_2 : decode cX7_append 2 = .ok (.sipush 255, 3) := by decide +kernel
theorem dX7_append_5 : decode cX7_append 5 = .ok (.invokestatic 44, 3) := by decide +kernel
theorem dX7_append_8 : decode cX7_append 8 = .ok (.ifCond .ne 13, 3) := by decide +kernel
theorem dX7_append_11 : decode cX7_append 11 = .ok (.new 48, 3) := by decide +kernel
theorem dX7_append_14 : decode cX7_append 14 = .ok (.dup, 1) := by decide +kernel
theorem dX7_append_15 : decode cX7_append 15 = .ok (.ldc 50, 2) := by decide +kernel
theorem dX7_append_17 : decode cX7_append 17 = .ok (.invokespecial 52, 3) := by decide +kernel
theorem dX7_append_20 : decode cX7_append 20 = .ok (.athrow, 1) := by decide +kernel
theorem dX7_append_21 : decode cX7_append 21 = .ok (.aload_n 0, 1) := by decide +kernel
theorem dX7_append_22 : decode cX7_append 22 = .ok (.getfield 37, 3) := by decide +kernel
theorem dX7_append_25 : decode cX7_append 25 = .ok (.invokevirtual 55, 3) := by decide +kernel
theorem dX7_append_28 : decode cX7_append 28 = .ok (.ifCond .eq 13, 3) := by decide +kernel
theorem dX7_append_31 : decode cX7_append 31 = .ok (.new 59, 3) := by decide +kernel
theorem dX7_append_34 : decode cX7_append 34 = .ok (.dup, 1) := by decide +kernel
theorem dX7_append_35 : decode cX7_append 35 = .ok (.ldc 61, 2) := by decide +kernel
theorem dX7_append_37 : decode cX7_append 37 = .ok (.invokespecial 63, 3) := by decide +kernel
theorem dX7_append_40 : decode cX7_append 40 = .ok (.athrow, 1) := by decide +kernel
theorem dX7_append_41 : decode cX7_append 41 = .ok (.aload_n 0, 1) := by decide +kernel
theorem dX7_append_42 : decode cX7_append 42 = .ok (.getfield 37, 3) := by decide +kernel
theorem dX7_append_45 : decode cX7_append 45 = .ok (.iload_n 1, 1) := by decide +kernel
theorem dX7_append_46 : decode cX7_append 46 = .ok (.invokevirtual 64, 3) := by decide +kernel
theorem dX7_append_49 : decode cX7_append 49 = .ok (.ireturn, 1) := by decide +kernel
theorem dX7_load_0 : decode cX7_load 0 = .ok (.aload_n 0, 1) := by decide +kernel
theorem dX7_load_1 : decode cX7_load 1 = .ok (.getfield 37, 3) := by decide +kernel
theorem dX7_load_4 : decode cX7_load 4 = .ok (.invokevirtual 72, 3) := by decide +kernel
theorem dX7_load_7 : decode cX7_load 7 = .ok (.iconst (-1), 1) := by decide +kernel
theorem dX7_load_8 : decode cX7_load 8 = .ok (.if_icmp .eq 13, 3) := by decide +kernel
theorem dX7_load_11 : decode cX7_load 11 = .ok (.new 59, 3) := by decide +kernel
theorem dX7_load_14 : decode cX7_load 14 = .ok (.dup, 1) := by decide +kernel
theorem dX7_load_15 : decode cX7_load 15 = .ok (.ldc 75, 2) := by decide +kernel
theorem dX7_load_17 : decode cX7_load 17 = .ok (.invokespecial 63, 3) := by decide +kernel
theorem dX7_load_20 : decode cX7_load 20 = .ok (.athrow, 1) := by decide +kernel
theorem dX7_load_21 : decode cX7_load 21 = .ok (.aload_n 0, 1) := by decide +kernel
theorem dX7_load_22 : decode cX7_load 22 = .ok (.getfield 10, 3) := by decide +kernel
theorem dX7_load_25 : decode cX7_load 25 = .ok (.invokevirtual 41, 3) := by decide +kernel
theorem dX7_load_28 : decode cX7_load 28 = .ok (.aload_n 0, 1) := by decide +kernel
theorem dX7_load_29 : decode cX7_load 29 = .ok (.getfield 22, 3) := by decide +kernel
theorem dX7_load_32 : decode cX7_load 32 = .ok (.invokevirtual 77, 3) := by decide +kernel
theorem dX7_load_35 : decode cX7_load 35 = .ok (.iconst 0, 1) := by decide +kernel
theorem dX7_load_36 : decode cX7_load 36 = .ok (.istore_n 1, 1) := by decide +kernel
theorem dX7_load_37 : decode cX7_load 37 = .ok (.iload_n 1, 1) := by decide +kernel
theorem dX7_load_38 : decode cX7_load 38 = .ok (.aload_n 0, 1) := by decide +kernel
theorem dX7_load_39 : decode cX7_load 39 = .ok (.getfield 30, 3) := by decide +kernel
theorem dX7_load_42 : decode cX7_load 42 = .ok (.arraylength, 1) := by decide +kernel
theorem dX7_load_43 : decode cX7_load 43 = .ok (.if_icmp .ge 16, 3) := by decide +kernel
theorem dX7_load_46 : decode cX7_load 46 = .ok (.aload_n 0, 1) := by decide +kernel
