theorem dX5_readAtom_97 : decode cX5_readAtom 97 = .ok (.getfield 15, 3) := by decide +kernel
theorem dX5_readAtom_100 : decode cX5_readAtom 100 = .ok (.bipush 93, 2) := by decide +kernel
theorem dX5_readAtom_102 : decode cX5_readAtom 102 = .ok (.invokevirtual 41, 3) := by decide +kernel
theorem dX5_readAtom_105 : decode cX5_readAtom 105 = .ok (.goto 10, 3) := by decide +kernel
theorem dX5_readAtom_108 : decode cX5_readAtom 108 = .ok (.aload_n 0, 1) := by decide +kernel
theorem dX5_readAtom_109 : decode cX5_readAtom 109 = .ok (.getfield 15, 3) := by decide +kernel
theorem dX5_readAtom_112 : decode cX5_readAtom 112 = .ok (.invokevirtual 79, 3) := by decide +kernel
theorem dX5_readAtom_115 : decode cX5_readAtom 115 = .ok (.return_, 1) := by decide +kernel
theorem dX6_init_0 : decode cX6_init 0 = .ok (.aload_n 0, 1) := by decide +kernel
theorem dX6_init_1 : decode cX6_init 1 = .ok (.invokespecial 3, 3) := by decide +kernel
theorem dX6_init_4 : decode cX6_init 4 = .ok (.aload_n 0, 1) := by decide +kernel
theorem dX6_init_5 : decode cX6_init 5 = .ok (.bipush 16, 2) := by decide +kernel
theorem dX6_init_7 : decode cX6_init 7 = .ok (.newarray .int, 2) := by decide +kernel
theorem dX6_init_9 : decode cX6_init 9 = .ok (.putfield 9, 3) := by decide +kernel
theorem dX6_init_12 : decode cX6_init 12 = .ok (.aload_n 0, 1) := by decide +kernel
theorem dX6_init_13 : decode cX6_init 13 = .ok (.aload_n 1, 1) := by decide +kernel
theorem dX6_init_14 : decode cX6_init 14 = .ok (.putfield 15, 3) := by decide +kernel
theorem dX6_init_17 : decode cX6_init 17 = .ok (.return_, 1) := by decide +kernel
theorem dX6_firstWrong_0 : decode cX6_firstWrong 0 = .ok (.aload_n 0, 1) := by decide +kernel
theorem dX6_firstWrong_1 : decode cX6_firstWrong 1 = .ok (.getfield 15, 3) := by decide +kernel
theorem dX6_firstWrong_4 : decode cX6_firstWrong 4 = .ok (.invokevirtual 19, 3) := by decide +kernel
theorem dX6_firstWrong_7 : decode cX6_firstWrong 7 = .ok (.aload_n 0, 1) := by decide +kernel
theorem dX6_firstWrong_8 : decode cX6_firstWrong 8 = .ok (.iconst 0, 1) := by decide +kernel
theorem dX6_firstWrong_9 : decode cX6_firstWrong 9 = .ok (.putfield 24, 3) := by decide +kernel
theorem dX6_firstWrong_12 : decode cX6_firstWrong 12 = .ok (.iconst 1, 1) := by decide +kernel
theorem dX6_firstWrong_13 : decode cX6_firstWrong 13 = .ok (.istore_n 1, 1) := by decide +kernel
theorem dX6_firstWrong_14 : decode cX6_firstWrong 14 = .ok (.iconst 0, 1) := by decide +kernel
theorem dX6_firstWrong_15 : decode cX6_firstWrong 15 = .ok (.istore_n 2, 1) := by decide +kernel
theorem dX6_firstWrong_16 : decode cX6_firstWrong 16 = .ok (.iload_n 1, 1) := by decide +kernel
theorem dX6_firstWrong_17 : decode cX6_firstWrong 17 = .ok (.ifCond .eq 62, 3) := by decide +kernel
theorem dX6_firstWrong_20 : decode cX6_firstWrong 20 = .ok (.iload_n 2, 1) := by decide +kernel
theorem dX6_firstWrong_21 : decode cX6_firstWrong 21 = .ok (.bipush 16, 2) := by decide +kernel
theorem dX6_firstWrong_23 : decode cX6_firstWrong 23 = .ok (.if_icmp .ge 56, 3) := by decide +kernel
theorem dX6_firstWrong_26 : decode cX6_firstWrong 26 = .ok (.aload_n 0, 1) := by decide +kernel
theorem dX6_firstWrong_27 : decode cX6_firstWrong 27 = .ok (.getfield 9, 3) := by decide +kernel
theorem dX6_firstWrong_30 : decode cX6_firstWrong 30 = .ok (.iload_n 2, 1) := by decide +kernel
theorem dX6_firstWrong_31 : decode cX6_firstWrong 31 = .ok (.aload_n 0, 1) := by decide +kernel
theorem dX6_firstWrong_32 : decode cX6_firstWrong 32 = .ok (.invokevirtual 28, 3) := by decide +kernel
theorem dX6_firstWrong_35 : decode cX6_firstWrong 35 = .ok (.iastore, 1) := by decide +kernel
theorem dX6_firstWrong_36 : decode cX6_firstWrong 36 = .ok (.aload_n 0, 1) := by decide +kernel
theorem dX6_firstWrong_37 : decode cX6_firstWrong 37 = .ok (.dup, 1) := by decide +kernel
theorem dX6_firstWrong_38 : decode cX6_firstWrong 38 = .ok (.getfield 24, 3) := by decide +kernel
theorem dX6_firstWrong_41 : decode cX6_firstWrong 41 = .ok (.iconst 1, 1) := by decide +kernel
theorem dX6_firstWrong_42 : decode cX6_firstWrong 42 = .ok (.iadd, 1) := by decide +kernel
theorem dX6_firstWrong_43 : decode cX6_firstWrong 43 = .ok (.putfield 24, 3) := by decide +kernel
theorem dX6_firstWrong_46 : decode cX6_firstWrong 46 = .ok (.aload_n 0, 1) := by decide +kernel
theorem dX6_firstWrong_47 : decode cX6_firstWrong 47 = .ok (.getfield 24, 3) := by decide +kernel
theorem dX6_firstWrong_50 : decode cX6_firstWrong 50 = .ok (.bipush 16, 2) := by decide +kernel
theorem dX6_firstWrong_52 : decode cX6_firstWrong 52 = .ok (.if_icmp .ge 19, 3) := by decide +kernel
theorem dX6_firstWrong_55 : decode cX6_firstWrong 55 = .ok (.aload_n 0, 1) := by decide +kernel
theorem dX6_firstWrong_56 : decode cX6_firstWrong 56 = .ok (.getfield 15, 3) := by decide +kernel
theorem dX6_firstWrong_59 : decode cX6_firstWrong 59 = .ok (.bipush 59, 2) := by decide +kernel
theorem dX6_firstWrong_61 : decode cX6_firstWrong 61 = .ok (.invokevirtual 32, 3) := by decide +kernel
theorem dX6_firstWrong_64 : decode cX6_firstWrong 64 = .ok (.ifCond .eq 7, 3) := by decide +kernel
theorem dX6_firstWrong_67 : decode cX6_firstWrong 67 = .ok (.iconst 1, 1) := by decide +kernel
theorem dX6_firstWrong_68 : decode cX6_firstWrong 68 = .ok (.goto 4, 3) := by decide +kernel
theorem dX6_firstWrong_71 : decode cX6_firstWrong 71 = .ok (.iconst 0, 1) := by decide +kernel
theorem dX6_firstWrong_72 : decode cX6_firstWrong 72 = .ok (.istore_n 1, 1) := by decide +kernel
theorem dX6_firstWrong_73 : decode cX6_firstWrong 73 = .ok (.iinc 2 1, 3) := by decide +kernel
theorem dX6_firstWrong_76 : decode cX6_firstWrong 76 = .ok (.goto (-60), 3) := by decide +kernel
theorem dX6_firstWrong_79 : decode cX6_firstWrong 79 = .ok (.aload_n 0, 1) := by decide +kernel
theorem dX6_firstWrong_80 : decode cX6_firstWrong 80 = .ok (.getfield 15, 3) := by decide +kernel
theorem dX6_firstWrong_83 : decode cX6_firstWrong 83 = .ok (.invokevirtual 36, 3) := by decide +kernel
theorem dX6_firstWrong_86 : decode cX6_firstWrong 86 = .ok (.aload_n 0, 1) := by decide +kernel
theorem dX6_firstWrong_87 : decode cX6_firstWrong 87 = .ok (.getfield 15, 3) := by decide +kernel
theorem dX6_firstWrong_90 : decode cX6_firstWrong 90 = .ok (.getfield 39, 3) := by decide +kernel
theorem dX6_firstWrong_93 : decode cX6_firstWrong 93 = .ok (.ireturn, 1) := by decide +kernel
theorem dX6_readStep_0 : decode cX6_readStep 0 = .ok (.aload_n 0, 1) := by decide +kernel
theorem dX6_readStep_1 : decode cX6_readStep 1 = .ok (.getfield 15, 3) := by decide +kernel
theorem dX6_readStep_4 : decode cX6_readStep 4 = .ok (.invokevirtual 42, 3) := by decide +kernel
theorem dX6_readStep_7 : decode cX6_readStep 7 = .ok (.istore_n 1, 1) := by decide +kernel
theorem dX6_readStep_8 : decode cX6_readStep 8 = .ok (.ldc 45, 2) := by decide +kernel
theorem dX6_readStep_10 : decode cX6_readStep 10 = .ok (.iload_n 1, 1) := by decide +kernel
theorem dX6_readStep_11 : decode cX6_readStep 11 = .ok (.i2c, 1) := by decide +kernel
theorem dX6_readStep_12 : decode cX6_readStep 12 = .ok (.invokevirtual 47, 3) := by decide +kernel
theorem dX6_readStep_15 : decode cX6_readStep 15 = .ok (.istore_n 2, 1) := by decide +kernel
theorem dX6_readStep_16 : decode cX6_readStep 16 = .ok (.iload_n 2, 1) := by decide +kernel
theorem dX6_readStep_17 : decode cX6_readStep 17 = .ok (.ifCond .ge 24, 3) := by decide +kernel
theorem dX6_readStep_20 : decode cX6_readStep 20 = .ok (.iload_n 1, 1) := by decide +kernel
theorem dX6_readStep_21 : decode cX6_readStep 21 = .ok (.bipush 100, 2) := by decide +kernel
theorem dX6_readStep_23 : decode cX6_readStep 23 = .ok (.if_icmp .eq 18, 3) := by decide +kernel
theorem dX6_readStep_26 : decode cX6_readStep 26 = .ok (.iload_n 1, 1) := by decide +kernel
theorem dX6_readStep_27 : decode cX6_readStep 27 = .ok (.bipush 121, 2) := by decide +kernel
theorem dX6_readStep_29 : decode cX6_readStep 29 = .ok (.if_icmp .eq 12, 3) := by decide +kernel
theorem dX6_readStep_32 : decode cX6_readStep 32 = .ok (.aload_n 0, 1) := by decide +kernel
theorem dX6_readStep_33 : decode cX6_readStep 33 = .ok (.getfield 15, 3) := by decide +kernel
theorem dX6_readStep_36 : decode cX6_readStep 36 = .ok (.invokevirtual 53, 3) := by decide +kernel
theorem dX6_readStep_39 : decode cX6_readStep 39 = .ok (.iconst 0, 1) := by decide +kernel
theorem dX6_readStep_40 : decode cX6_readStep 40 = .ok (.ireturn, 1) := by decide +kernel
theorem dX6_readStep_41 : decode cX6_readStep 41 = .ok (.aload_n 0, 1) := by decide +kernel
theorem dX6_readStep_42 : decode cX6_readStep 42 = .ok (.getfield 15, 3) := by decide +kernel
theorem dX6_readStep_45 : decode cX6_readStep 45 = .ok (.dup, 1) := by decide +kernel
theorem dX6_readStep_46 : decode cX6_readStep 46 = .ok (.getfield 56, 3) := by decide +kernel
theorem dX6_readStep_49 : decode cX6_readStep 49 = .ok (.iconst 1, 1) := by decide +kernel
theorem dX6_readStep_50 : decode cX6_readStep 50 = .ok (.iadd, 1) := by decide +kernel
theorem dX6_readStep_51 : decode cX6_readStep 51 = .ok (.putfield 56, 3) := by decide +kernel
theorem dX6_readStep_54 : decode cX6_readStep 54 = .ok (.iload_n 2, 1) := by decide +kernel
theorem dX6_readStep_55 : decode cX6_readStep 55 = .ok (.ifCond .lt 5, 3) := by decide +kernel
theorem dX6_readStep_58 : decode cX6_readStep 58 = .ok (.iload_n 2, 1) := by decide +kernel
theorem dX6_readStep_59 : decode cX6_readStep 59 = .ok (.ireturn, 1) := by decide +kernel
theorem dX6_readStep_60 : decode cX6_readStep 60 = .ok (.aload_n 0, 1) := by decide +kernel
theorem dX6_readStep_61 : decode cX6_readStep 61 = .ok (.getfield 15, 3) := by decide +kernel
theorem dX6_readStep_64 : decode cX6_readStep 64 = .ok (.invokevirtual 59, 3) := by decide +kernel
theorem dX6_readStep_67 : decode cX6_readStep 67 = .ok (.istore_n 3, 1) := by decide +kernel
theorem dX6_readStep_68 : decode cX6_readStep 68 = .ok (.iload_n 1, 1) := by decide +kernel
theorem dX6_readStep_69 : decode cX6_readStep 69 = .ok (.bipush 100, 2) := by decide +kernel
theorem dX6_readStep_71 : decode cX6_readStep 71 = .ok (.if_icmp .ne 10, 3) := by decide +kernel
theorem dX6_readStep_74 : decode cX6_readStep 74 = .ok (.bipush 10, 2) := by decide +kernel
theorem dX6_readStep_76 : decode cX6_readStep 76 = .ok (.iload_n 3, 1) := by decide +kernel
theorem dX6_readStep_77 : decode cX6_readStep 77 = .ok (.iadd, 1) := by decide +kernel
theorem dX6_readStep_78 : decode cX6_readStep 78 = .ok (.goto 18, 3) := by decide +kernel
theorem dX6_readStep_81 : decode cX6_readStep 81 = .ok (.bipush 100, 2) := by decide +kernel
theorem dX6_readStep_83 : decode cX6_readStep 83 = .ok (.bipush 10, 2) := by decide +kernel
theorem dX6_readStep_85 : decode cX6_readStep 85 = .ok (.iload_n 3, 1) := by decide +kernel
theorem dX6_readStep_86 : decode cX6_readStep 86 = .ok (.imul, 1) := by decide +kernel
theorem dX6_readStep_87 : decode cX6_readStep 87 = .ok (.iadd, 1) := by decide +kernel
theorem dX6_readStep_88 : decode cX6_readStep 88 = .ok (.aload_n 0, 1) := by decide +kernel
theorem dX6_readStep_89 : decode cX6_readStep 89 = .ok (.getfield 15, 3) := by decide +kernel
theorem dX6_readStep_92 : decode cX6_readStep 92 = .ok (.invokevirtual 59, 3) := by decide +kernel
theorem dX6_readStep_95 : decode cX6_readStep 95 = .ok (.iadd, 1) := by decide +kernel
theorem dX6_readStep_96 : decode cX6_readStep 96 = .ok (.ireturn, 1) := by decide +kernel
theorem dX7_init_0 : decode cX7_init 0 = .ok (.aload_n 0, 1) := by decide +kernel
theorem dX7_init_1 : decode cX7_init 1 = .ok (.invokespecial 3, 3) := by decide +kernel
theorem dX7_init_4 : decode cX7_init 4 = .ok (.aload_n 0, 1) := by decide +kernel
theorem dX7_init_5 : decode cX7_init 5 = .ok (.bipush 66, 2) := by decide +kernel
theorem dX7_init_7 : decode cX7_init 7 = .ok (.newarray .int, 2) := by decide +kernel
theorem dX7_init_9 : decode cX7_init 9 = .ok (.putfield 9, 3) := by decide +kernel
theorem dX7_init_12 : decode cX7_init 12 = .ok (.aload_n 0, 1) := by decide +kernel
theorem dX7_init_13 : decode cX7_init 13 = .ok (.aload_n 1, 1) := by decide +kernel
theorem dX7_init_14 : decode cX7_init 14 = .ok (.putfield 15, 3) := by decide +kernel
theorem dX7_init_17 : decode cX7_init 17 = .ok (.aload_n 0, 1) := by decide +kernel
theorem dX7_init_18 : decode cX7_init 18 = .ok (.aload_n 2, 1) := by decide +kernel
theorem dX7_init_19 : decode cX7_init 19 = .ok (.putfield 19, 3) := by decide +kernel
theorem dX7_init_22 : decode cX7_init 22 = .ok (.return_, 1) := by decide +kernel
theorem dX7_restart_0 : decode cX7_restart 0 = .ok (.aload_n 0, 1) := by decide +kernel
theorem dX7_restart_1 : decode cX7_restart 1 = .ok (.getfield 9, 3) := by decide +kernel
theorem dX7_restart_4 : decode cX7_restart 4 = .ok (.iconst 0, 1) := by decide +kernel
theorem dX7_restart_5 : decode cX7_restart 5 = .ok (.invokestatic 23, 3) := by decide +kernel
theorem dX7_restart_8 : decode cX7_restart 8 = .ok (.iconst 0, 1) := by decide +kernel
theorem dX7_restart_9 : decode cX7_restart 9 = .ok (.istore_n 1, 1) := by decide +kernel
theorem dX7_restart_10 : decode cX7_restart 10 = .ok (.iload_n 1, 1) := by decide +kernel
theorem dX7_restart_11 : decode cX7_restart 11 = .ok (.aload_n 0, 1) := by decide +kernel
theorem dX7_restart_12 : decode cX7_restart 12 = .ok (.getfield 15, 3) := by decide +kernel
theorem dX7_restart_15 : decode cX7_restart 15 = .ok (.getfield 29, 3) := by decide +kernel
theorem dX7_restart_18 : decode cX7_restart 18 = .ok (.iconst 0, 1) := by decide +kernel
theorem dX7_restart_19 : decode cX7_restart 19 = .ok (.iaload, 1) := by decide +kernel
theorem dX7_restart_20 : decode cX7_restart 20 = .ok (.if_icmp .ge 43, 3) := by decide +kernel
theorem dX7_restart_23 : decode cX7_restart 23 = .ok (.iconst 0, 1) := by decide +kernel
theorem dX7_restart_24 : decode cX7_restart 24 = .ok (.istore_n 2, 1) := by decide +kernel
theorem dX7_restart_25 : decode cX7_restart 25 = .ok (.iload_n 2, 1) := by decide +kernel
theorem dX7_restart_26 : decode cX7_restart 26 = .ok (.iconst 2, 1) := by decide +kernel
theorem dX7_restart_27 : decode cX7_restart 27 = .ok (.if_icmp .gt 30, 3) := by decide +kernel
theorem dX7_restart_30 : decode cX7_restart 30 = .ok (.aload_n 0, 1) := by decide +kernel
theorem dX7_restart_31 : decode cX7_restart 31 = .ok (.getfield 9, 3) := by decide +kernel
theorem dX7_restart_34 : decode cX7_restart 34 = .ok (.iload_n 1, 1) := by decide +kernel
theorem dX7_restart_35 : decode cX7_restart 35 = .ok (.bipush 7, 2) := by decide +kernel
theorem dX7_restart_37 : decode cX7_restart 37 = .ok (.imul, 1) := by decide +kernel
theorem dX7_restart_38 : decode cX7_restart 38 = .ok (.iload_n 2, 1) := by decide +kernel
theorem dX7_restart_39 : decode cX7_restart 39 = .ok (.iadd, 1) := by decide +kernel
theorem dX7_restart_40 : decode cX7_restart 40 = .ok (.aload_n 0, 1) := by decide +kernel
theorem dX7_restart_41 : decode cX7_restart 41 = .ok (.getfield 15, 3) := by decide +kernel
theorem dX7_restart_44 : decode cX7_restart 44 = .ok (.iconst 0, 1) := by decide +kernel
theorem dX7_restart_45 : decode cX7_restart 45 = .ok (.iload_n 1, 1) := by decide +kernel
theorem dX7_restart_46 : decode cX7_restart 46 = .ok (.iload_n 2, 1) := by decide +kernel
theorem dX7_restart_47 : decode cX7_restart 47 = .ok (.invokevirtual 34, 3) := by decide +kernel
theorem dX7_restart_50 : decode cX7_restart 50 = .ok (.iastore, 1) := by decide +kernel
theorem dX7_restart_51 : decode cX7_restart 51 = .ok (.iinc 2 1, 3) := by decide +kernel
theorem dX7_restart_54 : decode cX7_restart 54 = .ok (.goto (-29), 3) := by decide +kernel
theorem dX7_restart_57 : decode cX7_restart 57 = .ok (.iinc 1 1, 3) := by decide +kernel
theorem dX7_restart_60 : decode cX7_restart 60 = .ok (.goto (-50), 3) := by decide +kernel
theorem dX7_restart_63 : decode cX7_restart 63 = .ok (.iconst 0, 1) := by decide +kernel
theorem dX7_restart_64 : decode cX7_restart 64 = .ok (.istore_n 1, 1) := by decide +kernel
theorem dX7_restart_65 : decode cX7_restart 65 = .ok (.iload_n 1, 1) := by decide +kernel
theorem dX7_restart_66 : decode cX7_restart 66 = .ok (.aload_n 0, 1) := by decide +kernel
theorem dX7_restart_67 : decode cX7_restart 67 = .ok (.getfield 15, 3) := by decide +kernel
theorem dX7_restart_70 : decode cX7_restart 70 = .ok (.getfield 29, 3) := by decide +kernel
theorem dX7_restart_73 : decode cX7_restart 73 = .ok (.iconst 1, 1) := by decide +kernel
theorem dX7_restart_74 : decode cX7_restart 74 = .ok (.iaload, 1) := by decide +kernel
theorem dX7_restart_75 : decode cX7_restart 75 = .ok (.if_icmp .ge 41, 3) := by decide +kernel
theorem dX7_restart_78 : decode cX7_restart 78 = .ok (.aload_n 0, 1) := by decide +kernel
theorem dX7_restart_79 : decode cX7_restart 79 = .ok (.iload_n 1, 1) := by decide +kernel
theorem dX7_restart_80 : decode cX7_restart 80 = .ok (.iconst 0, 1) := by decide +kernel
theorem dX7_restart_81 : decode cX7_restart 81 = .ok (.aload_n 0, 1) := by decide +kernel
theorem dX7_restart_82 : decode cX7_restart 82 = .ok (.getfield 15, 3) := by decide +kernel
theorem dX7_restart_85 : decode cX7_restart 85 = .ok (.iconst 1, 1) := by decide +kernel
theorem dX7_restart_86 : decode cX7_restart 86 = .ok (.iload_n 1, 1) := by decide +kernel
theorem dX7_restart_87 : decode cX7_restart 87 = .ok (.iconst 0, 1) := by decide +kernel
theorem dX7_restart_88 : decode cX7_restart 88 = .ok (.invokevirtual 34, 3) := by decide +kernel
theorem dX7_restart_91 : decode cX7_restart 91 = .ok (.invokevirtual 38, 3) := by decide +kernel
theorem dX7_restart_94 : decode cX7_restart 94 = .ok (.aload_n 0, 1) := by decide +kernel
theorem dX7_restart_95 : decode cX7_restart 95 = .ok (.iload_n 1, 1) := by decide +kernel
theorem dX7_restart_96 : decode cX7_restart 96 = .ok (.iconst 1, 1) := by decide +kernel
theorem dX7_restart_97 : decode cX7_restart 97 = .ok (.aload_n 0, 1) := by decide +kernel
theorem dX7_restart_98 : decode cX7_restart 98 = .ok (.getfield 15, 3) := by decide +kernel
theorem dX7_restart_101 : decode cX7_restart 101 = .ok (.iconst 1, 1) := by decide +kernel
theorem dX7_restart_102 : decode cX7_restart 102 = .ok (.iload_n 1, 1) := by decide +kernel
theorem dX7_restart_103 : decode cX7_restart 103 = .ok (.iconst 2, 1) := by decide +kernel
theorem dX7_restart_104 : decode cX7_restart 104 = .ok (.invokevirtual 34, 3) := by decide +kernel
theorem dX7_restart_107 : decode cX7_restart 107 = .ok (.invokevirtual 38, 3) := by decide +kernel
theorem dX7_restart_110 : decode cX7_restart 110 = .ok (.iinc 1 1, 3) := by decide +kernel
theorem dX7_restart_113 : decode cX7_restart 113 = .ok (.goto (-48), 3) := by decide +kernel
theorem dX7_restart_116 : decode cX7_restart 116 = .ok (.return_, 1) := by decide +kernel
theorem dX7_take_0 : decode cX7_take 0 = .ok (.aload_n 1, 1) := by decide +kernel
theorem dX7_take_1 : decode cX7_take 1 = .ok (.getfield 9, 3) := by decide +kernel
theorem dX7_take_4 : decode cX7_take 4 = .ok (.iconst 0, 1) := by decide +kernel
theorem dX7_take_5 : decode cX7_take 5 = .ok (.aload_n 0, 1) := by decide +kernel
theorem dX7_take_6 : decode cX7_take 6 = .ok (.getfield 9, 3) := by decide +kernel
theorem dX7_take_9 : decode cX7_take 9 = .ok (.iconst 0, 1) := by decide +kernel
theorem dX7_take_10 : decode cX7_take 10 = .ok (.bipush 66, 2) := by decide +kernel
theorem dX7_take_12 : decode cX7_take 12 = .ok (.invokestatic 42, 3) := by decide +kernel
theorem dX7_take_15 : decode cX7_take 15 = .ok (.return_, 1) := by decide +kernel
theorem dX7_onTable_0 : decode cX7_onTable 0 = .ok (.aload_n 0, 1) := by decide +kernel
theorem dX7_onTable_1 : decode cX7_onTable 1 = .ok (.getfield 9, 3) := by decide +kernel
theorem dX7_onTable_4 : decode cX7_onTable 4 = .ok (.bipush 64, 2) := by decide +kernel
theorem dX7_onTable_6 : decode cX7_onTable 6 = .ok (.iaload, 1) := by decide +kernel
theorem dX7_onTable_7 : decode cX7_onTable 7 = .ok (.ireturn, 1) := by decide +kernel
theorem dX7_minute_0 : decode cX7_minute 0 = .ok (.aload_n 0, 1) := by decide +kernel
theorem dX7_minute_1 : decode cX7_minute 1 = .ok (.getfield 9, 3) := by decide +kernel
theorem dX7_minute_4 : decode cX7_minute 4 = .ok (.bipush 65, 2) := by decide +kernel
theorem dX7_minute_6 : decode cX7_minute 6 = .ok (.iaload, 1) := by decide +kernel
theorem dX7_minute_7 : decode cX7_minute 7 = .ok (.ireturn, 1) := by decide +kernel
theorem dX7_jarCell_0 : decode cX7_jarCell 0 = .ok (.aload_n 0, 1) := by decide +kernel
theorem dX7_jarCell_1 : decode cX7_jarCell 1 = .ok (.getfield 9, 3) := by decide +kernel
theorem dX7_jarCell_4 : decode cX7_jarCell 4 = .ok (.iload_n 1, 1) := by decide +kernel
theorem dX7_jarCell_5 : decode cX7_jarCell 5 = .ok (.bipush 7, 2) := by decide +kernel
theorem dX7_jarCell_7 : decode cX7_jarCell 7 = .ok (.imul, 1) := by decide +kernel
theorem dX7_jarCell_8 : decode cX7_jarCell 8 = .ok (.iload_n 2, 1) := by decide +kernel
theorem dX7_jarCell_9 : decode cX7_jarCell 9 = .ok (.iadd, 1) := by decide +kernel
theorem dX7_jarCell_10 : decode cX7_jarCell 10 = .ok (.iaload, 1) := by decide +kernel
theorem dX7_jarCell_11 : decode cX7_jarCell 11 = .ok (.ireturn, 1) := by decide +kernel
theorem dX7_lid_0 : decode cX7_lid 0 = .ok (.aload_n 0, 1) := by decide +kernel
theorem dX7_lid_1 : decode cX7_lid 1 = .ok (.getfield 9, 3) := by decide +kernel
theorem dX7_lid_4 : decode cX7_lid 4 = .ok (.aload_n 0, 1) := by decide +kernel
theorem dX7_lid_5 : decode cX7_lid 5 = .ok (.getfield 9, 3) := by decide +kernel
theorem dX7_lid_8 : decode cX7_lid 8 = .ok (.bipush 64, 2) := by decide +kernel
theorem dX7_lid_10 : decode cX7_lid 10 = .ok (.iaload, 1) := by decide +kernel
theorem dX7_lid_11 : decode cX7_lid 11 = .ok (.bipush 7, 2) := by decide +kernel
theorem dX7_lid_13 : decode cX7_lid 13 = .ok (.imul, 1) := by decide +kernel
theorem dX7_lid_14 : decode cX7_lid 14 = .ok (.iload_n 1, 1) := by decide +kernel
theorem dX7_lid_15 : decode cX7_lid 15 = .ok (.iadd, 1) := by decide +kernel
theorem dX7_lid_16 : decode cX7_lid 16 = .ok (.iaload, 1) := by decide +kernel
theorem dX7_lid_17 : decode cX7_lid 17 = .ok (.ireturn, 1) := by decide +kernel
theorem dX7_setLid_0 : decode cX7_setLid 0 = .ok (.aload_n 0, 1) := by decide +kernel
theorem dX7_setLid_1 : decode cX7_setLid 1 = .ok (.getfield 9, 3) := by decide +kernel
theorem dX7_setLid_4 : decode cX7_setLid 4 = .ok (.aload_n 0, 1) := by decide +kernel
theorem dX7_setLid_5 : decode cX7_setLid 5 = .ok (.getfield 9, 3) := by decide +kernel
theorem dX7_setLid_8 : decode cX7_setLid 8 = .ok (.bipush 64, 2) := by decide +kernel
theorem dX7_setLid_10 : decode cX7_setLid 10 = .ok (.iaload, 1) := by decide +kernel
theorem dX7_setLid_11 : decode cX7_setLid 11 = .ok (.bipush 7, 2) := by decide +kernel
theorem dX7_setLid_13 : decode cX7_setLid 13 = .ok (.imul, 1) := by decide +kernel
theorem dX7_setLid_14 : decode cX7_setLid 14 = .ok (.iload_n 1, 1) := by decide +kernel
theorem dX7_setLid_15 : decode cX7_setLid 15 = .ok (.iadd, 1) := by decide +kernel
theorem dX7_setLid_16 : decode cX7_setLid 16 = .ok (.iload_n 2, 1) := by decide +kernel
theorem dX7_setLid_17 : decode cX7_setLid 17 = .ok (.iastore, 1) := by decide +kernel
theorem dX7_setLid_18 : decode cX7_setLid 18 = .ok (.return_, 1) := by decide +kernel
theorem dX7_lessenLid_0 : decode cX7_lessenLid 0 = .ok (.aload_n 0, 1) := by decide +kernel
theorem dX7_lessenLid_1 : decode cX7_lessenLid 1 = .ok (.iload_n 1, 1) := by decide +kernel
theorem dX7_lessenLid_2 : decode cX7_lessenLid 2 = .ok (.iconst 0, 1) := by decide +kernel
theorem dX7_lessenLid_3 : decode cX7_lessenLid 3 = .ok (.aload_n 0, 1) := by decide +kernel
theorem dX7_lessenLid_4 : decode cX7_lessenLid 4 = .ok (.iload_n 1, 1) := by decide +kernel
theorem dX7_lessenLid_5 : decode cX7_lessenLid 5 = .ok (.invokevirtual 48, 3) := by decide +kernel
theorem dX7_lessenLid_8 : decode cX7_lessenLid 8 = .ok (.iload_n 2, 1) := by decide +kernel
theorem dX7_lessenLid_9 : decode cX7_lessenLid 9 = .ok (.isub, 1) := by decide +kernel
theorem dX7_lessenLid_10 : decode cX7_lessenLid 10 = .ok (.invokestatic 52, 3) := by decide +kernel
theorem dX7_lessenLid_13 : decode cX7_lessenLid 13 = .ok (.invokevirtual 58, 3) := by decide +kernel
theorem dX7_lessenLid_16 : decode cX7_lessenLid 16 = .ok (.return_, 1) := by decide +kernel
theorem dX7_handCell_0 : decode cX7_handCell 0 = .ok (.aload_n 0, 1) := by decide +kernel
theorem dX7_handCell_1 : decode cX7_handCell 1 = .ok (.getfield 9, 3) := by decide +kernel
theorem dX7_handCell_4 : decode cX7_handCell 4 = .ok (.bipush 28, 2) := by decide +kernel
theorem dX7_handCell_6 : decode cX7_handCell 6 = .ok (.iload_n 1, 1) := by decide +kernel
theorem dX7_handCell_7 : decode cX7_handCell 7 = .ok (.iconst 2, 1) := by decide +kernel
theorem dX7_handCell_8 : decode cX7_handCell 8 = .ok (.imul, 1) := by decide +kernel
theorem dX7_handCell_9 : decode cX7_handCell 9 = .ok (.iadd, 1) := by decide +kernel
theorem dX7_handCell_10 : decode cX7_handCell 10 = .ok (.iload_n 2, 1) := by decide +kernel
theorem dX7_handCell_11 : decode cX7_handCell 11 = .ok (.iadd, 1) := by decide +kernel
theorem dX7_handCell_12 : decode cX7_handCell 12 = .ok (.iaload, 1) := by decide +kernel
theorem dX7_handCell_13 : decode cX7_handCell 13 = .ok (.ireturn, 1) := by decide +kernel
theorem dX7_setHand_0 : decode cX7_setHand 0 = .ok (.aload_n 0, 1) := by decide +kernel
theorem dX7_setHand_1 : decode cX7_setHand 1 = .ok (.getfield 9, 3) := by decide +kernel
theorem dX7_setHand_4 : decode cX7_setHand 4 = .ok (.bipush 28, 2) := by decide +kernel
theorem dX7_setHand_6 : decode cX7_setHand 6 = .ok (.iload_n 1, 1) := by decide +kernel
theorem dX7_setHand_7 : decode cX7_setHand 7 = .ok (.iconst 2, 1) := by decide +kernel
theorem dX7_setHand_8 : decode cX7_setHand 8 = .ok (.imul, 1) := by decide +kernel
theorem dX7_setHand_9 : decode cX7_setHand 9 = .ok (.iadd, 1) := by decide +kernel
theorem dX7_setHand_10 : decode cX7_setHand 10 = .ok (.iload_n 2, 1) := by decide +kernel
theorem dX7_setHand_11 : decode cX7_setHand 11 = .ok (.iadd, 1) := by decide +kernel
theorem dX7_setHand_12 : decode cX7_setHand 12 = .ok (.iload_n 3, 1) := by decide +kernel
theorem dX7_setHand_13 : decode cX7_setHand 13 = .ok (.iastore, 1) := by decide +kernel
theorem dX7_setHand_14 : decode cX7_setHand 14 = .ok (.return_, 1) := by decide +kernel
theorem dX7_loosenedCell_0 : decode cX7_loosenedCell 0 = .ok (.bipush 40, 2) := by decide +kernel
theorem dX7_loosenedCell_2 : decode cX7_loosenedCell 2 = .ok (.aload_n 0, 1) := by decide +kernel
theorem dX7_loosenedCell_3 : decode cX7_loosenedCell 3 = .ok (.getfield 9, 3) := by decide +kernel
theorem dX7_loosenedCell_6 : decode cX7_loosenedCell 6 = .ok (.bipush 64, 2) := by decide +kernel
theorem dX7_loosenedCell_8 : decode cX7_loosenedCell 8 = .ok (.iaload, 1) := by decide +kernel
theorem dX7_loosenedCell_9 : decode cX7_loosenedCell 9 = .ok (.getstatic 62, 3) := by decide +kernel
theorem dX7_loosenedCell_12 : decode cX7_loosenedCell 12 = .ok (.iconst 1, 1) := by decide +kernel
theorem dX7_loosenedCell_13 : decode cX7_loosenedCell 13 = .ok (.iaload, 1) := by decide +kernel
theorem dX7_loosenedCell_14 : decode cX7_loosenedCell 14 = .ok (.imul, 1) := by decide +kernel
theorem dX7_loosenedCell_15 : decode cX7_loosenedCell 15 = .ok (.iadd, 1) := by decide +kernel
theorem dX7_loosenedCell_16 : decode cX7_loosenedCell 16 = .ok (.iload_n 1, 1) := by decide +kernel
theorem dX7_loosenedCell_17 : decode cX7_loosenedCell 17 = .ok (.iadd, 1) := by decide +kernel
theorem dX7_loosenedCell_18 : decode cX7_loosenedCell 18 = .ok (.ireturn, 1) := by decide +kernel
theorem dX7_loosened_0 : decode cX7_loosened 0 = .ok (.aload_n 0, 1) := by decide +kernel
theorem dX7_loosened_1 : decode cX7_loosened 1 = .ok (.getfield 9, 3) := by decide +kernel
theorem dX7_loosened_4 : decode cX7_loosened 4 = .ok (.aload_n 0, 1) := by decide +kernel
theorem dX7_loosened_5 : decode cX7_loosened 5 = .ok (.iload_n 1, 1) := by decide +kernel
theorem dX7_loosened_6 : decode cX7_loosened 6 = .ok (.invokevirtual 65, 3) := by decide +kernel
theorem dX7_loosened_9 : decode cX7_loosened 9 = .ok (.iaload, 1) := by decide +kernel
theorem dX7_loosened_10 : decode cX7_loosened 10 = .ok (.ireturn, 1) := by decide +kernel
theorem dX7_isClosed_0 : decode cX7_isClosed 0 = .ok (.aload_n 0, 1) := by decide +kernel
theorem dX7_isClosed_1 : decode cX7_isClosed 1 = .ok (.iload_n 1, 1) := by decide +kernel
theorem dX7_isClosed_2 : decode cX7_isClosed 2 = .ok (.iconst 5, 1) := by decide +kernel
theorem dX7_isClosed_3 : decode cX7_isClosed 3 = .ok (.invokevirtual 68, 3) := by decide +kernel
theorem dX7_isClosed_6 : decode cX7_isClosed 6 = .ok (.ifCond .ne 17, 3) := by decide +kernel
theorem dX7_isClosed_9 : decode cX7_isClosed 9 = .ok (.aload_n 0, 1) := by decide +kernel
theorem dX7_isClosed_10 : decode cX7_isClosed 10 = .ok (.iload_n 1, 1) := by decide +kernel
theorem dX7_isClosed_11 : decode cX7_isClosed 11 = .ok (.bipush 6, 2) := by decide +kernel
theorem dX7_isClosed_13 : decode cX7_isClosed 13 = .ok (.invokevirtual 68, 3) := by decide +kernel
theorem dX7_isClosed_16 : decode cX7_isClosed 16 = .ok (.ifCond .ne 7, 3) := by decide +kernel
theorem dX7_isClosed_19 : decode cX7_isClosed 19 = .ok (.iconst 1, 1) := by decide +kernel
theorem dX7_isClosed_20 : decode cX7_isClosed 20 = .ok (.goto 4, 3) := by decide +kernel
theorem dX7_isClosed_23 : decode cX7_isClosed 23 = .ok (.iconst 0, 1) := by decide +kernel
theorem dX7_isClosed_24 : decode cX7_isClosed 24 = .ok (.ireturn, 1) := by decide +kernel
theorem dX7_hold_0 : decode cX7_hold 0 = .ok (.aload_n 0, 1) := by decide +kernel
theorem dX7_hold_1 : decode cX7_hold 1 = .ok (.iload_n 1, 1) := by decide +kernel
theorem dX7_hold_2 : decode cX7_hold 2 = .ok (.iconst 0, 1) := by decide +kernel
theorem dX7_hold_3 : decode cX7_hold 3 = .ok (.invokevirtual 68, 3) := by decide +kernel
theorem dX7_hold_6 : decode cX7_hold 6 = .ok (.aload_n 0, 1) := by decide +kernel
theorem dX7_hold_7 : decode cX7_hold 7 = .ok (.iload_n 1, 1) := by decide +kernel
theorem dX7_hold_8 : decode cX7_hold 8 = .ok (.iconst 1, 1) := by decide +kernel
theorem dX7_hold_9 : decode cX7_hold 9 = .ok (.invokevirtual 68, 3) := by decide +kernel
theorem dX7_hold_12 : decode cX7_hold 12 = .ok (.iadd, 1) := by decide +kernel
theorem dX7_hold_13 : decode cX7_hold 13 = .ok (.iconst 2, 1) := by decide +kernel
theorem dX7_hold_14 : decode cX7_hold 14 = .ok (.aload_n 0, 1) := by decide +kernel
theorem dX7_hold_15 : decode cX7_hold 15 = .ok (.iload_n 1, 1) := by decide +kernel
theorem dX7_hold_16 : decode cX7_hold 16 = .ok (.iconst 2, 1) := by decide +kernel
theorem dX7_hold_17 : decode cX7_hold 17 = .ok (.invokevirtual 68, 3) := by decide +kernel
theorem dX7_hold_20 : decode cX7_hold 20 = .ok (.imul, 1) := by decide +kernel
theorem dX7_hold_21 : decode cX7_hold 21 = .ok (.iadd, 1) := by decide +kernel
theorem dX7_hold_22 : decode cX7_hold 22 = .ok (.ireturn, 1) := by decide +kernel
theorem dX7_gripOn_0 : decode cX7_gripOn 0 = .ok (.aload_n 0, 1) := by decide +kernel
theorem dX7_gripOn_1 : decode cX7_gripOn 1 = .ok (.getfield 19, 3) := by decide +kernel
theorem dX7_gripOn_4 : decode cX7_gripOn 4 = .ok (.getfield 71, 3) := by decide +kernel
theorem dX7_gripOn_7 : decode cX7_gripOn 7 = .ok (.astore 4, 2) := by decide +kernel
theorem dX7_gripOn_9 : decode cX7_gripOn 9 = .ok (.aload 4, 2) := by decide +kernel
theorem dX7_gripOn_11 : decode cX7_gripOn 11 = .ok (.iconst 0, 1) := by decide +kernel
theorem dX7_gripOn_12 : decode cX7_gripOn 12 = .ok (.aload_n 0, 1) := by decide +kernel
theorem dX7_gripOn_13 : decode cX7_gripOn 13 = .ok (.iload_n 1, 1) := by decide +kernel
theorem dX7_gripOn_14 : decode cX7_gripOn 14 = .ok (.iconst 0, 1) := by decide +kernel
theorem dX7_gripOn_15 : decode cX7_gripOn 15 = .ok (.invokevirtual 76, 3) := by decide +kernel
theorem dX7_gripOn_18 : decode cX7_gripOn 18 = .ok (.iastore, 1) := by decide +kernel
theorem dX7_gripOn_19 : decode cX7_gripOn 19 = .ok (.aload 4, 2) := by decide +kernel
theorem dX7_gripOn_21 : decode cX7_gripOn 21 = .ok (.iconst 1, 1) := by decide +kernel
theorem dX7_gripOn_22 : decode cX7_gripOn 22 = .ok (.aload_n 0, 1) := by decide +kernel
theorem dX7_gripOn_23 : decode cX7_gripOn 23 = .ok (.getfield 15, 3) := by decide +kernel
theorem dX7_gripOn_26 : decode cX7_gripOn 26 = .ok (.iconst 1, 1) := by decide +kernel
theorem dX7_gripOn_27 : decode cX7_gripOn 27 = .ok (.iload_n 1, 1) := by decide +kernel
theorem dX7_gripOn_28 : decode cX7_gripOn 28 = .ok (.iconst 1, 1) := by decide +kernel
theorem dX7_gripOn_29 : decode cX7_gripOn 29 = .ok (.invokevirtual 34, 3) := by decide +kernel
theorem dX7_gripOn_32 : decode cX7_gripOn 32 = .ok (.iastore, 1) := by decide +kernel
theorem dX7_gripOn_33 : decode cX7_gripOn 33 = .ok (.aload 4, 2) := by decide +kernel
theorem dX7_gripOn_35 : decode cX7_gripOn 35 = .ok (.iconst 2, 1) := by decide +kernel
theorem dX7_gripOn_36 : decode cX7_gripOn 36 = .ok (.aload_n 0, 1) := by decide +kernel
theorem dX7_gripOn_37 : decode cX7_gripOn 37 = .ok (.iload_n 1, 1) := by decide +kernel
theorem dX7_gripOn_38 : decode cX7_gripOn 38 = .ok (.iconst 1, 1) := by decide +kernel
theorem dX7_gripOn_39 : decode cX7_gripOn 39 = .ok (.invokevirtual 76, 3) := by decide +kernel
theorem dX7_gripOn_42 : decode cX7_gripOn 42 = .ok (.iastore, 1) := by decide +kernel
theorem dX7_gripOn_43 : decode cX7_gripOn 43 = .ok (.aload 4, 2) := by decide +kernel
theorem dX7_gripOn_45 : decode cX7_gripOn 45 = .ok (.iconst 3, 1) := by decide +kernel
theorem dX7_gripOn_46 : decode cX7_gripOn 46 = .ok (.aload_n 0, 1) := by decide +kernel
theorem dX7_gripOn_47 : decode cX7_gripOn 47 = .ok (.getfield 15, 3) := by decide +kernel
theorem dX7_gripOn_50 : decode cX7_gripOn 50 = .ok (.iconst 0, 1) := by decide +kernel
theorem dX7_gripOn_51 : decode cX7_gripOn 51 = .ok (.iload_n 3, 1) := by decide +kernel
theorem dX7_gripOn_52 : decode cX7_gripOn 52 = .ok (.iconst 4, 1) := by decide +kernel
theorem dX7_gripOn_53 : decode cX7_gripOn 53 = .ok (.invokevirtual 34, 3) := by decide +kernel
theorem dX7_gripOn_56 : decode cX7_gripOn 56 = .ok (.iastore, 1) := by decide +kernel
theorem dX7_gripOn_57 : decode cX7_gripOn 57 = .ok (.aload 4, 2) := by decide +kernel
theorem dX7_gripOn_59 : decode cX7_gripOn 59 = .ok (.iconst 4, 1) := by decide +kernel
theorem dX7_gripOn_60 : decode cX7_gripOn 60 = .ok (.aload_n 0, 1) := by decide +kernel
theorem dX7_gripOn_61 : decode cX7_gripOn 61 = .ok (.iload_n 3, 1) := by decide +kernel
theorem dX7_gripOn_62 : decode cX7_gripOn 62 = .ok (.iconst 2, 1) := by decide +kernel
theorem dX7_gripOn_63 : decode cX7_gripOn 63 = .ok (.invokevirtual 68, 3) := by decide +kernel
theorem dX7_gripOn_66 : decode cX7_gripOn 66 = .ok (.iastore, 1) := by decide +kernel
theorem dX7_gripOn_67 : decode cX7_gripOn 67 = .ok (.aload 4, 2) := by decide +kernel
theorem dX7_gripOn_69 : decode cX7_gripOn 69 = .ok (.iconst 5, 1) := by decide +kernel
theorem dX7_gripOn_70 : decode cX7_gripOn 70 = .ok (.iload_n 2, 1) := by decide +kernel
theorem dX7_gripOn_71 : decode cX7_gripOn 71 = .ok (.iconst (-1), 1) := by decide +kernel
theorem dX7_gripOn_72 : decode cX7_gripOn 72 = .ok (.if_icmp .ne 7, 3) := by decide +kernel
theorem dX7_gripOn_75 : decode cX7_gripOn 75 = .ok (.iconst 0, 1) := by decide +kernel
theorem dX7_gripOn_76 : decode cX7_gripOn 76 = .ok (.goto 13, 3) := by decide +kernel
theorem dX7_gripOn_79 : decode cX7_gripOn 79 = .ok (.aload_n 0, 1) := by decide +kernel
theorem dX7_gripOn_80 : decode cX7_gripOn 80 = .ok (.getfield 15, 3) := by decide +kernel
theorem dX7_gripOn_83 : decode cX7_gripOn 83 = .ok (.iconst 2, 1) := by decide +kernel
theorem dX7_gripOn_84 : decode cX7_gripOn 84 = .ok (.iload_n 2, 1) := by decide +kernel
theorem dX7_gripOn_85 : decode cX7_gripOn 85 = .ok (.iconst 0, 1) := by decide +kernel
theorem dX7_gripOn_86 : decode cX7_gripOn 86 = .ok (.invokevirtual 34, 3) := by decide +kernel
theorem dX7_gripOn_89 : decode cX7_gripOn 89 = .ok (.iastore, 1) := by decide +kernel
theorem dX7_gripOn_90 : decode cX7_gripOn 90 = .ok (.aload_n 0, 1) := by decide +kernel
theorem dX7_gripOn_91 : decode cX7_gripOn 91 = .ok (.getfield 19, 3) := by decide +kernel
theorem dX7_gripOn_94 : decode cX7_gripOn 94 = .ok (.getfield 79, 3) := by decide +kernel
theorem dX7_gripOn_97 : decode cX7_gripOn 97 = .ok (.ifnonnull 13, 3) := by decide +kernel
theorem dX7_gripOn_100 : decode cX7_gripOn 100 = .ok (.aload_n 0, 1) := by decide +kernel
theorem dX7_gripOn_101 : decode cX7_gripOn 101 = .ok (.getfield 19, 3) := by decide +kernel
theorem dX7_gripOn_104 : decode cX7_gripOn 104 = .ok (.invokevirtual 82, 3) := by decide +kernel
theorem dX7_gripOn_107 : decode cX7_gripOn 107 = .ok (.goto 17, 3) := by decide +kernel
theorem dX7_gripOn_110 : decode cX7_gripOn 110 = .ok (.aload_n 0, 1) := by decide +kernel
theorem dX7_gripOn_111 : decode cX7_gripOn 111 = .ok (.getfield 19, 3) := by decide +kernel
theorem dX7_gripOn_114 : decode cX7_gripOn 114 = .ok (.aload_n 0, 1) := by decide +kernel
theorem dX7_gripOn_115 : decode cX7_gripOn 115 = .ok (.getfield 19, 3) := by decide +kernel
theorem dX7_gripOn_118 : decode cX7_gripOn 118 = .ok (.getfield 79, 3) := by decide +kernel
theorem dX7_gripOn_121 : decode cX7_gripOn 121 = .ok (.invokevirtual 86, 3) := by decide +kernel
theorem dX7_gripOn_124 : decode cX7_gripOn 124 = .ok (.istore 5, 2) := by decide +kernel
theorem dX7_gripOn_126 : decode cX7_gripOn 126 = .ok (.iload 5, 2) := by decide +kernel
theorem dX7_gripOn_128 : decode cX7_gripOn 128 = .ok (.ifCond .ge 7, 3) := by decide +kernel
theorem dX7_gripOn_131 : decode cX7_gripOn 131 = .ok (.iconst 0, 1) := by decide +kernel
theorem dX7_gripOn_132 : decode cX7_gripOn 132 = .ok (.goto 19, 3) := by decide +kernel
theorem dX7_gripOn_135 : decode cX7_gripOn 135 = .ok (.iload 5, 2) := by decide +kernel
theorem dX7_gripOn_137 : decode cX7_gripOn 137 = .ok (.sipush 999, 3) := by decide +kernel
theorem dX7_gripOn_140 : decode cX7_gripOn 140 = .ok (.if_icmp .le 9, 3) := by decide +kernel
theorem dX7_gripOn_143 : decode cX7_gripOn 143 = .ok (.sipush 999, 3) := by decide +kernel
theorem dX7_gripOn_146 : decode cX7_gripOn 146 = .ok (.goto 5, 3) := by decide +kernel
theorem dX7_gripOn_149 : decode cX7_gripOn 149 = .ok (.iload 5, 2) := by decide +kernel
theorem dX7_gripOn_151 : decode cX7_gripOn 151 = .ok (.ireturn, 1) := by decide +kernel
theorem dX7_wouldOpen_0 : decode cX7_wouldOpen 0 = .ok (.aload_n 0, 1) := by decide +kernel
theorem dX7_wouldOpen_1 : decode cX7_wouldOpen 1 = .ok (.iload_n 1, 1) := by decide +kernel
theorem dX7_wouldOpen_2 : decode cX7_wouldOpen 2 = .ok (.iload_n 2, 1) := by decide +kernel
theorem dX7_wouldOpen_3 : decode cX7_wouldOpen 3 = .ok (.aload_n 0, 1) := by decide +kernel
theorem dX7_wouldOpen_4 : decode cX7_wouldOpen 4 = .ok (.invokevirtual 90, 3) := by decide +kernel
theorem dX7_wouldOpen_7 : decode cX7_wouldOpen 7 = .ok (.invokevirtual 93, 3) := by decide +kernel
theorem dX7_wouldOpen_10 : decode cX7_wouldOpen 10 = .ok (.aload_n 0, 1) := by decide +kernel
theorem dX7_wouldOpen_11 : decode cX7_wouldOpen 11 = .ok (.aload_n 0, 1) := by decide +kernel
theorem dX7_wouldOpen_12 : decode cX7_wouldOpen 12 = .ok (.invokevirtual 90, 3) := by decide +kernel
theorem dX7_wouldOpen_15 : decode cX7_wouldOpen 15 = .ok (.invokevirtual 96, 3) := by decide +kernel
theorem dX7_wouldOpen_18 : decode cX7_wouldOpen 18 = .ok (.if_icmp .lt 7, 3) := by decide +kernel
theorem dX7_wouldOpen_21 : decode cX7_wouldOpen 21 = .ok (.iconst 1, 1) := by decide +kernel
theorem dX7_wouldOpen_22 : decode cX7_wouldOpen 22 = .ok (.goto 4, 3) := by decide +kernel
theorem dX7_wouldOpen_25 : decode cX7_wouldOpen 25 = .ok (.iconst 0, 1) := by decide +kernel
theorem dX7_wouldOpen_26 : decode cX7_wouldOpen 26 = .ok (.ireturn, 1) := by decide +kernel
theorem dX7_tryLid_0 : decode cX7_tryLid 0 = .ok (.iload_n 2, 1) := by decide +kernel
theorem dX7_tryLid_1 : decode cX7_tryLid 1 = .ok (.aload_n 0, 1) := by decide +kernel
theorem dX7_tryLid_2 : decode cX7_tryLid 2 = .ok (.aload_n 0, 1) := by decide +kernel
theorem dX7_tryLid_3 : decode cX7_tryLid 3 = .ok (.invokevirtual 90, 3) := by decide +kernel
theorem dX7_tryLid_6 : decode cX7_tryLid 6 = .ok (.invokevirtual 96, 3) := by decide +kernel
theorem dX7_tryLid_9 : decode cX7_tryLid 9 = .ok (.if_icmp .lt 12, 3) := by decide +kernel
theorem dX7_tryLid_12 : decode cX7_tryLid 12 = .ok (.aload_n 0, 1) := by decide +kernel
theorem dX7_tryLid_13 : decode cX7_tryLid 13 = .ok (.iconst 5, 1) := by decide +kernel
theorem dX7_tryLid_14 : decode cX7_tryLid 14 = .ok (.iconst 1, 1) := by decide +kernel
theorem dX7_tryLid_15 : decode cX7_tryLid 15 = .ok (.invokevirtual 58, 3) := by decide +kernel
theorem dX7_tryLid_18 : decode cX7_tryLid 18 = .ok (.goto 38, 3) := by decide +kernel
theorem dX7_tryLid_21 : decode cX7_tryLid 21 = .ok (.aload_n 0, 1) := by decide +kernel
theorem dX7_tryLid_22 : decode cX7_tryLid 22 = .ok (.iconst 1, 1) := by decide +kernel
theorem dX7_tryLid_23 : decode cX7_tryLid 23 = .ok (.invokevirtual 48, 3) := by decide +kernel
theorem dX7_tryLid_26 : decode cX7_tryLid 26 = .ok (.istore_n 3, 1) := by decide +kernel
theorem dX7_tryLid_27 : decode cX7_tryLid 27 = .ok (.aload_n 0, 1) := by decide +kernel
theorem dX7_tryLid_28 : decode cX7_tryLid 28 = .ok (.iconst 1, 1) := by decide +kernel
theorem dX7_tryLid_29 : decode cX7_tryLid 29 = .ok (.iload_n 2, 1) := by decide +kernel
theorem dX7_tryLid_30 : decode cX7_tryLid 30 = .ok (.bipush 10, 2) := by decide +kernel
theorem dX7_tryLid_32 : decode cX7_tryLid 32 = .ok (.idiv, 1) := by decide +kernel
theorem dX7_tryLid_33 : decode cX7_tryLid 33 = .ok (.invokevirtual 99, 3) := by decide +kernel
theorem dX7_tryLid_36 : decode cX7_tryLid 36 = .ok (.aload_n 0, 1) := by decide +kernel
theorem dX7_tryLid_37 : decode cX7_tryLid 37 = .ok (.getfield 9, 3) := by decide +kernel
theorem dX7_tryLid_40 : decode cX7_tryLid 40 = .ok (.aload_n 0, 1) := by decide +kernel
theorem dX7_tryLid_41 : decode cX7_tryLid 41 = .ok (.iload_n 1, 1) := by decide +kernel
theorem dX7_tryLid_42 : decode cX7_tryLid 42 = .ok (.invokevirtual 65, 3) := by decide +kernel
theorem dX7_tryLid_45 : decode cX7_tryLid 45 = .ok (.dup2, 1) := by decide +kernel
theorem dX7_tryLid_46 : decode cX7_tryLid 46 = .ok (.iaload, 1) := by decide +kernel
theorem dX7_tryLid_47 : decode cX7_tryLid 47 = .ok (.iload_n 3, 1) := by decide +kernel
theorem dX7_tryLid_48 : decode cX7_tryLid 48 = .ok (.aload_n 0, 1) := by decide +kernel
theorem dX7_tryLid_49 : decode cX7_tryLid 49 = .ok (.iconst 1, 1) := by decide +kernel
theorem dX7_tryLid_50 : decode cX7_tryLid 50 = .ok (.invokevirtual 48, 3) := by decide +kernel
theorem dX7_tryLid_53 : decode cX7_tryLid 53 = .ok (.isub, 1) := by decide +kernel
theorem dX7_tryLid_54 : decode cX7_tryLid 54 = .ok (.iadd, 1) := by decide +kernel
theorem dX7_tryLid_55 : decode cX7_tryLid 55 = .ok (.iastore, 1) := by decide +kernel
theorem dX7_tryLid_56 : decode cX7_tryLid 56 = .ok (.aload_n 0, 1) := by decide +kernel
theorem dX7_tryLid_57 : decode cX7_tryLid 57 = .ok (.iload_n 1, 1) := by decide +kernel
theorem dX7_tryLid_58 : decode cX7_tryLid 58 = .ok (.invokevirtual 102, 3) := by decide +kernel
theorem dX7_tryLid_61 : decode cX7_tryLid 61 = .ok (.return_, 1) := by decide +kernel
theorem dX7_tryWrongSide_0 : decode cX7_tryWrongSide 0 = .ok (.aload_n 0, 1) := by decide +kernel
theorem dX7_tryWrongSide_1 : decode cX7_tryWrongSide 1 = .ok (.iconst 1, 1) := by decide +kernel
theorem dX7_tryWrongSide_2 : decode cX7_tryWrongSide 2 = .ok (.bipush 99, 2) := by decide +kernel
theorem dX7_tryWrongSide_4 : decode cX7_tryWrongSide 4 = .ok (.aload_n 0, 1) := by decide +kernel
theorem dX7_tryWrongSide_5 : decode cX7_tryWrongSide 5 = .ok (.iconst 1, 1) := by decide +kernel
theorem dX7_tryWrongSide_6 : decode cX7_tryWrongSide 6 = .ok (.invokevirtual 48, 3) := by decide +kernel
theorem dX7_tryWrongSide_9 : decode cX7_tryWrongSide 9 = .ok (.iconst 2, 1) := by decide +kernel
theorem dX7_tryWrongSide_10 : decode cX7_tryWrongSide 10 = .ok (.iadd, 1) := by decide +kernel
theorem dX7_tryWrongSide_11 : decode cX7_tryWrongSide 11 = .ok (.invokestatic 106, 3) := by decide +kernel
theorem dX7_tryWrongSide_14 : decode cX7_tryWrongSide 14 = .ok (.invokevirtual 58, 3) := by decide +kernel
theorem dX7_tryWrongSide_17 : decode cX7_tryWrongSide 17 = .ok (.aload_n 0, 1) := by decide +kernel
theorem dX7_tryWrongSide_18 : decode cX7_tryWrongSide 18 = .ok (.iload_n 1, 1) := by decide +kernel
theorem dX7_tryWrongSide_19 : decode cX7_tryWrongSide 19 = .ok (.invokevirtual 102, 3) := by decide +kernel
theorem dX7_tryWrongSide_22 : decode cX7_tryWrongSide 22 = .ok (.return_, 1) := by decide +kernel
theorem dX7_tire_0 : decode cX7_tire 0 = .ok (.aload_n 0, 1) := by decide +kernel
theorem dX7_tire_1 : decode cX7_tire 1 = .ok (.iload_n 1, 1) := by decide +kernel
theorem dX7_tire_2 : decode cX7_tire 2 = .ok (.iconst 0, 1) := by decide +kernel
theorem dX7_tire_3 : decode cX7_tire 3 = .ok (.iconst 0, 1) := by decide +kernel
theorem dX7_tire_4 : decode cX7_tire 4 = .ok (.aload_n 0, 1) := by decide +kernel
theorem dX7_tire_5 : decode cX7_tire 5 = .ok (.iload_n 1, 1) := by decide +kernel
theorem dX7_tire_6 : decode cX7_tire 6 = .ok (.iconst 0, 1) := by decide +kernel
theorem dX7_tire_7 : decode cX7_tire 7 = .ok (.invokevirtual 76, 3) := by decide +kernel
theorem dX7_tire_10 : decode cX7_tire 10 = .ok (.aload_n 0, 1) := by decide +kernel
theorem dX7_tire_11 : decode cX7_tire 11 = .ok (.getfield 15, 3) := by decide +kernel
theorem dX7_tire_14 : decode cX7_tire 14 = .ok (.iconst 1, 1) := by decide +kernel
theorem dX7_tire_15 : decode cX7_tire 15 = .ok (.iload_n 1, 1) := by decide +kernel
theorem dX7_tire_16 : decode cX7_tire 16 = .ok (.iconst 3, 1) := by decide +kernel
theorem dX7_tire_17 : decode cX7_tire 17 = .ok (.invokevirtual 34, 3) := by decide +kernel
theorem dX7_tire_20 : decode cX7_tire 20 = .ok (.isub, 1) := by decide +kernel
theorem dX7_tire_21 : decode cX7_tire 21 = .ok (.invokestatic 52, 3) := by decide +kernel
theorem dX7_tire_24 : decode cX7_tire 24 = .ok (.invokevirtual 38, 3) := by decide +kernel
theorem dX7_tire_27 : decode cX7_tire 27 = .ok (.aload_n 0, 1) := by decide +kernel
theorem dX7_tire_28 : decode cX7_tire 28 = .ok (.getfield 9, 3) := by decide +kernel
theorem dX7_tire_31 : decode cX7_tire 31 = .ok (.bipush 65, 2) := by decide +kernel
theorem dX7_tire_33 : decode cX7_tire 33 = .ok (.dup2, 1) := by decide +kernel
theorem dX7_tire_34 : decode cX7_tire 34 = .ok (.iaload, 1) := by decide +kernel
theorem dX7_tire_35 : decode cX7_tire 35 = .ok (.iconst 1, 1) := by decide +kernel
theorem dX7_tire_36 : decode cX7_tire 36 = .ok (.iadd, 1) := by decide +kernel
theorem dX7_tire_37 : decode cX7_tire 37 = .ok (.iastore, 1) := by decide +kernel
theorem dX7_tire_38 : decode cX7_tire 38 = .ok (.return_, 1) := by decide +kernel
theorem dX7_warm_0 : decode cX7_warm 0 = .ok (.aload_n 0, 1) := by decide +kernel
theorem dX7_warm_1 : decode cX7_warm 1 = .ok (.iconst 3, 1) := by decide +kernel
theorem dX7_warm_2 : decode cX7_warm 2 = .ok (.aload_n 0, 1) := by decide +kernel
theorem dX7_warm_3 : decode cX7_warm 3 = .ok (.iconst 3, 1) := by decide +kernel
theorem dX7_warm_4 : decode cX7_warm 4 = .ok (.invokevirtual 48, 3) := by decide +kernel
theorem dX7_warm_7 : decode cX7_warm 7 = .ok (.iload_n 1, 1) := by decide +kernel
theorem dX7_warm_8 : decode cX7_warm 8 = .ok (.iadd, 1) := by decide +kernel
theorem dX7_warm_9 : decode cX7_warm 9 = .ok (.invokevirtual 58, 3) := by decide +kernel
theorem dX7_warm_12 : decode cX7_warm 12 = .ok (.aload_n 0, 1) := by decide +kernel
theorem dX7_warm_13 : decode cX7_warm 13 = .ok (.iconst 2, 1) := by decide +kernel
theorem dX7_warm_14 : decode cX7_warm 14 = .ok (.iload_n 1, 1) := by decide +kernel
theorem dX7_warm_15 : decode cX7_warm 15 = .ok (.bipush 10, 2) := by decide +kernel
theorem dX7_warm_17 : decode cX7_warm 17 = .ok (.idiv, 1) := by decide +kernel
theorem dX7_warm_18 : decode cX7_warm 18 = .ok (.invokevirtual 99, 3) := by decide +kernel
theorem dX7_warm_21 : decode cX7_warm 21 = .ok (.aload_n 0, 1) := by decide +kernel
theorem dX7_warm_22 : decode cX7_warm 22 = .ok (.iconst 1, 1) := by decide +kernel
theorem dX7_warm_23 : decode cX7_warm 23 = .ok (.iload_n 1, 1) := by decide +kernel
theorem dX7_warm_24 : decode cX7_warm 24 = .ok (.iconst 5, 1) := by decide +kernel
theorem dX7_warm_25 : decode cX7_warm 25 = .ok (.idiv, 1) := by decide +kernel
theorem dX7_warm_26 : decode cX7_warm 26 = .ok (.invokevirtual 99, 3) := by decide +kernel
theorem dX7_warm_29 : decode cX7_warm 29 = .ok (.aload_n 0, 1) := by decide +kernel
theorem dX7_warm_30 : decode cX7_warm 30 = .ok (.iconst 3, 1) := by decide +kernel
theorem dX7_warm_31 : decode cX7_warm 31 = .ok (.invokevirtual 48, 3) := by decide +kernel
theorem dX7_warm_34 : decode cX7_warm 34 = .ok (.aload_n 0, 1) := by decide +kernel
theorem dX7_warm_35 : decode cX7_warm 35 = .ok (.getfield 15, 3) := by decide +kernel
theorem dX7_warm_38 : decode cX7_warm 38 = .ok (.iconst 0, 1) := by decide +kernel
theorem dX7_warm_39 : decode cX7_warm 39 = .ok (.aload_n 0, 1) := by decide +kernel
theorem dX7_warm_40 : decode cX7_warm 40 = .ok (.invokevirtual 90, 3) := by decide +kernel
theorem dX7_warm_43 : decode cX7_warm 43 = .ok (.iconst 5, 1) := by decide +kernel
theorem dX7_warm_44 : decode cX7_warm 44 = .ok (.invokevirtual 34, 3) := by decide +kernel
theorem dX7_warm_47 : decode cX7_warm 47 = .ok (.if_icmp .le 10, 3) := by decide +kernel
theorem dX7_warm_50 : decode cX7_warm 50 = .ok (.aload_n 0, 1) := by decide +kernel
theorem dX7_warm_51 : decode cX7_warm 51 = .ok (.bipush 6, 2) := by decide +kernel
theorem dX7_warm_53 : decode cX7_warm 53 = .ok (.iconst 1, 1) := by decide +kernel
theorem dX7_warm_54 : decode cX7_warm 54 = .ok (.invokevirtual 58, 3) := by decide +kernel
theorem dX7_warm_57 : decode cX7_warm 57 = .ok (.aload_n 0, 1) := by decide +kernel
theorem dX7_warm_58 : decode cX7_warm 58 = .ok (.getfield 9, 3) := by decide +kernel
theorem dX7_warm_61 : decode cX7_warm 61 = .ok (.bipush 65, 2) := by decide +kernel
theorem dX7_warm_63 : decode cX7_warm 63 = .ok (.dup2, 1) := by decide +kernel
theorem dX7_warm_64 : decode cX7_warm 64 = .ok (.iaload, 1) := by decide +kernel
theorem dX7_warm_65 : decode cX7_warm 65 = .ok (.iconst 1, 1) := by decide +kernel
theorem dX7_warm_66 : decode cX7_warm 66 = .ok (.iadd, 1) := by decide +kernel
theorem dX7_warm_67 : decode cX7_warm 67 = .ok (.iastore, 1) := by decide +kernel
theorem dX7_warm_68 : decode cX7_warm 68 = .ok (.return_, 1) := by decide +kernel
theorem dX7_chill_0 : decode cX7_chill 0 = .ok (.aload_n 0, 1) := by decide +kernel
theorem dX7_chill_1 : decode cX7_chill 1 = .ok (.iconst 2, 1) := by decide +kernel
theorem dX7_chill_2 : decode cX7_chill 2 = .ok (.bipush 9, 2) := by decide +kernel
theorem dX7_chill_4 : decode cX7_chill 4 = .ok (.aload_n 0, 1) := by decide +kernel
theorem dX7_chill_5 : decode cX7_chill 5 = .ok (.iconst 2, 1) := by decide +kernel
theorem dX7_chill_6 : decode cX7_chill 6 = .ok (.invokevirtual 48, 3) := by decide +kernel
theorem dX7_chill_9 : decode cX7_chill 9 = .ok (.iconst 3, 1) := by decide +kernel
theorem dX7_chill_10 : decode cX7_chill 10 = .ok (.iadd, 1) := by decide +kernel
theorem dX7_chill_11 : decode cX7_chill 11 = .ok (.invokestatic 106, 3) := by decide +kernel
theorem dX7_chill_14 : decode cX7_chill 14 = .ok (.invokevirtual 58, 3) := by decide +kernel
theorem dX7_chill_17 : decode cX7_chill 17 = .ok (.aload_n 0, 1) := by decide +kernel
theorem dX7_chill_18 : decode cX7_chill 18 = .ok (.getfield 9, 3) := by decide +kernel
theorem dX7_chill_21 : decode cX7_chill 21 = .ok (.bipush 65, 2) := by decide +kernel
theorem dX7_chill_23 : decode cX7_chill 23 = .ok (.dup2, 1) := by decide +kernel
theorem dX7_chill_24 : decode cX7_chill 24 = .ok (.iaload, 1) := by decide +kernel
theorem dX7_chill_25 : decode cX7_chill 25 = .ok (.iconst 1, 1) := by decide +kernel
theorem dX7_chill_26 : decode cX7_chill 26 = .ok (.iadd, 1) := by decide +kernel
theorem dX7_chill_27 : decode cX7_chill 27 = .ok (.iastore, 1) := by decide +kernel
theorem dX7_chill_28 : decode cX7_chill 28 = .ok (.return_, 1) := by decide +kernel
theorem dX7_rest_0 : decode cX7_rest 0 = .ok (.iconst 0, 1) := by decide +kernel
theorem dX7_rest_1 : decode cX7_rest 1 = .ok (.istore_n 2, 1) := by decide +kernel
theorem dX7_rest_2 : decode cX7_rest 2 = .ok (.iload_n 2, 1) := by decide +kernel
theorem dX7_rest_3 : decode cX7_rest 3 = .ok (.aload_n 0, 1) := by decide +kernel
theorem dX7_rest_4 : decode cX7_rest 4 = .ok (.getfield 15, 3) := by decide +kernel
theorem dX7_rest_7 : decode cX7_rest 7 = .ok (.getfield 29, 3) := by decide +kernel
theorem dX7_rest_10 : decode cX7_rest 10 = .ok (.iconst 0, 1) := by decide +kernel
theorem dX7_rest_11 : decode cX7_rest 11 = .ok (.iaload, 1) := by decide +kernel
theorem dX7_rest_12 : decode cX7_rest 12 = .ok (.if_icmp .ge 36, 3) := by decide +kernel
theorem dX7_rest_15 : decode cX7_rest 15 = .ok (.iload_n 2, 1) := by decide +kernel
theorem dX7_rest_16 : decode cX7_rest 16 = .ok (.bipush 7, 2) := by decide +kernel
theorem dX7_rest_18 : decode cX7_rest 18 = .ok (.imul, 1) := by decide +kernel
theorem dX7_rest_19 : decode cX7_rest 19 = .ok (.iconst 3, 1) := by decide +kernel
theorem dX7_rest_20 : decode cX7_rest 20 = .ok (.iadd, 1) := by decide +kernel
theorem dX7_rest_21 : decode cX7_rest 21 = .ok (.istore_n 3, 1) := by decide +kernel
theorem dX7_rest_22 : decode cX7_rest 22 = .ok (.aload_n 0, 1) := by decide +kernel
theorem dX7_rest_23 : decode cX7_rest 23 = .ok (.getfield 9, 3) := by decide +kernel
theorem dX7_rest_26 : decode cX7_rest 26 = .ok (.iload_n 3, 1) := by decide +kernel
theorem dX7_rest_27 : decode cX7_rest 27 = .ok (.iconst 0, 1) := by decide +kernel
theorem dX7_rest_28 : decode cX7_rest 28 = .ok (.aload_n 0, 1) := by decide +kernel
theorem dX7_rest_29 : decode cX7_rest 29 = .ok (.getfield 9, 3) := by decide +kernel
theorem dX7_rest_32 : decode cX7_rest 32 = .ok (.iload_n 3, 1) := by decide +kernel
theorem dX7_rest_33 : decode cX7_rest 33 = .ok (.iaload, 1) := by decide +kernel
theorem dX7_rest_34 : decode cX7_rest 34 = .ok (.iconst 2, 1) := by decide +kernel
theorem dX7_rest_35 : decode cX7_rest 35 = .ok (.iload_n 1, 1) := by decide +kernel
theorem dX7_rest_36 : decode cX7_rest 36 = .ok (.imul, 1) := by decide +kernel
theorem dX7_rest_37 : decode cX7_rest 37 = .ok (.isub, 1) := by decide +kernel
theorem dX7_rest_38 : decode cX7_rest 38 = .ok (.invokestatic 52, 3) := by decide +kernel
theorem dX7_rest_41 : decode cX7_rest 41 = .ok (.iastore, 1) := by decide +kernel
theorem dX7_rest_42 : decode cX7_rest 42 = .ok (.iinc 2 1, 3) := by decide +kernel
theorem dX7_rest_45 : decode cX7_rest 45 = .ok (.goto (-43), 3) := by decide +kernel
theorem dX7_rest_48 : decode cX7_rest 48 = .ok (.iconst 0, 1) := by decide +kernel
theorem dX7_rest_49 : decode cX7_rest 49 = .ok (.istore_n 2, 1) := by decide +kernel
theorem dX7_rest_50 : decode cX7_rest 50 = .ok (.iload_n 2, 1) := by decide +kernel
theorem dX7_rest_51 : decode cX7_rest 51 = .ok (.aload_n 0, 1) := by decide +kernel
theorem dX7_rest_52 : decode cX7_rest 52 = .ok (.getfield 15, 3) := by decide +kernel
theorem dX7_rest_55 : decode cX7_rest 55 = .ok (.getfield 29, 3) := by decide +kernel
theorem dX7_rest_58 : decode cX7_rest 58 = .ok (.iconst 1, 1) := by decide +kernel
theorem dX7_rest_59 : decode cX7_rest 59 = .ok (.iaload, 1) := by decide +kernel
theorem dX7_rest_60 : decode cX7_rest 60 = .ok (.if_icmp .ge 59, 3) := by decide +kernel
theorem dX7_rest_63 : decode cX7_rest 63 = .ok (.aload_n 0, 1) := by decide +kernel
theorem dX7_rest_64 : decode cX7_rest 64 = .ok (.getfield 15, 3) := by decide +kernel
theorem dX7_rest_67 : decode cX7_rest 67 = .ok (.iconst 1, 1) := by decide +kernel
theorem dX7_rest_68 : decode cX7_rest 68 = .ok (.iload_n 2, 1) := by decide +kernel
theorem dX7_rest_69 : decode cX7_rest 69 = .ok (.iconst 0, 1) := by decide +kernel
theorem dX7_rest_70 : decode cX7_rest 70 = .ok (.invokevirtual 34, 3) := by decide +kernel
theorem dX7_rest_73 : decode cX7_rest 73 = .ok (.istore_n 3, 1) := by decide +kernel
theorem dX7_rest_74 : decode cX7_rest 74 = .ok (.aload_n 0, 1) := by decide +kernel
theorem dX7_rest_75 : decode cX7_rest 75 = .ok (.iload_n 2, 1) := by decide +kernel
theorem dX7_rest_76 : decode cX7_rest 76 = .ok (.iconst 0, 1) := by decide +kernel
theorem dX7_rest_77 : decode cX7_rest 77 = .ok (.iload_n 3, 1) := by decide +kernel
theorem dX7_rest_78 : decode cX7_rest 78 = .ok (.aload_n 0, 1) := by decide +kernel
theorem dX7_rest_79 : decode cX7_rest 79 = .ok (.iload_n 2, 1) := by decide +kernel
theorem dX7_rest_80 : decode cX7_rest 80 = .ok (.iconst 0, 1) := by decide +kernel
theorem dX7_rest_81 : decode cX7_rest 81 = .ok (.invokevirtual 76, 3) := by decide +kernel
theorem dX7_rest_84 : decode cX7_rest 84 = .ok (.iload_n 1, 1) := by decide +kernel
theorem dX7_rest_85 : decode cX7_rest 85 = .ok (.iadd, 1) := by decide +kernel
theorem dX7_rest_86 : decode cX7_rest 86 = .ok (.invokestatic 106, 3) := by decide +kernel
theorem dX7_rest_89 : decode cX7_rest 89 = .ok (.invokevirtual 38, 3) := by decide +kernel
theorem dX7_rest_92 : decode cX7_rest 92 = .ok (.aload_n 0, 1) := by decide +kernel
theorem dX7_rest_93 : decode cX7_rest 93 = .ok (.iload_n 2, 1) := by decide +kernel
theorem dX7_rest_94 : decode cX7_rest 94 = .ok (.iconst 1, 1) := by decide +kernel
theorem dX7_rest_95 : decode cX7_rest 95 = .ok (.iconst 0, 1) := by decide +kernel
theorem dX7_rest_96 : decode cX7_rest 96 = .ok (.aload_n 0, 1) := by decide +kernel
theorem dX7_rest_97 : decode cX7_rest 97 = .ok (.iload_n 2, 1) := by decide +kernel
theorem dX7_rest_98 : decode cX7_rest 98 = .ok (.iconst 1, 1) := by decide +kernel
theorem dX7_rest_99 : decode cX7_rest 99 = .ok (.invokevirtual 76, 3) := by decide +kernel
theorem dX7_rest_102 : decode cX7_rest 102 = .ok (.iload_n 1, 1) := by decide +kernel
theorem dX7_rest_103 : decode cX7_rest 103 = .ok (.bipush 10, 2) := by decide +kernel
theorem dX7_rest_105 : decode cX7_rest 105 = .ok (.idiv, 1) := by decide +kernel
theorem dX7_rest_106 : decode cX7_rest 106 = .ok (.isub, 1) := by decide +kernel
theorem dX7_rest_107 : decode cX7_rest 107 = .ok (.invokestatic 52, 3) := by decide +kernel
theorem dX7_rest_110 : decode cX7_rest 110 = .ok (.invokevirtual 38, 3) := by decide +kernel
theorem dX7_rest_113 : decode cX7_rest 113 = .ok (.iinc 2 1, 3) := by decide +kernel
theorem dX7_rest_116 : decode cX7_rest 116 = .ok (.goto (-66), 3) := by decide +kernel
theorem dX7_rest_119 : decode cX7_rest 119 = .ok (.aload_n 0, 1) := by decide +kernel
theorem dX7_rest_120 : decode cX7_rest 120 = .ok (.getfield 9, 3) := by decide +kernel
theorem dX7_rest_123 : decode cX7_rest 123 = .ok (.bipush 65, 2) := by decide +kernel
theorem dX7_rest_125 : decode cX7_rest 125 = .ok (.dup2, 1) := by decide +kernel
theorem dX7_rest_126 : decode cX7_rest 126 = .ok (.iaload, 1) := by decide +kernel
theorem dX7_rest_127 : decode cX7_rest 127 = .ok (.iload_n 1, 1) := by decide +kernel
theorem dX7_rest_128 : decode cX7_rest 128 = .ok (.iadd, 1) := by decide +kernel
theorem dX7_rest_129 : decode cX7_rest 129 = .ok (.iastore, 1) := by decide +kernel
theorem dX7_rest_130 : decode cX7_rest 130 = .ok (.return_, 1) := by decide +kernel
theorem dX7_close_0 : decode cX7_close 0 = .ok (.aload_n 0, 1) := by decide +kernel
theorem dX7_close_1 : decode cX7_close 1 = .ok (.iconst 5, 1) := by decide +kernel
theorem dX7_close_2 : decode cX7_close 2 = .ok (.iconst 0, 1) := by decide +kernel
theorem dX7_close_3 : decode cX7_close 3 = .ok (.invokevirtual 58, 3) := by decide +kernel
theorem dX7_close_6 : decode cX7_close 6 = .ok (.aload_n 0, 1) := by decide +kernel
theorem dX7_close_7 : decode cX7_close 7 = .ok (.iconst 1, 1) := by decide +kernel
theorem dX7_close_8 : decode cX7_close 8 = .ok (.aload_n 0, 1) := by decide +kernel
theorem dX7_close_9 : decode cX7_close 9 = .ok (.iload_n 1, 1) := by decide +kernel
theorem dX7_close_10 : decode cX7_close 10 = .ok (.iconst 0, 1) := by decide +kernel
theorem dX7_close_11 : decode cX7_close 11 = .ok (.invokevirtual 76, 3) := by decide +kernel
theorem dX7_close_14 : decode cX7_close 14 = .ok (.iconst 2, 1) := by decide +kernel
theorem dX7_close_15 : decode cX7_close 15 = .ok (.idiv, 1) := by decide +kernel
theorem dX7_close_16 : decode cX7_close 16 = .ok (.invokevirtual 58, 3) := by decide +kernel
theorem dX7_close_19 : decode cX7_close 19 = .ok (.aload_n 0, 1) := by decide +kernel
theorem dX7_close_20 : decode cX7_close 20 = .ok (.iconst 0, 1) := by decide +kernel
theorem dX7_close_21 : decode cX7_close 21 = .ok (.iconst 0, 1) := by decide +kernel
theorem dX7_close_22 : decode cX7_close 22 = .ok (.invokevirtual 58, 3) := by decide +kernel
theorem dX7_close_25 : decode cX7_close 25 = .ok (.iconst 0, 1) := by decide +kernel
theorem dX7_close_26 : decode cX7_close 26 = .ok (.istore_n 2, 1) := by decide +kernel
theorem dX7_close_27 : decode cX7_close 27 = .ok (.iload_n 2, 1) := by decide +kernel
theorem dX7_close_28 : decode cX7_close 28 = .ok (.aload_n 0, 1) := by decide +kernel
theorem dX7_close_29 : decode cX7_close 29 = .ok (.getfield 15, 3) := by decide +kernel
theorem dX7_close_32 : decode cX7_close 32 = .ok (.getfield 29, 3) := by decide +kernel
theorem dX7_close_35 : decode cX7_close 35 = .ok (.iconst 1, 1) := by decide +kernel
theorem dX7_close_36 : decode cX7_close 36 = .ok (.iaload, 1) := by decide +kernel
theorem dX7_close_37 : decode cX7_close 37 = .ok (.if_icmp .ge 20, 3) := by decide +kernel
theorem dX7_close_40 : decode cX7_close 40 = .ok (.aload_n 0, 1) := by decide +kernel
theorem dX7_close_41 : decode cX7_close 41 = .ok (.getfield 9, 3) := by decide +kernel
theorem dX7_close_44 : decode cX7_close 44 = .ok (.aload_n 0, 1) := by decide +kernel
theorem dX7_close_45 : decode cX7_close 45 = .ok (.iload_n 2, 1) := by decide +kernel
theorem dX7_close_46 : decode cX7_close 46 = .ok (.invokevirtual 65, 3) := by decide +kernel
theorem dX7_close_49 : decode cX7_close 49 = .ok (.iconst 0, 1) := by decide +kernel
theorem dX7_close_50 : decode cX7_close 50 = .ok (.iastore, 1) := by decide +kernel
theorem dX7_close_51 : decode cX7_close 51 = .ok (.iinc 2 1, 3) := by decide +kernel
theorem dX7_close_54 : decode cX7_close 54 = .ok (.goto (-27), 3) := by decide +kernel
theorem dX7_close_57 : decode cX7_close 57 = .ok (.aload_n 0, 1) := by decide +kernel
theorem dX7_close_58 : decode cX7_close 58 = .ok (.getfield 9, 3) := by decide +kernel
theorem dX7_close_61 : decode cX7_close 61 = .ok (.bipush 65, 2) := by decide +kernel
theorem dX7_close_63 : decode cX7_close 63 = .ok (.dup2, 1) := by decide +kernel
theorem dX7_close_64 : decode cX7_close 64 = .ok (.iaload, 1) := by decide +kernel
theorem dX7_close_65 : decode cX7_close 65 = .ok (.iconst 1, 1) := by decide +kernel
theorem dX7_close_66 : decode cX7_close 66 = .ok (.iadd, 1) := by decide +kernel
theorem dX7_close_67 : decode cX7_close 67 = .ok (.iastore, 1) := by decide +kernel
theorem dX7_close_68 : decode cX7_close 68 = .ok (.return_, 1) := by decide +kernel
theorem dX7_can_0 : decode cX7_can 0 = .ok (.iload_n 1, 1) := by decide +kernel
theorem dX7_can_1 : decode cX7_can 1 = .ok (.bipush 10, 2) := by decide +kernel
theorem dX7_can_3 : decode cX7_can 3 = .ok (.if_icmp .ge 5, 3) := by decide +kernel
theorem dX7_can_6 : decode cX7_can 6 = .ok (.iconst 1, 1) := by decide +kernel
theorem dX7_can_7 : decode cX7_can 7 = .ok (.ireturn, 1) := by decide +kernel
theorem dX7_can_8 : decode cX7_can 8 = .ok (.iload_n 1, 1) := by decide +kernel
theorem dX7_can_9 : decode cX7_can 9 = .ok (.bipush 100, 2) := by decide +kernel
theorem dX7_can_11 : decode cX7_can 11 = .ok (.if_icmp .ge 25, 3) := by decide +kernel
theorem dX7_can_14 : decode cX7_can 14 = .ok (.iload_n 1, 1) := by decide +kernel
theorem dX7_can_15 : decode cX7_can 15 = .ok (.bipush 10, 2) := by decide +kernel
theorem dX7_can_17 : decode cX7_can 17 = .ok (.isub, 1) := by decide +kernel
theorem dX7_can_18 : decode cX7_can 18 = .ok (.aload_n 0, 1) := by decide +kernel
theorem dX7_can_19 : decode cX7_can 19 = .ok (.getfield 15, 3) := by decide +kernel
theorem dX7_can_22 : decode cX7_can 22 = .ok (.getfield 29, 3) := by decide +kernel
theorem dX7_can_25 : decode cX7_can 25 = .ok (.iconst 1, 1) := by decide +kernel
theorem dX7_can_26 : decode cX7_can 26 = .ok (.iaload, 1) := by decide +kernel
theorem dX7_can_27 : decode cX7_can 27 = .ok (.if_icmp .ge 7, 3) := by decide +kernel
theorem dX7_can_30 : decode cX7_can 30 = .ok (.iconst 1, 1) := by decide +kernel
theorem dX7_can_31 : decode cX7_can 31 = .ok (.goto 4, 3) := by decide +kernel
theorem dX7_can_34 : decode cX7_can 34 = .ok (.iconst 0, 1) := by decide +kernel
theorem dX7_can_35 : decode cX7_can 35 = .ok (.ireturn, 1) := by decide +kernel
theorem dX7_can_36 : decode cX7_can 36 = .ok (.iload_n 1, 1) := by decide +kernel
theorem dX7_can_37 : decode cX7_can 37 = .ok (.bipush 100, 2) := by decide +kernel
theorem dX7_can_39 : decode cX7_can 39 = .ok (.isub, 1) := by decide +kernel
theorem dX7_can_40 : decode cX7_can 40 = .ok (.bipush 10, 2) := by decide +kernel
theorem dX7_can_42 : decode cX7_can 42 = .ok (.irem, 1) := by decide +kernel
theorem dX7_can_43 : decode cX7_can 43 = .ok (.istore_n 2, 1) := by decide +kernel
theorem dX7_can_44 : decode cX7_can 44 = .ok (.iload_n 1, 1) := by decide +kernel
theorem dX7_can_45 : decode cX7_can 45 = .ok (.bipush 100, 2) := by decide +kernel
theorem dX7_can_47 : decode cX7_can 47 = .ok (.isub, 1) := by decide +kernel
theorem dX7_can_48 : decode cX7_can 48 = .ok (.bipush 10, 2) := by decide +kernel
theorem dX7_can_50 : decode cX7_can 50 = .ok (.idiv, 1) := by decide +kernel
theorem dX7_can_51 : decode cX7_can 51 = .ok (.aload_n 0, 1) := by decide +kernel
theorem dX7_can_52 : decode cX7_can 52 = .ok (.getfield 15, 3) := by decide +kernel
theorem dX7_can_55 : decode cX7_can 55 = .ok (.getfield 29, 3) := by decide +kernel
theorem dX7_can_58 : decode cX7_can 58 = .ok (.iconst 1, 1) := by decide +kernel
theorem dX7_can_59 : decode cX7_can 59 = .ok (.iaload, 1) := by decide +kernel
theorem dX7_can_60 : decode cX7_can 60 = .ok (.if_icmp .ge 26, 3) := by decide +kernel
theorem dX7_can_63 : decode cX7_can 63 = .ok (.iload_n 2, 1) := by decide +kernel
theorem dX7_can_64 : decode cX7_can 64 = .ok (.bipush 9, 2) := by decide +kernel
theorem dX7_can_66 : decode cX7_can 66 = .ok (.if_icmp .eq 16, 3) := by decide +kernel
theorem dX7_can_69 : decode cX7_can 69 = .ok (.iload_n 2, 1) := by decide +kernel
theorem dX7_can_70 : decode cX7_can 70 = .ok (.aload_n 0, 1) := by decide +kernel
theorem dX7_can_71 : decode cX7_can 71 = .ok (.getfield 15, 3) := by decide +kernel
theorem dX7_can_74 : decode cX7_can 74 = .ok (.getfield 29, 3) := by decide +kernel
theorem dX7_can_77 : decode cX7_can 77 = .ok (.iconst 2, 1) := by decide +kernel
theorem dX7_can_78 : decode cX7_can 78 = .ok (.iaload, 1) := by decide +kernel
theorem dX7_can_79 : decode cX7_can 79 = .ok (.if_icmp .ge 7, 3) := by decide +kernel
theorem dX7_can_82 : decode cX7_can 82 = .ok (.iconst 1, 1) := by decide +kernel
theorem dX7_can_83 : decode cX7_can 83 = .ok (.goto 4, 3) := by decide +kernel
theorem dX7_can_86 : decode cX7_can 86 = .ok (.iconst 0, 1) := by decide +kernel
theorem dX7_can_87 : decode cX7_can 87 = .ok (.ireturn, 1) := by decide +kernel
theorem dX7_act_0 : decode cX7_act 0 = .ok (.iload_n 1, 1) := by decide +kernel
theorem dX7_act_1 : decode cX7_act 1 = .ok (.bipush 100, 2) := by decide +kernel
theorem dX7_act_3 : decode cX7_act 3 = .ok (.if_icmp .lt 47, 3) := by decide +kernel
theorem dX7_act_6 : decode cX7_act 6 = .ok (.iload_n 1, 1) := by decide +kernel
theorem dX7_act_7 : decode cX7_act 7 = .ok (.bipush 100, 2) := by decide +kernel
theorem dX7_act_9 : decode cX7_act 9 = .ok (.isub, 1) := by decide +kernel
theorem dX7_act_10 : decode cX7_act 10 = .ok (.bipush 10, 2) := by decide +kernel
theorem dX7_act_12 : decode cX7_act 12 = .ok (.idiv, 1) := by decide +kernel
theorem dX7_act_13 : decode cX7_act 13 = .ok (.istore_n 2, 1) := by decide +kernel
theorem dX7_act_14 : decode cX7_act 14 = .ok (.iload_n 1, 1) := by decide +kernel
theorem dX7_act_15 : decode cX7_act 15 = .ok (.bipush 100, 2) := by decide +kernel
theorem dX7_act_17 : decode cX7_act 17 = .ok (.isub, 1) := by decide +kernel
theorem dX7_act_18 : decode cX7_act 18 = .ok (.bipush 10, 2) := by decide +kernel
theorem dX7_act_20 : decode cX7_act 20 = .ok (.irem, 1) := by decide +kernel
theorem dX7_act_21 : decode cX7_act 21 = .ok (.istore_n 3, 1) := by decide +kernel
theorem dX7_act_22 : decode cX7_act 22 = .ok (.aload_n 0, 1) := by decide +kernel
theorem dX7_act_23 : decode cX7_act 23 = .ok (.iload_n 2, 1) := by decide +kernel
theorem dX7_act_24 : decode cX7_act 24 = .ok (.aload_n 0, 1) := by decide +kernel
theorem dX7_act_25 : decode cX7_act 25 = .ok (.iload_n 2, 1) := by decide +kernel
theorem dX7_act_26 : decode cX7_act 26 = .ok (.iload_n 3, 1) := by decide +kernel
theorem dX7_act_27 : decode cX7_act 27 = .ok (.bipush 9, 2) := by decide +kernel
theorem dX7_act_29 : decode cX7_act 29 = .ok (.if_icmp .ne 7, 3) := by decide +kernel
theorem dX7_act_32 : decode cX7_act 32 = .ok (.iconst (-1), 1) := by decide +kernel
theorem dX7_act_33 : decode cX7_act 33 = .ok (.goto 4, 3) := by decide +kernel
theorem dX7_act_36 : decode cX7_act 36 = .ok (.iload_n 3, 1) := by decide +kernel
theorem dX7_act_37 : decode cX7_act 37 = .ok (.aload_n 0, 1) := by decide +kernel
theorem dX7_act_38 : decode cX7_act 38 = .ok (.invokevirtual 90, 3) := by decide +kernel
theorem dX7_act_41 : decode cX7_act 41 = .ok (.invokevirtual 93, 3) := by decide +kernel
theorem dX7_act_44 : decode cX7_act 44 = .ok (.invokevirtual 109, 3) := by decide +kernel
theorem dX7_act_47 : decode cX7_act 47 = .ok (.goto 66, 3) := by decide +kernel
theorem dX7_act_50 : decode cX7_act 50 = .ok (.iload_n 1, 1) := by decide +kernel
theorem dX7_act_51 : decode cX7_act 51 = .ok (.bipush 10, 2) := by decide +kernel
theorem dX7_act_53 : decode cX7_act 53 = .ok (.if_icmp .lt 27, 3) := by decide +kernel
theorem dX7_act_56 : decode cX7_act 56 = .ok (.aload_n 0, 1) := by decide +kernel
theorem dX7_act_57 : decode cX7_act 57 = .ok (.iload_n 1, 1) := by decide +kernel
theorem dX7_act_58 : decode cX7_act 58 = .ok (.bipush 10, 2) := by decide +kernel
theorem dX7_act_60 : decode cX7_act 60 = .ok (.isub, 1) := by decide +kernel
theorem dX7_act_61 : decode cX7_act 61 = .ok (.iconst 1, 1) := by decide +kernel
theorem dX7_act_62 : decode cX7_act 62 = .ok (.iconst 0, 1) := by decide +kernel
theorem dX7_act_63 : decode cX7_act 63 = .ok (.invokevirtual 38, 3) := by decide +kernel
theorem dX7_act_66 : decode cX7_act 66 = .ok (.aload_n 0, 1) := by decide +kernel
theorem dX7_act_67 : decode cX7_act 67 = .ok (.getfield 9, 3) := by decide +kernel
theorem dX7_act_70 : decode cX7_act 70 = .ok (.bipush 65, 2) := by decide +kernel
theorem dX7_act_72 : decode cX7_act 72 = .ok (.dup2, 1) := by decide +kernel
theorem dX7_act_73 : decode cX7_act 73 = .ok (.iaload, 1) := by decide +kernel
theorem dX7_act_74 : decode cX7_act 74 = .ok (.iconst 1, 1) := by decide +kernel
theorem dX7_act_75 : decode cX7_act 75 = .ok (.iadd, 1) := by decide +kernel
theorem dX7_act_76 : decode cX7_act 76 = .ok (.iastore, 1) := by decide +kernel
theorem dX7_act_77 : decode cX7_act 77 = .ok (.goto 36, 3) := by decide +kernel
theorem dX7_act_80 : decode cX7_act 80 = .ok (.iload_n 1, 1) := by decide +kernel
theorem dX7_act_81 : decode cX7_act 81 = .ok (.iconst 3, 1) := by decide +kernel
theorem dX7_act_82 : decode cX7_act 82 = .ok (.if_icmp .ne 12, 3) := by decide +kernel
theorem dX7_act_85 : decode cX7_act 85 = .ok (.aload_n 0, 1) := by decide +kernel
theorem dX7_act_86 : decode cX7_act 86 = .ok (.bipush 10, 2) := by decide +kernel
theorem dX7_act_88 : decode cX7_act 88 = .ok (.invokevirtual 112, 3) := by decide +kernel
theorem dX7_act_91 : decode cX7_act 91 = .ok (.goto 22, 3) := by decide +kernel
theorem dX7_act_94 : decode cX7_act 94 = .ok (.iload_n 1, 1) := by decide +kernel
theorem dX7_act_95 : decode cX7_act 95 = .ok (.iconst 4, 1) := by decide +kernel
theorem dX7_act_96 : decode cX7_act 96 = .ok (.if_icmp .ne 12, 3) := by decide +kernel
theorem dX7_act_99 : decode cX7_act 99 = .ok (.aload_n 0, 1) := by decide +kernel
theorem dX7_act_100 : decode cX7_act 100 = .ok (.bipush 10, 2) := by decide +kernel
theorem dX7_act_102 : decode cX7_act 102 = .ok (.invokevirtual 115, 3) := by decide +kernel
theorem dX7_act_105 : decode cX7_act 105 = .ok (.goto 8, 3) := by decide +kernel
theorem dX7_act_108 : decode cX7_act 108 = .ok (.aload_n 0, 1) := by decide +kernel
theorem dX7_act_109 : decode cX7_act 109 = .ok (.iload_n 1, 1) := by decide +kernel
theorem dX7_act_110 : decode cX7_act 110 = .ok (.invokevirtual 118, 3) := by decide +kernel
theorem dX7_act_113 : decode cX7_act 113 = .ok (.return_, 1) := by decide +kernel
theorem dX7_workOnLid_0 : decode cX7_workOnLid 0 = .ok (.iload_n 1, 1) := by decide +kernel
theorem dX7_workOnLid_1 : decode cX7_workOnLid 1 = .ok (.ifCond .ne 12, 3) := by decide +kernel
theorem dX7_workOnLid_4 : decode cX7_workOnLid 4 = .ok (.aload_n 0, 1) := by decide +kernel
theorem dX7_workOnLid_5 : decode cX7_workOnLid 5 = .ok (.iconst 1, 1) := by decide +kernel
theorem dX7_workOnLid_6 : decode cX7_workOnLid 6 = .ok (.iconst 3, 1) := by decide +kernel
theorem dX7_workOnLid_7 : decode cX7_workOnLid 7 = .ok (.invokevirtual 99, 3) := by decide +kernel
theorem dX7_workOnLid_10 : decode cX7_workOnLid 10 = .ok (.goto 29, 3) := by decide +kernel
theorem dX7_workOnLid_13 : decode cX7_workOnLid 13 = .ok (.iload_n 1, 1) := by decide +kernel
theorem dX7_workOnLid_14 : decode cX7_workOnLid 14 = .ok (.iconst 1, 1) := by decide +kernel
theorem dX7_workOnLid_15 : decode cX7_workOnLid 15 = .ok (.if_icmp .ne 12, 3) := by decide +kernel
theorem dX7_workOnLid_18 : decode cX7_workOnLid 18 = .ok (.aload_n 0, 1) := by decide +kernel
theorem dX7_workOnLid_19 : decode cX7_workOnLid 19 = .ok (.iconst 0, 1) := by decide +kernel
theorem dX7_workOnLid_20 : decode cX7_workOnLid 20 = .ok (.iconst 4, 1) := by decide +kernel
theorem dX7_workOnLid_21 : decode cX7_workOnLid 21 = .ok (.invokevirtual 99, 3) := by decide +kernel
theorem dX7_workOnLid_24 : decode cX7_workOnLid 24 = .ok (.goto 15, 3) := by decide +kernel
theorem dX7_workOnLid_27 : decode cX7_workOnLid 27 = .ok (.aload_n 0, 1) := by decide +kernel
theorem dX7_workOnLid_28 : decode cX7_workOnLid 28 = .ok (.iconst 0, 1) := by decide +kernel
theorem dX7_workOnLid_29 : decode cX7_workOnLid 29 = .ok (.iconst 0, 1) := by decide +kernel
theorem dX7_workOnLid_30 : decode cX7_workOnLid 30 = .ok (.invokevirtual 58, 3) := by decide +kernel
theorem dX7_workOnLid_33 : decode cX7_workOnLid 33 = .ok (.aload_n 0, 1) := by decide +kernel
theorem dX7_workOnLid_34 : decode cX7_workOnLid 34 = .ok (.iconst 4, 1) := by decide +kernel
theorem dX7_workOnLid_35 : decode cX7_workOnLid 35 = .ok (.iconst 1, 1) := by decide +kernel
theorem dX7_workOnLid_36 : decode cX7_workOnLid 36 = .ok (.invokevirtual 58, 3) := by decide +kernel
theorem dX7_workOnLid_39 : decode cX7_workOnLid 39 = .ok (.aload_n 0, 1) := by decide +kernel
theorem dX7_workOnLid_40 : decode cX7_workOnLid 40 = .ok (.getfield 9, 3) := by decide +kernel
theorem dX7_workOnLid_43 : decode cX7_workOnLid 43 = .ok (.bipush 65, 2) := by decide +kernel
theorem dX7_workOnLid_45 : decode cX7_workOnLid 45 = .ok (.dup2, 1) := by decide +kernel
theorem dX7_workOnLid_46 : decode cX7_workOnLid 46 = .ok (.iaload, 1) := by decide +kernel
theorem dX7_workOnLid_47 : decode cX7_workOnLid 47 = .ok (.iconst 1, 1) := by decide +kernel
theorem dX7_workOnLid_48 : decode cX7_workOnLid 48 = .ok (.iadd, 1) := by decide +kernel
theorem dX7_workOnLid_49 : decode cX7_workOnLid 49 = .ok (.iastore, 1) := by decide +kernel
theorem dX7_workOnLid_50 : decode cX7_workOnLid 50 = .ok (.return_, 1) := by decide +kernel
theorem dX8_init_0 : decode cX8_init 0 = .ok (.aload_n 0, 1) := by decide +kernel
theorem dX8_init_1 : decode cX8_init 1 = .ok (.invokespecial 3, 3) := by decide +kernel
theorem dX8_init_4 : decode cX8_init 4 = .ok (.aload_n 0, 1) := by decide +kernel
theorem dX8_init_5 : decode cX8_init 5 = .ok (.bipush 41, 2) := by decide +kernel
theorem dX8_init_7 : decode cX8_init 7 = .ok (.newarray .int, 2) := by decide +kernel
theorem dX8_init_9 : decode cX8_init 9 = .ok (.putfield 9, 3) := by decide +kernel
theorem dX8_init_12 : decode cX8_init 12 = .ok (.aload_n 0, 1) := by decide +kernel
theorem dX8_init_13 : decode cX8_init 13 = .ok (.sipush 144, 3) := by decide +kernel
theorem dX8_init_16 : decode cX8_init 16 = .ok (.newarray .int, 2) := by decide +kernel
theorem dX8_init_18 : decode cX8_init 18 = .ok (.putfield 15, 3) := by decide +kernel
theorem dX8_init_21 : decode cX8_init 21 = .ok (.aload_n 0, 1) := by decide +kernel
theorem dX8_init_22 : decode cX8_init 22 = .ok (.sipush 144, 3) := by decide +kernel
theorem dX8_init_25 : decode cX8_init 25 = .ok (.newarray .int, 2) := by decide +kernel
theorem dX8_init_27 : decode cX8_init 27 = .ok (.putfield 18, 3) := by decide +kernel
theorem dX8_init_30 : decode cX8_init 30 = .ok (.aload_n 0, 1) := by decide +kernel
theorem dX8_init_31 : decode cX8_init 31 = .ok (.bipush 6, 2) := by decide +kernel
theorem dX8_init_33 : decode cX8_init 33 = .ok (.newarray .int, 2) := by decide +kernel
theorem dX8_init_35 : decode cX8_init 35 = .ok (.putfield 21, 3) := by decide +kernel
theorem dX8_init_38 : decode cX8_init 38 = .ok (.aload_n 0, 1) := by decide +kernel
theorem dX8_init_39 : decode cX8_init 39 = .ok (.aload_n 1, 1) := by decide +kernel
theorem dX8_init_40 : decode cX8_init 40 = .ok (.putfield 24, 3) := by decide +kernel
theorem dX8_init_43 : decode cX8_init 43 = .ok (.aload_n 0, 1) := by decide +kernel
theorem dX8_init_44 : decode cX8_init 44 = .ok (.new 28, 3) := by decide +kernel
theorem dX8_init_47 : decode cX8_init 47 = .ok (.dup, 1) := by decide +kernel
theorem dX8_init_48 : decode cX8_init 48 = .ok (.aload_n 1, 1) := by decide +kernel
theorem dX8_init_49 : decode cX8_init 49 = .ok (.aload_n 2, 1) := by decide +kernel
theorem dX8_init_50 : decode cX8_init 50 = .ok (.invokespecial 30, 3) := by decide +kernel
theorem dX8_init_53 : decode cX8_init 53 = .ok (.putfield 33, 3) := by decide +kernel
theorem dX8_init_56 : decode cX8_init 56 = .ok (.aload_n 0, 1) := by decide +kernel
theorem dX8_init_57 : decode cX8_init 57 = .ok (.new 28, 3) := by decide +kernel
theorem dX8_init_60 : decode cX8_init 60 = .ok (.dup, 1) := by decide +kernel
theorem dX8_init_61 : decode cX8_init 61 = .ok (.aload_n 1, 1) := by decide +kernel
theorem dX8_init_62 : decode cX8_init 62 = .ok (.aload_n 2, 1) := by decide +kernel
theorem dX8_init_63 : decode cX8_init 63 = .ok (.invokespecial 30, 3) := by decide +kernel
theorem dX8_init_66 : decode cX8_init 66 = .ok (.putfield 37, 3) := by decide +kernel
theorem dX8_init_69 : decode cX8_init 69 = .ok (.return_, 1) := by decide +kernel
theorem dX8_prepare_0 : decode cX8_prepare 0 = .ok (.aload_n 0, 1) := by decide +kernel
theorem dX8_prepare_1 : decode cX8_prepare 1 = .ok (.getfield 21, 3) := by decide +kernel
theorem dX8_prepare_4 : decode cX8_prepare 4 = .ok (.iconst 0, 1) := by decide +kernel
theorem dX8_prepare_5 : decode cX8_prepare 5 = .ok (.invokestatic 40, 3) := by decide +kernel
theorem dX8_prepare_8 : decode cX8_prepare 8 = .ok (.aload_n 0, 1) := by decide +kernel
theorem dX8_prepare_9 : decode cX8_prepare 9 = .ok (.iload_n 1, 1) := by decide +kernel
theorem dX8_prepare_10 : decode cX8_prepare 10 = .ok (.invokevirtual 46, 3) := by decide +kernel
theorem dX8_prepare_13 : decode cX8_prepare 13 = .ok (.return_, 1) := by decide +kernel
theorem dX8_listActs_0 : decode cX8_listActs 0 = .ok (.aload_n 0, 1) := by decide +kernel
theorem dX8_listActs_1 : decode cX8_listActs 1 = .ok (.iconst 0, 1) := by decide +kernel
theorem dX8_listActs_2 : decode cX8_listActs 2 = .ok (.putfield 50, 3) := by decide +kernel
theorem dX8_listActs_5 : decode cX8_listActs 5 = .ok (.iconst 0, 1) := by decide +kernel
theorem dX8_listActs_6 : decode cX8_listActs 6 = .ok (.istore_n 2, 1) := by decide +kernel
theorem dX8_listActs_7 : decode cX8_listActs 7 = .ok (.iload_n 2, 1) := by decide +kernel
theorem dX8_listActs_8 : decode cX8_listActs 8 = .ok (.iconst 4, 1) := by decide +kernel
theorem dX8_listActs_9 : decode cX8_listActs 9 = .ok (.if_icmp .gt 23, 3) := by decide +kernel
theorem dX8_listActs_12 : decode cX8_listActs 12 = .ok (.iload_n 2, 1) := by decide +kernel
theorem dX8_listActs_13 : decode cX8_listActs 13 = .ok (.iconst 2, 1) := by decide +kernel
theorem dX8_listActs_14 : decode cX8_listActs 14 = .ok (.if_icmp .ne 7, 3) := by decide +kernel
theorem dX8_listActs_17 : decode cX8_listActs 17 = .ok (.iload_n 1, 1) := by decide +kernel
theorem dX8_listActs_18 : decode cX8_listActs 18 = .ok (.ifCond .eq 8, 3) := by decide +kernel
theorem dX8_listActs_21 : decode cX8_listActs 21 = .ok (.aload_n 0, 1) := by decide +kernel
theorem dX8_listActs_22 : decode cX8_listActs 22 = .ok (.iload_n 2, 1) := by decide +kernel
theorem dX8_listActs_23 : decode cX8_listActs 23 = .ok (.invokevirtual 54, 3) := by decide +kernel
theorem dX8_listActs_26 : decode cX8_listActs 26 = .ok (.iinc 2 1, 3) := by decide +kernel
theorem dX8_listActs_29 : decode cX8_listActs 29 = .ok (.goto (-22), 3) := by decide +kernel
theorem dX8_listActs_32 : decode cX8_listActs 32 = .ok (.iconst 0, 1) := by decide +kernel
theorem dX8_listActs_33 : decode cX8_listActs 33 = .ok (.istore_n 2, 1) := by decide +kernel
theorem dX8_listActs_34 : decode cX8_listActs 34 = .ok (.iload_n 2, 1) := by decide +kernel
theorem dX8_listActs_35 : decode cX8_listActs 35 = .ok (.aload_n 0, 1) := by decide +kernel
theorem dX8_listActs_36 : decode cX8_listActs 36 = .ok (.getfield 24, 3) := by decide +kernel
theorem dX8_listActs_39 : decode cX8_listActs 39 = .ok (.getfield 58, 3) := by decide +kernel
theorem dX8_listActs_42 : decode cX8_listActs 42 = .ok (.iconst 1, 1) := by decide +kernel
theorem dX8_listActs_43 : decode cX8_listActs 43 = .ok (.iaload, 1) := by decide +kernel
theorem dX8_listActs_44 : decode cX8_listActs 44 = .ok (.if_icmp .ge 17, 3) := by decide +kernel
theorem dX8_listActs_47 : decode cX8_listActs 47 = .ok (.aload_n 0, 1) := by decide +kernel
theorem dX8_listActs_48 : decode cX8_listActs 48 = .ok (.bipush 10, 2) := by decide +kernel
theorem dX8_listActs_50 : decode cX8_listActs 50 = .ok (.iload_n 2, 1) := by decide +kernel
theorem dX8_listActs_51 : decode cX8_listActs 51 = .ok (.iadd, 1) := by decide +kernel
theorem dX8_listActs_52 : decode cX8_listActs 52 = .ok (.invokevirtual 54, 3) := by decide +kernel
theorem dX8_listActs_55 : decode cX8_listActs 55 = .ok (.iinc 2 1, 3) := by decide +kernel
theorem dX8_listActs_58 : decode cX8_listActs 58 = .ok (.goto (-24), 3) := by decide +kernel
theorem dX8_listActs_61 : decode cX8_listActs 61 = .ok (.iconst 0, 1) := by decide +kernel
theorem dX8_listActs_62 : decode cX8_listActs 62 = .ok (.istore_n 2, 1) := by decide +kernel
theorem dX8_listActs_63 : decode cX8_listActs 63 = .ok (.iload_n 2, 1) := by decide +kernel
theorem dX8_listActs_64 : decode cX8_listActs 64 = .ok (.aload_n 0, 1) := by decide +kernel
theorem dX8_listActs_65 : decode cX8_listActs 65 = .ok (.getfield 24, 3) := by decide +kernel
theorem dX8_listActs_68 : decode cX8_listActs 68 = .ok (.getfield 58, 3) := by decide +kernel
theorem dX8_listActs_71 : decode cX8_listActs 71 = .ok (.iconst 1, 1) := by decide +kernel
theorem dX8_listActs_72 : decode cX8_listActs 72 = .ok (.iaload, 1) := by decide +kernel
theorem dX8_listActs_73 : decode cX8_listActs 73 = .ok (.if_icmp .ge 48, 3) := by decide +kernel
theorem dX8_listActs_76 : decode cX8_listActs 76 = .ok (.iconst 0, 1) := by decide +kernel
theorem dX8_listActs_77 : decode cX8_listActs 77 = .ok (.istore_n 3, 1) := by decide +kernel
theorem dX8_listActs_78 : decode cX8_listActs 78 = .ok (.iload_n 3, 1) := by decide +kernel
theorem dX8_listActs_79 : decode cX8_listActs 79 = .ok (.aload_n 0, 1) := by decide +kernel
theorem dX8_listActs_80 : decode cX8_listActs 80 = .ok (.getfield 24, 3) := by decide +kernel
theorem dX8_listActs_83 : decode cX8_listActs 83 = .ok (.getfield 58, 3) := by decide +kernel
theorem dX8_listActs_86 : decode cX8_listActs 86 = .ok (.iconst 2, 1) := by decide +kernel
theorem dX8_listActs_87 : decode cX8_listActs 87 = .ok (.iaload, 1) := by decide +kernel
theorem dX8_listActs_88 : decode cX8_listActs 88 = .ok (.if_icmp .ge 18, 3) := by decide +kernel
theorem dX8_listActs_91 : decode cX8_listActs 91 = .ok (.aload_n 0, 1) := by decide +kernel
theorem dX8_listActs_92 : decode cX8_listActs 92 = .ok (.iload_n 2, 1) := by decide +kernel
theorem dX8_listActs_93 : decode cX8_listActs 93 = .ok (.iload_n 3, 1) := by decide +kernel
theorem dX8_listActs_94 : decode cX8_listActs 94 = .ok (.invokestatic 63, 3) := by decide +kernel
theorem dX8_listActs_97 : decode cX8_listActs 97 = .ok (.invokevirtual 54, 3) := by decide +kernel
theorem dX8_listActs_100 : decode cX8_listActs 100 = .ok (.iinc 3 1, 3) := by decide +kernel
theorem dX8_listActs_103 : decode cX8_listActs 103 = .ok (.goto (-25), 3) := by decide +kernel
theorem dX8_listActs_106 : decode cX8_listActs 106 = .ok (.aload_n 0, 1) := by decide +kernel
theorem dX8_listActs_107 : decode cX8_listActs 107 = .ok (.iload_n 2, 1) := by decide +kernel
theorem dX8_listActs_108 : decode cX8_listActs 108 = .ok (.iconst (-1), 1) := by decide +kernel
theorem dX8_listActs_109 : decode cX8_listActs 109 = .ok (.invokestatic 63, 3) := by decide +kernel
theorem dX8_listActs_112 : decode cX8_listActs 112 = .ok (.invokevirtual 54, 3) := by decide +kernel
theorem dX8_listActs_115 : decode cX8_listActs 115 = .ok (.iinc 2 1, 3) := by decide +kernel
theorem dX8_listActs_118 : decode cX8_listActs 118 = .ok (.goto (-55), 3) := by decide +kernel
theorem dX8_listActs_121 : decode cX8_listActs 121 = .ok (.return_, 1) := by decide +kernel
theorem dX8_addAct_0 : decode cX8_addAct 0 = .ok (.aload_n 0, 1) := by decide +kernel
theorem dX8_addAct_1 : decode cX8_addAct 1 = .ok (.getfield 50, 3) := by decide +kernel
theorem dX8_addAct_4 : decode cX8_addAct 4 = .ok (.aload_n 0, 1) := by decide +kernel
theorem dX8_addAct_5 : decode cX8_addAct 5 = .ok (.getfield 9, 3) := by decide +kernel
theorem dX8_addAct_8 : decode cX8_addAct 8 = .ok (.arraylength, 1) := by decide +kernel
theorem dX8_addAct_9 : decode cX8_addAct 9 = .ok (.if_icmp .ge 23, 3) := by decide +kernel
theorem dX8_addAct_12 : decode cX8_addAct 12 = .ok (.aload_n 0, 1) := by decide +kernel
theorem dX8_addAct_13 : decode cX8_addAct 13 = .ok (.getfield 9, 3) := by decide +kernel
theorem dX8_addAct_16 : decode cX8_addAct 16 = .ok (.aload_n 0, 1) := by decide +kernel
theorem dX8_addAct_17 : decode cX8_addAct 17 = .ok (.getfield 50, 3) := by decide +kernel
theorem dX8_addAct_20 : decode cX8_addAct 20 = .ok (.iload_n 1, 1) := by decide +kernel
theorem dX8_addAct_21 : decode cX8_addAct 21 = .ok (.iastore, 1) := by decide +kernel
theorem dX8_addAct_22 : decode cX8_addAct 22 = .ok (.aload_n 0, 1) := by decide +kernel
theorem dX8_addAct_23 : decode cX8_addAct 23 = .ok (.dup, 1) := by decide +kernel
theorem dX8_addAct_24 : decode cX8_addAct 24 = .ok (.getfield 50, 3) := by decide +kernel
theorem dX8_addAct_27 : decode cX8_addAct 27 = .ok (.iconst 1, 1) := by decide +kernel
theorem dX8_addAct_28 : decode cX8_addAct 28 = .ok (.iadd, 1) := by decide +kernel
theorem dX8_addAct_29 : decode cX8_addAct 29 = .ok (.putfield 50, 3) := by decide +kernel
theorem dX8_addAct_32 : decode cX8_addAct 32 = .ok (.return_, 1) := by decide +kernel
theorem dX8_firstOf_0 : decode cX8_firstOf 0 = .ok (.iconst 0, 1) := by decide +kernel
theorem dX8_firstOf_1 : decode cX8_firstOf 1 = .ok (.istore_n 3, 1) := by decide +kernel
theorem dX8_firstOf_2 : decode cX8_firstOf 2 = .ok (.iload_n 3, 1) := by decide +kernel
theorem dX8_firstOf_3 : decode cX8_firstOf 3 = .ok (.aload_n 0, 1) := by decide +kernel
theorem dX8_firstOf_4 : decode cX8_firstOf 4 = .ok (.getfield 50, 3) := by decide +kernel
theorem dX8_firstOf_7 : decode cX8_firstOf 7 = .ok (.if_icmp .ge 114, 3) := by decide +kernel
theorem dX8_firstOf_10 : decode cX8_firstOf 10 = .ok (.aload_n 0, 1) := by decide +kernel
theorem dX8_firstOf_11 : decode cX8_firstOf 11 = .ok (.getfield 33, 3) := by decide +kernel
theorem dX8_firstOf_14 : decode cX8_firstOf 14 = .ok (.aload_n 2, 1) := by decide +kernel
theorem dX8_firstOf_15 : decode cX8_firstOf 15 = .ok (.invokevirtual 67, 3) := by decide +kernel
theorem dX8_firstOf_18 : decode cX8_firstOf 18 = .ok (.aload_n 0, 1) := by decide +kernel
theorem dX8_firstOf_19 : decode cX8_firstOf 19 = .ok (.getfield 33, 3) := by decide +kernel
theorem dX8_firstOf_22 : decode cX8_firstOf 22 = .ok (.aload_n 0, 1) := by decide +kernel
theorem dX8_firstOf_23 : decode cX8_firstOf 23 = .ok (.getfield 9, 3) := by decide +kernel
theorem dX8_firstOf_26 : decode cX8_firstOf 26 = .ok (.iload_n 3, 1) := by decide +kernel
theorem dX8_firstOf_27 : decode cX8_firstOf 27 = .ok (.iaload, 1) := by decide +kernel
theorem dX8_firstOf_28 : decode cX8_firstOf 28 = .ok (.invokevirtual 71, 3) := by decide +kernel
theorem dX8_firstOf_31 : decode cX8_firstOf 31 = .ok (.iload_n 1, 1) := by decide +kernel
theorem dX8_firstOf_32 : decode cX8_firstOf 32 = .ok (.iconst 1, 1) := by decide +kernel
theorem dX8_firstOf_33 : decode cX8_firstOf 33 = .ok (.if_icmp .ne 25, 3) := by decide +kernel
theorem dX8_firstOf_36 : decode cX8_firstOf 36 = .ok (.aload_n 0, 1) := by decide +kernel
theorem dX8_firstOf_37 : decode cX8_firstOf 37 = .ok (.getfield 33, 3) := by decide +kernel
theorem dX8_firstOf_40 : decode cX8_firstOf 40 = .ok (.iconst 5, 1) := by decide +kernel
theorem dX8_firstOf_41 : decode cX8_firstOf 41 = .ok (.invokevirtual 74, 3) := by decide +kernel
theorem dX8_firstOf_44 : decode cX8_firstOf 44 = .ok (.iconst 1, 1) := by decide +kernel
theorem dX8_firstOf_45 : decode cX8_firstOf 45 = .ok (.if_icmp .ne 7, 3) := by decide +kernel
theorem dX8_firstOf_48 : decode cX8_firstOf 48 = .ok (.iconst 1, 1) := by decide +kernel
theorem dX8_firstOf_49 : decode cX8_firstOf 49 = .ok (.goto 4, 3) := by decide +kernel
theorem dX8_firstOf_52 : decode cX8_firstOf 52 = .ok (.iconst 0, 1) := by decide +kernel
theorem dX8_firstOf_53 : decode cX8_firstOf 53 = .ok (.istore 4, 2) := by decide +kernel
theorem dX8_firstOf_55 : decode cX8_firstOf 55 = .ok (.goto 48, 3) := by decide +kernel
theorem dX8_firstOf_58 : decode cX8_firstOf 58 = .ok (.aload_n 0, 1) := by decide +kernel
theorem dX8_firstOf_59 : decode cX8_firstOf 59 = .ok (.getfield 33, 3) := by decide +kernel
theorem dX8_firstOf_62 : decode cX8_firstOf 62 = .ok (.bipush 6, 2) := by decide +kernel
theorem dX8_firstOf_64 : decode cX8_firstOf 64 = .ok (.invokevirtual 74, 3) := by decide +kernel
theorem dX8_firstOf_67 : decode cX8_firstOf 67 = .ok (.iconst 1, 1) := by decide +kernel
theorem dX8_firstOf_68 : decode cX8_firstOf 68 = .ok (.if_icmp .ne 9, 3) := by decide +kernel
theorem dX8_firstOf_71 : decode cX8_firstOf 71 = .ok (.iconst 0, 1) := by decide +kernel
theorem dX8_firstOf_72 : decode cX8_firstOf 72 = .ok (.istore 4, 2) := by decide +kernel
theorem dX8_firstOf_74 : decode cX8_firstOf 74 = .ok (.goto 29, 3) := by decide +kernel
theorem dX8_firstOf_77 : decode cX8_firstOf 77 = .ok (.iload_n 1, 1) := by decide +kernel
theorem dX8_firstOf_78 : decode cX8_firstOf 78 = .ok (.iconst 2, 1) := by decide +kernel
theorem dX8_firstOf_79 : decode cX8_firstOf 79 = .ok (.if_icmp .ne 14, 3) := by decide +kernel
theorem dX8_firstOf_82 : decode cX8_firstOf 82 = .ok (.aload_n 0, 1) := by decide +kernel
theorem dX8_firstOf_83 : decode cX8_firstOf 83 = .ok (.aload_n 0, 1) := by decide +kernel
theorem dX8_firstOf_84 : decode cX8_firstOf 84 = .ok (.getfield 33, 3) := by decide +kernel
theorem dX8_firstOf_87 : decode cX8_firstOf 87 = .ok (.invokevirtual 78, 3) := by decide +kernel
theorem dX8_firstOf_90 : decode cX8_firstOf 90 = .ok (.goto 11, 3) := by decide +kernel
theorem dX8_firstOf_93 : decode cX8_firstOf 93 = .ok (.aload_n 0, 1) := by decide +kernel
theorem dX8_firstOf_94 : decode cX8_firstOf 94 = .ok (.aload_n 0, 1) := by decide +kernel
theorem dX8_firstOf_95 : decode cX8_firstOf 95 = .ok (.getfield 33, 3) := by decide +kernel
theorem dX8_firstOf_98 : decode cX8_firstOf 98 = .ok (.invokevirtual 82, 3) := by decide +kernel
theorem dX8_firstOf_101 : decode cX8_firstOf 101 = .ok (.istore 4, 2) := by decide +kernel
theorem dX8_firstOf_103 : decode cX8_firstOf 103 = .ok (.iload 4, 2) := by decide +kernel
theorem dX8_firstOf_105 : decode cX8_firstOf 105 = .ok (.ifCond .eq 10, 3) := by decide +kernel
theorem dX8_firstOf_108 : decode cX8_firstOf 108 = .ok (.aload_n 0, 1) := by decide +kernel
theorem dX8_firstOf_109 : decode cX8_firstOf 109 = .ok (.getfield 9, 3) := by decide +kernel
theorem dX8_firstOf_112 : decode cX8_firstOf 112 = .ok (.iload_n 3, 1) := by decide +kernel
theorem dX8_firstOf_113 : decode cX8_firstOf 113 = .ok (.iaload, 1) := by decide +kernel
theorem dX8_firstOf_114 : decode cX8_firstOf 114 = .ok (.ireturn, 1) := by decide +kernel
theorem dX8_firstOf_115 : decode cX8_firstOf 115 = .ok (.iinc 3 1, 3) := by decide +kernel
theorem dX8_firstOf_118 : decode cX8_firstOf 118 = .ok (.goto (-116), 3) := by decide +kernel
theorem dX8_firstOf_121 : decode cX8_firstOf 121 = .ok (.iconst (-1), 1) := by decide +kernel
theorem dX8_firstOf_122 : decode cX8_firstOf 122 = .ok (.ireturn, 1) := by decide +kernel
theorem dX8_opensInTwo_0 : decode cX8_opensInTwo 0 = .ok (.iconst 0, 1) := by decide +kernel
theorem dX8_opensInTwo_1 : decode cX8_opensInTwo 1 = .ok (.istore_n 2, 1) := by decide +kernel
theorem dX8_opensInTwo_2 : decode cX8_opensInTwo 2 = .ok (.iload_n 2, 1) := by decide +kernel
theorem dX8_opensInTwo_3 : decode cX8_opensInTwo 3 = .ok (.aload_n 0, 1) := by decide +kernel
theorem dX8_opensInTwo_4 : decode cX8_opensInTwo 4 = .ok (.getfield 50, 3) := by decide +kernel
theorem dX8_opensInTwo_7 : decode cX8_opensInTwo 7 = .ok (.if_icmp .ge 66, 3) := by decide +kernel
theorem dX8_opensInTwo_10 : decode cX8_opensInTwo 10 = .ok (.aload_n 0, 1) := by decide +kernel
theorem dX8_opensInTwo_11 : decode cX8_opensInTwo 11 = .ok (.getfield 9, 3) := by decide +kernel
theorem dX8_opensInTwo_14 : decode cX8_opensInTwo 14 = .ok (.iload_n 2, 1) := by decide +kernel
theorem dX8_opensInTwo_15 : decode cX8_opensInTwo 15 = .ok (.iaload, 1) := by decide +kernel
theorem dX8_opensInTwo_16 : decode cX8_opensInTwo 16 = .ok (.bipush 100, 2) := by decide +kernel
theorem dX8_opensInTwo_18 : decode cX8_opensInTwo 18 = .ok (.if_icmp .ge 55, 3) := by decide +kernel
theorem dX8_opensInTwo_21 : decode cX8_opensInTwo 21 = .ok (.aload_n 0, 1) := by decide +kernel
theorem dX8_opensInTwo_22 : decode cX8_opensInTwo 22 = .ok (.getfield 37, 3) := by decide +kernel
theorem dX8_opensInTwo_25 : decode cX8_opensInTwo 25 = .ok (.aload_n 1, 1) := by decide +kernel
theorem dX8_opensInTwo_26 : decode cX8_opensInTwo 26 = .ok (.invokevirtual 67, 3) := by decide +kernel
theorem dX8_opensInTwo_29 : decode cX8_opensInTwo 29 = .ok (.aload_n 0, 1) := by decide +kernel
theorem dX8_opensInTwo_30 : decode cX8_opensInTwo 30 = .ok (.getfield 37, 3) := by decide +kernel
theorem dX8_opensInTwo_33 : decode cX8_opensInTwo 33 = .ok (.aload_n 0, 1) := by decide +kernel
theorem dX8_opensInTwo_34 : decode cX8_opensInTwo 34 = .ok (.getfield 9, 3) := by decide +kernel
theorem dX8_opensInTwo_37 : decode cX8_opensInTwo 37 = .ok (.iload_n 2, 1) := by decide +kernel
theorem dX8_opensInTwo_38 : decode cX8_opensInTwo 38 = .ok (.iaload, 1) := by decide +kernel
theorem dX8_opensInTwo_39 : decode cX8_opensInTwo 39 = .ok (.invokevirtual 71, 3) := by decide +kernel
theorem dX8_opensInTwo_42 : decode cX8_opensInTwo 42 = .ok (.aload_n 0, 1) := by decide +kernel
theorem dX8_opensInTwo_43 : decode cX8_opensInTwo 43 = .ok (.getfield 37, 3) := by decide +kernel
theorem dX8_opensInTwo_46 : decode cX8_opensInTwo 46 = .ok (.bipush 6, 2) := by decide +kernel
theorem dX8_opensInTwo_48 : decode cX8_opensInTwo 48 = .ok (.invokevirtual 74, 3) := by decide +kernel
theorem dX8_opensInTwo_51 : decode cX8_opensInTwo 51 = .ok (.ifCond .ne 16, 3) := by decide +kernel
theorem dX8_opensInTwo_54 : decode cX8_opensInTwo 54 = .ok (.aload_n 0, 1) := by decide +kernel
theorem dX8_opensInTwo_55 : decode cX8_opensInTwo 55 = .ok (.aload_n 0, 1) := by decide +kernel
theorem dX8_opensInTwo_56 : decode cX8_opensInTwo 56 = .ok (.getfield 37, 3) := by decide +kernel
theorem dX8_opensInTwo_59 : decode cX8_opensInTwo 59 = .ok (.invokevirtual 78, 3) := by decide +kernel
theorem dX8_opensInTwo_62 : decode cX8_opensInTwo 62 = .ok (.ifCond .eq 5, 3) := by decide +kernel
theorem dX8_opensInTwo_65 : decode cX8_opensInTwo 65 = .ok (.iconst 1, 1) := by decide +kernel
theorem dX8_opensInTwo_66 : decode cX8_opensInTwo 66 = .ok (.ireturn, 1) := by decide +kernel
theorem dX8_opensInTwo_67 : decode cX8_opensInTwo 67 = .ok (.iinc 2 1, 3) := by decide +kernel
theorem dX8_opensInTwo_70 : decode cX8_opensInTwo 70 = .ok (.goto (-68), 3) := by decide +kernel
theorem dX8_opensInTwo_73 : decode cX8_opensInTwo 73 = .ok (.iconst 0, 1) := by decide +kernel
theorem dX8_opensInTwo_74 : decode cX8_opensInTwo 74 = .ok (.istore_n 2, 1) := by decide +kernel
theorem dX8_opensInTwo_75 : decode cX8_opensInTwo 75 = .ok (.iload_n 2, 1) := by decide +kernel
theorem dX8_opensInTwo_76 : decode cX8_opensInTwo 76 = .ok (.aload_n 0, 1) := by decide +kernel
theorem dX8_opensInTwo_77 : decode cX8_opensInTwo 77 = .ok (.getfield 24, 3) := by decide +kernel
theorem dX8_opensInTwo_80 : decode cX8_opensInTwo 80 = .ok (.getfield 58, 3) := by decide +kernel
theorem dX8_opensInTwo_83 : decode cX8_opensInTwo 83 = .ok (.iconst 1, 1) := by decide +kernel
theorem dX8_opensInTwo_84 : decode cX8_opensInTwo 84 = .ok (.iaload, 1) := by decide +kernel
theorem dX8_opensInTwo_85 : decode cX8_opensInTwo 85 = .ok (.if_icmp .ge 44, 3) := by decide +kernel
theorem dX8_opensInTwo_88 : decode cX8_opensInTwo 88 = .ok (.aload_n 0, 1) := by decide +kernel
theorem dX8_opensInTwo_89 : decode cX8_opensInTwo 89 = .ok (.getfield 37, 3) := by decide +kernel
theorem dX8_opensInTwo_92 : decode cX8_opensInTwo 92 = .ok (.aload_n 1, 1) := by decide +kernel
theorem dX8_opensInTwo_93 : decode cX8_opensInTwo 93 = .ok (.invokevirtual 67, 3) := by decide +kernel
theorem dX8_opensInTwo_96 : decode cX8_opensInTwo 96 = .ok (.aload_n 0, 1) := by decide +kernel
theorem dX8_opensInTwo_97 : decode cX8_opensInTwo 97 = .ok (.getfield 37, 3) := by decide +kernel
theorem dX8_opensInTwo_100 : decode cX8_opensInTwo 100 = .ok (.iload_n 2, 1) := by decide +kernel
theorem dX8_opensInTwo_101 : decode cX8_opensInTwo 101 = .ok (.aload_n 0, 1) := by decide +kernel
theorem dX8_opensInTwo_102 : decode cX8_opensInTwo 102 = .ok (.aload_n 1, 1) := by decide +kernel
theorem dX8_opensInTwo_103 : decode cX8_opensInTwo 103 = .ok (.iload_n 2, 1) := by decide +kernel
theorem dX8_opensInTwo_104 : decode cX8_opensInTwo 104 = .ok (.invokevirtual 85, 3) := by decide +kernel
theorem dX8_opensInTwo_107 : decode cX8_opensInTwo 107 = .ok (.invokevirtual 89, 3) := by decide +kernel
theorem dX8_opensInTwo_110 : decode cX8_opensInTwo 110 = .ok (.aload_n 0, 1) := by decide +kernel
theorem dX8_opensInTwo_111 : decode cX8_opensInTwo 111 = .ok (.aload_n 0, 1) := by decide +kernel
theorem dX8_opensInTwo_112 : decode cX8_opensInTwo 112 = .ok (.getfield 37, 3) := by decide +kernel
theorem dX8_opensInTwo_115 : decode cX8_opensInTwo 115 = .ok (.invokevirtual 78, 3) := by decide +kernel
theorem dX8_opensInTwo_118 : decode cX8_opensInTwo 118 = .ok (.ifCond .eq 5, 3) := by decide +kernel
theorem dX8_opensInTwo_121 : decode cX8_opensInTwo 121 = .ok (.iconst 1, 1) := by decide +kernel
theorem dX8_opensInTwo_122 : decode cX8_opensInTwo 122 = .ok (.ireturn, 1) := by decide +kernel
theorem dX8_opensInTwo_123 : decode cX8_opensInTwo 123 = .ok (.iinc 2 1, 3) := by decide +kernel
theorem dX8_opensInTwo_126 : decode cX8_opensInTwo 126 = .ok (.goto (-51), 3) := by decide +kernel
theorem dX8_opensInTwo_129 : decode cX8_opensInTwo 129 = .ok (.iconst 0, 1) := by decide +kernel
theorem dX8_opensInTwo_130 : decode cX8_opensInTwo 130 = .ok (.ireturn, 1) := by decide +kernel
theorem dX8_opensByTry_0 : decode cX8_opensByTry 0 = .ok (.aload_n 1, 1) := by decide +kernel
theorem dX8_opensByTry_1 : decode cX8_opensByTry 1 = .ok (.aload_n 1, 1) := by decide +kernel
theorem dX8_opensByTry_2 : decode cX8_opensByTry 2 = .ok (.invokevirtual 93, 3) := by decide +kernel
theorem dX8_opensByTry_5 : decode cX8_opensByTry 5 = .ok (.invokevirtual 97, 3) := by decide +kernel
theorem dX8_opensByTry_8 : decode cX8_opensByTry 8 = .ok (.istore_n 2, 1) := by decide +kernel
theorem dX8_opensByTry_9 : decode cX8_opensByTry 9 = .ok (.iconst 0, 1) := by decide +kernel
theorem dX8_opensByTry_10 : decode cX8_opensByTry 10 = .ok (.istore_n 3, 1) := by decide +kernel
theorem dX8_opensByTry_11 : decode cX8_opensByTry 11 = .ok (.iload_n 3, 1) := by decide +kernel
theorem dX8_opensByTry_12 : decode cX8_opensByTry 12 = .ok (.aload_n 0, 1) := by decide +kernel
theorem dX8_opensByTry_13 : decode cX8_opensByTry 13 = .ok (.getfield 24, 3) := by decide +kernel
theorem dX8_opensByTry_16 : decode cX8_opensByTry 16 = .ok (.getfield 58, 3) := by decide +kernel
theorem dX8_opensByTry_19 : decode cX8_opensByTry 19 = .ok (.iconst 1, 1) := by decide +kernel
theorem dX8_opensByTry_20 : decode cX8_opensByTry 20 = .ok (.iaload, 1) := by decide +kernel
theorem dX8_opensByTry_21 : decode cX8_opensByTry 21 = .ok (.if_icmp .ge 21, 3) := by decide +kernel
theorem dX8_opensByTry_24 : decode cX8_opensByTry 24 = .ok (.aload_n 0, 1) := by decide +kernel
theorem dX8_opensByTry_25 : decode cX8_opensByTry 25 = .ok (.aload_n 1, 1) := by decide +kernel
theorem dX8_opensByTry_26 : decode cX8_opensByTry 26 = .ok (.iload_n 3, 1) := by decide +kernel
theorem dX8_opensByTry_27 : decode cX8_opensByTry 27 = .ok (.invokevirtual 85, 3) := by decide +kernel
theorem dX8_opensByTry_30 : decode cX8_opensByTry 30 = .ok (.iload_n 2, 1) := by decide +kernel
theorem dX8_opensByTry_31 : decode cX8_opensByTry 31 = .ok (.if_icmp .lt 5, 3) := by decide +kernel
theorem dX8_opensByTry_34 : decode cX8_opensByTry 34 = .ok (.iconst 1, 1) := by decide +kernel
theorem dX8_opensByTry_35 : decode cX8_opensByTry 35 = .ok (.ireturn, 1) := by decide +kernel
theorem dX8_opensByTry_36 : decode cX8_opensByTry 36 = .ok (.iinc 3 1, 3) := by decide +kernel
theorem dX8_opensByTry_39 : decode cX8_opensByTry 39 = .ok (.goto (-28), 3) := by decide +kernel
theorem dX8_opensByTry_42 : decode cX8_opensByTry 42 = .ok (.iconst 0, 1) := by decide +kernel
theorem dX8_opensByTry_43 : decode cX8_opensByTry 43 = .ok (.ireturn, 1) := by decide +kernel
theorem dX8_greatestGrip_0 : decode cX8_greatestGrip 0 = .ok (.aload_n 1, 1) := by decide +kernel
theorem dX8_greatestGrip_1 : decode cX8_greatestGrip 1 = .ok (.iload_n 2, 1) := by decide +kernel
theorem dX8_greatestGrip_2 : decode cX8_greatestGrip 2 = .ok (.iconst 0, 1) := by decide +kernel
theorem dX8_greatestGrip_3 : decode cX8_greatestGrip 3 = .ok (.invokevirtual 100, 3) := by decide +kernel
theorem dX8_greatestGrip_6 : decode cX8_greatestGrip 6 = .ok (.bipush 10, 2) := by decide +kernel
theorem dX8_greatestGrip_8 : decode cX8_greatestGrip 8 = .ok (.imul, 1) := by decide +kernel
theorem dX8_greatestGrip_9 : decode cX8_greatestGrip 9 = .ok (.aload_n 1, 1) := by decide +kernel
theorem dX8_greatestGrip_10 : decode cX8_greatestGrip 10 = .ok (.iload_n 2, 1) := by decide +kernel
theorem dX8_greatestGrip_11 : decode cX8_greatestGrip 11 = .ok (.iconst 1, 1) := by decide +kernel
theorem dX8_greatestGrip_12 : decode cX8_greatestGrip 12 = .ok (.invokevirtual 100, 3) := by decide +kernel
theorem dX8_greatestGrip_15 : decode cX8_greatestGrip 15 = .ok (.iadd, 1) := by decide +kernel
theorem dX8_greatestGrip_16 : decode cX8_greatestGrip 16 = .ok (.bipush 10, 2) := by decide +kernel
theorem dX8_greatestGrip_18 : decode cX8_greatestGrip 18 = .ok (.imul, 1) := by decide +kernel
theorem dX8_greatestGrip_19 : decode cX8_greatestGrip 19 = .ok (.aload_n 1, 1) := by decide +kernel
theorem dX8_greatestGrip_20 : decode cX8_greatestGrip 20 = .ok (.iconst 2, 1) := by decide +kernel
theorem dX8_greatestGrip_21 : decode cX8_greatestGrip 21 = .ok (.invokevirtual 74, 3) := by decide +kernel
theorem dX8_greatestGrip_24 : decode cX8_greatestGrip 24 = .ok (.iadd, 1) := by decide +kernel
theorem dX8_greatestGrip_25 : decode cX8_greatestGrip 25 = .ok (.istore_n 3, 1) := by decide +kernel
theorem dX8_greatestGrip_26 : decode cX8_greatestGrip 26 = .ok (.iload_n 2, 1) := by decide +kernel
theorem dX8_greatestGrip_27 : decode cX8_greatestGrip 27 = .ok (.bipush 24, 2) := by decide +kernel
theorem dX8_greatestGrip_29 : decode cX8_greatestGrip 29 = .ok (.imul, 1) := by decide +kernel
theorem dX8_greatestGrip_30 : decode cX8_greatestGrip 30 = .ok (.istore 4, 2) := by decide +kernel
theorem dX8_greatestGrip_32 : decode cX8_greatestGrip 32 = .ok (.iload 4, 2) := by decide +kernel
theorem dX8_greatestGrip_34 : decode cX8_greatestGrip 34 = .ok (.aload_n 0, 1) := by decide +kernel
theorem dX8_greatestGrip_35 : decode cX8_greatestGrip 35 = .ok (.getfield 21, 3) := by decide +kernel
theorem dX8_greatestGrip_38 : decode cX8_greatestGrip 38 = .ok (.iload_n 2, 1) := by decide +kernel
theorem dX8_greatestGrip_39 : decode cX8_greatestGrip 39 = .ok (.iaload, 1) := by decide +kernel
theorem dX8_greatestGrip_40 : decode cX8_greatestGrip 40 = .ok (.iadd, 1) := by decide +kernel
theorem dX8_greatestGrip_41 : decode cX8_greatestGrip 41 = .ok (.istore 5, 2) := by decide +kernel
theorem dX8_greatestGrip_43 : decode cX8_greatestGrip 43 = .ok (.iload 4, 2) := by decide +kernel
theorem dX8_greatestGrip_45 : decode cX8_greatestGrip 45 = .ok (.istore 6, 2) := by decide +kernel
theorem dX8_greatestGrip_47 : decode cX8_greatestGrip 47 = .ok (.iload 6, 2) := by decide +kernel
theorem dX8_greatestGrip_49 : decode cX8_greatestGrip 49 = .ok (.iload 5, 2) := by decide +kernel
theorem dX8_greatestGrip_51 : decode cX8_greatestGrip 51 = .ok (.if_icmp .ge 38, 3) := by decide +kernel
theorem dX8_greatestGrip_54 : decode cX8_greatestGrip 54 = .ok (.iload 6, 2) := by decide +kernel
theorem dX8_greatestGrip_56 : decode cX8_greatestGrip 56 = .ok (.aload_n 0, 1) := by decide +kernel
theorem dX8_greatestGrip_57 : decode cX8_greatestGrip 57 = .ok (.getfield 15, 3) := by decide +kernel
theorem dX8_greatestGrip_60 : decode cX8_greatestGrip 60 = .ok (.arraylength, 1) := by decide +kernel
theorem dX8_greatestGrip_61 : decode cX8_greatestGrip 61 = .ok (.if_icmp .ge 28, 3) := by decide +kernel
theorem dX8_greatestGrip_64 : decode cX8_greatestGrip 64 = .ok (.aload_n 0, 1) := by decide +kernel
theorem dX8_greatestGrip_65 : decode cX8_greatestGrip 65 = .ok (.getfield 15, 3) := by decide +kernel
theorem dX8_greatestGrip_68 : decode cX8_greatestGrip 68 = .ok (.iload 6, 2) := by decide +kernel
theorem dX8_greatestGrip_70 : decode cX8_greatestGrip 70 = .ok (.iaload, 1) := by decide +kernel
theorem dX8_greatestGrip_71 : decode cX8_greatestGrip 71 = .ok (.iload_n 3, 1) := by decide +kernel
theorem dX8_greatestGrip_72 : decode cX8_greatestGrip 72 = .ok (.if_icmp .ne 11, 3) := by decide +kernel
theorem dX8_greatestGrip_75 : decode cX8_greatestGrip 75 = .ok (.aload_n 0, 1) := by decide +kernel
theorem dX8_greatestGrip_76 : decode cX8_greatestGrip 76 = .ok (.getfield 18, 3) := by decide +kernel
theorem dX8_greatestGrip_79 : decode cX8_greatestGrip 79 = .ok (.iload 6, 2) := by decide +kernel
theorem dX8_greatestGrip_81 : decode cX8_greatestGrip 81 = .ok (.iaload, 1) := by decide +kernel
theorem dX8_greatestGrip_82 : decode cX8_greatestGrip 82 = .ok (.ireturn, 1) := by decide +kernel
theorem dX8_greatestGrip_83 : decode cX8_greatestGrip 83 = .ok (.iinc 6 1, 3) := by decide +kernel
theorem dX8_greatestGrip_86 : decode cX8_greatestGrip 86 = .ok (.goto (-39), 3) := by decide +kernel
theorem dX8_greatestGrip_89 : decode cX8_greatestGrip 89 = .ok (.aload_n 1, 1) := by decide +kernel
theorem dX8_greatestGrip_90 : decode cX8_greatestGrip 90 = .ok (.iload_n 2, 1) := by decide +kernel
theorem dX8_greatestGrip_91 : decode cX8_greatestGrip 91 = .ok (.iconst (-1), 1) := by decide +kernel
theorem dX8_greatestGrip_92 : decode cX8_greatestGrip 92 = .ok (.aload_n 1, 1) := by decide +kernel
theorem dX8_greatestGrip_93 : decode cX8_greatestGrip 93 = .ok (.invokevirtual 93, 3) := by decide +kernel
theorem dX8_greatestGrip_96 : decode cX8_greatestGrip 96 = .ok (.invokevirtual 103, 3) := by decide +kernel
theorem dX8_greatestGrip_99 : decode cX8_greatestGrip 99 = .ok (.istore 6, 2) := by decide +kernel
theorem dX8_greatestGrip_101 : decode cX8_greatestGrip 101 = .ok (.iconst 0, 1) := by decide +kernel
theorem dX8_greatestGrip_102 : decode cX8_greatestGrip 102 = .ok (.istore 7, 2) := by decide +kernel
theorem dX8_greatestGrip_104 : decode cX8_greatestGrip 104 = .ok (.iload 7, 2) := by decide +kernel
theorem dX8_greatestGrip_106 : decode cX8_greatestGrip 106 = .ok (.aload_n 0, 1) := by decide +kernel
theorem dX8_greatestGrip_107 : decode cX8_greatestGrip 107 = .ok (.getfield 24, 3) := by decide +kernel
theorem dX8_greatestGrip_110 : decode cX8_greatestGrip 110 = .ok (.getfield 58, 3) := by decide +kernel
theorem dX8_greatestGrip_113 : decode cX8_greatestGrip 113 = .ok (.iconst 2, 1) := by decide +kernel
theorem dX8_greatestGrip_114 : decode cX8_greatestGrip 114 = .ok (.iaload, 1) := by decide +kernel
theorem dX8_greatestGrip_115 : decode cX8_greatestGrip 115 = .ok (.if_icmp .ge 27, 3) := by decide +kernel
theorem dX8_greatestGrip_118 : decode cX8_greatestGrip 118 = .ok (.iload 6, 2) := by decide +kernel
theorem dX8_greatestGrip_120 : decode cX8_greatestGrip 120 = .ok (.aload_n 1, 1) := by decide +kernel
theorem dX8_greatestGrip_121 : decode cX8_greatestGrip 121 = .ok (.iload_n 2, 1) := by decide +kernel
theorem dX8_greatestGrip_122 : decode cX8_greatestGrip 122 = .ok (.iload 7, 2) := by decide +kernel
theorem dX8_greatestGrip_124 : decode cX8_greatestGrip 124 = .ok (.aload_n 1, 1) := by decide +kernel
theorem dX8_greatestGrip_125 : decode cX8_greatestGrip 125 = .ok (.invokevirtual 93, 3) := by decide +kernel
theorem dX8_greatestGrip_128 : decode cX8_greatestGrip 128 = .ok (.invokevirtual 103, 3) := by decide +kernel
theorem dX8_greatestGrip_131 : decode cX8_greatestGrip 131 = .ok (.invokestatic 107, 3) := by decide +kernel
theorem dX8_greatestGrip_134 : decode cX8_greatestGrip 134 = .ok (.istore 6, 2) := by decide +kernel
theorem dX8_greatestGrip_136 : decode cX8_greatestGrip 136 = .ok (.iinc 7 1, 3) := by decide +kernel
theorem dX8_greatestGrip_139 : decode cX8_greatestGrip 139 = .ok (.goto (-35), 3) := by decide +kernel
theorem dX8_greatestGrip_142 : decode cX8_greatestGrip 142 = .ok (.aload_n 0, 1) := by decide +kernel
theorem dX8_greatestGrip_143 : decode cX8_greatestGrip 143 = .ok (.getfield 21, 3) := by decide +kernel
theorem dX8_greatestGrip_146 : decode cX8_greatestGrip 146 = .ok (.iload_n 2, 1) := by decide +kernel
theorem dX8_greatestGrip_147 : decode cX8_greatestGrip 147 = .ok (.iaload, 1) := by decide +kernel
theorem dX8_greatestGrip_148 : decode cX8_greatestGrip 148 = .ok (.bipush 24, 2) := by decide +kernel
theorem dX8_greatestGrip_150 : decode cX8_greatestGrip 150 = .ok (.if_icmp .ge 30, 3) := by decide +kernel
theorem dX8_greatestGrip_153 : decode cX8_greatestGrip 153 = .ok (.aload_n 0, 1) := by decide +kernel
theorem dX8_greatestGrip_154 : decode cX8_greatestGrip 154 = .ok (.getfield 15, 3) := by decide +kernel
theorem dX8_greatestGrip_157 : decode cX8_greatestGrip 157 = .ok (.iload 5, 2) := by decide +kernel
theorem dX8_greatestGrip_159 : decode cX8_greatestGrip 159 = .ok (.iload_n 3, 1) := by decide +kernel
theorem dX8_greatestGrip_160 : decode cX8_greatestGrip 160 = .ok (.iastore, 1) := by decide +kernel
theorem dX8_greatestGrip_161 : decode cX8_greatestGrip 161 = .ok (.aload_n 0, 1) := by decide +kernel
theorem dX8_greatestGrip_162 : decode cX8_greatestGrip 162 = .ok (.getfield 18, 3) := by decide +kernel
theorem dX8_greatestGrip_165 : decode cX8_greatestGrip 165 = .ok (.iload 5, 2) := by decide +kernel
theorem dX8_greatestGrip_167 : decode cX8_greatestGrip 167 = .ok (.iload 6, 2) := by decide +kernel
theorem dX8_greatestGrip_169 : decode cX8_greatestGrip 169 = .ok (.iastore, 1) := by decide +kernel
theorem dX8_greatestGrip_170 : decode cX8_greatestGrip 170 = .ok (.aload_n 0, 1) := by decide +kernel
theorem dX8_greatestGrip_171 : decode cX8_greatestGrip 171 = .ok (.getfield 21, 3) := by decide +kernel
theorem dX8_greatestGrip_174 : decode cX8_greatestGrip 174 = .ok (.iload_n 2, 1) := by decide +kernel
theorem dX8_greatestGrip_175 : decode cX8_greatestGrip 175 = .ok (.dup2, 1) := by decide +kernel
theorem dX8_greatestGrip_176 : decode cX8_greatestGrip 176 = .ok (.iaload, 1) := by decide +kernel
theorem dX8_greatestGrip_177 : decode cX8_greatestGrip 177 = .ok (.iconst 1, 1) := by decide +kernel
theorem dX8_greatestGrip_178 : decode cX8_greatestGrip 178 = .ok (.iadd, 1) := by decide +kernel
theorem dX8_greatestGrip_179 : decode cX8_greatestGrip 179 = .ok (.iastore, 1) := by decide +kernel
theorem dX8_greatestGrip_180 : decode cX8_greatestGrip 180 = .ok (.iload 6, 2) := by decide +kernel
theorem dX8_greatestGrip_182 : decode cX8_greatestGrip 182 = .ok (.ireturn, 1) := by decide +kernel
theorem dX9_init_0 : decode cX9_init 0 = .ok (.aload_n 0, 1) := by decide +kernel
theorem dX9_init_1 : decode cX9_init 1 = .ok (.invokespecial 3, 3) := by decide +kernel
theorem dX9_init_4 : decode cX9_init 4 = .ok (.aload_n 0, 1) := by decide +kernel
theorem dX9_init_5 : decode cX9_init 5 = .ok (.sipush 200, 3) := by decide +kernel
theorem dX9_init_8 : decode cX9_init 8 = .ok (.newarray .int, 2) := by decide +kernel
theorem dX9_init_10 : decode cX9_init 10 = .ok (.putfield 9, 3) := by decide +kernel
theorem dX9_init_13 : decode cX9_init 13 = .ok (.aload_n 0, 1) := by decide +kernel
theorem dX9_init_14 : decode cX9_init 14 = .ok (.iconst (-1), 1) := by decide +kernel
theorem dX9_init_15 : decode cX9_init 15 = .ok (.putfield 15, 3) := by decide +kernel
theorem dX9_init_18 : decode cX9_init 18 = .ok (.return_, 1) := by decide +kernel
theorem dX9_bytesOf_0 : decode cX9_bytesOf 0 = .ok (.iconst 0, 1) := by decide +kernel
theorem dX9_bytesOf_1 : decode cX9_bytesOf 1 = .ok (.istore_n 1, 1) := by decide +kernel
theorem dX9_bytesOf_2 : decode cX9_bytesOf 2 = .ok (.bipush 24, 2) := by decide +kernel
theorem dX9_bytesOf_4 : decode cX9_bytesOf 4 = .ok (.istore_n 2, 1) := by decide +kernel
theorem dX9_bytesOf_5 : decode cX9_bytesOf 5 = .ok (.iload_n 2, 1) := by decide +kernel
theorem dX9_bytesOf_6 : decode cX9_bytesOf 6 = .ok (.ifCond .lt 22, 3) := by decide +kernel
theorem dX9_bytesOf_9 : decode cX9_bytesOf 9 = .ok (.iload_n 0, 1) := by decide +kernel
theorem dX9_bytesOf_10 : decode cX9_bytesOf 10 = .ok (.iload_n 2, 1) := by decide +kernel
theorem dX9_bytesOf_11 : decode cX9_bytesOf 11 = .ok (.iushr, 1) := by decide +kernel
theorem dX9_bytesOf_12 : decode cX9_bytesOf 12 = .ok (.sipush 255, 3) := by decide +kernel
theorem dX9_bytesOf_15 : decode cX9_bytesOf 15 = .ok (.iand, 1) := by decide +kernel
theorem dX9_bytesOf_16 : decode cX9_bytesOf 16 = .ok (.ifCond .eq 6, 3) := by decide +kernel
theorem dX9_bytesOf_19 : decode cX9_bytesOf 19 = .ok (.iinc 1 1, 3) := by decide +kernel
theorem dX9_bytesOf_22 : decode cX9_bytesOf 22 = .ok (.iinc 2 (-8), 3) := by decide +kernel
theorem dX9_bytesOf_25 : decode cX9_bytesOf 25 = .ok (.goto (-20), 3) := by decide +kernel
theorem dX9_bytesOf_28 : decode cX9_bytesOf 28 = .ok (.iload_n 1, 1) := by decide +kernel
theorem dX9_bytesOf_29 : decode cX9_bytesOf 29 = .ok (.ireturn, 1) := by decide +kernel
theorem dX9_add_0 : decode cX9_add 0 = .ok (.bipush 24, 2) := by decide +kernel
theorem dX9_add_2 : decode cX9_add 2 = .ok (.istore_n 2, 1) := by decide +kernel
theorem dX9_add_3 : decode cX9_add 3 = .ok (.iload_n 2, 1) := by decide +kernel
theorem dX9_add_4 : decode cX9_add 4 = .ok (.ifCond .lt 51, 3) := by decide +kernel
theorem dX9_add_7 : decode cX9_add 7 = .ok (.iload_n 1, 1) := by decide +kernel
theorem dX9_add_8 : decode cX9_add 8 = .ok (.iload_n 2, 1) := by decide +kernel
theorem dX9_add_9 : decode cX9_add 9 = .ok (.iushr, 1) := by decide +kernel
theorem dX9_add_10 : decode cX9_add 10 = .ok (.sipush 255, 3) := by decide +kernel
theorem dX9_add_13 : decode cX9_add 13 = .ok (.iand, 1) := by decide +kernel
theorem dX9_add_14 : decode cX9_add 14 = .ok (.istore_n 3, 1) := by decide +kernel
theorem dX9_add_15 : decode cX9_add 15 = .ok (.iload_n 3, 1) := by decide +kernel
theorem dX9_add_16 : decode cX9_add 16 = .ok (.ifCond .eq 33, 3) := by decide +kernel
theorem dX9_add_19 : decode cX9_add 19 = .ok (.aload_n 0, 1) := by decide +kernel
theorem dX9_add_20 : decode cX9_add 20 = .ok (.getfield 19, 3) := by decide +kernel
theorem dX9_add_23 : decode cX9_add 23 = .ok (.sipush 200, 3) := by decide +kernel
theorem dX9_add_26 : decode cX9_add 26 = .ok (.if_icmp .ge 23, 3) := by decide +kernel
theorem dX9_add_29 : decode cX9_add 29 = .ok (.aload_n 0, 1) := by decide +kernel
theorem dX9_add_30 : decode cX9_add 30 = .ok (.getfield 9, 3) := by decide +kernel
theorem dX9_add_33 : decode cX9_add 33 = .ok (.aload_n 0, 1) := by decide +kernel
theorem dX9_add_34 : decode cX9_add 34 = .ok (.getfield 19, 3) := by decide +kernel
theorem dX9_add_37 : decode cX9_add 37 = .ok (.iload_n 3, 1) := by decide +kernel
theorem dX9_add_38 : decode cX9_add 38 = .ok (.iastore, 1) := by decide +kernel
theorem dX9_add_39 : decode cX9_add 39 = .ok (.aload_n 0, 1) := by decide +kernel
theorem dX9_add_40 : decode cX9_add 40 = .ok (.dup, 1) := by decide +kernel
theorem dX9_add_41 : decode cX9_add 41 = .ok (.getfield 19, 3) := by decide +kernel
theorem dX9_add_44 : decode cX9_add 44 = .ok (.iconst 1, 1) := by decide +kernel
theorem dX9_add_45 : decode cX9_add 45 = .ok (.iadd, 1) := by decide +kernel
theorem dX9_add_46 : decode cX9_add 46 = .ok (.putfield 19, 3) := by decide +kernel
theorem dX9_add_49 : decode cX9_add 49 = .ok (.iinc 2 (-8), 3) := by decide +kernel
theorem dX9_add_52 : decode cX9_add 52 = .ok (.goto (-49), 3) := by decide +kernel
theorem dX9_add_55 : decode cX9_add 55 = .ok (.return_, 1) := by decide +kernel
theorem dX9_rewind_0 : decode cX9_rewind 0 = .ok (.aload_n 0, 1) := by decide +kernel
theorem dX9_rewind_1 : decode cX9_rewind 1 = .ok (.iconst 0, 1) := by decide +kernel
theorem dX9_rewind_2 : decode cX9_rewind 2 = .ok (.putfield 22, 3) := by decide +kernel
theorem dX9_rewind_5 : decode cX9_rewind 5 = .ok (.aload_n 0, 1) := by decide +kernel
theorem dX9_rewind_6 : decode cX9_rewind 6 = .ok (.iconst (-1), 1) := by decide +kernel
theorem dX9_rewind_7 : decode cX9_rewind 7 = .ok (.putfield 15, 3) := by decide +kernel
theorem dX9_rewind_10 : decode cX9_rewind 10 = .ok (.return_, 1) := by decide +kernel
theorem dX9_sign_0 : decode cX9_sign 0 = .ok (.iconst 0, 1) := by decide +kernel
theorem dX9_sign_1 : decode cX9_sign 1 = .ok (.istore_n 1, 1) := by decide +kernel
theorem dX9_sign_2 : decode cX9_sign 2 = .ok (.iload_n 1, 1) := by decide +kernel
theorem dX9_sign_3 : decode cX9_sign 3 = .ok (.sipush 200, 3) := by decide +kernel
theorem dX9_sign_6 : decode cX9_sign 6 = .ok (.if_icmp .ge 44, 3) := by decide +kernel
theorem dX9_sign_9 : decode cX9_sign 9 = .ok (.aload_n 0, 1) := by decide +kernel
theorem dX9_sign_10 : decode cX9_sign 10 = .ok (.getfield 22, 3) := by decide +kernel
theorem dX9_sign_13 : decode cX9_sign 13 = .ok (.aload_n 0, 1) := by decide +kernel
theorem dX9_sign_14 : decode cX9_sign 14 = .ok (.getfield 19, 3) := by decide +kernel
theorem dX9_sign_17 : decode cX9_sign 17 = .ok (.if_icmp .ge 33, 3) := by decide +kernel
theorem dX9_sign_20 : decode cX9_sign 20 = .ok (.aload_n 0, 1) := by decide +kernel
theorem dX9_sign_21 : decode cX9_sign 21 = .ok (.getfield 9, 3) := by decide +kernel
theorem dX9_sign_24 : decode cX9_sign 24 = .ok (.aload_n 0, 1) := by decide +kernel
theorem dX9_sign_25 : decode cX9_sign 25 = .ok (.getfield 22, 3) := by decide +kernel
theorem dX9_sign_28 : decode cX9_sign 28 = .ok (.iaload, 1) := by decide +kernel
theorem dX9_sign_29 : decode cX9_sign 29 = .ok (.bipush 32, 2) := by decide +kernel
theorem dX9_sign_31 : decode cX9_sign 31 = .ok (.if_icmp .ne 19, 3) := by decide +kernel
theorem dX9_sign_34 : decode cX9_sign 34 = .ok (.aload_n 0, 1) := by decide +kernel
theorem dX9_sign_35 : decode cX9_sign 35 = .ok (.dup, 1) := by decide +kernel
theorem dX9_sign_36 : decode cX9_sign 36 = .ok (.getfield 22, 3) := by decide +kernel
theorem dX9_sign_39 : decode cX9_sign 39 = .ok (.iconst 1, 1) := by decide +kernel
theorem dX9_sign_40 : decode cX9_sign 40 = .ok (.iadd, 1) := by decide +kernel
theorem dX9_sign_41 : decode cX9_sign 41 = .ok (.putfield 22, 3) := by decide +kernel
theorem dX9_sign_44 : decode cX9_sign 44 = .ok (.iinc 1 1, 3) := by decide +kernel
theorem dX9_sign_47 : decode cX9_sign 47 = .ok (.goto (-45), 3) := by decide +kernel
theorem dX9_sign_50 : decode cX9_sign 50 = .ok (.aload_n 0, 1) := by decide +kernel
theorem dX9_sign_51 : decode cX9_sign 51 = .ok (.getfield 15, 3) := by decide +kernel
theorem dX9_sign_54 : decode cX9_sign 54 = .ok (.iconst (-1), 1) := by decide +kernel
theorem dX9_sign_55 : decode cX9_sign 55 = .ok (.if_icmp .ne 26, 3) := by decide +kernel
theorem dX9_sign_58 : decode cX9_sign 58 = .ok (.aload_n 0, 1) := by decide +kernel
theorem dX9_sign_59 : decode cX9_sign 59 = .ok (.getfield 22, 3) := by decide +kernel
theorem dX9_sign_62 : decode cX9_sign 62 = .ok (.aload_n 0, 1) := by decide +kernel
theorem dX9_sign_63 : decode cX9_sign 63 = .ok (.getfield 19, 3) := by decide +kernel
theorem dX9_sign_66 : decode cX9_sign 66 = .ok (.if_icmp .ge 15, 3) := by decide +kernel
theorem dX9_sign_69 : decode cX9_sign 69 = .ok (.aload_n 0, 1) := by decide +kernel
theorem dX9_sign_70 : decode cX9_sign 70 = .ok (.getfield 9, 3) := by decide +kernel
theorem dX9_sign_73 : decode cX9_sign 73 = .ok (.aload_n 0, 1) := by decide +kernel
theorem dX9_sign_74 : decode cX9_sign 74 = .ok (.getfield 22, 3) := by decide +kernel
theorem dX9_sign_77 : decode cX9_sign 77 = .ok (.iaload, 1) := by decide +kernel
theorem dX9_sign_78 : decode cX9_sign 78 = .ok (.goto 4, 3) := by decide +kernel
theorem dX9_sign_81 : decode cX9_sign 81 = .ok (.iconst 0, 1) := by decide +kernel
theorem dX9_sign_82 : decode cX9_sign 82 = .ok (.ireturn, 1) := by decide +kernel
theorem dX9_fail_0 : decode cX9_fail 0 = .ok (.aload_n 0, 1) := by decide +kernel
theorem dX9_fail_1 : decode cX9_fail 1 = .ok (.getfield 15, 3) := by decide +kernel
theorem dX9_fail_4 : decode cX9_fail 4 = .ok (.iconst (-1), 1) := by decide +kernel
theorem dX9_fail_5 : decode cX9_fail 5 = .ok (.if_icmp .ne 11, 3) := by decide +kernel
theorem dX9_fail_8 : decode cX9_fail 8 = .ok (.aload_n 0, 1) := by decide +kernel
theorem dX9_fail_9 : decode cX9_fail 9 = .ok (.aload_n 0, 1) := by decide +kernel
theorem dX9_fail_10 : decode cX9_fail 10 = .ok (.getfield 22, 3) := by decide +kernel
theorem dX9_fail_13 : decode cX9_fail 13 = .ok (.putfield 15, 3) := by decide +kernel
theorem dX9_fail_16 : decode cX9_fail 16 = .ok (.return_, 1) := by decide +kernel
theorem dX9_takes_0 : decode cX9_takes 0 = .ok (.aload_n 0, 1) := by decide +kernel
theorem dX9_takes_1 : decode cX9_takes 1 = .ok (.invokevirtual 25, 3) := by decide +kernel
theorem dX9_takes_4 : decode cX9_takes 4 = .ok (.iload_n 1, 1) := by decide +kernel
theorem dX9_takes_5 : decode cX9_takes 5 = .ok (.if_icmp .eq 5, 3) := by decide +kernel
theorem dX9_takes_8 : decode cX9_takes 8 = .ok (.iconst 0, 1) := by decide +kernel
theorem dX9_takes_9 : decode cX9_takes 9 = .ok (.ireturn, 1) := by decide +kernel
theorem dX9_takes_10 : decode cX9_takes 10 = .ok (.aload_n 0, 1) := by decide +kernel
theorem dX9_takes_11 : decode cX9_takes 11 = .ok (.dup, 1) := by decide +kernel
theorem dX9_takes_12 : decode cX9_takes 12 = .ok (.getfield 22, 3) := by decide +kernel
theorem dX9_takes_15 : decode cX9_takes 15 = .ok (.iconst 1, 1) := by decide +kernel
theorem dX9_takes_16 : decode cX9_takes 16 = .ok (.iadd, 1) := by decide +kernel
theorem dX9_takes_17 : decode cX9_takes 17 = .ok (.putfield 22, 3) := by decide +kernel
theorem dX9_takes_20 : decode cX9_takes 20 = .ok (.iconst 1, 1) := by decide +kernel
theorem dX9_takes_21 : decode cX9_takes 21 = .ok (.ireturn, 1) := by decide +kernel
theorem dX9_needs_0 : decode cX9_needs 0 = .ok (.aload_n 0, 1) := by decide +kernel
theorem dX9_needs_1 : decode cX9_needs 1 = .ok (.invokevirtual 25, 3) := by decide +kernel
theorem dX9_needs_4 : decode cX9_needs 4 = .ok (.iload_n 1, 1) := by decide +kernel
theorem dX9_needs_5 : decode cX9_needs 5 = .ok (.if_icmp .ne 16, 3) := by decide +kernel
theorem dX9_needs_8 : decode cX9_needs 8 = .ok (.aload_n 0, 1) := by decide +kernel
theorem dX9_needs_9 : decode cX9_needs 9 = .ok (.dup, 1) := by decide +kernel
theorem dX9_needs_10 : decode cX9_needs 10 = .ok (.getfield 22, 3) := by decide +kernel
theorem dX9_needs_13 : decode cX9_needs 13 = .ok (.iconst 1, 1) := by decide +kernel
theorem dX9_needs_14 : decode cX9_needs 14 = .ok (.iadd, 1) := by decide +kernel
theorem dX9_needs_15 : decode cX9_needs 15 = .ok (.putfield 22, 3) := by decide +kernel
theorem dX9_needs_18 : decode cX9_needs 18 = .ok (.goto 7, 3) := by decide +kernel
theorem dX9_needs_21 : decode cX9_needs 21 = .ok (.aload_n 0, 1) := by decide +kernel
theorem dX9_needs_22 : decode cX9_needs 22 = .ok (.invokevirtual 29, 3) := by decide +kernel
theorem dX9_needs_25 : decode cX9_needs 25 = .ok (.return_, 1) := by decide +kernel
theorem dX9_needsEnd_0 : decode cX9_needsEnd 0 = .ok (.aload_n 0, 1) := by decide +kernel
theorem dX9_needsEnd_1 : decode cX9_needsEnd 1 = .ok (.invokevirtual 25, 3) := by decide +kernel
theorem dX9_needsEnd_4 : decode cX9_needsEnd 4 = .ok (.ifCond .eq 7, 3) := by decide +kernel
theorem dX9_needsEnd_7 : decode cX9_needsEnd 7 = .ok (.aload_n 0, 1) := by decide +kernel
theorem dX9_needsEnd_8 : decode cX9_needsEnd 8 = .ok (.invokevirtual 29, 3) := by decide +kernel
theorem dX9_needsEnd_11 : decode cX9_needsEnd 11 = .ok (.return_, 1) := by decide +kernel
theorem dX9_isDigit_0 : decode cX9_isDigit 0 = .ok (.iload_n 0, 1) := by decide +kernel
theorem dX9_isDigit_1 : decode cX9_isDigit 1 = .ok (.bipush 48, 2) := by decide +kernel
theorem dX9_isDigit_3 : decode cX9_isDigit 3 = .ok (.if_icmp .lt 13, 3) := by decide +kernel
theorem dX9_isDigit_6 : decode cX9_isDigit 6 = .ok (.iload_n 0, 1) := by decide +kernel
theorem dX9_isDigit_7 : decode cX9_isDigit 7 = .ok (.bipush 57, 2) := by decide +kernel
theorem dX9_isDigit_9 : decode cX9_isDigit 9 = .ok (.if_icmp .gt 7, 3) := by decide +kernel
theorem dX9_isDigit_12 : decode cX9_isDigit 12 = .ok (.iconst 1, 1) := by decide +kernel
theorem dX9_isDigit_13 : decode cX9_isDigit 13 = .ok (.goto 4, 3) := by decide +kernel
theorem dX9_isDigit_16 : decode cX9_isDigit 16 = .ok (.iconst 0, 1) := by decide +kernel
theorem dX9_isDigit_17 : decode cX9_isDigit 17 = .ok (.ireturn, 1) := by decide +kernel
theorem dX9_digit_0 : decode cX9_digit 0 = .ok (.aload_n 0, 1) := by decide +kernel
theorem dX9_digit_1 : decode cX9_digit 1 = .ok (.invokevirtual 25, 3) := by decide +kernel
theorem dX9_digit_4 : decode cX9_digit 4 = .ok (.istore_n 1, 1) := by decide +kernel
theorem dX9_digit_5 : decode cX9_digit 5 = .ok (.iload_n 1, 1) := by decide +kernel
theorem dX9_digit_6 : decode cX9_digit 6 = .ok (.invokestatic 32, 3) := by decide +kernel
theorem dX9_digit_9 : decode cX9_digit 9 = .ok (.ifCond .ne 9, 3) := by decide +kernel
theorem dX9_digit_12 : decode cX9_digit 12 = .ok (.aload_n 0, 1) := by decide +kernel
theorem dX9_digit_13 : decode cX9_digit 13 = .ok (.invokevirtual 29, 3) := by decide +kernel
theorem dX9_digit_16 : decode cX9_digit 16 = .ok (.iconst 0, 1) := by decide +kernel
theorem dX9_digit_17 : decode cX9_digit 17 = .ok (.ireturn, 1) := by decide +kernel
theorem dX9_digit_18 : decode cX9_digit 18 = .ok (.aload_n 0, 1) := by decide +kernel
theorem dX9_digit_19 : decode cX9_digit 19 = .ok (.dup, 1) := by decide +kernel
theorem dX9_digit_20 : decode cX9_digit 20 = .ok (.getfield 22, 3) := by decide +kernel
theorem dX9_digit_23 : decode cX9_digit 23 = .ok (.iconst 1, 1) := by decide +kernel
theorem dX9_digit_24 : decode cX9_digit 24 = .ok (.iadd, 1) := by decide +kernel
theorem dX9_digit_25 : decode cX9_digit 25 = .ok (.putfield 22, 3) := by decide +kernel
theorem dX9_digit_28 : decode cX9_digit 28 = .ok (.iload_n 1, 1) := by decide +kernel
theorem dX9_digit_29 : decode cX9_digit 29 = .ok (.bipush 48, 2) := by decide +kernel
theorem dX9_digit_31 : decode cX9_digit 31 = .ok (.isub, 1) := by decide +kernel
theorem dX9_digit_32 : decode cX9_digit 32 = .ok (.ireturn, 1) := by decide +kernel
theorem dX9_number_0 : decode cX9_number 0 = .ok (.aload_n 0, 1) := by decide +kernel
theorem dX9_number_1 : decode cX9_number 1 = .ok (.invokevirtual 25, 3) := by decide +kernel
theorem dX9_number_4 : decode cX9_number 4 = .ok (.invokestatic 32, 3) := by decide +kernel
theorem dX9_number_7 : decode cX9_number 7 = .ok (.ifCond .ne 9, 3) := by decide +kernel
theorem dX9_number_10 : decode cX9_number 10 = .ok (.aload_n 0, 1) := by decide +kernel
theorem dX9_number_11 : decode cX9_number 11 = .ok (.invokevirtual 29, 3) := by decide +kernel
theorem dX9_number_14 : decode cX9_number 14 = .ok (.iload_n 2, 1) := by decide +kernel
theorem dX9_number_15 : decode cX9_number 15 = .ok (.ireturn, 1) := by decide +kernel
theorem dX9_number_16 : decode cX9_number 16 = .ok (.iconst 0, 1) := by decide +kernel
theorem dX9_number_17 : decode cX9_number 17 = .ok (.istore 4, 2) := by decide +kernel
theorem dX9_number_19 : decode cX9_number 19 = .ok (.iconst 0, 1) := by decide +kernel
theorem dX9_number_20 : decode cX9_number 20 = .ok (.istore 5, 2) := by decide +kernel
theorem dX9_number_22 : decode cX9_number 22 = .ok (.iload 5, 2) := by decide +kernel
theorem dX9_number_24 : decode cX9_number 24 = .ok (.iload_n 1, 1) := by decide +kernel
theorem dX9_number_25 : decode cX9_number 25 = .ok (.if_icmp .ge 65, 3) := by decide +kernel
theorem dX9_number_28 : decode cX9_number 28 = .ok (.aload_n 0, 1) := by decide +kernel
theorem dX9_number_29 : decode cX9_number 29 = .ok (.getfield 22, 3) := by decide +kernel
theorem dX9_number_32 : decode cX9_number 32 = .ok (.aload_n 0, 1) := by decide +kernel
theorem dX9_number_33 : decode cX9_number 33 = .ok (.getfield 19, 3) := by decide +kernel
theorem dX9_number_36 : decode cX9_number 36 = .ok (.if_icmp .ge 54, 3) := by decide +kernel
theorem dX9_number_39 : decode cX9_number 39 = .ok (.aload_n 0, 1) := by decide +kernel
theorem dX9_number_40 : decode cX9_number 40 = .ok (.getfield 9, 3) := by decide +kernel
theorem dX9_number_43 : decode cX9_number 43 = .ok (.aload_n 0, 1) := by decide +kernel
theorem dX9_number_44 : decode cX9_number 44 = .ok (.getfield 22, 3) := by decide +kernel
theorem dX9_number_47 : decode cX9_number 47 = .ok (.iaload, 1) := by decide +kernel
theorem dX9_number_48 : decode cX9_number 48 = .ok (.invokestatic 32, 3) := by decide +kernel
theorem dX9_number_51 : decode cX9_number 51 = .ok (.ifCond .eq 39, 3) := by decide +kernel
theorem dX9_number_54 : decode cX9_number 54 = .ok (.iload 4, 2) := by decide +kernel
theorem dX9_number_56 : decode cX9_number 56 = .ok (.bipush 10, 2) := by decide +kernel
theorem dX9_number_58 : decode cX9_number 58 = .ok (.imul, 1) := by decide +kernel
theorem dX9_number_59 : decode cX9_number 59 = .ok (.aload_n 0, 1) := by decide +kernel
theorem dX9_number_60 : decode cX9_number 60 = .ok (.getfield 9, 3) := by decide +kernel
theorem dX9_number_63 : decode cX9_number 63 = .ok (.aload_n 0, 1) := by decide +kernel
theorem dX9_number_64 : decode cX9_number 64 = .ok (.getfield 22, 3) := by decide +kernel
theorem dX9_number_67 : decode cX9_number 67 = .ok (.iaload, 1) := by decide +kernel
theorem dX9_number_68 : decode cX9_number 68 = .ok (.iadd, 1) := by decide +kernel
theorem dX9_number_69 : decode cX9_number 69 = .ok (.bipush 48, 2) := by decide +kernel
theorem dX9_number_71 : decode cX9_number 71 = .ok (.isub, 1) := by decide +kernel
theorem dX9_number_72 : decode cX9_number 72 = .ok (.istore 4, 2) := by decide +kernel
theorem dX9_number_74 : decode cX9_number 74 = .ok (.aload_n 0, 1) := by decide +kernel
theorem dX9_number_75 : decode cX9_number 75 = .ok (.dup, 1) := by decide +kernel
theorem dX9_number_76 : decode cX9_number 76 = .ok (.getfield 22, 3) := by decide +kernel
theorem dX9_number_79 : decode cX9_number 79 = .ok (.iconst 1, 1) := by decide +kernel
theorem dX9_number_80 : decode cX9_number 80 = .ok (.iadd, 1) := by decide +kernel
theorem dX9_number_81 : decode cX9_number 81 = .ok (.putfield 22, 3) := by decide +kernel
theorem dX9_number_84 : decode cX9_number 84 = .ok (.iinc 5 1, 3) := by decide +kernel
theorem dX9_number_87 : decode cX9_number 87 = .ok (.goto (-65), 3) := by decide +kernel
theorem dX9_number_90 : decode cX9_number 90 = .ok (.aload_n 0, 1) := by decide +kernel
theorem dX9_number_91 : decode cX9_number 91 = .ok (.getfield 22, 3) := by decide +kernel
theorem dX9_number_94 : decode cX9_number 94 = .ok (.aload_n 0, 1) := by decide +kernel
theorem dX9_number_95 : decode cX9_number 95 = .ok (.getfield 19, 3) := by decide +kernel
theorem dX9_number_98 : decode cX9_number 98 = .ok (.if_icmp .ge 25, 3) := by decide +kernel
theorem dX9_number_101 : decode cX9_number 101 = .ok (.aload_n 0, 1) := by decide +kernel
theorem dX9_number_102 : decode cX9_number 102 = .ok (.getfield 9, 3) := by decide +kernel
theorem dX9_number_105 : decode cX9_number 105 = .ok (.aload_n 0, 1) := by decide +kernel
theorem dX9_number_106 : decode cX9_number 106 = .ok (.getfield 22, 3) := by decide +kernel
theorem dX9_number_109 : decode cX9_number 109 = .ok (.iaload, 1) := by decide +kernel
theorem dX9_number_110 : decode cX9_number 110 = .ok (.invokestatic 32, 3) := by decide +kernel
theorem dX9_number_113 : decode cX9_number 113 = .ok (.ifCond .eq 10, 3) := by decide +kernel
theorem dX9_number_116 : decode cX9_number 116 = .ok (.aload_n 0, 1) := by decide +kernel
theorem dX9_number_117 : decode cX9_number 117 = .ok (.invokevirtual 29, 3) := by decide +kernel
theorem dX9_number_120 : decode cX9_number 120 = .ok (.goto 25, 3) := by decide +kernel
theorem dX9_number_123 : decode cX9_number 123 = .ok (.iload 4, 2) := by decide +kernel
theorem dX9_number_125 : decode cX9_number 125 = .ok (.iload_n 2, 1) := by decide +kernel
theorem dX9_number_126 : decode cX9_number 126 = .ok (.if_icmp .lt 9, 3) := by decide +kernel
theorem dX9_number_129 : decode cX9_number 129 = .ok (.iload 4, 2) := by decide +kernel
theorem dX9_number_131 : decode cX9_number 131 = .ok (.iload_n 3, 1) := by decide +kernel
