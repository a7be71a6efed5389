theorem dX12_run_30 : decode cX12_run 30 = .ok (.lconst 0, 1) := by decide +kernel
theorem dX12_run_31 : decode cX12_run 31 = .ok (.ldc2_w 266, 3) := by decide +kernel
theorem dX12_run_34 : decode cX12_run 34 = .ok (.invokestatic 214, 3) := by decide +kernel
theorem dX12_run_37 : decode cX12_run 37 = .ok (.ifCond .ne 5, 3) := by decide +kernel
theorem dX12_run_40 : decode cX12_run 40 = .ok (.iconst (-1), 1) := by decide +kernel
theorem dX12_run_41 : decode cX12_run 41 = .ok (.ireturn, 1) := by decide +kernel
theorem dX12_run_42 : decode cX12_run 42 = .ok (.aload_n 0, 1) := by decide +kernel
theorem dX12_run_43 : decode cX12_run 43 = .ok (.iload_n 1, 1) := by decide +kernel
theorem dX12_run_44 : decode cX12_run 44 = .ok (.invokevirtual 420, 3) := by decide +kernel
theorem dX12_run_47 : decode cX12_run 47 = .ok (.iload_n 2, 1) := by decide +kernel
theorem dX12_run_48 : decode cX12_run 48 = .ok (.ifCond .ne 10, 3) := by decide +kernel
theorem dX12_run_51 : decode cX12_run 51 = .ok (.aload_n 0, 1) := by decide +kernel
theorem dX12_run_52 : decode cX12_run 52 = .ok (.getfield 408, 3) := by decide +kernel
theorem dX12_run_55 : decode cX12_run 55 = .ok (.goto 19, 3) := by decide +kernel
theorem dX12_run_58 : decode cX12_run 58 = .ok (.iload_n 2, 1) := by decide +kernel
theorem dX12_run_59 : decode cX12_run 59 = .ok (.iconst 1, 1) := by decide +kernel
theorem dX12_run_60 : decode cX12_run 60 = .ok (.if_icmp .ne 10, 3) := by decide +kernel
theorem dX12_run_63 : decode cX12_run 63 = .ok (.aload_n 0, 1) := by decide +kernel
theorem dX12_run_64 : decode cX12_run 64 = .ok (.getfield 411, 3) := by decide +kernel
theorem dX12_run_67 : decode cX12_run 67 = .ok (.goto 7, 3) := by decide +kernel
theorem dX12_run_70 : decode cX12_run 70 = .ok (.aload_n 0, 1) := by decide +kernel
theorem dX12_run_71 : decode cX12_run 71 = .ok (.getfield 417, 3) := by decide +kernel
theorem dX12_run_74 : decode cX12_run 74 = .ok (.ireturn, 1) := by decide +kernel
theorem dX12_best_0 : decode cX12_best 0 = .ok (.aload_n 0, 1) := by decide +kernel
theorem dX12_best_1 : decode cX12_best 1 = .ok (.iconst 0, 1) := by decide +kernel
theorem dX12_best_2 : decode cX12_best 2 = .ok (.putfield 93, 3) := by decide +kernel
theorem dX12_best_5 : decode cX12_best 5 = .ok (.aload_n 0, 1) := by decide +kernel
theorem dX12_best_6 : decode cX12_best 6 = .ok (.invokevirtual 364, 3) := by decide +kernel
theorem dX12_best_9 : decode cX12_best 9 = .ok (.ifCond .ne 5, 3) := by decide +kernel
theorem dX12_best_12 : decode cX12_best 12 = .ok (.iconst (-1), 1) := by decide +kernel
theorem dX12_best_13 : decode cX12_best 13 = .ok (.ireturn, 1) := by decide +kernel
theorem dX12_best_14 : decode cX12_best 14 = .ok (.iconst (-1), 1) := by decide +kernel
theorem dX12_best_15 : decode cX12_best 15 = .ok (.istore_n 2, 1) := by decide +kernel
theorem dX12_best_16 : decode cX12_best 16 = .ok (.iconst 0, 1) := by decide +kernel
theorem dX12_best_17 : decode cX12_best 17 = .ok (.istore_n 3, 1) := by decide +kernel
theorem dX12_best_18 : decode cX12_best 18 = .ok (.iconst 0, 1) := by decide +kernel
theorem dX12_best_19 : decode cX12_best 19 = .ok (.istore 4, 2) := by decide +kernel
theorem dX12_best_21 : decode cX12_best 21 = .ok (.iload 4, 2) := by decide +kernel
theorem dX12_best_23 : decode cX12_best 23 = .ok (.aload_n 0, 1) := by decide +kernel
theorem dX12_best_24 : decode cX12_best 24 = .ok (.getfield 280, 3) := by decide +kernel
theorem dX12_best_27 : decode cX12_best 27 = .ok (.if_icmp .ge 58, 3) := by decide +kernel
theorem dX12_best_30 : decode cX12_best 30 = .ok (.aload_n 0, 1) := by decide +kernel
theorem dX12_best_31 : decode cX12_best 31 = .ok (.iload 4, 2) := by decide +kernel
theorem dX12_best_33 : decode cX12_best 33 = .ok (.invokevirtual 420, 3) := by decide +kernel
theorem dX12_best_36 : decode cX12_best 36 = .ok (.aload_n 0, 1) := by decide +kernel
theorem dX12_best_37 : decode cX12_best 37 = .ok (.getfield 408, 3) := by decide +kernel
theorem dX12_best_40 : decode cX12_best 40 = .ok (.iconst (-1), 1) := by decide +kernel
theorem dX12_best_41 : decode cX12_best 41 = .ok (.if_icmp .eq 38, 3) := by decide +kernel
theorem dX12_best_44 : decode cX12_best 44 = .ok (.aload_n 0, 1) := by decide +kernel
theorem dX12_best_45 : decode cX12_best 45 = .ok (.getfield 414, 3) := by decide +kernel
theorem dX12_best_48 : decode cX12_best 48 = .ok (.ifCond .eq 7, 3) := by decide +kernel
theorem dX12_best_51 : decode cX12_best 51 = .ok (.iload_n 1, 1) := by decide +kernel
theorem dX12_best_52 : decode cX12_best 52 = .ok (.ifCond .eq 27, 3) := by decide +kernel
theorem dX12_best_55 : decode cX12_best 55 = .ok (.iload_n 2, 1) := by decide +kernel
theorem dX12_best_56 : decode cX12_best 56 = .ok (.iconst (-1), 1) := by decide +kernel
theorem dX12_best_57 : decode cX12_best 57 = .ok (.if_icmp .eq 14, 3) := by decide +kernel
theorem dX12_best_60 : decode cX12_best 60 = .ok (.aload_n 0, 1) := by decide +kernel
theorem dX12_best_61 : decode cX12_best 61 = .ok (.getfield 417, 3) := by decide +kernel
theorem dX12_best_64 : decode cX12_best 64 = .ok (.iload_n 3, 1) := by decide +kernel
theorem dX12_best_65 : decode cX12_best 65 = .ok (.if_icmp .lt 6, 3) := by decide +kernel
theorem dX12_best_68 : decode cX12_best 68 = .ok (.goto 11, 3) := by decide +kernel
theorem dX12_best_71 : decode cX12_best 71 = .ok (.iload 4, 2) := by decide +kernel
theorem dX12_best_73 : decode cX12_best 73 = .ok (.istore_n 2, 1) := by decide +kernel
theorem dX12_best_74 : decode cX12_best 74 = .ok (.aload_n 0, 1) := by decide +kernel
theorem dX12_best_75 : decode cX12_best 75 = .ok (.getfield 417, 3) := by decide +kernel
theorem dX12_best_78 : decode cX12_best 78 = .ok (.istore_n 3, 1) := by decide +kernel
theorem dX12_best_79 : decode cX12_best 79 = .ok (.iinc 4 1, 3) := by decide +kernel
theorem dX12_best_82 : decode cX12_best 82 = .ok (.goto (-61), 3) := by decide +kernel
theorem dX12_best_85 : decode cX12_best 85 = .ok (.iload_n 2, 1) := by decide +kernel
theorem dX12_best_86 : decode cX12_best 86 = .ok (.ireturn, 1) := by decide +kernel
theorem dX12_perform_0 : decode cX12_perform 0 = .ok (.aload_n 0, 1) := by decide +kernel
theorem dX12_perform_1 : decode cX12_perform 1 = .ok (.iconst 0, 1) := by decide +kernel
theorem dX12_perform_2 : decode cX12_perform 2 = .ok (.putfield 93, 3) := by decide +kernel
theorem dX12_perform_5 : decode cX12_perform 5 = .ok (.aload_n 0, 1) := by decide +kernel
theorem dX12_perform_6 : decode cX12_perform 6 = .ok (.invokevirtual 364, 3) := by decide +kernel
theorem dX12_perform_9 : decode cX12_perform 9 = .ok (.ifCond .eq 19, 3) := by decide +kernel
theorem dX12_perform_12 : decode cX12_perform 12 = .ok (.iload_n 1, 1) := by decide +kernel
theorem dX12_perform_13 : decode cX12_perform 13 = .ok (.i2l, 1) := by decide +kernel
theorem dX12_perform_14 : decode cX12_perform 14 = .ok (.lconst 0, 1) := by decide +kernel
theorem dX12_perform_15 : decode cX12_perform 15 = .ok (.aload_n 0, 1) := by decide +kernel
theorem dX12_perform_16 : decode cX12_perform 16 = .ok (.getfield 280, 3) := by decide +kernel
theorem dX12_perform_19 : decode cX12_perform 19 = .ok (.iconst 1, 1) := by decide +kernel
theorem dX12_perform_20 : decode cX12_perform 20 = .ok (.isub, 1) := by decide +kernel
theorem dX12_perform_21 : decode cX12_perform 21 = .ok (.i2l, 1) := by decide +kernel
theorem dX12_perform_22 : decode cX12_perform 22 = .ok (.invokestatic 214, 3) := by decide +kernel
theorem dX12_perform_25 : decode cX12_perform 25 = .ok (.ifCond .ne 5, 3) := by decide +kernel
theorem dX12_perform_28 : decode cX12_perform 28 = .ok (.iconst (-1), 1) := by decide +kernel
theorem dX12_perform_29 : decode cX12_perform 29 = .ok (.ireturn, 1) := by decide +kernel
theorem dX12_perform_30 : decode cX12_perform 30 = .ok (.iconst 0, 1) := by decide +kernel
theorem dX12_perform_31 : decode cX12_perform 31 = .ok (.istore_n 2, 1) := by decide +kernel
theorem dX12_perform_32 : decode cX12_perform 32 = .ok (.iconst 0, 1) := by decide +kernel
theorem dX12_perform_33 : decode cX12_perform 33 = .ok (.istore_n 3, 1) := by decide +kernel
theorem dX12_perform_34 : decode cX12_perform 34 = .ok (.iload_n 3, 1) := by decide +kernel
theorem dX12_perform_35 : decode cX12_perform 35 = .ok (.aload_n 0, 1) := by decide +kernel
theorem dX12_perform_36 : decode cX12_perform 36 = .ok (.getfield 58, 3) := by decide +kernel
theorem dX12_perform_39 : decode cX12_perform 39 = .ok (.iload_n 1, 1) := by decide +kernel
theorem dX12_perform_40 : decode cX12_perform 40 = .ok (.iaload, 1) := by decide +kernel
theorem dX12_perform_41 : decode cX12_perform 41 = .ok (.if_icmp .ge 67, 3) := by decide +kernel
theorem dX12_perform_44 : decode cX12_perform 44 = .ok (.aload_n 0, 1) := by decide +kernel
theorem dX12_perform_45 : decode cX12_perform 45 = .ok (.getfield 61, 3) := by decide +kernel
theorem dX12_perform_48 : decode cX12_perform 48 = .ok (.invokestatic 354, 3) := by decide +kernel
theorem dX12_perform_51 : decode cX12_perform 51 = .ok (.ifCond .ne 57, 3) := by decide +kernel
theorem dX12_perform_54 : decode cX12_perform 54 = .ok (.aload_n 0, 1) := by decide +kernel
theorem dX12_perform_55 : decode cX12_perform 55 = .ok (.getfield 55, 3) := by decide +kernel
theorem dX12_perform_58 : decode cX12_perform 58 = .ok (.bipush 16, 2) := by decide +kernel
theorem dX12_perform_60 : decode cX12_perform 60 = .ok (.iload_n 1, 1) := by decide +kernel
theorem dX12_perform_61 : decode cX12_perform 61 = .ok (.imul, 1) := by decide +kernel
theorem dX12_perform_62 : decode cX12_perform 62 = .ok (.iload_n 3, 1) := by decide +kernel
theorem dX12_perform_63 : decode cX12_perform 63 = .ok (.iadd, 1) := by decide +kernel
theorem dX12_perform_64 : decode cX12_perform 64 = .ok (.iaload, 1) := by decide +kernel
theorem dX12_perform_65 : decode cX12_perform 65 = .ok (.istore 4, 2) := by decide +kernel
theorem dX12_perform_67 : decode cX12_perform 67 = .ok (.aload_n 0, 1) := by decide +kernel
theorem dX12_perform_68 : decode cX12_perform 68 = .ok (.iload 4, 2) := by decide +kernel
theorem dX12_perform_70 : decode cX12_perform 70 = .ok (.invokevirtual 375, 3) := by decide +kernel
theorem dX12_perform_73 : decode cX12_perform 73 = .ok (.ifCond .ne 6, 3) := by decide +kernel
theorem dX12_perform_76 : decode cX12_perform 76 = .ok (.goto 26, 3) := by decide +kernel
theorem dX12_perform_79 : decode cX12_perform 79 = .ok (.aload_n 0, 1) := by decide +kernel
theorem dX12_perform_80 : decode cX12_perform 80 = .ok (.invokevirtual 358, 3) := by decide +kernel
theorem dX12_perform_83 : decode cX12_perform 83 = .ok (.aload_n 0, 1) := by decide +kernel
theorem dX12_perform_84 : decode cX12_perform 84 = .ok (.aload_n 0, 1) := by decide +kernel
theorem dX12_perform_85 : decode cX12_perform 85 = .ok (.getfield 61, 3) := by decide +kernel
theorem dX12_perform_88 : decode cX12_perform 88 = .ok (.iload 4, 2) := by decide +kernel
theorem dX12_perform_90 : decode cX12_perform 90 = .ok (.invokevirtual 382, 3) := by decide +kernel
theorem dX12_perform_93 : decode cX12_perform 93 = .ok (.aload_n 0, 1) := by decide +kernel
theorem dX12_perform_94 : decode cX12_perform 94 = .ok (.iload 4, 2) := by decide +kernel
theorem dX12_perform_96 : decode cX12_perform 96 = .ok (.invokevirtual 361, 3) := by decide +kernel
theorem dX12_perform_99 : decode cX12_perform 99 = .ok (.iinc 2 1, 3) := by decide +kernel
theorem dX12_perform_102 : decode cX12_perform 102 = .ok (.iinc 3 1, 3) := by decide +kernel
theorem dX12_perform_105 : decode cX12_perform 105 = .ok (.goto (-71), 3) := by decide +kernel
theorem dX12_perform_108 : decode cX12_perform 108 = .ok (.iload_n 2, 1) := by decide +kernel
theorem dX12_perform_109 : decode cX12_perform 109 = .ok (.ireturn, 1) := by decide +kernel
theorem dX12_setDoes_0 : decode cX12_setDoes 0 = .ok (.aload_n 0, 1) := by decide +kernel
theorem dX12_setDoes_1 : decode cX12_setDoes 1 = .ok (.aload_n 0, 1) := by decide +kernel
theorem dX12_setDoes_2 : decode cX12_setDoes 2 = .ok (.getfield 61, 3) := by decide +kernel
theorem dX12_setDoes_5 : decode cX12_setDoes 5 = .ok (.aload_n 0, 1) := by decide +kernel
theorem dX12_setDoes_6 : decode cX12_setDoes 6 = .ok (.getfield 64, 3) := by decide +kernel
theorem dX12_setDoes_9 : decode cX12_setDoes 9 = .ok (.invokevirtual 404, 3) := by decide +kernel
theorem dX12_setDoes_12 : decode cX12_setDoes 12 = .ok (.iconst 0, 1) := by decide +kernel
theorem dX12_setDoes_13 : decode cX12_setDoes 13 = .ok (.istore_n 2, 1) := by decide +kernel
theorem dX12_setDoes_14 : decode cX12_setDoes 14 = .ok (.iload_n 2, 1) := by decide +kernel
theorem dX12_setDoes_15 : decode cX12_setDoes 15 = .ok (.aload_n 0, 1) := by decide +kernel
theorem dX12_setDoes_16 : decode cX12_setDoes 16 = .ok (.getfield 288, 3) := by decide +kernel
theorem dX12_setDoes_19 : decode cX12_setDoes 19 = .ok (.if_icmp .ge 55, 3) := by decide +kernel
theorem dX12_setDoes_22 : decode cX12_setDoes 22 = .ok (.aload_n 0, 1) := by decide +kernel
theorem dX12_setDoes_23 : decode cX12_setDoes 23 = .ok (.getfield 64, 3) := by decide +kernel
theorem dX12_setDoes_26 : decode cX12_setDoes 26 = .ok (.invokestatic 354, 3) := by decide +kernel
theorem dX12_setDoes_29 : decode cX12_setDoes 29 = .ok (.ifCond .ne 45, 3) := by decide +kernel
theorem dX12_setDoes_32 : decode cX12_setDoes 32 = .ok (.iload_n 1, 1) := by decide +kernel
theorem dX12_setDoes_33 : decode cX12_setDoes 33 = .ok (.iload_n 2, 1) := by decide +kernel
theorem dX12_setDoes_34 : decode cX12_setDoes 34 = .ok (.invokestatic 241, 3) := by decide +kernel
theorem dX12_setDoes_37 : decode cX12_setDoes 37 = .ok (.ifCond .eq 31, 3) := by decide +kernel
theorem dX12_setDoes_40 : decode cX12_setDoes 40 = .ok (.aload_n 0, 1) := by decide +kernel
theorem dX12_setDoes_41 : decode cX12_setDoes 41 = .ok (.aload_n 0, 1) := by decide +kernel
theorem dX12_setDoes_42 : decode cX12_setDoes 42 = .ok (.getfield 64, 3) := by decide +kernel
theorem dX12_setDoes_45 : decode cX12_setDoes 45 = .ok (.iload_n 2, 1) := by decide +kernel
theorem dX12_setDoes_46 : decode cX12_setDoes 46 = .ok (.iconst (-1), 1) := by decide +kernel
theorem dX12_setDoes_47 : decode cX12_setDoes 47 = .ok (.aload_n 0, 1) := by decide +kernel
theorem dX12_setDoes_48 : decode cX12_setDoes 48 = .ok (.getfield 37, 3) := by decide +kernel
theorem dX12_setDoes_51 : decode cX12_setDoes 51 = .ok (.bipush 6, 2) := by decide +kernel
theorem dX12_setDoes_53 : decode cX12_setDoes 53 = .ok (.aload_n 0, 1) := by decide +kernel
theorem dX12_setDoes_54 : decode cX12_setDoes 54 = .ok (.getfield 64, 3) := by decide +kernel
theorem dX12_setDoes_57 : decode cX12_setDoes 57 = .ok (.bipush 64, 2) := by decide +kernel
theorem dX12_setDoes_59 : decode cX12_setDoes 59 = .ok (.iaload, 1) := by decide +kernel
theorem dX12_setDoes_60 : decode cX12_setDoes 60 = .ok (.imul, 1) := by decide +kernel
theorem dX12_setDoes_61 : decode cX12_setDoes 61 = .ok (.iconst 3, 1) := by decide +kernel
theorem dX12_setDoes_62 : decode cX12_setDoes 62 = .ok (.iadd, 1) := by decide +kernel
theorem dX12_setDoes_63 : decode cX12_setDoes 63 = .ok (.iaload, 1) := by decide +kernel
theorem dX12_setDoes_64 : decode cX12_setDoes 64 = .ok (.iconst 0, 1) := by decide +kernel
theorem dX12_setDoes_65 : decode cX12_setDoes 65 = .ok (.invokevirtual 350, 3) := by decide +kernel
theorem dX12_setDoes_68 : decode cX12_setDoes 68 = .ok (.iinc 2 1, 3) := by decide +kernel
theorem dX12_setDoes_71 : decode cX12_setDoes 71 = .ok (.goto (-57), 3) := by decide +kernel
theorem dX12_setDoes_74 : decode cX12_setDoes 74 = .ok (.aload_n 0, 1) := by decide +kernel
theorem dX12_setDoes_75 : decode cX12_setDoes 75 = .ok (.getfield 64, 3) := by decide +kernel
theorem dX12_setDoes_78 : decode cX12_setDoes 78 = .ok (.bipush 7, 2) := by decide +kernel
theorem dX12_setDoes_80 : decode cX12_setDoes 80 = .ok (.aload_n 0, 1) := by decide +kernel
theorem dX12_setDoes_81 : decode cX12_setDoes 81 = .ok (.getfield 64, 3) := by decide +kernel
theorem dX12_setDoes_84 : decode cX12_setDoes 84 = .ok (.bipush 64, 2) := by decide +kernel
theorem dX12_setDoes_86 : decode cX12_setDoes 86 = .ok (.iaload, 1) := by decide +kernel
theorem dX12_setDoes_87 : decode cX12_setDoes 87 = .ok (.imul, 1) := by decide +kernel
theorem dX12_setDoes_88 : decode cX12_setDoes 88 = .ok (.iconst 5, 1) := by decide +kernel
theorem dX12_setDoes_89 : decode cX12_setDoes 89 = .ok (.iadd, 1) := by decide +kernel
theorem dX12_setDoes_90 : decode cX12_setDoes 90 = .ok (.iaload, 1) := by decide +kernel
theorem dX12_setDoes_91 : decode cX12_setDoes 91 = .ok (.iconst 1, 1) := by decide +kernel
theorem dX12_setDoes_92 : decode cX12_setDoes 92 = .ok (.if_icmp .ne 7, 3) := by decide +kernel
theorem dX12_setDoes_95 : decode cX12_setDoes 95 = .ok (.iconst 1, 1) := by decide +kernel
theorem dX12_setDoes_96 : decode cX12_setDoes 96 = .ok (.goto 4, 3) := by decide +kernel
theorem dX12_setDoes_99 : decode cX12_setDoes 99 = .ok (.iconst 0, 1) := by decide +kernel
theorem dX12_setDoes_100 : decode cX12_setDoes 100 = .ok (.ireturn, 1) := by decide +kernel
theorem dX12_opens_0 : decode cX12_opens 0 = .ok (.aload_n 0, 1) := by decide +kernel
theorem dX12_opens_1 : decode cX12_opens 1 = .ok (.iconst 0, 1) := by decide +kernel
theorem dX12_opens_2 : decode cX12_opens 2 = .ok (.putfield 93, 3) := by decide +kernel
theorem dX12_opens_5 : decode cX12_opens 5 = .ok (.aload_n 0, 1) := by decide +kernel
theorem dX12_opens_6 : decode cX12_opens 6 = .ok (.invokevirtual 364, 3) := by decide +kernel
theorem dX12_opens_9 : decode cX12_opens 9 = .ok (.ifCond .eq 33, 3) := by decide +kernel
theorem dX12_opens_12 : decode cX12_opens 12 = .ok (.iload_n 1, 1) := by decide +kernel
theorem dX12_opens_13 : decode cX12_opens 13 = .ok (.ifCond .lt 29, 3) := by decide +kernel
theorem dX12_opens_16 : decode cX12_opens 16 = .ok (.iload_n 1, 1) := by decide +kernel
theorem dX12_opens_17 : decode cX12_opens 17 = .ok (.iconst 1, 1) := by decide +kernel
theorem dX12_opens_18 : decode cX12_opens 18 = .ok (.aload_n 0, 1) := by decide +kernel
theorem dX12_opens_19 : decode cX12_opens 19 = .ok (.getfield 288, 3) := by decide +kernel
theorem dX12_opens_22 : decode cX12_opens 22 = .ok (.ishl, 1) := by decide +kernel
theorem dX12_opens_23 : decode cX12_opens 23 = .ok (.if_icmp .ge 19, 3) := by decide +kernel
theorem dX12_opens_26 : decode cX12_opens 26 = .ok (.aload_n 0, 1) := by decide +kernel
theorem dX12_opens_27 : decode cX12_opens 27 = .ok (.iload_n 1, 1) := by decide +kernel
theorem dX12_opens_28 : decode cX12_opens 28 = .ok (.invokevirtual 423, 3) := by decide +kernel
theorem dX12_opens_31 : decode cX12_opens 31 = .ok (.ifCond .eq 7, 3) := by decide +kernel
theorem dX12_opens_34 : decode cX12_opens 34 = .ok (.iconst 1, 1) := by decide +kernel
theorem dX12_opens_35 : decode cX12_opens 35 = .ok (.goto 8, 3) := by decide +kernel
theorem dX12_opens_38 : decode cX12_opens 38 = .ok (.iconst 0, 1) := by decide +kernel
theorem dX12_opens_39 : decode cX12_opens 39 = .ok (.goto 4, 3) := by decide +kernel
theorem dX12_opens_42 : decode cX12_opens 42 = .ok (.iconst (-1), 1) := by decide +kernel
theorem dX12_opens_43 : decode cX12_opens 43 = .ok (.ireturn, 1) := by decide +kernel
theorem dX12_orders_0 : decode cX12_orders 0 = .ok (.iconst 1, 1) := by decide +kernel
theorem dX12_orders_1 : decode cX12_orders 1 = .ok (.istore_n 1, 1) := by decide +kernel
theorem dX12_orders_2 : decode cX12_orders 2 = .ok (.iconst 2, 1) := by decide +kernel
theorem dX12_orders_3 : decode cX12_orders 3 = .ok (.istore_n 2, 1) := by decide +kernel
theorem dX12_orders_4 : decode cX12_orders 4 = .ok (.iload_n 2, 1) := by decide +kernel
theorem dX12_orders_5 : decode cX12_orders 5 = .ok (.iload_n 0, 1) := by decide +kernel
theorem dX12_orders_6 : decode cX12_orders 6 = .ok (.if_icmp .gt 13, 3) := by decide +kernel
theorem dX12_orders_9 : decode cX12_orders 9 = .ok (.iload_n 1, 1) := by decide +kernel
theorem dX12_orders_10 : decode cX12_orders 10 = .ok (.iload_n 2, 1) := by decide +kernel
theorem dX12_orders_11 : decode cX12_orders 11 = .ok (.imul, 1) := by decide +kernel
theorem dX12_orders_12 : decode cX12_orders 12 = .ok (.istore_n 1, 1) := by decide +kernel
theorem dX12_orders_13 : decode cX12_orders 13 = .ok (.iinc 2 1, 3) := by decide +kernel
theorem dX12_orders_16 : decode cX12_orders 16 = .ok (.goto (-12), 3) := by decide +kernel
theorem dX12_orders_19 : decode cX12_orders 19 = .ok (.iload_n 1, 1) := by decide +kernel
theorem dX12_orders_20 : decode cX12_orders 20 = .ok (.ireturn, 1) := by decide +kernel
theorem dX12_share_0 : decode cX12_share 0 = .ok (.aload_n 0, 1) := by decide +kernel
theorem dX12_share_1 : decode cX12_share 1 = .ok (.iconst 0, 1) := by decide +kernel
theorem dX12_share_2 : decode cX12_share 2 = .ok (.putfield 93, 3) := by decide +kernel
theorem dX12_share_5 : decode cX12_share 5 = .ok (.aload_n 0, 1) := by decide +kernel
theorem dX12_share_6 : decode cX12_share 6 = .ok (.iload_n 1, 1) := by decide +kernel
theorem dX12_share_7 : decode cX12_share 7 = .ok (.invokevirtual 325, 3) := by decide +kernel
theorem dX12_share_10 : decode cX12_share 10 = .ok (.ifCond .eq 10, 3) := by decide +kernel
theorem dX12_share_13 : decode cX12_share 13 = .ok (.aload_n 0, 1) := by decide +kernel
theorem dX12_share_14 : decode cX12_share 14 = .ok (.invokevirtual 364, 3) := by decide +kernel
theorem dX12_share_17 : decode cX12_share 17 = .ok (.ifCond .ne 5, 3) := by decide +kernel
theorem dX12_share_20 : decode cX12_share 20 = .ok (.iconst (-1), 1) := by decide +kernel
theorem dX12_share_21 : decode cX12_share 21 = .ok (.ireturn, 1) := by decide +kernel
theorem dX12_share_22 : decode cX12_share 22 = .ok (.iconst 0, 1) := by decide +kernel
theorem dX12_share_23 : decode cX12_share 23 = .ok (.istore_n 2, 1) := by decide +kernel
theorem dX12_share_24 : decode cX12_share 24 = .ok (.iconst 0, 1) := by decide +kernel
theorem dX12_share_25 : decode cX12_share 25 = .ok (.istore_n 3, 1) := by decide +kernel
theorem dX12_share_26 : decode cX12_share 26 = .ok (.iload_n 3, 1) := by decide +kernel
theorem dX12_share_27 : decode cX12_share 27 = .ok (.iconst 1, 1) := by decide +kernel
theorem dX12_share_28 : decode cX12_share 28 = .ok (.aload_n 0, 1) := by decide +kernel
theorem dX12_share_29 : decode cX12_share 29 = .ok (.getfield 288, 3) := by decide +kernel
theorem dX12_share_32 : decode cX12_share 32 = .ok (.ishl, 1) := by decide +kernel
theorem dX12_share_33 : decode cX12_share 33 = .ok (.if_icmp .ge 67, 3) := by decide +kernel
theorem dX12_share_36 : decode cX12_share 36 = .ok (.iload_n 3, 1) := by decide +kernel
theorem dX12_share_37 : decode cX12_share 37 = .ok (.iload_n 1, 1) := by decide +kernel
theorem dX12_share_38 : decode cX12_share 38 = .ok (.invokestatic 241, 3) := by decide +kernel
theorem dX12_share_41 : decode cX12_share 41 = .ok (.ifCond .ne 53, 3) := by decide +kernel
theorem dX12_share_44 : decode cX12_share 44 = .ok (.aload_n 0, 1) := by decide +kernel
theorem dX12_share_45 : decode cX12_share 45 = .ok (.iload_n 3, 1) := by decide +kernel
theorem dX12_share_46 : decode cX12_share 46 = .ok (.invokevirtual 423, 3) := by decide +kernel
theorem dX12_share_49 : decode cX12_share 49 = .ok (.ifCond .ne 45, 3) := by decide +kernel
theorem dX12_share_52 : decode cX12_share 52 = .ok (.aload_n 0, 1) := by decide +kernel
theorem dX12_share_53 : decode cX12_share 53 = .ok (.iload_n 3, 1) := by decide +kernel
theorem dX12_share_54 : decode cX12_share 54 = .ok (.iconst 1, 1) := by decide +kernel
theorem dX12_share_55 : decode cX12_share 55 = .ok (.iload_n 1, 1) := by decide +kernel
theorem dX12_share_56 : decode cX12_share 56 = .ok (.ishl, 1) := by decide +kernel
theorem dX12_share_57 : decode cX12_share 57 = .ok (.ior, 1) := by decide +kernel
theorem dX12_share_58 : decode cX12_share 58 = .ok (.invokevirtual 423, 3) := by decide +kernel
theorem dX12_share_61 : decode cX12_share 61 = .ok (.ifCond .ne 6, 3) := by decide +kernel
theorem dX12_share_64 : decode cX12_share 64 = .ok (.goto 30, 3) := by decide +kernel
theorem dX12_share_67 : decode cX12_share 67 = .ok (.iload_n 3, 1) := by decide +kernel
theorem dX12_share_68 : decode cX12_share 68 = .ok (.invokestatic 426, 3) := by decide +kernel
theorem dX12_share_71 : decode cX12_share 71 = .ok (.istore 4, 2) := by decide +kernel
theorem dX12_share_73 : decode cX12_share 73 = .ok (.iload_n 2, 1) := by decide +kernel
theorem dX12_share_74 : decode cX12_share 74 = .ok (.iload 4, 2) := by decide +kernel
theorem dX12_share_76 : decode cX12_share 76 = .ok (.invokestatic 431, 3) := by decide +kernel
theorem dX12_share_79 : decode cX12_share 79 = .ok (.aload_n 0, 1) := by decide +kernel
theorem dX12_share_80 : decode cX12_share 80 = .ok (.getfield 288, 3) := by decide +kernel
theorem dX12_share_83 : decode cX12_share 83 = .ok (.iconst 1, 1) := by decide +kernel
theorem dX12_share_84 : decode cX12_share 84 = .ok (.isub, 1) := by decide +kernel
theorem dX12_share_85 : decode cX12_share 85 = .ok (.iload 4, 2) := by decide +kernel
theorem dX12_share_87 : decode cX12_share 87 = .ok (.isub, 1) := by decide +kernel
theorem dX12_share_88 : decode cX12_share 88 = .ok (.invokestatic 431, 3) := by decide +kernel
theorem dX12_share_91 : decode cX12_share 91 = .ok (.imul, 1) := by decide +kernel
theorem dX12_share_92 : decode cX12_share 92 = .ok (.iadd, 1) := by decide +kernel
theorem dX12_share_93 : decode cX12_share 93 = .ok (.istore_n 2, 1) := by decide +kernel
theorem dX12_share_94 : decode cX12_share 94 = .ok (.iinc 3 1, 3) := by decide +kernel
theorem dX12_share_97 : decode cX12_share 97 = .ok (.goto (-71), 3) := by decide +kernel
theorem dX12_share_100 : decode cX12_share 100 = .ok (.iload_n 2, 1) := by decide +kernel
theorem dX12_share_101 : decode cX12_share 101 = .ok (.ireturn, 1) := by decide +kernel
theorem dX12_wouldOpen_0 : decode cX12_wouldOpen 0 = .ok (.aload_n 0, 1) := by decide +kernel
theorem dX12_wouldOpen_1 : decode cX12_wouldOpen 1 = .ok (.aload_n 1, 1) := by decide +kernel
theorem dX12_wouldOpen_2 : decode cX12_wouldOpen 2 = .ok (.iload_n 2, 1) := by decide +kernel
theorem dX12_wouldOpen_3 : decode cX12_wouldOpen 3 = .ok (.iload_n 3, 1) := by decide +kernel
theorem dX12_wouldOpen_4 : decode cX12_wouldOpen 4 = .ok (.aload_n 1, 1) := by decide +kernel
theorem dX12_wouldOpen_5 : decode cX12_wouldOpen 5 = .ok (.bipush 64, 2) := by decide +kernel
theorem dX12_wouldOpen_7 : decode cX12_wouldOpen 7 = .ok (.iaload, 1) := by decide +kernel
theorem dX12_wouldOpen_8 : decode cX12_wouldOpen 8 = .ok (.invokevirtual 333, 3) := by decide +kernel
theorem dX12_wouldOpen_11 : decode cX12_wouldOpen 11 = .ok (.aload_n 1, 1) := by decide +kernel
theorem dX12_wouldOpen_12 : decode cX12_wouldOpen 12 = .ok (.aload_n 1, 1) := by decide +kernel
theorem dX12_wouldOpen_13 : decode cX12_wouldOpen 13 = .ok (.bipush 64, 2) := by decide +kernel
theorem dX12_wouldOpen_15 : decode cX12_wouldOpen 15 = .ok (.iaload, 1) := by decide +kernel
theorem dX12_wouldOpen_16 : decode cX12_wouldOpen 16 = .ok (.invokestatic 321, 3) := by decide +kernel
theorem dX12_wouldOpen_19 : decode cX12_wouldOpen 19 = .ok (.if_icmp .lt 7, 3) := by decide +kernel
theorem dX12_wouldOpen_22 : decode cX12_wouldOpen 22 = .ok (.iconst 1, 1) := by decide +kernel
theorem dX12_wouldOpen_23 : decode cX12_wouldOpen 23 = .ok (.goto 4, 3) := by decide +kernel
theorem dX12_wouldOpen_26 : decode cX12_wouldOpen 26 = .ok (.iconst 0, 1) := by decide +kernel
theorem dX12_wouldOpen_27 : decode cX12_wouldOpen 27 = .ok (.ireturn, 1) := by decide +kernel
theorem dX12_cheapest_0 : decode cX12_cheapest 0 = .ok (.aload_n 0, 1) := by decide +kernel
theorem dX12_cheapest_1 : decode cX12_cheapest 1 = .ok (.iconst 0, 1) := by decide +kernel
theorem dX12_cheapest_2 : decode cX12_cheapest 2 = .ok (.putfield 93, 3) := by decide +kernel
theorem dX12_cheapest_5 : decode cX12_cheapest 5 = .ok (.aload_n 0, 1) := by decide +kernel
theorem dX12_cheapest_6 : decode cX12_cheapest 6 = .ok (.iload_n 1, 1) := by decide +kernel
theorem dX12_cheapest_7 : decode cX12_cheapest 7 = .ok (.invokevirtual 325, 3) := by decide +kernel
theorem dX12_cheapest_10 : decode cX12_cheapest 10 = .ok (.ifCond .eq 10, 3) := by decide +kernel
theorem dX12_cheapest_13 : decode cX12_cheapest 13 = .ok (.aload_n 0, 1) := by decide +kernel
theorem dX12_cheapest_14 : decode cX12_cheapest 14 = .ok (.invokevirtual 364, 3) := by decide +kernel
theorem dX12_cheapest_17 : decode cX12_cheapest 17 = .ok (.ifCond .ne 7, 3) := by decide +kernel
theorem dX12_cheapest_20 : decode cX12_cheapest 20 = .ok (.ldc_w 389, 3) := by decide +kernel
theorem dX12_cheapest_23 : decode cX12_cheapest 23 = .ok (.ireturn, 1) := by decide +kernel
theorem dX12_cheapest_24 : decode cX12_cheapest 24 = .ok (.aload_n 0, 1) := by decide +kernel
theorem dX12_cheapest_25 : decode cX12_cheapest 25 = .ok (.aload_n 0, 1) := by decide +kernel
theorem dX12_cheapest_26 : decode cX12_cheapest 26 = .ok (.getfield 61, 3) := by decide +kernel
theorem dX12_cheapest_29 : decode cX12_cheapest 29 = .ok (.iload_n 1, 1) := by decide +kernel
theorem dX12_cheapest_30 : decode cX12_cheapest 30 = .ok (.iconst (-1), 1) := by decide +kernel
theorem dX12_cheapest_31 : decode cX12_cheapest 31 = .ok (.invokevirtual 434, 3) := by decide +kernel
theorem dX12_cheapest_34 : decode cX12_cheapest 34 = .ok (.ifCond .eq 5, 3) := by decide +kernel
theorem dX12_cheapest_37 : decode cX12_cheapest 37 = .ok (.iconst (-1), 1) := by decide +kernel
theorem dX12_cheapest_38 : decode cX12_cheapest 38 = .ok (.ireturn, 1) := by decide +kernel
theorem dX12_cheapest_39 : decode cX12_cheapest 39 = .ok (.ldc_w 389, 3) := by decide +kernel
theorem dX12_cheapest_42 : decode cX12_cheapest 42 = .ok (.istore_n 2, 1) := by decide +kernel
theorem dX12_cheapest_43 : decode cX12_cheapest 43 = .ok (.iconst 0, 1) := by decide +kernel
theorem dX12_cheapest_44 : decode cX12_cheapest 44 = .ok (.istore_n 3, 1) := by decide +kernel
theorem dX12_cheapest_45 : decode cX12_cheapest 45 = .ok (.iload_n 3, 1) := by decide +kernel
theorem dX12_cheapest_46 : decode cX12_cheapest 46 = .ok (.aload_n 0, 1) := by decide +kernel
theorem dX12_cheapest_47 : decode cX12_cheapest 47 = .ok (.getfield 291, 3) := by decide +kernel
theorem dX12_cheapest_50 : decode cX12_cheapest 50 = .ok (.if_icmp .ge 54, 3) := by decide +kernel
theorem dX12_cheapest_53 : decode cX12_cheapest 53 = .ok (.aload_n 0, 1) := by decide +kernel
theorem dX12_cheapest_54 : decode cX12_cheapest 54 = .ok (.aload_n 0, 1) := by decide +kernel
theorem dX12_cheapest_55 : decode cX12_cheapest 55 = .ok (.getfield 61, 3) := by decide +kernel
theorem dX12_cheapest_58 : decode cX12_cheapest 58 = .ok (.iload_n 1, 1) := by decide +kernel
theorem dX12_cheapest_59 : decode cX12_cheapest 59 = .ok (.iload_n 3, 1) := by decide +kernel
theorem dX12_cheapest_60 : decode cX12_cheapest 60 = .ok (.invokevirtual 434, 3) := by decide +kernel
theorem dX12_cheapest_63 : decode cX12_cheapest 63 = .ok (.ifCond .eq 35, 3) := by decide +kernel
theorem dX12_cheapest_66 : decode cX12_cheapest 66 = .ok (.iload_n 2, 1) := by decide +kernel
theorem dX12_cheapest_67 : decode cX12_cheapest 67 = .ok (.ldc_w 389, 3) := by decide +kernel
theorem dX12_cheapest_70 : decode cX12_cheapest 70 = .ok (.if_icmp .eq 26, 3) := by decide +kernel
theorem dX12_cheapest_73 : decode cX12_cheapest 73 = .ok (.aload_n 0, 1) := by decide +kernel
theorem dX12_cheapest_74 : decode cX12_cheapest 74 = .ok (.getfield 49, 3) := by decide +kernel
theorem dX12_cheapest_77 : decode cX12_cheapest 77 = .ok (.iconst 2, 1) := by decide +kernel
theorem dX12_cheapest_78 : decode cX12_cheapest 78 = .ok (.iload_n 3, 1) := by decide +kernel
theorem dX12_cheapest_79 : decode cX12_cheapest 79 = .ok (.imul, 1) := by decide +kernel
theorem dX12_cheapest_80 : decode cX12_cheapest 80 = .ok (.iconst 1, 1) := by decide +kernel
theorem dX12_cheapest_81 : decode cX12_cheapest 81 = .ok (.iadd, 1) := by decide +kernel
theorem dX12_cheapest_82 : decode cX12_cheapest 82 = .ok (.iaload, 1) := by decide +kernel
theorem dX12_cheapest_83 : decode cX12_cheapest 83 = .ok (.aload_n 0, 1) := by decide +kernel
theorem dX12_cheapest_84 : decode cX12_cheapest 84 = .ok (.getfield 49, 3) := by decide +kernel
theorem dX12_cheapest_87 : decode cX12_cheapest 87 = .ok (.iconst 2, 1) := by decide +kernel
theorem dX12_cheapest_88 : decode cX12_cheapest 88 = .ok (.iload_n 2, 1) := by decide +kernel
theorem dX12_cheapest_89 : decode cX12_cheapest 89 = .ok (.imul, 1) := by decide +kernel
theorem dX12_cheapest_90 : decode cX12_cheapest 90 = .ok (.iconst 1, 1) := by decide +kernel
theorem dX12_cheapest_91 : decode cX12_cheapest 91 = .ok (.iadd, 1) := by decide +kernel
theorem dX12_cheapest_92 : decode cX12_cheapest 92 = .ok (.iaload, 1) := by decide +kernel
theorem dX12_cheapest_93 : decode cX12_cheapest 93 = .ok (.if_icmp .ge 5, 3) := by decide +kernel
theorem dX12_cheapest_96 : decode cX12_cheapest 96 = .ok (.iload_n 3, 1) := by decide +kernel
theorem dX12_cheapest_97 : decode cX12_cheapest 97 = .ok (.istore_n 2, 1) := by decide +kernel
theorem dX12_cheapest_98 : decode cX12_cheapest 98 = .ok (.iinc 3 1, 3) := by decide +kernel
theorem dX12_cheapest_101 : decode cX12_cheapest 101 = .ok (.goto (-56), 3) := by decide +kernel
theorem dX12_cheapest_104 : decode cX12_cheapest 104 = .ok (.iload_n 2, 1) := by decide +kernel
theorem dX12_cheapest_105 : decode cX12_cheapest 105 = .ok (.ireturn, 1) := by decide +kernel
theorem dX12_safe_0 : decode cX12_safe 0 = .ok (.aload_n 0, 1) := by decide +kernel
theorem dX12_safe_1 : decode cX12_safe 1 = .ok (.iconst 0, 1) := by decide +kernel
theorem dX12_safe_2 : decode cX12_safe 2 = .ok (.putfield 93, 3) := by decide +kernel
theorem dX12_safe_5 : decode cX12_safe 5 = .ok (.aload_n 0, 1) := by decide +kernel
theorem dX12_safe_6 : decode cX12_safe 6 = .ok (.invokevirtual 364, 3) := by decide +kernel
theorem dX12_safe_9 : decode cX12_safe 9 = .ok (.ifCond .eq 46, 3) := by decide +kernel
theorem dX12_safe_12 : decode cX12_safe 12 = .ok (.bipush 60, 2) := by decide +kernel
theorem dX12_safe_14 : decode cX12_safe 14 = .ok (.aload_n 0, 1) := by decide +kernel
theorem dX12_safe_15 : decode cX12_safe 15 = .ok (.getfield 37, 3) := by decide +kernel
theorem dX12_safe_18 : decode cX12_safe 18 = .ok (.bipush 6, 2) := by decide +kernel
theorem dX12_safe_20 : decode cX12_safe 20 = .ok (.aload_n 0, 1) := by decide +kernel
theorem dX12_safe_21 : decode cX12_safe 21 = .ok (.getfield 61, 3) := by decide +kernel
theorem dX12_safe_24 : decode cX12_safe 24 = .ok (.bipush 64, 2) := by decide +kernel
theorem dX12_safe_26 : decode cX12_safe 26 = .ok (.iaload, 1) := by decide +kernel
theorem dX12_safe_27 : decode cX12_safe 27 = .ok (.imul, 1) := by decide +kernel
theorem dX12_safe_28 : decode cX12_safe 28 = .ok (.iconst 5, 1) := by decide +kernel
theorem dX12_safe_29 : decode cX12_safe 29 = .ok (.iadd, 1) := by decide +kernel
theorem dX12_safe_30 : decode cX12_safe 30 = .ok (.iaload, 1) := by decide +kernel
theorem dX12_safe_31 : decode cX12_safe 31 = .ok (.aload_n 0, 1) := by decide +kernel
theorem dX12_safe_32 : decode cX12_safe 32 = .ok (.getfield 61, 3) := by decide +kernel
theorem dX12_safe_35 : decode cX12_safe 35 = .ok (.bipush 7, 2) := by decide +kernel
theorem dX12_safe_37 : decode cX12_safe 37 = .ok (.aload_n 0, 1) := by decide +kernel
theorem dX12_safe_38 : decode cX12_safe 38 = .ok (.getfield 61, 3) := by decide +kernel
theorem dX12_safe_41 : decode cX12_safe 41 = .ok (.bipush 64, 2) := by decide +kernel
theorem dX12_safe_43 : decode cX12_safe 43 = .ok (.iaload, 1) := by decide +kernel
theorem dX12_safe_44 : decode cX12_safe 44 = .ok (.imul, 1) := by decide +kernel
theorem dX12_safe_45 : decode cX12_safe 45 = .ok (.iconst 3, 1) := by decide +kernel
theorem dX12_safe_46 : decode cX12_safe 46 = .ok (.iadd, 1) := by decide +kernel
theorem dX12_safe_47 : decode cX12_safe 47 = .ok (.iaload, 1) := by decide +kernel
theorem dX12_safe_48 : decode cX12_safe 48 = .ok (.isub, 1) := by decide +kernel
theorem dX12_safe_49 : decode cX12_safe 49 = .ok (.invokestatic 310, 3) := by decide +kernel
theorem dX12_safe_52 : decode cX12_safe 52 = .ok (.goto 4, 3) := by decide +kernel
theorem dX12_safe_55 : decode cX12_safe 55 = .ok (.iconst (-1), 1) := by decide +kernel
theorem dX12_safe_56 : decode cX12_safe 56 = .ok (.ireturn, 1) := by decide +kernel
theorem dX12_enough_0 : decode cX12_enough 0 = .ok (.aload_n 0, 1) := by decide +kernel
theorem dX12_enough_1 : decode cX12_enough 1 = .ok (.iconst 0, 1) := by decide +kernel
theorem dX12_enough_2 : decode cX12_enough 2 = .ok (.putfield 93, 3) := by decide +kernel
theorem dX12_enough_5 : decode cX12_enough 5 = .ok (.aload_n 0, 1) := by decide +kernel
theorem dX12_enough_6 : decode cX12_enough 6 = .ok (.iload_n 1, 1) := by decide +kernel
theorem dX12_enough_7 : decode cX12_enough 7 = .ok (.invokevirtual 325, 3) := by decide +kernel
theorem dX12_enough_10 : decode cX12_enough 10 = .ok (.ifCond .eq 18, 3) := by decide +kernel
theorem dX12_enough_13 : decode cX12_enough 13 = .ok (.aload_n 0, 1) := by decide +kernel
theorem dX12_enough_14 : decode cX12_enough 14 = .ok (.iload_n 2, 1) := by decide +kernel
theorem dX12_enough_15 : decode cX12_enough 15 = .ok (.invokevirtual 330, 3) := by decide +kernel
theorem dX12_enough_18 : decode cX12_enough 18 = .ok (.ifCond .eq 10, 3) := by decide +kernel
theorem dX12_enough_21 : decode cX12_enough 21 = .ok (.aload_n 0, 1) := by decide +kernel
theorem dX12_enough_22 : decode cX12_enough 22 = .ok (.invokevirtual 364, 3) := by decide +kernel
theorem dX12_enough_25 : decode cX12_enough 25 = .ok (.ifCond .ne 5, 3) := by decide +kernel
theorem dX12_enough_28 : decode cX12_enough 28 = .ok (.iconst (-1), 1) := by decide +kernel
theorem dX12_enough_29 : decode cX12_enough 29 = .ok (.ireturn, 1) := by decide +kernel
theorem dX12_enough_30 : decode cX12_enough 30 = .ok (.iconst 0, 1) := by decide +kernel
theorem dX12_enough_31 : decode cX12_enough 31 = .ok (.istore_n 3, 1) := by decide +kernel
theorem dX12_enough_32 : decode cX12_enough 32 = .ok (.iload_n 3, 1) := by decide +kernel
theorem dX12_enough_33 : decode cX12_enough 33 = .ok (.bipush 60, 2) := by decide +kernel
theorem dX12_enough_35 : decode cX12_enough 35 = .ok (.if_icmp .gt 59, 3) := by decide +kernel
theorem dX12_enough_38 : decode cX12_enough 38 = .ok (.aload_n 0, 1) := by decide +kernel
theorem dX12_enough_39 : decode cX12_enough 39 = .ok (.aload_n 0, 1) := by decide +kernel
theorem dX12_enough_40 : decode cX12_enough 40 = .ok (.getfield 61, 3) := by decide +kernel
theorem dX12_enough_43 : decode cX12_enough 43 = .ok (.aload_n 0, 1) := by decide +kernel
theorem dX12_enough_44 : decode cX12_enough 44 = .ok (.getfield 64, 3) := by decide +kernel
theorem dX12_enough_47 : decode cX12_enough 47 = .ok (.invokevirtual 404, 3) := by decide +kernel
theorem dX12_enough_50 : decode cX12_enough 50 = .ok (.iload_n 3, 1) := by decide +kernel
theorem dX12_enough_51 : decode cX12_enough 51 = .ok (.ifCond .le 12, 3) := by decide +kernel
theorem dX12_enough_54 : decode cX12_enough 54 = .ok (.aload_n 0, 1) := by decide +kernel
theorem dX12_enough_55 : decode cX12_enough 55 = .ok (.aload_n 0, 1) := by decide +kernel
theorem dX12_enough_56 : decode cX12_enough 56 = .ok (.getfield 64, 3) := by decide +kernel
theorem dX12_enough_59 : decode cX12_enough 59 = .ok (.iload_n 3, 1) := by decide +kernel
theorem dX12_enough_60 : decode cX12_enough 60 = .ok (.invokevirtual 341, 3) := by decide +kernel
theorem dX12_enough_63 : decode cX12_enough 63 = .ok (.aload_n 0, 1) := by decide +kernel
theorem dX12_enough_64 : decode cX12_enough 64 = .ok (.getfield 64, 3) := by decide +kernel
theorem dX12_enough_67 : decode cX12_enough 67 = .ok (.invokestatic 354, 3) := by decide +kernel
theorem dX12_enough_70 : decode cX12_enough 70 = .ok (.ifCond .ne 18, 3) := by decide +kernel
theorem dX12_enough_73 : decode cX12_enough 73 = .ok (.aload_n 0, 1) := by decide +kernel
theorem dX12_enough_74 : decode cX12_enough 74 = .ok (.aload_n 0, 1) := by decide +kernel
theorem dX12_enough_75 : decode cX12_enough 75 = .ok (.getfield 64, 3) := by decide +kernel
theorem dX12_enough_78 : decode cX12_enough 78 = .ok (.iload_n 1, 1) := by decide +kernel
theorem dX12_enough_79 : decode cX12_enough 79 = .ok (.iload_n 2, 1) := by decide +kernel
theorem dX12_enough_80 : decode cX12_enough 80 = .ok (.invokevirtual 434, 3) := by decide +kernel
theorem dX12_enough_83 : decode cX12_enough 83 = .ok (.ifCond .eq 5, 3) := by decide +kernel
theorem dX12_enough_86 : decode cX12_enough 86 = .ok (.iload_n 3, 1) := by decide +kernel
theorem dX12_enough_87 : decode cX12_enough 87 = .ok (.ireturn, 1) := by decide +kernel
theorem dX12_enough_88 : decode cX12_enough 88 = .ok (.iinc 3 1, 3) := by decide +kernel
theorem dX12_enough_91 : decode cX12_enough 91 = .ok (.goto (-59), 3) := by decide +kernel
theorem dX12_enough_94 : decode cX12_enough 94 = .ok (.iconst (-1), 1) := by decide +kernel
theorem dX12_enough_95 : decode cX12_enough 95 = .ok (.ireturn, 1) := by decide +kernel
theorem dX12_opensTold_0 : decode cX12_opensTold 0 = .ok (.aload_n 0, 1) := by decide +kernel
theorem dX12_opensTold_1 : decode cX12_opensTold 1 = .ok (.iload_n 1, 1) := by decide +kernel
theorem dX12_opensTold_2 : decode cX12_opensTold 2 = .ok (.iload_n 2, 1) := by decide +kernel
theorem dX12_opensTold_3 : decode cX12_opensTold 3 = .ok (.iload_n 3, 1) := by decide +kernel
theorem dX12_opensTold_4 : decode cX12_opensTold 4 = .ok (.invokevirtual 438, 3) := by decide +kernel
theorem dX12_opensTold_7 : decode cX12_opensTold 7 = .ok (.iload 4, 2) := by decide +kernel
theorem dX12_opensTold_9 : decode cX12_opensTold 9 = .ok (.aload_n 0, 1) := by decide +kernel
theorem dX12_opensTold_10 : decode cX12_opensTold 10 = .ok (.getfield 37, 3) := by decide +kernel
theorem dX12_opensTold_13 : decode cX12_opensTold 13 = .ok (.bipush 6, 2) := by decide +kernel
theorem dX12_opensTold_15 : decode cX12_opensTold 15 = .ok (.iload_n 3, 1) := by decide +kernel
theorem dX12_opensTold_16 : decode cX12_opensTold 16 = .ok (.imul, 1) := by decide +kernel
theorem dX12_opensTold_17 : decode cX12_opensTold 17 = .ok (.iconst 1, 1) := by decide +kernel
theorem dX12_opensTold_18 : decode cX12_opensTold 18 = .ok (.iadd, 1) := by decide +kernel
theorem dX12_opensTold_19 : decode cX12_opensTold 19 = .ok (.iaload, 1) := by decide +kernel
theorem dX12_opensTold_20 : decode cX12_opensTold 20 = .ok (.iadd, 1) := by decide +kernel
theorem dX12_opensTold_21 : decode cX12_opensTold 21 = .ok (.iconst 2, 1) := by decide +kernel
theorem dX12_opensTold_22 : decode cX12_opensTold 22 = .ok (.aload_n 0, 1) := by decide +kernel
theorem dX12_opensTold_23 : decode cX12_opensTold 23 = .ok (.getfield 37, 3) := by decide +kernel
theorem dX12_opensTold_26 : decode cX12_opensTold 26 = .ok (.bipush 6, 2) := by decide +kernel
theorem dX12_opensTold_28 : decode cX12_opensTold 28 = .ok (.iload_n 3, 1) := by decide +kernel
theorem dX12_opensTold_29 : decode cX12_opensTold 29 = .ok (.imul, 1) := by decide +kernel
theorem dX12_opensTold_30 : decode cX12_opensTold 30 = .ok (.iconst 2, 1) := by decide +kernel
theorem dX12_opensTold_31 : decode cX12_opensTold 31 = .ok (.iadd, 1) := by decide +kernel
theorem dX12_opensTold_32 : decode cX12_opensTold 32 = .ok (.iaload, 1) := by decide +kernel
theorem dX12_opensTold_33 : decode cX12_opensTold 33 = .ok (.imul, 1) := by decide +kernel
theorem dX12_opensTold_34 : decode cX12_opensTold 34 = .ok (.iadd, 1) := by decide +kernel
theorem dX12_opensTold_35 : decode cX12_opensTold 35 = .ok (.if_icmp .lt 7, 3) := by decide +kernel
theorem dX12_opensTold_38 : decode cX12_opensTold 38 = .ok (.iconst 1, 1) := by decide +kernel
theorem dX12_opensTold_39 : decode cX12_opensTold 39 = .ok (.goto 4, 3) := by decide +kernel
theorem dX12_opensTold_42 : decode cX12_opensTold 42 = .ok (.iconst 0, 1) := by decide +kernel
theorem dX12_opensTold_43 : decode cX12_opensTold 43 = .ok (.ireturn, 1) := by decide +kernel
theorem dX12_common_0 : decode cX12_common 0 = .ok (.iload_n 1, 1) := by decide +kernel
theorem dX12_common_1 : decode cX12_common 1 = .ok (.ifCond .ne 7, 3) := by decide +kernel
theorem dX12_common_4 : decode cX12_common 4 = .ok (.iload_n 0, 1) := by decide +kernel
theorem dX12_common_5 : decode cX12_common 5 = .ok (.goto 10, 3) := by decide +kernel
theorem dX12_common_8 : decode cX12_common 8 = .ok (.iload_n 1, 1) := by decide +kernel
theorem dX12_common_9 : decode cX12_common 9 = .ok (.iload_n 0, 1) := by decide +kernel
theorem dX12_common_10 : decode cX12_common 10 = .ok (.iload_n 1, 1) := by decide +kernel
theorem dX12_common_11 : decode cX12_common 11 = .ok (.irem, 1) := by decide +kernel
theorem dX12_common_12 : decode cX12_common 12 = .ok (.invokestatic 442, 3) := by decide +kernel
theorem dX12_common_15 : decode cX12_common 15 = .ok (.ireturn, 1) := by decide +kernel
theorem dX12_saves_0 : decode cX12_saves 0 = .ok (.aload_n 0, 1) := by decide +kernel
theorem dX12_saves_1 : decode cX12_saves 1 = .ok (.iconst 0, 1) := by decide +kernel
theorem dX12_saves_2 : decode cX12_saves 2 = .ok (.putfield 93, 3) := by decide +kernel
theorem dX12_saves_5 : decode cX12_saves 5 = .ok (.iload_n 1, 1) := by decide +kernel
theorem dX12_saves_6 : decode cX12_saves 6 = .ok (.ifCond .lt 23, 3) := by decide +kernel
theorem dX12_saves_9 : decode cX12_saves 9 = .ok (.iload_n 1, 1) := by decide +kernel
theorem dX12_saves_10 : decode cX12_saves 10 = .ok (.aload_n 0, 1) := by decide +kernel
theorem dX12_saves_11 : decode cX12_saves 11 = .ok (.getfield 291, 3) := by decide +kernel
theorem dX12_saves_14 : decode cX12_saves 14 = .ok (.if_icmp .ge 15, 3) := by decide +kernel
theorem dX12_saves_17 : decode cX12_saves 17 = .ok (.iload_n 2, 1) := by decide +kernel
theorem dX12_saves_18 : decode cX12_saves 18 = .ok (.i2l, 1) := by decide +kernel
theorem dX12_saves_19 : decode cX12_saves 19 = .ok (.lconst 0, 1) := by decide +kernel
theorem dX12_saves_20 : decode cX12_saves 20 = .ok (.ldc2_w 266, 3) := by decide +kernel
theorem dX12_saves_23 : decode cX12_saves 23 = .ok (.invokestatic 214, 3) := by decide +kernel
theorem dX12_saves_26 : decode cX12_saves 26 = .ok (.ifCond .ne 5, 3) := by decide +kernel
theorem dX12_saves_29 : decode cX12_saves 29 = .ok (.iconst (-1), 1) := by decide +kernel
theorem dX12_saves_30 : decode cX12_saves 30 = .ok (.ireturn, 1) := by decide +kernel
theorem dX12_saves_31 : decode cX12_saves 31 = .ok (.iconst 0, 1) := by decide +kernel
theorem dX12_saves_32 : decode cX12_saves 32 = .ok (.istore_n 3, 1) := by decide +kernel
theorem dX12_saves_33 : decode cX12_saves 33 = .ok (.iconst 0, 1) := by decide +kernel
theorem dX12_saves_34 : decode cX12_saves 34 = .ok (.istore 4, 2) := by decide +kernel
theorem dX12_saves_36 : decode cX12_saves 36 = .ok (.iload 4, 2) := by decide +kernel
theorem dX12_saves_38 : decode cX12_saves 38 = .ok (.aload_n 0, 1) := by decide +kernel
theorem dX12_saves_39 : decode cX12_saves 39 = .ok (.getfield 288, 3) := by decide +kernel
theorem dX12_saves_42 : decode cX12_saves 42 = .ok (.if_icmp .ge 79, 3) := by decide +kernel
theorem dX12_saves_45 : decode cX12_saves 45 = .ok (.iconst 0, 1) := by decide +kernel
theorem dX12_saves_46 : decode cX12_saves 46 = .ok (.istore 5, 2) := by decide +kernel
theorem dX12_saves_48 : decode cX12_saves 48 = .ok (.iload 5, 2) := by decide +kernel
theorem dX12_saves_50 : decode cX12_saves 50 = .ok (.aload_n 0, 1) := by decide +kernel
theorem dX12_saves_51 : decode cX12_saves 51 = .ok (.getfield 285, 3) := by decide +kernel
theorem dX12_saves_54 : decode cX12_saves 54 = .ok (.if_icmp .ge 61, 3) := by decide +kernel
theorem dX12_saves_57 : decode cX12_saves 57 = .ok (.iload_n 3, 1) := by decide +kernel
theorem dX12_saves_58 : decode cX12_saves 58 = .ok (.aload_n 0, 1) := by decide +kernel
theorem dX12_saves_59 : decode cX12_saves 59 = .ok (.iload 4, 2) := by decide +kernel
theorem dX12_saves_61 : decode cX12_saves 61 = .ok (.iload_n 1, 1) := by decide +kernel
theorem dX12_saves_62 : decode cX12_saves 62 = .ok (.iload 5, 2) := by decide +kernel
theorem dX12_saves_64 : decode cX12_saves 64 = .ok (.aload_n 0, 1) := by decide +kernel
theorem dX12_saves_65 : decode cX12_saves 65 = .ok (.getfield 37, 3) := by decide +kernel
theorem dX12_saves_68 : decode cX12_saves 68 = .ok (.bipush 6, 2) := by decide +kernel
theorem dX12_saves_70 : decode cX12_saves 70 = .ok (.iload 5, 2) := by decide +kernel
theorem dX12_saves_72 : decode cX12_saves 72 = .ok (.imul, 1) := by decide +kernel
theorem dX12_saves_73 : decode cX12_saves 73 = .ok (.iaload, 1) := by decide +kernel
theorem dX12_saves_74 : decode cX12_saves 74 = .ok (.invokevirtual 445, 3) := by decide +kernel
theorem dX12_saves_77 : decode cX12_saves 77 = .ok (.ifCond .eq 29, 3) := by decide +kernel
theorem dX12_saves_80 : decode cX12_saves 80 = .ok (.aload_n 0, 1) := by decide +kernel
theorem dX12_saves_81 : decode cX12_saves 81 = .ok (.iload 4, 2) := by decide +kernel
theorem dX12_saves_83 : decode cX12_saves 83 = .ok (.iconst (-1), 1) := by decide +kernel
theorem dX12_saves_84 : decode cX12_saves 84 = .ok (.iload 5, 2) := by decide +kernel
theorem dX12_saves_86 : decode cX12_saves 86 = .ok (.aload_n 0, 1) := by decide +kernel
theorem dX12_saves_87 : decode cX12_saves 87 = .ok (.getfield 37, 3) := by decide +kernel
theorem dX12_saves_90 : decode cX12_saves 90 = .ok (.bipush 6, 2) := by decide +kernel
theorem dX12_saves_92 : decode cX12_saves 92 = .ok (.iload 5, 2) := by decide +kernel
theorem dX12_saves_94 : decode cX12_saves 94 = .ok (.imul, 1) := by decide +kernel
theorem dX12_saves_95 : decode cX12_saves 95 = .ok (.iaload, 1) := by decide +kernel
theorem dX12_saves_96 : decode cX12_saves 96 = .ok (.invokevirtual 445, 3) := by decide +kernel
theorem dX12_saves_99 : decode cX12_saves 99 = .ok (.ifCond .ne 7, 3) := by decide +kernel
theorem dX12_saves_102 : decode cX12_saves 102 = .ok (.iconst 1, 1) := by decide +kernel
theorem dX12_saves_103 : decode cX12_saves 103 = .ok (.goto 4, 3) := by decide +kernel
theorem dX12_saves_106 : decode cX12_saves 106 = .ok (.iconst 0, 1) := by decide +kernel
theorem dX12_saves_107 : decode cX12_saves 107 = .ok (.iadd, 1) := by decide +kernel
theorem dX12_saves_108 : decode cX12_saves 108 = .ok (.istore_n 3, 1) := by decide +kernel
theorem dX12_saves_109 : decode cX12_saves 109 = .ok (.iinc 5 1, 3) := by decide +kernel
theorem dX12_saves_112 : decode cX12_saves 112 = .ok (.goto (-64), 3) := by decide +kernel
theorem dX12_saves_115 : decode cX12_saves 115 = .ok (.iinc 4 1, 3) := by decide +kernel
theorem dX12_saves_118 : decode cX12_saves 118 = .ok (.goto (-82), 3) := by decide +kernel
theorem dX12_saves_121 : decode cX12_saves 121 = .ok (.iload_n 2, 1) := by decide +kernel
theorem dX12_saves_122 : decode cX12_saves 122 = .ok (.ifCond .ne 5, 3) := by decide +kernel
theorem dX12_saves_125 : decode cX12_saves 125 = .ok (.iload_n 3, 1) := by decide +kernel
theorem dX12_saves_126 : decode cX12_saves 126 = .ok (.ireturn, 1) := by decide +kernel
theorem dX12_saves_127 : decode cX12_saves 127 = .ok (.iload_n 3, 1) := by decide +kernel
theorem dX12_saves_128 : decode cX12_saves 128 = .ok (.ifCond .ne 5, 3) := by decide +kernel
theorem dX12_saves_131 : decode cX12_saves 131 = .ok (.iconst (-1), 1) := by decide +kernel
theorem dX12_saves_132 : decode cX12_saves 132 = .ok (.ireturn, 1) := by decide +kernel
theorem dX12_saves_133 : decode cX12_saves 133 = .ok (.aload_n 0, 1) := by decide +kernel
theorem dX12_saves_134 : decode cX12_saves 134 = .ok (.getfield 49, 3) := by decide +kernel
theorem dX12_saves_137 : decode cX12_saves 137 = .ok (.iconst 2, 1) := by decide +kernel
theorem dX12_saves_138 : decode cX12_saves 138 = .ok (.iload_n 1, 1) := by decide +kernel
theorem dX12_saves_139 : decode cX12_saves 139 = .ok (.imul, 1) := by decide +kernel
theorem dX12_saves_140 : decode cX12_saves 140 = .ok (.iconst 1, 1) := by decide +kernel
theorem dX12_saves_141 : decode cX12_saves 141 = .ok (.iadd, 1) := by decide +kernel
theorem dX12_saves_142 : decode cX12_saves 142 = .ok (.iaload, 1) := by decide +kernel
theorem dX12_saves_143 : decode cX12_saves 143 = .ok (.iload_n 3, 1) := by decide +kernel
theorem dX12_saves_144 : decode cX12_saves 144 = .ok (.invokestatic 442, 3) := by decide +kernel
theorem dX12_saves_147 : decode cX12_saves 147 = .ok (.istore 4, 2) := by decide +kernel
theorem dX12_saves_149 : decode cX12_saves 149 = .ok (.iload_n 2, 1) := by decide +kernel
theorem dX12_saves_150 : decode cX12_saves 150 = .ok (.iconst 1, 1) := by decide +kernel
theorem dX12_saves_151 : decode cX12_saves 151 = .ok (.if_icmp .ne 19, 3) := by decide +kernel
theorem dX12_saves_154 : decode cX12_saves 154 = .ok (.aload_n 0, 1) := by decide +kernel
theorem dX12_saves_155 : decode cX12_saves 155 = .ok (.getfield 49, 3) := by decide +kernel
theorem dX12_saves_158 : decode cX12_saves 158 = .ok (.iconst 2, 1) := by decide +kernel
theorem dX12_saves_159 : decode cX12_saves 159 = .ok (.iload_n 1, 1) := by decide +kernel
theorem dX12_saves_160 : decode cX12_saves 160 = .ok (.imul, 1) := by decide +kernel
theorem dX12_saves_161 : decode cX12_saves 161 = .ok (.iconst 1, 1) := by decide +kernel
theorem dX12_saves_162 : decode cX12_saves 162 = .ok (.iadd, 1) := by decide +kernel
theorem dX12_saves_163 : decode cX12_saves 163 = .ok (.iaload, 1) := by decide +kernel
theorem dX12_saves_164 : decode cX12_saves 164 = .ok (.iload 4, 2) := by decide +kernel
theorem dX12_saves_166 : decode cX12_saves 166 = .ok (.idiv, 1) := by decide +kernel
theorem dX12_saves_167 : decode cX12_saves 167 = .ok (.goto 7, 3) := by decide +kernel
theorem dX12_saves_170 : decode cX12_saves 170 = .ok (.iload_n 3, 1) := by decide +kernel
theorem dX12_saves_171 : decode cX12_saves 171 = .ok (.iload 4, 2) := by decide +kernel
theorem dX12_saves_173 : decode cX12_saves 173 = .ok (.idiv, 1) := by decide +kernel
theorem dX12_saves_174 : decode cX12_saves 174 = .ok (.ireturn, 1) := by decide +kernel
theorem dX12_openersOf_0 : decode cX12_openersOf 0 = .ok (.iconst 0, 1) := by decide +kernel
theorem dX12_openersOf_1 : decode cX12_openersOf 1 = .ok (.istore_n 3, 1) := by decide +kernel
theorem dX12_openersOf_2 : decode cX12_openersOf 2 = .ok (.iconst 0, 1) := by decide +kernel
theorem dX12_openersOf_3 : decode cX12_openersOf 3 = .ok (.istore 4, 2) := by decide +kernel
theorem dX12_openersOf_5 : decode cX12_openersOf 5 = .ok (.iload 4, 2) := by decide +kernel
theorem dX12_openersOf_7 : decode cX12_openersOf 7 = .ok (.aload_n 0, 1) := by decide +kernel
theorem dX12_openersOf_8 : decode cX12_openersOf 8 = .ok (.getfield 288, 3) := by decide +kernel
theorem dX12_openersOf_11 : decode cX12_openersOf 11 = .ok (.if_icmp .ge 29, 3) := by decide +kernel
theorem dX12_openersOf_14 : decode cX12_openersOf 14 = .ok (.iload_n 3, 1) := by decide +kernel
theorem dX12_openersOf_15 : decode cX12_openersOf 15 = .ok (.aload_n 0, 1) := by decide +kernel
theorem dX12_openersOf_16 : decode cX12_openersOf 16 = .ok (.iload 4, 2) := by decide +kernel
theorem dX12_openersOf_18 : decode cX12_openersOf 18 = .ok (.iconst (-1), 1) := by decide +kernel
theorem dX12_openersOf_19 : decode cX12_openersOf 19 = .ok (.iload_n 1, 1) := by decide +kernel
theorem dX12_openersOf_20 : decode cX12_openersOf 20 = .ok (.iload_n 2, 1) := by decide +kernel
theorem dX12_openersOf_21 : decode cX12_openersOf 21 = .ok (.invokevirtual 445, 3) := by decide +kernel
theorem dX12_openersOf_24 : decode cX12_openersOf 24 = .ok (.ifCond .eq 7, 3) := by decide +kernel
theorem dX12_openersOf_27 : decode cX12_openersOf 27 = .ok (.iconst 1, 1) := by decide +kernel
theorem dX12_openersOf_28 : decode cX12_openersOf 28 = .ok (.goto 4, 3) := by decide +kernel
theorem dX12_openersOf_31 : decode cX12_openersOf 31 = .ok (.iconst 0, 1) := by decide +kernel
theorem dX12_openersOf_32 : decode cX12_openersOf 32 = .ok (.iadd, 1) := by decide +kernel
theorem dX12_openersOf_33 : decode cX12_openersOf 33 = .ok (.istore_n 3, 1) := by decide +kernel
theorem dX12_openersOf_34 : decode cX12_openersOf 34 = .ok (.iinc 4 1, 3) := by decide +kernel
theorem dX12_openersOf_37 : decode cX12_openersOf 37 = .ok (.goto (-32), 3) := by decide +kernel
theorem dX12_openersOf_40 : decode cX12_openersOf 40 = .ok (.iload_n 3, 1) := by decide +kernel
theorem dX12_openersOf_41 : decode cX12_openersOf 41 = .ok (.ireturn, 1) := by decide +kernel
theorem dX12_openers_0 : decode cX12_openers 0 = .ok (.aload_n 0, 1) := by decide +kernel
theorem dX12_openers_1 : decode cX12_openers 1 = .ok (.iconst 0, 1) := by decide +kernel
theorem dX12_openers_2 : decode cX12_openers 2 = .ok (.putfield 93, 3) := by decide +kernel
theorem dX12_openers_5 : decode cX12_openers 5 = .ok (.aload_n 0, 1) := by decide +kernel
theorem dX12_openers_6 : decode cX12_openers 6 = .ok (.iload_n 1, 1) := by decide +kernel
theorem dX12_openers_7 : decode cX12_openers 7 = .ok (.invokevirtual 316, 3) := by decide +kernel
theorem dX12_openers_10 : decode cX12_openers 10 = .ok (.ifCond .eq 24, 3) := by decide +kernel
theorem dX12_openers_13 : decode cX12_openers 13 = .ok (.iload_n 2, 1) := by decide +kernel
theorem dX12_openers_14 : decode cX12_openers 14 = .ok (.i2l, 1) := by decide +kernel
theorem dX12_openers_15 : decode cX12_openers 15 = .ok (.lconst 0, 1) := by decide +kernel
theorem dX12_openers_16 : decode cX12_openers 16 = .ok (.ldc2_w 449, 3) := by decide +kernel
theorem dX12_openers_19 : decode cX12_openers 19 = .ok (.invokestatic 214, 3) := by decide +kernel
theorem dX12_openers_22 : decode cX12_openers 22 = .ok (.ifCond .eq 12, 3) := by decide +kernel
theorem dX12_openers_25 : decode cX12_openers 25 = .ok (.aload_n 0, 1) := by decide +kernel
theorem dX12_openers_26 : decode cX12_openers 26 = .ok (.iload_n 1, 1) := by decide +kernel
theorem dX12_openers_27 : decode cX12_openers 27 = .ok (.iload_n 2, 1) := by decide +kernel
theorem dX12_openers_28 : decode cX12_openers 28 = .ok (.invokevirtual 451, 3) := by decide +kernel
theorem dX12_openers_31 : decode cX12_openers 31 = .ok (.goto 4, 3) := by decide +kernel
theorem dX12_openers_34 : decode cX12_openers 34 = .ok (.iconst (-1), 1) := by decide +kernel
theorem dX12_openers_35 : decode cX12_openers 35 = .ok (.ireturn, 1) := by decide +kernel
theorem dX12_factory_0 : decode cX12_factory 0 = .ok (.aload_n 0, 1) := by decide +kernel
theorem dX12_factory_1 : decode cX12_factory 1 = .ok (.iconst 0, 1) := by decide +kernel
theorem dX12_factory_2 : decode cX12_factory 2 = .ok (.putfield 93, 3) := by decide +kernel
theorem dX12_factory_5 : decode cX12_factory 5 = .ok (.aload_n 0, 1) := by decide +kernel
theorem dX12_factory_6 : decode cX12_factory 6 = .ok (.iload_n 1, 1) := by decide +kernel
theorem dX12_factory_7 : decode cX12_factory 7 = .ok (.invokevirtual 316, 3) := by decide +kernel
theorem dX12_factory_10 : decode cX12_factory 10 = .ok (.ifCond .eq 27, 3) := by decide +kernel
theorem dX12_factory_13 : decode cX12_factory 13 = .ok (.iload_n 2, 1) := by decide +kernel
theorem dX12_factory_14 : decode cX12_factory 14 = .ok (.i2l, 1) := by decide +kernel
theorem dX12_factory_15 : decode cX12_factory 15 = .ok (.lconst 0, 1) := by decide +kernel
theorem dX12_factory_16 : decode cX12_factory 16 = .ok (.ldc2_w 449, 3) := by decide +kernel
theorem dX12_factory_19 : decode cX12_factory 19 = .ok (.invokestatic 214, 3) := by decide +kernel
theorem dX12_factory_22 : decode cX12_factory 22 = .ok (.ifCond .eq 15, 3) := by decide +kernel
theorem dX12_factory_25 : decode cX12_factory 25 = .ok (.iload_n 3, 1) := by decide +kernel
theorem dX12_factory_26 : decode cX12_factory 26 = .ok (.i2l, 1) := by decide +kernel
theorem dX12_factory_27 : decode cX12_factory 27 = .ok (.lconst 0, 1) := by decide +kernel
theorem dX12_factory_28 : decode cX12_factory 28 = .ok (.ldc2_w 454, 3) := by decide +kernel
theorem dX12_factory_31 : decode cX12_factory 31 = .ok (.invokestatic 214, 3) := by decide +kernel
theorem dX12_factory_34 : decode cX12_factory 34 = .ok (.ifCond .ne 5, 3) := by decide +kernel
theorem dX12_factory_37 : decode cX12_factory 37 = .ok (.iconst (-1), 1) := by decide +kernel
theorem dX12_factory_38 : decode cX12_factory 38 = .ok (.ireturn, 1) := by decide +kernel
theorem dX12_factory_39 : decode cX12_factory 39 = .ok (.bipush 99, 2) := by decide +kernel
theorem dX12_factory_41 : decode cX12_factory 41 = .ok (.istore 4, 2) := by decide +kernel
theorem dX12_factory_43 : decode cX12_factory 43 = .ok (.iload 4, 2) := by decide +kernel
theorem dX12_factory_45 : decode cX12_factory 45 = .ok (.iload_n 2, 1) := by decide +kernel
theorem dX12_factory_46 : decode cX12_factory 46 = .ok (.if_icmp .lt 31, 3) := by decide +kernel
theorem dX12_factory_49 : decode cX12_factory 49 = .ok (.bipush 100, 2) := by decide +kernel
theorem dX12_factory_51 : decode cX12_factory 51 = .ok (.aload_n 0, 1) := by decide +kernel
theorem dX12_factory_52 : decode cX12_factory 52 = .ok (.iload_n 1, 1) := by decide +kernel
theorem dX12_factory_53 : decode cX12_factory 53 = .ok (.iload 4, 2) := by decide +kernel
theorem dX12_factory_55 : decode cX12_factory 55 = .ok (.invokevirtual 451, 3) := by decide +kernel
theorem dX12_factory_58 : decode cX12_factory 58 = .ok (.imul, 1) := by decide +kernel
theorem dX12_factory_59 : decode cX12_factory 59 = .ok (.aload_n 0, 1) := by decide +kernel
theorem dX12_factory_60 : decode cX12_factory 60 = .ok (.getfield 288, 3) := by decide +kernel
theorem dX12_factory_63 : decode cX12_factory 63 = .ok (.iload_n 3, 1) := by decide +kernel
theorem dX12_factory_64 : decode cX12_factory 64 = .ok (.imul, 1) := by decide +kernel
theorem dX12_factory_65 : decode cX12_factory 65 = .ok (.if_icmp .lt 6, 3) := by decide +kernel
theorem dX12_factory_68 : decode cX12_factory 68 = .ok (.iload 4, 2) := by decide +kernel
theorem dX12_factory_70 : decode cX12_factory 70 = .ok (.ireturn, 1) := by decide +kernel
theorem dX12_factory_71 : decode cX12_factory 71 = .ok (.iinc 4 (-1), 3) := by decide +kernel
theorem dX12_factory_74 : decode cX12_factory 74 = .ok (.goto (-31), 3) := by decide +kernel
theorem dX12_factory_77 : decode cX12_factory 77 = .ok (.iconst (-1), 1) := by decide +kernel
theorem dX12_factory_78 : decode cX12_factory 78 = .ok (.ireturn, 1) := by decide +kernel
theorem dX12_tried_0 : decode cX12_tried 0 = .ok (.aload_n 0, 1) := by decide +kernel
theorem dX12_tried_1 : decode cX12_tried 1 = .ok (.iconst 0, 1) := by decide +kernel
theorem dX12_tried_2 : decode cX12_tried 2 = .ok (.putfield 93, 3) := by decide +kernel
theorem dX12_tried_5 : decode cX12_tried 5 = .ok (.iload_n 1, 1) := by decide +kernel
theorem dX12_tried_6 : decode cX12_tried 6 = .ok (.i2l, 1) := by decide +kernel
theorem dX12_tried_7 : decode cX12_tried 7 = .ok (.lconst 0, 1) := by decide +kernel
theorem dX12_tried_8 : decode cX12_tried 8 = .ok (.ldc2_w 456, 3) := by decide +kernel
theorem dX12_tried_11 : decode cX12_tried 11 = .ok (.invokestatic 214, 3) := by decide +kernel
theorem dX12_tried_14 : decode cX12_tried 14 = .ok (.ifCond .eq 33, 3) := by decide +kernel
theorem dX12_tried_17 : decode cX12_tried 17 = .ok (.aload_n 0, 1) := by decide +kernel
theorem dX12_tried_18 : decode cX12_tried 18 = .ok (.getfield 294, 3) := by decide +kernel
theorem dX12_tried_21 : decode cX12_tried 21 = .ok (.bipush 20, 2) := by decide +kernel
theorem dX12_tried_23 : decode cX12_tried 23 = .ok (.if_icmp .eq 24, 3) := by decide +kernel
theorem dX12_tried_26 : decode cX12_tried 26 = .ok (.aload_n 0, 1) := by decide +kernel
theorem dX12_tried_27 : decode cX12_tried 27 = .ok (.getfield 294, 3) := by decide +kernel
theorem dX12_tried_30 : decode cX12_tried 30 = .ok (.ifCond .le 19, 3) := by decide +kernel
theorem dX12_tried_33 : decode cX12_tried 33 = .ok (.aload_n 0, 1) := by decide +kernel
theorem dX12_tried_34 : decode cX12_tried 34 = .ok (.getfield 86, 3) := by decide +kernel
theorem dX12_tried_37 : decode cX12_tried 37 = .ok (.aload_n 0, 1) := by decide +kernel
theorem dX12_tried_38 : decode cX12_tried 38 = .ok (.getfield 294, 3) := by decide +kernel
theorem dX12_tried_41 : decode cX12_tried 41 = .ok (.iconst 1, 1) := by decide +kernel
theorem dX12_tried_42 : decode cX12_tried 42 = .ok (.isub, 1) := by decide +kernel
theorem dX12_tried_43 : decode cX12_tried 43 = .ok (.baload, 1) := by decide +kernel
theorem dX12_tried_44 : decode cX12_tried 44 = .ok (.ifCond .eq 5, 3) := by decide +kernel
theorem dX12_tried_47 : decode cX12_tried 47 = .ok (.iconst (-1), 1) := by decide +kernel
theorem dX12_tried_48 : decode cX12_tried 48 = .ok (.ireturn, 1) := by decide +kernel
theorem dX12_tried_49 : decode cX12_tried 49 = .ok (.aload_n 0, 1) := by decide +kernel
theorem dX12_tried_50 : decode cX12_tried 50 = .ok (.getfield 83, 3) := by decide +kernel
theorem dX12_tried_53 : decode cX12_tried 53 = .ok (.aload_n 0, 1) := by decide +kernel
theorem dX12_tried_54 : decode cX12_tried 54 = .ok (.getfield 294, 3) := by decide +kernel
theorem dX12_tried_57 : decode cX12_tried 57 = .ok (.iload_n 1, 1) := by decide +kernel
theorem dX12_tried_58 : decode cX12_tried 58 = .ok (.iastore, 1) := by decide +kernel
theorem dX12_tried_59 : decode cX12_tried 59 = .ok (.aload_n 0, 1) := by decide +kernel
theorem dX12_tried_60 : decode cX12_tried 60 = .ok (.getfield 86, 3) := by decide +kernel
theorem dX12_tried_63 : decode cX12_tried 63 = .ok (.aload_n 0, 1) := by decide +kernel
theorem dX12_tried_64 : decode cX12_tried 64 = .ok (.getfield 294, 3) := by decide +kernel
theorem dX12_tried_67 : decode cX12_tried 67 = .ok (.iload_n 2, 1) := by decide +kernel
theorem dX12_tried_68 : decode cX12_tried 68 = .ok (.bastore, 1) := by decide +kernel
theorem dX12_tried_69 : decode cX12_tried 69 = .ok (.aload_n 0, 1) := by decide +kernel
theorem dX12_tried_70 : decode cX12_tried 70 = .ok (.dup, 1) := by decide +kernel
theorem dX12_tried_71 : decode cX12_tried 71 = .ok (.getfield 294, 3) := by decide +kernel
theorem dX12_tried_74 : decode cX12_tried 74 = .ok (.iconst 1, 1) := by decide +kernel
theorem dX12_tried_75 : decode cX12_tried 75 = .ok (.iadd, 1) := by decide +kernel
theorem dX12_tried_76 : decode cX12_tried 76 = .ok (.putfield 294, 3) := by decide +kernel
theorem dX12_tried_79 : decode cX12_tried 79 = .ok (.aload_n 0, 1) := by decide +kernel
theorem dX12_tried_80 : decode cX12_tried 80 = .ok (.getfield 294, 3) := by decide +kernel
theorem dX12_tried_83 : decode cX12_tried 83 = .ok (.ireturn, 1) := by decide +kernel
theorem dX12_forgive_0 : decode cX12_forgive 0 = .ok (.aload_n 0, 1) := by decide +kernel
theorem dX12_forgive_1 : decode cX12_forgive 1 = .ok (.iconst 0, 1) := by decide +kernel
theorem dX12_forgive_2 : decode cX12_forgive 2 = .ok (.putfield 93, 3) := by decide +kernel
theorem dX12_forgive_5 : decode cX12_forgive 5 = .ok (.aload_n 0, 1) := by decide +kernel
theorem dX12_forgive_6 : decode cX12_forgive 6 = .ok (.getfield 294, 3) := by decide +kernel
theorem dX12_forgive_9 : decode cX12_forgive 9 = .ok (.ifCond .ne 5, 3) := by decide +kernel
theorem dX12_forgive_12 : decode cX12_forgive 12 = .ok (.iconst 0, 1) := by decide +kernel
theorem dX12_forgive_13 : decode cX12_forgive 13 = .ok (.ireturn, 1) := by decide +kernel
theorem dX12_forgive_14 : decode cX12_forgive 14 = .ok (.aload_n 0, 1) := by decide +kernel
theorem dX12_forgive_15 : decode cX12_forgive 15 = .ok (.iconst 0, 1) := by decide +kernel
theorem dX12_forgive_16 : decode cX12_forgive 16 = .ok (.putfield 294, 3) := by decide +kernel
theorem dX12_forgive_19 : decode cX12_forgive 19 = .ok (.iconst 1, 1) := by decide +kernel
theorem dX12_forgive_20 : decode cX12_forgive 20 = .ok (.ireturn, 1) := by decide +kernel
theorem dX12_leftOf_0 : decode cX12_leftOf 0 = .ok (.iload_n 1, 1) := by decide +kernel
theorem dX12_leftOf_1 : decode cX12_leftOf 1 = .ok (.istore_n 2, 1) := by decide +kernel
theorem dX12_leftOf_2 : decode cX12_leftOf 2 = .ok (.iconst 0, 1) := by decide +kernel
theorem dX12_leftOf_3 : decode cX12_leftOf 3 = .ok (.istore_n 3, 1) := by decide +kernel
theorem dX12_leftOf_4 : decode cX12_leftOf 4 = .ok (.iload_n 3, 1) := by decide +kernel
theorem dX12_leftOf_5 : decode cX12_leftOf 5 = .ok (.aload_n 0, 1) := by decide +kernel
theorem dX12_leftOf_6 : decode cX12_leftOf 6 = .ok (.getfield 294, 3) := by decide +kernel
theorem dX12_leftOf_9 : decode cX12_leftOf 9 = .ok (.if_icmp .ge 60, 3) := by decide +kernel
theorem dX12_leftOf_12 : decode cX12_leftOf 12 = .ok (.aload_n 0, 1) := by decide +kernel
theorem dX12_leftOf_13 : decode cX12_leftOf 13 = .ok (.getfield 86, 3) := by decide +kernel
theorem dX12_leftOf_16 : decode cX12_leftOf 16 = .ok (.iload_n 3, 1) := by decide +kernel
theorem dX12_leftOf_17 : decode cX12_leftOf 17 = .ok (.baload, 1) := by decide +kernel
theorem dX12_leftOf_18 : decode cX12_leftOf 18 = .ok (.aload_n 0, 1) := by decide +kernel
theorem dX12_leftOf_19 : decode cX12_leftOf 19 = .ok (.getfield 83, 3) := by decide +kernel
theorem dX12_leftOf_22 : decode cX12_leftOf 22 = .ok (.iload_n 3, 1) := by decide +kernel
theorem dX12_leftOf_23 : decode cX12_leftOf 23 = .ok (.iaload, 1) := by decide +kernel
theorem dX12_leftOf_24 : decode cX12_leftOf 24 = .ok (.iload_n 2, 1) := by decide +kernel
theorem dX12_leftOf_25 : decode cX12_leftOf 25 = .ok (.if_icmp .lt 7, 3) := by decide +kernel
theorem dX12_leftOf_28 : decode cX12_leftOf 28 = .ok (.iconst 1, 1) := by decide +kernel
theorem dX12_leftOf_29 : decode cX12_leftOf 29 = .ok (.goto 4, 3) := by decide +kernel
theorem dX12_leftOf_32 : decode cX12_leftOf 32 = .ok (.iconst 0, 1) := by decide +kernel
theorem dX12_leftOf_33 : decode cX12_leftOf 33 = .ok (.if_icmp .eq 5, 3) := by decide +kernel
theorem dX12_leftOf_36 : decode cX12_leftOf 36 = .ok (.iconst (-1), 1) := by decide +kernel
theorem dX12_leftOf_37 : decode cX12_leftOf 37 = .ok (.ireturn, 1) := by decide +kernel
theorem dX12_leftOf_38 : decode cX12_leftOf 38 = .ok (.aload_n 0, 1) := by decide +kernel
theorem dX12_leftOf_39 : decode cX12_leftOf 39 = .ok (.getfield 86, 3) := by decide +kernel
theorem dX12_leftOf_42 : decode cX12_leftOf 42 = .ok (.iload_n 3, 1) := by decide +kernel
theorem dX12_leftOf_43 : decode cX12_leftOf 43 = .ok (.baload, 1) := by decide +kernel
theorem dX12_leftOf_44 : decode cX12_leftOf 44 = .ok (.ifCond .ne 19, 3) := by decide +kernel
theorem dX12_leftOf_47 : decode cX12_leftOf 47 = .ok (.iconst 0, 1) := by decide +kernel
theorem dX12_leftOf_48 : decode cX12_leftOf 48 = .ok (.iload_n 2, 1) := by decide +kernel
theorem dX12_leftOf_49 : decode cX12_leftOf 49 = .ok (.aload_n 0, 1) := by decide +kernel
theorem dX12_leftOf_50 : decode cX12_leftOf 50 = .ok (.getfield 83, 3) := by decide +kernel
theorem dX12_leftOf_53 : decode cX12_leftOf 53 = .ok (.iload_n 3, 1) := by decide +kernel
theorem dX12_leftOf_54 : decode cX12_leftOf 54 = .ok (.iaload, 1) := by decide +kernel
theorem dX12_leftOf_55 : decode cX12_leftOf 55 = .ok (.bipush 10, 2) := by decide +kernel
theorem dX12_leftOf_57 : decode cX12_leftOf 57 = .ok (.idiv, 1) := by decide +kernel
theorem dX12_leftOf_58 : decode cX12_leftOf 58 = .ok (.isub, 1) := by decide +kernel
theorem dX12_leftOf_59 : decode cX12_leftOf 59 = .ok (.invokestatic 308, 3) := by decide +kernel
theorem dX12_leftOf_62 : decode cX12_leftOf 62 = .ok (.istore_n 2, 1) := by decide +kernel
theorem dX12_leftOf_63 : decode cX12_leftOf 63 = .ok (.iinc 3 1, 3) := by decide +kernel
theorem dX12_leftOf_66 : decode cX12_leftOf 66 = .ok (.goto (-62), 3) := by decide +kernel
theorem dX12_leftOf_69 : decode cX12_leftOf 69 = .ok (.iload_n 2, 1) := by decide +kernel
theorem dX12_leftOf_70 : decode cX12_leftOf 70 = .ok (.ireturn, 1) := by decide +kernel
theorem dX12_tight_0 : decode cX12_tight 0 = .ok (.aload_n 0, 1) := by decide +kernel
theorem dX12_tight_1 : decode cX12_tight 1 = .ok (.iconst 0, 1) := by decide +kernel
theorem dX12_tight_2 : decode cX12_tight 2 = .ok (.putfield 93, 3) := by decide +kernel
theorem dX12_tight_5 : decode cX12_tight 5 = .ok (.iload_n 1, 1) := by decide +kernel
theorem dX12_tight_6 : decode cX12_tight 6 = .ok (.i2l, 1) := by decide +kernel
theorem dX12_tight_7 : decode cX12_tight 7 = .ok (.lconst 0, 1) := by decide +kernel
theorem dX12_tight_8 : decode cX12_tight 8 = .ok (.ldc2_w 266, 3) := by decide +kernel
theorem dX12_tight_11 : decode cX12_tight 11 = .ok (.invokestatic 214, 3) := by decide +kernel
theorem dX12_tight_14 : decode cX12_tight 14 = .ok (.ifCond .ne 7, 3) := by decide +kernel
theorem dX12_tight_17 : decode cX12_tight 17 = .ok (.ldc_w 389, 3) := by decide +kernel
theorem dX12_tight_20 : decode cX12_tight 20 = .ok (.ireturn, 1) := by decide +kernel
theorem dX12_tight_21 : decode cX12_tight 21 = .ok (.iconst 0, 1) := by decide +kernel
theorem dX12_tight_22 : decode cX12_tight 22 = .ok (.istore_n 2, 1) := by decide +kernel
theorem dX12_tight_23 : decode cX12_tight 23 = .ok (.iconst (-1), 1) := by decide +kernel
theorem dX12_tight_24 : decode cX12_tight 24 = .ok (.istore_n 3, 1) := by decide +kernel
theorem dX12_tight_25 : decode cX12_tight 25 = .ok (.iconst (-1), 1) := by decide +kernel
theorem dX12_tight_26 : decode cX12_tight 26 = .ok (.istore 4, 2) := by decide +kernel
theorem dX12_tight_28 : decode cX12_tight 28 = .ok (.iconst 0, 1) := by decide +kernel
theorem dX12_tight_29 : decode cX12_tight 29 = .ok (.istore 5, 2) := by decide +kernel
theorem dX12_tight_31 : decode cX12_tight 31 = .ok (.iload 5, 2) := by decide +kernel
theorem dX12_tight_33 : decode cX12_tight 33 = .ok (.sipush 300, 3) := by decide +kernel
theorem dX12_tight_36 : decode cX12_tight 36 = .ok (.if_icmp .gt 41, 3) := by decide +kernel
theorem dX12_tight_39 : decode cX12_tight 39 = .ok (.aload_n 0, 1) := by decide +kernel
theorem dX12_tight_40 : decode cX12_tight 40 = .ok (.iload 5, 2) := by decide +kernel
theorem dX12_tight_42 : decode cX12_tight 42 = .ok (.invokevirtual 458, 3) := by decide +kernel
theorem dX12_tight_45 : decode cX12_tight 45 = .ok (.iconst (-1), 1) := by decide +kernel
theorem dX12_tight_46 : decode cX12_tight 46 = .ok (.if_icmp .ne 6, 3) := by decide +kernel
theorem dX12_tight_49 : decode cX12_tight 49 = .ok (.goto 22, 3) := by decide +kernel
theorem dX12_tight_52 : decode cX12_tight 52 = .ok (.iinc 2 1, 3) := by decide +kernel
theorem dX12_tight_55 : decode cX12_tight 55 = .ok (.iload_n 3, 1) := by decide +kernel
theorem dX12_tight_56 : decode cX12_tight 56 = .ok (.iconst (-1), 1) := by decide +kernel
theorem dX12_tight_57 : decode cX12_tight 57 = .ok (.if_icmp .ne 8, 3) := by decide +kernel
theorem dX12_tight_60 : decode cX12_tight 60 = .ok (.iload 5, 2) := by decide +kernel
theorem dX12_tight_62 : decode cX12_tight 62 = .ok (.goto 4, 3) := by decide +kernel
theorem dX12_tight_65 : decode cX12_tight 65 = .ok (.iload_n 3, 1) := by decide +kernel
theorem dX12_tight_66 : decode cX12_tight 66 = .ok (.istore_n 3, 1) := by decide +kernel
theorem dX12_tight_67 : decode cX12_tight 67 = .ok (.iload 5, 2) := by decide +kernel
theorem dX12_tight_69 : decode cX12_tight 69 = .ok (.istore 4, 2) := by decide +kernel
theorem dX12_tight_71 : decode cX12_tight 71 = .ok (.iinc 5 1, 3) := by decide +kernel
theorem dX12_tight_74 : decode cX12_tight 74 = .ok (.goto (-43), 3) := by decide +kernel
theorem dX12_tight_77 : decode cX12_tight 77 = .ok (.iload_n 1, 1) := by decide +kernel
theorem dX12_tight_78 : decode cX12_tight 78 = .ok (.ifCond .ne 7, 3) := by decide +kernel
theorem dX12_tight_81 : decode cX12_tight 81 = .ok (.iload_n 2, 1) := by decide +kernel
theorem dX12_tight_82 : decode cX12_tight 82 = .ok (.goto 14, 3) := by decide +kernel
theorem dX12_tight_85 : decode cX12_tight 85 = .ok (.iload_n 1, 1) := by decide +kernel
theorem dX12_tight_86 : decode cX12_tight 86 = .ok (.iconst 1, 1) := by decide +kernel
theorem dX12_tight_87 : decode cX12_tight 87 = .ok (.if_icmp .ne 7, 3) := by decide +kernel
theorem dX12_tight_90 : decode cX12_tight 90 = .ok (.iload_n 3, 1) := by decide +kernel
theorem dX12_tight_91 : decode cX12_tight 91 = .ok (.goto 5, 3) := by decide +kernel
theorem dX12_tight_94 : decode cX12_tight 94 = .ok (.iload 4, 2) := by decide +kernel
theorem dX12_tight_96 : decode cX12_tight 96 = .ok (.ireturn, 1) := by decide +kernel
theorem dX12_next_0 : decode cX12_next 0 = .ok (.aload_n 0, 1) := by decide +kernel
theorem dX12_next_1 : decode cX12_next 1 = .ok (.iconst 0, 1) := by decide +kernel
theorem dX12_next_2 : decode cX12_next 2 = .ok (.putfield 93, 3) := by decide +kernel
theorem dX12_next_5 : decode cX12_next 5 = .ok (.iload_n 1, 1) := by decide +kernel
theorem dX12_next_6 : decode cX12_next 6 = .ok (.i2l, 1) := by decide +kernel
theorem dX12_next_7 : decode cX12_next 7 = .ok (.lconst 0, 1) := by decide +kernel
theorem dX12_next_8 : decode cX12_next 8 = .ok (.ldc2_w 456, 3) := by decide +kernel
theorem dX12_next_11 : decode cX12_next 11 = .ok (.invokestatic 214, 3) := by decide +kernel
theorem dX12_next_14 : decode cX12_next 14 = .ok (.ifCond .ne 5, 3) := by decide +kernel
theorem dX12_next_17 : decode cX12_next 17 = .ok (.iconst (-1), 1) := by decide +kernel
theorem dX12_next_18 : decode cX12_next 18 = .ok (.ireturn, 1) := by decide +kernel
theorem dX12_next_19 : decode cX12_next 19 = .ok (.iconst 0, 1) := by decide +kernel
theorem dX12_next_20 : decode cX12_next 20 = .ok (.istore_n 2, 1) := by decide +kernel
theorem dX12_next_21 : decode cX12_next 21 = .ok (.iconst 0, 1) := by decide +kernel
theorem dX12_next_22 : decode cX12_next 22 = .ok (.istore_n 3, 1) := by decide +kernel
theorem dX12_next_23 : decode cX12_next 23 = .ok (.iload_n 3, 1) := by decide +kernel
theorem dX12_next_24 : decode cX12_next 24 = .ok (.sipush 300, 3) := by decide +kernel
theorem dX12_next_27 : decode cX12_next 27 = .ok (.if_icmp .gt 35, 3) := by decide +kernel
theorem dX12_next_30 : decode cX12_next 30 = .ok (.iload_n 2, 1) := by decide +kernel
theorem dX12_next_31 : decode cX12_next 31 = .ok (.aload_n 0, 1) := by decide +kernel
theorem dX12_next_32 : decode cX12_next 32 = .ok (.iload_n 3, 1) := by decide +kernel
theorem dX12_next_33 : decode cX12_next 33 = .ok (.invokevirtual 458, 3) := by decide +kernel
theorem dX12_next_36 : decode cX12_next 36 = .ok (.iconst (-1), 1) := by decide +kernel
theorem dX12_next_37 : decode cX12_next 37 = .ok (.if_icmp .eq 16, 3) := by decide +kernel
theorem dX12_next_40 : decode cX12_next 40 = .ok (.iload_n 1, 1) := by decide +kernel
theorem dX12_next_41 : decode cX12_next 41 = .ok (.aload_n 0, 1) := by decide +kernel
theorem dX12_next_42 : decode cX12_next 42 = .ok (.iload_n 3, 1) := by decide +kernel
theorem dX12_next_43 : decode cX12_next 43 = .ok (.invokevirtual 458, 3) := by decide +kernel
theorem dX12_next_46 : decode cX12_next 46 = .ok (.if_icmp .lt 7, 3) := by decide +kernel
theorem dX12_next_49 : decode cX12_next 49 = .ok (.iconst 1, 1) := by decide +kernel
theorem dX12_next_50 : decode cX12_next 50 = .ok (.goto 4, 3) := by decide +kernel
theorem dX12_next_53 : decode cX12_next 53 = .ok (.iconst 0, 1) := by decide +kernel
theorem dX12_next_54 : decode cX12_next 54 = .ok (.iadd, 1) := by decide +kernel
theorem dX12_next_55 : decode cX12_next 55 = .ok (.istore_n 2, 1) := by decide +kernel
theorem dX12_next_56 : decode cX12_next 56 = .ok (.iinc 3 1, 3) := by decide +kernel
theorem dX12_next_59 : decode cX12_next 59 = .ok (.goto (-36), 3) := by decide +kernel
theorem dX12_next_62 : decode cX12_next 62 = .ok (.iload_n 2, 1) := by decide +kernel
theorem dX12_next_63 : decode cX12_next 63 = .ok (.ireturn, 1) := by decide +kernel
theorem dX12_who_0 : decode cX12_who 0 = .ok (.aload_n 0, 1) := by decide +kernel
theorem dX12_who_1 : decode cX12_who 1 = .ok (.iconst 0, 1) := by decide +kernel
theorem dX12_who_2 : decode cX12_who 2 = .ok (.putfield 93, 3) := by decide +kernel
theorem dX12_who_5 : decode cX12_who 5 = .ok (.aload_n 0, 1) := by decide +kernel
theorem dX12_who_6 : decode cX12_who 6 = .ok (.getfield 285, 3) := by decide +kernel
theorem dX12_who_9 : decode cX12_who 9 = .ok (.ifCond .eq 27, 3) := by decide +kernel
theorem dX12_who_12 : decode cX12_who 12 = .ok (.iload_n 1, 1) := by decide +kernel
theorem dX12_who_13 : decode cX12_who 13 = .ok (.i2l, 1) := by decide +kernel
theorem dX12_who_14 : decode cX12_who 14 = .ok (.lconst 0, 1) := by decide +kernel
theorem dX12_who_15 : decode cX12_who 15 = .ok (.ldc2_w 449, 3) := by decide +kernel
theorem dX12_who_18 : decode cX12_who 18 = .ok (.invokestatic 214, 3) := by decide +kernel
theorem dX12_who_21 : decode cX12_who 21 = .ok (.ifCond .eq 15, 3) := by decide +kernel
theorem dX12_who_24 : decode cX12_who 24 = .ok (.iload_n 2, 1) := by decide +kernel
theorem dX12_who_25 : decode cX12_who 25 = .ok (.i2l, 1) := by decide +kernel
theorem dX12_who_26 : decode cX12_who 26 = .ok (.lconst 0, 1) := by decide +kernel
theorem dX12_who_27 : decode cX12_who 27 = .ok (.ldc2_w 449, 3) := by decide +kernel
theorem dX12_who_30 : decode cX12_who 30 = .ok (.invokestatic 214, 3) := by decide +kernel
theorem dX12_who_33 : decode cX12_who 33 = .ok (.ifCond .ne 5, 3) := by decide +kernel
theorem dX12_who_36 : decode cX12_who 36 = .ok (.iconst (-1), 1) := by decide +kernel
theorem dX12_who_37 : decode cX12_who 37 = .ok (.ireturn, 1) := by decide +kernel
theorem dX12_who_38 : decode cX12_who 38 = .ok (.iconst 0, 1) := by decide +kernel
theorem dX12_who_39 : decode cX12_who 39 = .ok (.istore_n 3, 1) := by decide +kernel
theorem dX12_who_40 : decode cX12_who 40 = .ok (.iconst 0, 1) := by decide +kernel
theorem dX12_who_41 : decode cX12_who 41 = .ok (.istore 4, 2) := by decide +kernel
theorem dX12_who_43 : decode cX12_who 43 = .ok (.iload 4, 2) := by decide +kernel
theorem dX12_who_45 : decode cX12_who 45 = .ok (.aload_n 0, 1) := by decide +kernel
theorem dX12_who_46 : decode cX12_who 46 = .ok (.getfield 288, 3) := by decide +kernel
theorem dX12_who_49 : decode cX12_who 49 = .ok (.if_icmp .ge 40, 3) := by decide +kernel
theorem dX12_who_52 : decode cX12_who 52 = .ok (.iload_n 3, 1) := by decide +kernel
theorem dX12_who_53 : decode cX12_who 53 = .ok (.aload_n 0, 1) := by decide +kernel
theorem dX12_who_54 : decode cX12_who 54 = .ok (.getfield 43, 3) := by decide +kernel
theorem dX12_who_57 : decode cX12_who 57 = .ok (.iconst 5, 1) := by decide +kernel
theorem dX12_who_58 : decode cX12_who 58 = .ok (.iload 4, 2) := by decide +kernel
theorem dX12_who_60 : decode cX12_who 60 = .ok (.imul, 1) := by decide +kernel
theorem dX12_who_61 : decode cX12_who 61 = .ok (.iaload, 1) := by decide +kernel
theorem dX12_who_62 : decode cX12_who 62 = .ok (.iconst 2, 1) := by decide +kernel
theorem dX12_who_63 : decode cX12_who 63 = .ok (.idiv, 1) := by decide +kernel
theorem dX12_who_64 : decode cX12_who 64 = .ok (.iload_n 1, 1) := by decide +kernel
theorem dX12_who_65 : decode cX12_who 65 = .ok (.isub, 1) := by decide +kernel
theorem dX12_who_66 : decode cX12_who 66 = .ok (.invokestatic 461, 3) := by decide +kernel
theorem dX12_who_69 : decode cX12_who 69 = .ok (.iload_n 2, 1) := by decide +kernel
theorem dX12_who_70 : decode cX12_who 70 = .ok (.if_icmp .gt 10, 3) := by decide +kernel
theorem dX12_who_73 : decode cX12_who 73 = .ok (.iconst 1, 1) := by decide +kernel
theorem dX12_who_74 : decode cX12_who 74 = .ok (.iload 4, 2) := by decide +kernel
theorem dX12_who_76 : decode cX12_who 76 = .ok (.ishl, 1) := by decide +kernel
theorem dX12_who_77 : decode cX12_who 77 = .ok (.goto 4, 3) := by decide +kernel
theorem dX12_who_80 : decode cX12_who 80 = .ok (.iconst 0, 1) := by decide +kernel
theorem dX12_who_81 : decode cX12_who 81 = .ok (.ior, 1) := by decide +kernel
theorem dX12_who_82 : decode cX12_who 82 = .ok (.istore_n 3, 1) := by decide +kernel
theorem dX12_who_83 : decode cX12_who 83 = .ok (.iinc 4 1, 3) := by decide +kernel
theorem dX12_who_86 : decode cX12_who 86 = .ok (.goto (-43), 3) := by decide +kernel
theorem dX12_who_89 : decode cX12_who 89 = .ok (.iload_n 3, 1) := by decide +kernel
theorem dX12_who_90 : decode cX12_who 90 = .ok (.ireturn, 1) := by decide +kernel
theorem dX12_lefties_0 : decode cX12_lefties 0 = .ok (.aload_n 0, 1) := by decide +kernel
theorem dX12_lefties_1 : decode cX12_lefties 1 = .ok (.iconst 0, 1) := by decide +kernel
theorem dX12_lefties_2 : decode cX12_lefties 2 = .ok (.putfield 93, 3) := by decide +kernel
theorem dX12_lefties_5 : decode cX12_lefties 5 = .ok (.aload_n 0, 1) := by decide +kernel
theorem dX12_lefties_6 : decode cX12_lefties 6 = .ok (.getfield 285, 3) := by decide +kernel
theorem dX12_lefties_9 : decode cX12_lefties 9 = .ok (.ifCond .ne 5, 3) := by decide +kernel
theorem dX12_lefties_12 : decode cX12_lefties 12 = .ok (.iconst (-1), 1) := by decide +kernel
theorem dX12_lefties_13 : decode cX12_lefties 13 = .ok (.ireturn, 1) := by decide +kernel
theorem dX12_lefties_14 : decode cX12_lefties 14 = .ok (.iconst 0, 1) := by decide +kernel
theorem dX12_lefties_15 : decode cX12_lefties 15 = .ok (.istore_n 1, 1) := by decide +kernel
theorem dX12_lefties_16 : decode cX12_lefties 16 = .ok (.iconst 0, 1) := by decide +kernel
theorem dX12_lefties_17 : decode cX12_lefties 17 = .ok (.istore_n 2, 1) := by decide +kernel
theorem dX12_lefties_18 : decode cX12_lefties 18 = .ok (.iload_n 2, 1) := by decide +kernel
theorem dX12_lefties_19 : decode cX12_lefties 19 = .ok (.aload_n 0, 1) := by decide +kernel
theorem dX12_lefties_20 : decode cX12_lefties 20 = .ok (.getfield 285, 3) := by decide +kernel
theorem dX12_lefties_23 : decode cX12_lefties 23 = .ok (.if_icmp .ge 25, 3) := by decide +kernel
theorem dX12_lefties_26 : decode cX12_lefties 26 = .ok (.iload_n 1, 1) := by decide +kernel
theorem dX12_lefties_27 : decode cX12_lefties 27 = .ok (.aload_n 0, 1) := by decide +kernel
theorem dX12_lefties_28 : decode cX12_lefties 28 = .ok (.getfield 37, 3) := by decide +kernel
theorem dX12_lefties_31 : decode cX12_lefties 31 = .ok (.bipush 6, 2) := by decide +kernel
theorem dX12_lefties_33 : decode cX12_lefties 33 = .ok (.iload_n 2, 1) := by decide +kernel
theorem dX12_lefties_34 : decode cX12_lefties 34 = .ok (.imul, 1) := by decide +kernel
theorem dX12_lefties_35 : decode cX12_lefties 35 = .ok (.iconst 3, 1) := by decide +kernel
theorem dX12_lefties_36 : decode cX12_lefties 36 = .ok (.iadd, 1) := by decide +kernel
theorem dX12_lefties_37 : decode cX12_lefties 37 = .ok (.iaload, 1) := by decide +kernel
theorem dX12_lefties_38 : decode cX12_lefties 38 = .ok (.iload_n 2, 1) := by decide +kernel
theorem dX12_lefties_39 : decode cX12_lefties 39 = .ok (.ishl, 1) := by decide +kernel
theorem dX12_lefties_40 : decode cX12_lefties 40 = .ok (.ior, 1) := by decide +kernel
theorem dX12_lefties_41 : decode cX12_lefties 41 = .ok (.istore_n 1, 1) := by decide +kernel
theorem dX12_lefties_42 : decode cX12_lefties 42 = .ok (.iinc 2 1, 3) := by decide +kernel
theorem dX12_lefties_45 : decode cX12_lefties 45 = .ok (.goto (-27), 3) := by decide +kernel
theorem dX12_lefties_48 : decode cX12_lefties 48 = .ok (.iload_n 1, 1) := by decide +kernel
theorem dX12_lefties_49 : decode cX12_lefties 49 = .ok (.ireturn, 1) := by decide +kernel
theorem dX12_draw_0 : decode cX12_draw 0 = .ok (.aload_n 0, 1) := by decide +kernel
theorem dX12_draw_1 : decode cX12_draw 1 = .ok (.aload_n 0, 1) := by decide +kernel
theorem dX12_draw_2 : decode cX12_draw 2 = .ok (.getfield 464, 3) := by decide +kernel
theorem dX12_draw_5 : decode cX12_draw 5 = .ok (.ldc2_w 468, 3) := by decide +kernel
theorem dX12_draw_8 : decode cX12_draw 8 = .ok (.lmul, 1) := by decide +kernel
theorem dX12_draw_9 : decode cX12_draw 9 = .ok (.ldc2_w 470, 3) := by decide +kernel
theorem dX12_draw_12 : decode cX12_draw 12 = .ok (.ladd, 1) := by decide +kernel
theorem dX12_draw_13 : decode cX12_draw 13 = .ok (.putfield 464, 3) := by decide +kernel
theorem dX12_draw_16 : decode cX12_draw 16 = .ok (.aload_n 0, 1) := by decide +kernel
theorem dX12_draw_17 : decode cX12_draw 17 = .ok (.getfield 464, 3) := by decide +kernel
theorem dX12_draw_20 : decode cX12_draw 20 = .ok (.bipush 33, 2) := by decide +kernel
theorem dX12_draw_22 : decode cX12_draw 22 = .ok (.lushr, 1) := by decide +kernel
theorem dX12_draw_23 : decode cX12_draw 23 = .ok (.iload_n 1, 1) := by decide +kernel
theorem dX12_draw_24 : decode cX12_draw 24 = .ok (.i2l, 1) := by decide +kernel
theorem dX12_draw_25 : decode cX12_draw 25 = .ok (.lrem, 1) := by decide +kernel
theorem dX12_draw_26 : decode cX12_draw 26 = .ok (.l2i, 1) := by decide +kernel
theorem dX12_draw_27 : decode cX12_draw 27 = .ok (.ireturn, 1) := by decide +kernel
theorem dX12_evening_0 : decode cX12_evening 0 = .ok (.aload_n 0, 1) := by decide +kernel
theorem dX12_evening_1 : decode cX12_evening 1 = .ok (.iconst 0, 1) := by decide +kernel
theorem dX12_evening_2 : decode cX12_evening 2 = .ok (.putfield 93, 3) := by decide +kernel
theorem dX12_evening_5 : decode cX12_evening 5 = .ok (.aload_n 0, 1) := by decide +kernel
theorem dX12_evening_6 : decode cX12_evening 6 = .ok (.invokevirtual 364, 3) := by decide +kernel
theorem dX12_evening_9 : decode cX12_evening 9 = .ok (.ifCond .eq 15, 3) := by decide +kernel
theorem dX12_evening_12 : decode cX12_evening 12 = .ok (.iload_n 1, 1) := by decide +kernel
theorem dX12_evening_13 : decode cX12_evening 13 = .ok (.i2l, 1) := by decide +kernel
theorem dX12_evening_14 : decode cX12_evening 14 = .ok (.lconst 1, 1) := by decide +kernel
theorem dX12_evening_15 : decode cX12_evening 15 = .ok (.ldc2_w 472, 3) := by decide +kernel
theorem dX12_evening_18 : decode cX12_evening 18 = .ok (.invokestatic 214, 3) := by decide +kernel
theorem dX12_evening_21 : decode cX12_evening 21 = .ok (.ifCond .ne 5, 3) := by decide +kernel
theorem dX12_evening_24 : decode cX12_evening 24 = .ok (.iconst (-1), 1) := by decide +kernel
theorem dX12_evening_25 : decode cX12_evening 25 = .ok (.ireturn, 1) := by decide +kernel
theorem dX12_evening_26 : decode cX12_evening 26 = .ok (.aload_n 0, 1) := by decide +kernel
theorem dX12_evening_27 : decode cX12_evening 27 = .ok (.lload_n 2, 1) := by decide +kernel
theorem dX12_evening_28 : decode cX12_evening 28 = .ok (.putfield 464, 3) := by decide +kernel
theorem dX12_evening_31 : decode cX12_evening 31 = .ok (.iconst 0, 1) := by decide +kernel
theorem dX12_evening_32 : decode cX12_evening 32 = .ok (.istore 4, 2) := by decide +kernel
theorem dX12_evening_34 : decode cX12_evening 34 = .ok (.iload 4, 2) := by decide +kernel
theorem dX12_evening_36 : decode cX12_evening 36 = .ok (.iload_n 1, 1) := by decide +kernel
theorem dX12_evening_37 : decode cX12_evening 37 = .ok (.if_icmp .ge 137, 3) := by decide +kernel
theorem dX12_evening_40 : decode cX12_evening 40 = .ok (.aload_n 0, 1) := by decide +kernel
theorem dX12_evening_41 : decode cX12_evening 41 = .ok (.getfield 61, 3) := by decide +kernel
theorem dX12_evening_44 : decode cX12_evening 44 = .ok (.invokestatic 354, 3) := by decide +kernel
theorem dX12_evening_47 : decode cX12_evening 47 = .ok (.ifCond .ne 127, 3) := by decide +kernel
theorem dX12_evening_50 : decode cX12_evening 50 = .ok (.aload_n 0, 1) := by decide +kernel
theorem dX12_evening_51 : decode cX12_evening 51 = .ok (.aload_n 0, 1) := by decide +kernel
theorem dX12_evening_52 : decode cX12_evening 52 = .ok (.getfield 288, 3) := by decide +kernel
theorem dX12_evening_55 : decode cX12_evening 55 = .ok (.invokevirtual 474, 3) := by decide +kernel
theorem dX12_evening_58 : decode cX12_evening 58 = .ok (.istore 5, 2) := by decide +kernel
theorem dX12_evening_60 : decode cX12_evening 60 = .ok (.aload_n 0, 1) := by decide +kernel
theorem dX12_evening_61 : decode cX12_evening 61 = .ok (.aload_n 0, 1) := by decide +kernel
theorem dX12_evening_62 : decode cX12_evening 62 = .ok (.getfield 291, 3) := by decide +kernel
theorem dX12_evening_65 : decode cX12_evening 65 = .ok (.iconst 1, 1) := by decide +kernel
theorem dX12_evening_66 : decode cX12_evening 66 = .ok (.iadd, 1) := by decide +kernel
theorem dX12_evening_67 : decode cX12_evening 67 = .ok (.invokevirtual 474, 3) := by decide +kernel
theorem dX12_evening_70 : decode cX12_evening 70 = .ok (.istore 6, 2) := by decide +kernel
theorem dX12_evening_72 : decode cX12_evening 72 = .ok (.aload_n 0, 1) := by decide +kernel
theorem dX12_evening_73 : decode cX12_evening 73 = .ok (.aload_n 0, 1) := by decide +kernel
theorem dX12_evening_74 : decode cX12_evening 74 = .ok (.getfield 43, 3) := by decide +kernel
theorem dX12_evening_77 : decode cX12_evening 77 = .ok (.iconst 5, 1) := by decide +kernel
theorem dX12_evening_78 : decode cX12_evening 78 = .ok (.iload 5, 2) := by decide +kernel
theorem dX12_evening_80 : decode cX12_evening 80 = .ok (.imul, 1) := by decide +kernel
theorem dX12_evening_81 : decode cX12_evening 81 = .ok (.iconst 4, 1) := by decide +kernel
theorem dX12_evening_82 : decode cX12_evening 82 = .ok (.iadd, 1) := by decide +kernel
theorem dX12_evening_83 : decode cX12_evening 83 = .ok (.iaload, 1) := by decide +kernel
theorem dX12_evening_84 : decode cX12_evening 84 = .ok (.iconst 1, 1) := by decide +kernel
theorem dX12_evening_85 : decode cX12_evening 85 = .ok (.iadd, 1) := by decide +kernel
theorem dX12_evening_86 : decode cX12_evening 86 = .ok (.invokevirtual 474, 3) := by decide +kernel
theorem dX12_evening_89 : decode cX12_evening 89 = .ok (.istore 7, 2) := by decide +kernel
theorem dX12_evening_91 : decode cX12_evening 91 = .ok (.aload_n 0, 1) := by decide +kernel
theorem dX12_evening_92 : decode cX12_evening 92 = .ok (.invokevirtual 358, 3) := by decide +kernel
theorem dX12_evening_95 : decode cX12_evening 95 = .ok (.aload_n 0, 1) := by decide +kernel
theorem dX12_evening_96 : decode cX12_evening 96 = .ok (.aload_n 0, 1) := by decide +kernel
theorem dX12_evening_97 : decode cX12_evening 97 = .ok (.getfield 61, 3) := by decide +kernel
theorem dX12_evening_100 : decode cX12_evening 100 = .ok (.iload 5, 2) := by decide +kernel
theorem dX12_evening_102 : decode cX12_evening 102 = .ok (.iload 6, 2) := by decide +kernel
theorem dX12_evening_104 : decode cX12_evening 104 = .ok (.aload_n 0, 1) := by decide +kernel
theorem dX12_evening_105 : decode cX12_evening 105 = .ok (.getfield 291, 3) := by decide +kernel
theorem dX12_evening_108 : decode cX12_evening 108 = .ok (.if_icmp .ne 7, 3) := by decide +kernel
theorem dX12_evening_111 : decode cX12_evening 111 = .ok (.iconst (-1), 1) := by decide +kernel
theorem dX12_evening_112 : decode cX12_evening 112 = .ok (.goto 5, 3) := by decide +kernel
theorem dX12_evening_115 : decode cX12_evening 115 = .ok (.iload 6, 2) := by decide +kernel
theorem dX12_evening_117 : decode cX12_evening 117 = .ok (.aload_n 0, 1) := by decide +kernel
theorem dX12_evening_118 : decode cX12_evening 118 = .ok (.getfield 37, 3) := by decide +kernel
theorem dX12_evening_121 : decode cX12_evening 121 = .ok (.bipush 6, 2) := by decide +kernel
theorem dX12_evening_123 : decode cX12_evening 123 = .ok (.aload_n 0, 1) := by decide +kernel
theorem dX12_evening_124 : decode cX12_evening 124 = .ok (.getfield 61, 3) := by decide +kernel
theorem dX12_evening_127 : decode cX12_evening 127 = .ok (.bipush 64, 2) := by decide +kernel
theorem dX12_evening_129 : decode cX12_evening 129 = .ok (.iaload, 1) := by decide +kernel
theorem dX12_evening_130 : decode cX12_evening 130 = .ok (.imul, 1) := by decide +kernel
theorem dX12_evening_131 : decode cX12_evening 131 = .ok (.iconst 3, 1) := by decide +kernel
theorem dX12_evening_132 : decode cX12_evening 132 = .ok (.iadd, 1) := by decide +kernel
theorem dX12_evening_133 : decode cX12_evening 133 = .ok (.iaload, 1) := by decide +kernel
theorem dX12_evening_134 : decode cX12_evening 134 = .ok (.iload 7, 2) := by decide +kernel
theorem dX12_evening_136 : decode cX12_evening 136 = .ok (.invokevirtual 350, 3) := by decide +kernel
theorem dX12_evening_139 : decode cX12_evening 139 = .ok (.aload_n 0, 1) := by decide +kernel
theorem dX12_evening_140 : decode cX12_evening 140 = .ok (.bipush 100, 2) := by decide +kernel
theorem dX12_evening_142 : decode cX12_evening 142 = .ok (.bipush 10, 2) := by decide +kernel
theorem dX12_evening_144 : decode cX12_evening 144 = .ok (.iload 5, 2) := by decide +kernel
theorem dX12_evening_146 : decode cX12_evening 146 = .ok (.imul, 1) := by decide +kernel
theorem dX12_evening_147 : decode cX12_evening 147 = .ok (.iadd, 1) := by decide +kernel
theorem dX12_evening_148 : decode cX12_evening 148 = .ok (.iload 6, 2) := by decide +kernel
theorem dX12_evening_150 : decode cX12_evening 150 = .ok (.aload_n 0, 1) := by decide +kernel
theorem dX12_evening_151 : decode cX12_evening 151 = .ok (.getfield 291, 3) := by decide +kernel
theorem dX12_evening_154 : decode cX12_evening 154 = .ok (.if_icmp .ne 8, 3) := by decide +kernel
theorem dX12_evening_157 : decode cX12_evening 157 = .ok (.bipush 9, 2) := by decide +kernel
theorem dX12_evening_159 : decode cX12_evening 159 = .ok (.goto 5, 3) := by decide +kernel
theorem dX12_evening_162 : decode cX12_evening 162 = .ok (.iload 6, 2) := by decide +kernel
theorem dX12_evening_164 : decode cX12_evening 164 = .ok (.iadd, 1) := by decide +kernel
theorem dX12_evening_165 : decode cX12_evening 165 = .ok (.invokevirtual 361, 3) := by decide +kernel
theorem dX12_evening_168 : decode cX12_evening 168 = .ok (.iinc 4 1, 3) := by decide +kernel
theorem dX12_evening_171 : decode cX12_evening 171 = .ok (.goto (-137), 3) := by decide +kernel
theorem dX12_evening_174 : decode cX12_evening 174 = .ok (.iload 4, 2) := by decide +kernel
theorem dX12_evening_176 : decode cX12_evening 176 = .ok (.ireturn, 1) := by decide +kernel
theorem dX12_image_0 : decode cX12_image 0 = .ok (.aload_n 0, 1) := by decide +kernel
theorem dX12_image_1 : decode cX12_image 1 = .ok (.iconst 0, 1) := by decide +kernel
theorem dX12_image_2 : decode cX12_image 2 = .ok (.putfield 93, 3) := by decide +kernel
theorem dX12_image_5 : decode cX12_image 5 = .ok (.aload_n 0, 1) := by decide +kernel
theorem dX12_image_6 : decode cX12_image 6 = .ok (.getfield 285, 3) := by decide +kernel
theorem dX12_image_9 : decode cX12_image 9 = .ok (.ifCond .ne 5, 3) := by decide +kernel
theorem dX12_image_12 : decode cX12_image 12 = .ok (.iconst (-1), 1) := by decide +kernel
theorem dX12_image_13 : decode cX12_image 13 = .ok (.ireturn, 1) := by decide +kernel
theorem dX12_image_14 : decode cX12_image 14 = .ok (.aload_n 0, 1) := by decide +kernel
theorem dX12_image_15 : decode cX12_image 15 = .ok (.aload_n 0, 1) := by decide +kernel
theorem dX12_image_16 : decode cX12_image 16 = .ok (.getfield 61, 3) := by decide +kernel
theorem dX12_image_19 : decode cX12_image 19 = .ok (.aload_n 0, 1) := by decide +kernel
theorem dX12_image_20 : decode cX12_image 20 = .ok (.getfield 90, 3) := by decide +kernel
theorem dX12_image_23 : decode cX12_image 23 = .ok (.invokevirtual 404, 3) := by decide +kernel
theorem dX12_image_26 : decode cX12_image 26 = .ok (.aload_n 0, 1) := by decide +kernel
theorem dX12_image_27 : decode cX12_image 27 = .ok (.iconst 1, 1) := by decide +kernel
theorem dX12_image_28 : decode cX12_image 28 = .ok (.putfield 303, 3) := by decide +kernel
theorem dX12_image_31 : decode cX12_image 31 = .ok (.aload_n 0, 1) := by decide +kernel
theorem dX12_image_32 : decode cX12_image 32 = .ok (.getfield 61, 3) := by decide +kernel
theorem dX12_image_35 : decode cX12_image 35 = .ok (.bipush 65, 2) := by decide +kernel
theorem dX12_image_37 : decode cX12_image 37 = .ok (.iaload, 1) := by decide +kernel
theorem dX12_image_38 : decode cX12_image 38 = .ok (.ireturn, 1) := by decide +kernel
theorem dX12_back_0 : decode cX12_back 0 = .ok (.aload_n 0, 1) := by decide +kernel
theorem dX12_back_1 : decode cX12_back 1 = .ok (.iconst 0, 1) := by decide +kernel
theorem dX12_back_2 : decode cX12_back 2 = .ok (.putfield 93, 3) := by decide +kernel
theorem dX12_back_5 : decode cX12_back 5 = .ok (.aload_n 0, 1) := by decide +kernel
theorem dX12_back_6 : decode cX12_back 6 = .ok (.getfield 303, 3) := by decide +kernel
theorem dX12_back_9 : decode cX12_back 9 = .ok (.ifCond .ne 5, 3) := by decide +kernel
theorem dX12_back_12 : decode cX12_back 12 = .ok (.iconst (-1), 1) := by decide +kernel
theorem dX12_back_13 : decode cX12_back 13 = .ok (.ireturn, 1) := by decide +kernel
theorem dX12_back_14 : decode cX12_back 14 = .ok (.aload_n 0, 1) := by decide +kernel
theorem dX12_back_15 : decode cX12_back 15 = .ok (.aload_n 0, 1) := by decide +kernel
theorem dX12_back_16 : decode cX12_back 16 = .ok (.getfield 90, 3) := by decide +kernel
theorem dX12_back_19 : decode cX12_back 19 = .ok (.aload_n 0, 1) := by decide +kernel
theorem dX12_back_20 : decode cX12_back 20 = .ok (.getfield 61, 3) := by decide +kernel
theorem dX12_back_23 : decode cX12_back 23 = .ok (.invokevirtual 404, 3) := by decide +kernel
theorem dX12_back_26 : decode cX12_back 26 = .ok (.aload_n 0, 1) := by decide +kernel
theorem dX12_back_27 : decode cX12_back 27 = .ok (.iconst 0, 1) := by decide +kernel
theorem dX12_back_28 : decode cX12_back 28 = .ok (.putfield 297, 3) := by decide +kernel
theorem dX12_back_31 : decode cX12_back 31 = .ok (.aload_n 0, 1) := by decide +kernel
theorem dX12_back_32 : decode cX12_back 32 = .ok (.getfield 61, 3) := by decide +kernel
theorem dX12_back_35 : decode cX12_back 35 = .ok (.bipush 65, 2) := by decide +kernel
theorem dX12_back_37 : decode cX12_back 37 = .ok (.iaload, 1) := by decide +kernel
theorem dX12_back_38 : decode cX12_back 38 = .ok (.ireturn, 1) := by decide +kernel
theorem dX12_count_0 : decode cX12_count 0 = .ok (.aload_n 0, 1) := by decide +kernel
theorem dX12_count_1 : decode cX12_count 1 = .ok (.iconst 0, 1) := by decide +kernel
theorem dX12_count_2 : decode cX12_count 2 = .ok (.putfield 93, 3) := by decide +kernel
theorem dX12_count_5 : decode cX12_count 5 = .ok (.iload_n 1, 1) := by decide +kernel
theorem dX12_count_6 : decode cX12_count 6 = .ok (.tableswitch 139 0 11 #[62, 67, 72, 77, 82, 87, 92, 111, 119, 124, 129, 134], 62) := by decide +kernel
theorem dX12_count_68 : decode cX12_count 68 = .ok (.aload_n 0, 1) := by decide +kernel
theorem dX12_count_69 : decode cX12_count 69 = .ok (.getfield 285, 3) := by decide +kernel
theorem dX12_count_72 : decode cX12_count 72 = .ok (.ireturn, 1) := by decide +kernel
theorem dX12_count_73 : decode cX12_count 73 = .ok (.aload_n 0, 1) := by decide +kernel
theorem dX12_count_74 : decode cX12_count 74 = .ok (.getfield 288, 3) := by decide +kernel
theorem dX12_count_77 : decode cX12_count 77 = .ok (.ireturn, 1) := by decide +kernel
theorem dX12_count_78 : decode cX12_count 78 = .ok (.aload_n 0, 1) := by decide +kernel
theorem dX12_count_79 : decode cX12_count 79 = .ok (.getfield 291, 3) := by decide +kernel
theorem dX12_count_82 : decode cX12_count 82 = .ok (.ireturn, 1) := by decide +kernel
theorem dX12_count_83 : decode cX12_count 83 = .ok (.aload_n 0, 1) := by decide +kernel
theorem dX12_count_84 : decode cX12_count 84 = .ok (.getfield 277, 3) := by decide +kernel
theorem dX12_count_87 : decode cX12_count 87 = .ok (.ireturn, 1) := by decide +kernel
theorem dX12_count_88 : decode cX12_count 88 = .ok (.aload_n 0, 1) := by decide +kernel
theorem dX12_count_89 : decode cX12_count 89 = .ok (.getfield 280, 3) := by decide +kernel
theorem dX12_count_92 : decode cX12_count 92 = .ok (.ireturn, 1) := by decide +kernel
theorem dX12_count_93 : decode cX12_count 93 = .ok (.aload_n 0, 1) := by decide +kernel
theorem dX12_count_94 : decode cX12_count 94 = .ok (.getfield 106, 3) := by decide +kernel
theorem dX12_count_97 : decode cX12_count 97 = .ok (.ireturn, 1) := by decide +kernel
theorem dX12_count_98 : decode cX12_count 98 = .ok (.aload_n 0, 1) := by decide +kernel
theorem dX12_count_99 : decode cX12_count 99 = .ok (.getfield 285, 3) := by decide +kernel
theorem dX12_count_102 : decode cX12_count 102 = .ok (.ifCond .ne 7, 3) := by decide +kernel
theorem dX12_count_105 : decode cX12_count 105 = .ok (.iconst (-1), 1) := by decide +kernel
theorem dX12_count_106 : decode cX12_count 106 = .ok (.goto 10, 3) := by decide +kernel
theorem dX12_count_109 : decode cX12_count 109 = .ok (.aload_n 0, 1) := by decide +kernel
theorem dX12_count_110 : decode cX12_count 110 = .ok (.getfield 61, 3) := by decide +kernel
theorem dX12_count_113 : decode cX12_count 113 = .ok (.bipush 64, 2) := by decide +kernel
theorem dX12_count_115 : decode cX12_count 115 = .ok (.iaload, 1) := by decide +kernel
theorem dX12_count_116 : decode cX12_count 116 = .ok (.ireturn, 1) := by decide +kernel
theorem dX12_count_117 : decode cX12_count 117 = .ok (.aload_n 0, 1) := by decide +kernel
theorem dX12_count_118 : decode cX12_count 118 = .ok (.getfield 61, 3) := by decide +kernel
theorem dX12_count_121 : decode cX12_count 121 = .ok (.bipush 65, 2) := by decide +kernel
theorem dX12_count_123 : decode cX12_count 123 = .ok (.iaload, 1) := by decide +kernel
theorem dX12_count_124 : decode cX12_count 124 = .ok (.ireturn, 1) := by decide +kernel
theorem dX12_count_125 : decode cX12_count 125 = .ok (.aload_n 0, 1) := by decide +kernel
theorem dX12_count_126 : decode cX12_count 126 = .ok (.getfield 67, 3) := by decide +kernel
theorem dX12_count_129 : decode cX12_count 129 = .ok (.ireturn, 1) := by decide +kernel
theorem dX12_count_130 : decode cX12_count 130 = .ok (.aload_n 0, 1) := by decide +kernel
theorem dX12_count_131 : decode cX12_count 131 = .ok (.getfield 294, 3) := by decide +kernel
theorem dX12_count_134 : decode cX12_count 134 = .ok (.ireturn, 1) := by decide +kernel
theorem dX12_count_135 : decode cX12_count 135 = .ok (.aload_n 0, 1) := by decide +kernel
theorem dX12_count_136 : decode cX12_count 136 = .ok (.getfield 297, 3) := by decide +kernel
theorem dX12_count_139 : decode cX12_count 139 = .ok (.ireturn, 1) := by decide +kernel
theorem dX12_count_140 : decode cX12_count 140 = .ok (.aload_n 0, 1) := by decide +kernel
theorem dX12_count_141 : decode cX12_count 141 = .ok (.getfield 300, 3) := by decide +kernel
theorem dX12_count_144 : decode cX12_count 144 = .ok (.ireturn, 1) := by decide +kernel
theorem dX12_count_145 : decode cX12_count 145 = .ok (.ldc_w 389, 3) := by decide +kernel
theorem dX12_count_148 : decode cX12_count 148 = .ok (.ireturn, 1) := by decide +kernel
theorem dJ6_bitCount_0f7a4_0 : decode cJ6_bitCount_0f7a4 0 = .ok (.iload_n 0, 1) := by decide +kernel
theorem dJ6_bitCount_0f7a4_1 : decode cJ6_bitCount_0f7a4 1 = .ok (.iload_n 0, 1) := by decide +kernel
theorem dJ6_bitCount_0f7a4_2 : decode cJ6_bitCount_0f7a4 2 = .ok (.iconst 1, 1) := by decide +kernel
theorem dJ6_bitCount_0f7a4_3 : decode cJ6_bitCount_0f7a4 3 = .ok (.iushr, 1) := by decide +kernel
theorem dJ6_bitCount_0f7a4_4 : decode cJ6_bitCount_0f7a4 4 = .ok (.ldc_w 265, 3) := by decide +kernel
theorem dJ6_bitCount_0f7a4_7 : decode cJ6_bitCount_0f7a4 7 = .ok (.iand, 1) := by decide +kernel
theorem dJ6_bitCount_0f7a4_8 : decode cJ6_bitCount_0f7a4 8 = .ok (.isub, 1) := by decide +kernel
theorem dJ6_bitCount_0f7a4_9 : decode cJ6_bitCount_0f7a4 9 = .ok (.istore_n 0, 1) := by decide +kernel
theorem dJ6_bitCount_0f7a4_10 : decode cJ6_bitCount_0f7a4 10 = .ok (.iload_n 0, 1) := by decide +kernel
theorem dJ6_bitCount_0f7a4_11 : decode cJ6_bitCount_0f7a4 11 = .ok (.ldc_w 266, 3) := by decide +kernel
theorem dJ6_bitCount_0f7a4_14 : decode cJ6_bitCount_0f7a4 14 = .ok (.iand, 1) := by decide +kernel
theorem dJ6_bitCount_0f7a4_15 : decode cJ6_bitCount_0f7a4 15 = .ok (.iload_n 0, 1) := by decide +kernel
theorem dJ6_bitCount_0f7a4_16 : decode cJ6_bitCount_0f7a4 16 = .ok (.iconst 2, 1) := by decide +kernel
theorem dJ6_bitCount_0f7a4_17 : decode cJ6_bitCount_0f7a4 17 = .ok (.iushr, 1) := by decide +kernel
theorem dJ6_bitCount_0f7a4_18 : decode cJ6_bitCount_0f7a4 18 = .ok (.ldc_w 266, 3) := by decide +kernel
theorem dJ6_bitCount_0f7a4_21 : decode cJ6_bitCount_0f7a4 21 = .ok (.iand, 1) := by decide +kernel
theorem dJ6_bitCount_0f7a4_22 : decode cJ6_bitCount_0f7a4 22 = .ok (.iadd, 1) := by decide +kernel
theorem dJ6_bitCount_0f7a4_23 : decode cJ6_bitCount_0f7a4 23 = .ok (.istore_n 0, 1) := by decide +kernel
theorem dJ6_bitCount_0f7a4_24 : decode cJ6_bitCount_0f7a4 24 = .ok (.iload_n 0, 1) := by decide +kernel
theorem dJ6_bitCount_0f7a4_25 : decode cJ6_bitCount_0f7a4 25 = .ok (.iload_n 0, 1) := by decide +kernel
theorem dJ6_bitCount_0f7a4_26 : decode cJ6_bitCount_0f7a4 26 = .ok (.iconst 4, 1) := by decide +kernel
theorem dJ6_bitCount_0f7a4_27 : decode cJ6_bitCount_0f7a4 27 = .ok (.iushr, 1) := by decide +kernel
theorem dJ6_bitCount_0f7a4_28 : decode cJ6_bitCount_0f7a4 28 = .ok (.iadd, 1) := by decide +kernel
theorem dJ6_bitCount_0f7a4_29 : decode cJ6_bitCount_0f7a4 29 = .ok (.ldc_w 267, 3) := by decide +kernel
theorem dJ6_bitCount_0f7a4_32 : decode cJ6_bitCount_0f7a4 32 = .ok (.iand, 1) := by decide +kernel
theorem dJ6_bitCount_0f7a4_33 : decode cJ6_bitCount_0f7a4 33 = .ok (.istore_n 0, 1) := by decide +kernel
theorem dJ6_bitCount_0f7a4_34 : decode cJ6_bitCount_0f7a4 34 = .ok (.iload_n 0, 1) := by decide +kernel
theorem dJ6_bitCount_0f7a4_35 : decode cJ6_bitCount_0f7a4 35 = .ok (.iload_n 0, 1) := by decide +kernel
theorem dJ6_bitCount_0f7a4_36 : decode cJ6_bitCount_0f7a4 36 = .ok (.bipush 8, 2) := by decide +kernel
theorem dJ6_bitCount_0f7a4_38 : decode cJ6_bitCount_0f7a4 38 = .ok (.iushr, 1) := by decide +kernel
theorem dJ6_bitCount_0f7a4_39 : decode cJ6_bitCount_0f7a4 39 = .ok (.iadd, 1) := by decide +kernel
theorem dJ6_bitCount_0f7a4_40 : decode cJ6_bitCount_0f7a4 40 = .ok (.istore_n 0, 1) := by decide +kernel
theorem dJ6_bitCount_0f7a4_41 : decode cJ6_bitCount_0f7a4 41 = .ok (.iload_n 0, 1) := by decide +kernel
theorem dJ6_bitCount_0f7a4_42 : decode cJ6_bitCount_0f7a4 42 = .ok (.iload_n 0, 1) := by decide +kernel
theorem dJ6_bitCount_0f7a4_43 : decode cJ6_bitCount_0f7a4 43 = .ok (.bipush 16, 2) := by decide +kernel
theorem dJ6_bitCount_0f7a4_45 : decode cJ6_bitCount_0f7a4 45 = .ok (.iushr, 1) := by decide +kernel
theorem dJ6_bitCount_0f7a4_46 : decode cJ6_bitCount_0f7a4 46 = .ok (.iadd, 1) := by decide +kernel
theorem dJ6_bitCount_0f7a4_47 : decode cJ6_bitCount_0f7a4 47 = .ok (.istore_n 0, 1) := by decide +kernel
theorem dJ6_bitCount_0f7a4_48 : decode cJ6_bitCount_0f7a4 48 = .ok (.iload_n 0, 1) := by decide +kernel
theorem dJ6_bitCount_0f7a4_49 : decode cJ6_bitCount_0f7a4 49 = .ok (.bipush 63, 2) := by decide +kernel
theorem dJ6_bitCount_0f7a4_51 : decode cJ6_bitCount_0f7a4 51 = .ok (.iand, 1) := by decide +kernel
theorem dJ6_bitCount_0f7a4_52 : decode cJ6_bitCount_0f7a4 52 = .ok (.ireturn, 1) := by decide +kernel
theorem dJ9_abs_0f7a4_0 : decode cJ9_abs_0f7a4 0 = .ok (.iload_n 0, 1) := by decide +kernel
theorem dJ9_abs_0f7a4_1 : decode cJ9_abs_0f7a4 1 = .ok (.ifCond .ge 8, 3) := by decide +kernel
theorem dJ9_abs_0f7a4_4 : decode cJ9_abs_0f7a4 4 = .ok (.iload_n 0, 1) := by decide +kernel
theorem dJ9_abs_0f7a4_5 : decode cJ9_abs_0f7a4 5 = .ok (.ineg, 1) := by decide +kernel
theorem dJ9_abs_0f7a4_6 : decode cJ9_abs_0f7a4 6 = .ok (.goto 4, 3) := by decide +kernel
theorem dJ9_abs_0f7a4_9 : decode cJ9_abs_0f7a4 9 = .ok (.iload_n 0, 1) := by decide +kernel
theorem dJ9_abs_0f7a4_10 : decode cJ9_abs_0f7a4 10 = .ok (.ireturn, 1) := by decide +kernel
theorem dJ9_max_7cf53_0 : decode cJ9_max_7cf53 0 = .ok (.iload_n 0, 1) := by decide +kernel
theorem dJ9_max_7cf53_1 : decode cJ9_max_7cf53 1 = .ok (.iload_n 1, 1) := by decide +kernel
theorem dJ9_max_7cf53_2 : decode cJ9_max_7cf53 2 = .ok (.if_icmp .lt 7, 3) := by decide +kernel
theorem dJ9_max_7cf53_5 : decode cJ9_max_7cf53 5 = .ok (.iload_n 0, 1) := by decide +kernel
theorem dJ9_max_7cf53_6 : decode cJ9_max_7cf53 6 = .ok (.goto 4, 3) := by decide +kernel
theorem dJ9_max_7cf53_9 : decode cJ9_max_7cf53 9 = .ok (.iload_n 1, 1) := by decide +kernel
theorem dJ9_max_7cf53_10 : decode cJ9_max_7cf53 10 = .ok (.ireturn, 1) := by decide +kernel
theorem dJ9_max_f86c9_0 : decode cJ9_max_f86c9 0 = .ok (.lload_n 0, 1) := by decide +kernel
theorem dJ9_max_f86c9_1 : decode cJ9_max_f86c9 1 = .ok (.lload_n 2, 1) := by decide +kernel
theorem dJ9_max_f86c9_2 : decode cJ9_max_f86c9 2 = .ok (.lcmp, 1) := by decide +kernel
theorem dJ9_max_f86c9_3 : decode cJ9_max_f86c9 3 = .ok (.ifCond .lt 7, 3) := by decide +kernel
theorem dJ9_max_f86c9_6 : decode cJ9_max_f86c9 6 = .ok (.lload_n 0, 1) := by decide +kernel
theorem dJ9_max_f86c9_7 : decode cJ9_max_f86c9 7 = .ok (.goto 4, 3) := by decide +kernel
theorem dJ9_max_f86c9_10 : decode cJ9_max_f86c9 10 = .ok (.lload_n 2, 1) := by decide +kernel
theorem dJ9_max_f86c9_11 : decode cJ9_max_f86c9 11 = .ok (.lreturn, 1) := by decide +kernel
theorem dJ9_min_7cf53_0 : decode cJ9_min_7cf53 0 = .ok (.iload_n 0, 1) := by decide +kernel
theorem dJ9_min_7cf53_1 : decode cJ9_min_7cf53 1 = .ok (.iload_n 1, 1) := by decide +kernel
theorem dJ9_min_7cf53_2 : decode cJ9_min_7cf53 2 = .ok (.if_icmp .gt 7, 3) := by decide +kernel
theorem dJ9_min_7cf53_5 : decode cJ9_min_7cf53 5 = .ok (.iload_n 0, 1) := by decide +kernel
theorem dJ9_min_7cf53_6 : decode cJ9_min_7cf53 6 = .ok (.goto 4, 3) := by decide +kernel
theorem dJ9_min_7cf53_9 : decode cJ9_min_7cf53 9 = .ok (.iload_n 1, 1) := by decide +kernel
theorem dJ9_min_7cf53_10 : decode cJ9_min_7cf53 10 = .ok (.ireturn, 1) := by decide +kernel
theorem dJ9_min_f86c9_0 : decode cJ9_min_f86c9 0 = .ok (.lload_n 0, 1) := by decide +kernel
theorem dJ9_min_f86c9_1 : decode cJ9_min_f86c9 1 = .ok (.lload_n 2, 1) := by decide +kernel
theorem dJ9_min_f86c9_2 : decode cJ9_min_f86c9 2 = .ok (.lcmp, 1) := by decide +kernel
theorem dJ9_min_f86c9_3 : decode cJ9_min_f86c9 3 = .ok (.ifCond .gt 7, 3) := by decide +kernel
theorem dJ9_min_f86c9_6 : decode cJ9_min_f86c9 6 = .ok (.lload_n 0, 1) := by decide +kernel
theorem dJ9_min_f86c9_7 : decode cJ9_min_f86c9 7 = .ok (.goto 4, 3) := by decide +kernel
theorem dJ9_min_f86c9_10 : decode cJ9_min_f86c9 10 = .ok (.lload_n 2, 1) := by decide +kernel
theorem dJ9_min_f86c9_11 : decode cJ9_min_f86c9 11 = .ok (.lreturn, 1) := by decide +kernel
theorem dJ0_length_8abf5_0 : decode cJ0_length_8abf5 0 = .ok (.aload_n 0, 1) := by decide +kernel
theorem dJ0_length_8abf5_1 : decode cJ0_length_8abf5 1 = .ok (.getfield 9, 3) := by decide +kernel
theorem dJ0_length_8abf5_4 : decode cJ0_length_8abf5 4 = .ok (.arraylength, 1) := by decide +kernel
theorem dJ0_length_8abf5_5 : decode cJ0_length_8abf5 5 = .ok (.aload_n 0, 1) := by decide +kernel
theorem dJ0_length_8abf5_6 : decode cJ0_length_8abf5 6 = .ok (.invokevirtual 335, 3) := by decide +kernel
theorem dJ0_length_8abf5_9 : decode cJ0_length_8abf5 9 = .ok (.ishr, 1) := by decide +kernel
theorem dJ0_length_8abf5_10 : decode cJ0_length_8abf5 10 = .ok (.ireturn, 1) := by decide +kernel
theorem dJ0_charAt_5068e_0 : decode cJ0_charAt_5068e 0 = .ok (.aload_n 0, 1) := by decide +kernel
theorem dJ0_charAt_5068e_1 : decode cJ0_charAt_5068e 1 = .ok (.invokevirtual 492, 3) := by decide +kernel
theorem dJ0_charAt_5068e_4 : decode cJ0_charAt_5068e 4 = .ok (.ifCond .eq 12, 3) := by decide +kernel
theorem dJ0_charAt_5068e_7 : decode cJ0_charAt_5068e 7 = .ok (.aload_n 0, 1) := by decide +kernel
theorem dJ0_charAt_5068e_8 : decode cJ0_charAt_5068e 8 = .ok (.getfield 9, 3) := by decide +kernel
theorem dJ0_charAt_5068e_11 : decode cJ0_charAt_5068e 11 = .ok (.iload_n 1, 1) := by decide +kernel
theorem dJ0_charAt_5068e_12 : decode cJ0_charAt_5068e 12 = .ok (.invokestatic 495, 3) := by decide +kernel
theorem dJ0_charAt_5068e_15 : decode cJ0_charAt_5068e 15 = .ok (.ireturn, 1) := by decide +kernel
theorem dJ0_charAt_5068e_16 : decode cJ0_charAt_5068e 16 = .ok (.aload_n 0, 1) := by decide +kernel
theorem dJ0_charAt_5068e_17 : decode cJ0_charAt_5068e 17 = .ok (.getfield 9, 3) := by decide +kernel
theorem dJ0_charAt_5068e_20 : decode cJ0_charAt_5068e 20 = .ok (.iload_n 1, 1) := by decide +kernel
theorem dJ0_charAt_5068e_21 : decode cJ0_charAt_5068e 21 = .ok (.invokestatic 498, 3) := by decide +kernel
theorem dJ0_charAt_5068e_24 : decode cJ0_charAt_5068e 24 = .ok (.ireturn, 1) := by decide +kernel
theorem dJ0_indexOf_0f7a4_0 : decode cJ0_indexOf_0f7a4 0 = .ok (.aload_n 0, 1) := by decide +kernel
theorem dJ0_indexOf_0f7a4_1 : decode cJ0_indexOf_0f7a4 1 = .ok (.iload_n 1, 1) := by decide +kernel
theorem dJ0_indexOf_0f7a4_2 : decode cJ0_indexOf_0f7a4 2 = .ok (.iconst 0, 1) := by decide +kernel
theorem dJ0_indexOf_0f7a4_3 : decode cJ0_indexOf_0f7a4 3 = .ok (.invokevirtual 633, 3) := by decide +kernel
theorem dJ0_indexOf_0f7a4_6 : decode cJ0_indexOf_0f7a4 6 = .ok (.ireturn, 1) := by decide +kernel
theorem dJ0_indexOf_7cf53_0 : decode cJ0_indexOf_7cf53 0 = .ok (.aload_n 0, 1) := by decide +kernel
theorem dJ0_indexOf_7cf53_1 : decode cJ0_indexOf_7cf53 1 = .ok (.invokevirtual 492, 3) := by decide +kernel
theorem dJ0_indexOf_7cf53_4 : decode cJ0_indexOf_7cf53 4 = .ok (.ifCond .eq 19, 3) := by decide +kernel
theorem dJ0_indexOf_7cf53_7 : decode cJ0_indexOf_7cf53 7 = .ok (.aload_n 0, 1) := by decide +kernel
theorem dJ0_indexOf_7cf53_8 : decode cJ0_indexOf_7cf53 8 = .ok (.getfield 9, 3) := by decide +kernel
theorem dJ0_indexOf_7cf53_11 : decode cJ0_indexOf_7cf53 11 = .ok (.iload_n 1, 1) := by decide +kernel
theorem dJ0_indexOf_7cf53_12 : decode cJ0_indexOf_7cf53 12 = .ok (.iload_n 2, 1) := by decide +kernel
theorem dJ0_indexOf_7cf53_13 : decode cJ0_indexOf_7cf53 13 = .ok (.aload_n 0, 1) := by decide +kernel
theorem dJ0_indexOf_7cf53_14 : decode cJ0_indexOf_7cf53 14 = .ok (.invokevirtual 505, 3) := by decide +kernel
theorem dJ0_indexOf_7cf53_17 : decode cJ0_indexOf_7cf53 17 = .ok (.invokestatic 637, 3) := by decide +kernel
theorem dJ0_indexOf_7cf53_20 : decode cJ0_indexOf_7cf53 20 = .ok (.goto 16, 3) := by decide +kernel
theorem dJ0_indexOf_7cf53_23 : decode cJ0_indexOf_7cf53 23 = .ok (.aload_n 0, 1) := by decide +kernel
theorem dJ0_indexOf_7cf53_24 : decode cJ0_indexOf_7cf53 24 = .ok (.getfield 9, 3) := by decide +kernel
theorem dJ0_indexOf_7cf53_27 : decode cJ0_indexOf_7cf53 27 = .ok (.iload_n 1, 1) := by decide +kernel
theorem dJ0_indexOf_7cf53_28 : decode cJ0_indexOf_7cf53 28 = .ok (.iload_n 2, 1) := by decide +kernel
theorem dJ0_indexOf_7cf53_29 : decode cJ0_indexOf_7cf53 29 = .ok (.aload_n 0, 1) := by decide +kernel
theorem dJ0_indexOf_7cf53_30 : decode cJ0_indexOf_7cf53 30 = .ok (.invokevirtual 505, 3) := by decide +kernel
theorem dJ0_indexOf_7cf53_33 : decode cJ0_indexOf_7cf53 33 = .ok (.invokestatic 640, 3) := by decide +kernel
theorem dJ0_indexOf_7cf53_36 : decode cJ0_indexOf_7cf53 36 = .ok (.ireturn, 1) := by decide +kernel
theorem dJ0_coder_7d493_0 : decode cJ0_coder_7d493 0 = .ok (.getstatic 38, 3) := by decide +kernel
theorem dJ0_coder_7d493_3 : decode cJ0_coder_7d493 3 = .ok (.ifCond .eq 10, 3) := by decide +kernel
theorem dJ0_coder_7d493_6 : decode cJ0_coder_7d493 6 = .ok (.aload_n 0, 1) := by decide +kernel
theorem dJ0_coder_7d493_7 : decode cJ0_coder_7d493 7 = .ok (.getfield 15, 3) := by decide +kernel
theorem dJ0_coder_7d493_10 : decode cJ0_coder_7d493 10 = .ok (.goto 4, 3) := by decide +kernel
theorem dJ0_coder_7d493_13 : decode cJ0_coder_7d493 13 = .ok (.iconst 1, 1) := by decide +kernel
theorem dJ0_coder_7d493_14 : decode cJ0_coder_7d493 14 = .ok (.ireturn, 1) := by decide +kernel
theorem dJ0_isLatin1_aae02_0 : decode cJ0_isLatin1_aae02 0 = .ok (.getstatic 38, 3) := by decide +kernel
theorem dJ0_isLatin1_aae02_3 : decode cJ0_isLatin1_aae02 3 = .ok (.ifCond .eq 14, 3) := by decide +kernel
theorem dJ0_isLatin1_aae02_6 : decode cJ0_isLatin1_aae02 6 = .ok (.aload_n 0, 1) := by decide +kernel
theorem dJ0_isLatin1_aae02_7 : decode cJ0_isLatin1_aae02 7 = .ok (.getfield 15, 3) := by decide +kernel
theorem dJ0_isLatin1_aae02_10 : decode cJ0_isLatin1_aae02 10 = .ok (.ifCond .ne 7, 3) := by decide +kernel
theorem dJ0_isLatin1_aae02_13 : decode cJ0_isLatin1_aae02 13 = .ok (.iconst 1, 1) := by decide +kernel
theorem dJ0_isLatin1_aae02_14 : decode cJ0_isLatin1_aae02 14 = .ok (.goto 4, 3) := by decide +kernel
theorem dJ0_isLatin1_aae02_17 : decode cJ0_isLatin1_aae02 17 = .ok (.iconst 0, 1) := by decide +kernel
theorem dJ0_isLatin1_aae02_18 : decode cJ0_isLatin1_aae02 18 = .ok (.ireturn, 1) := by decide +kernel
theorem dJ0_checkIndex_df160_0 : decode cJ0_checkIndex_df160 0 = .ok (.iload_n 0, 1) := by decide +kernel
theorem dJ0_checkIndex_df160_1 : decode cJ0_checkIndex_df160 1 = .ok (.iload_n 1, 1) := by decide +kernel
theorem dJ0_checkIndex_df160_2 : decode cJ0_checkIndex_df160 2 = .ok (.getstatic 1053, 3) := by decide +kernel
theorem dJ0_checkIndex_df160_5 : decode cJ0_checkIndex_df160 5 = .ok (.invokestatic 1059, 3) := by decide +kernel
theorem dJ0_checkIndex_df160_8 : decode cJ0_checkIndex_df160 8 = .ok (.pop, 1) := by decide +kernel
theorem dJ0_checkIndex_df160_9 : decode cJ0_checkIndex_df160 9 = .ok (.return_, 1) := by decide +kernel
theorem dJ0_checkBoundsBeginEnd_23922_0 : decode cJ0_checkBoundsBeginEnd_23922 0 = .ok (.iload_n 0, 1) := by decide +kernel
theorem dJ0_checkBoundsBeginEnd_23922_1 : decode cJ0_checkBoundsBeginEnd_23922 1 = .ok (.iload_n 1, 1) := by decide +kernel
theorem dJ0_checkBoundsBeginEnd_23922_2 : decode cJ0_checkBoundsBeginEnd_23922 2 = .ok (.iload_n 2, 1) := by decide +kernel
theorem dJ0_checkBoundsBeginEnd_23922_3 : decode cJ0_checkBoundsBeginEnd_23922 3 = .ok (.getstatic 1053, 3) := by decide +kernel
theorem dJ0_checkBoundsBeginEnd_23922_6 : decode cJ0_checkBoundsBeginEnd_23922 6 = .ok (.invokestatic 1062, 3) := by decide +kernel
theorem dJ0_checkBoundsBeginEnd_23922_9 : decode cJ0_checkBoundsBeginEnd_23922 9 = .ok (.pop, 1) := by decide +kernel
theorem dJ0_checkBoundsBeginEnd_23922_10 : decode cJ0_checkBoundsBeginEnd_23922 10 = .ok (.return_, 1) := by decide +kernel
theorem dJ1_charAt_3b067_0 : decode cJ1_charAt_3b067 0 = .ok (.iload_n 1, 1) := by decide +kernel
theorem dJ1_charAt_3b067_1 : decode cJ1_charAt_3b067 1 = .ok (.aload_n 0, 1) := by decide +kernel
theorem dJ1_charAt_3b067_2 : decode cJ1_charAt_3b067 2 = .ok (.arraylength, 1) := by decide +kernel
theorem dJ1_charAt_3b067_3 : decode cJ1_charAt_3b067 3 = .ok (.invokestatic 9, 3) := by decide +kernel
theorem dJ1_charAt_3b067_6 : decode cJ1_charAt_3b067 6 = .ok (.aload_n 0, 1) := by decide +kernel
theorem dJ1_charAt_3b067_7 : decode cJ1_charAt_3b067 7 = .ok (.iload_n 1, 1) := by decide +kernel
theorem dJ1_charAt_3b067_8 : decode cJ1_charAt_3b067 8 = .ok (.baload, 1) := by decide +kernel
theorem dJ1_charAt_3b067_9 : decode cJ1_charAt_3b067 9 = .ok (.sipush 255, 3) := by decide +kernel
theorem dJ1_charAt_3b067_12 : decode cJ1_charAt_3b067 12 = .ok (.iand, 1) := by decide +kernel
theorem dJ1_charAt_3b067_13 : decode cJ1_charAt_3b067 13 = .ok (.i2c, 1) := by decide +kernel
theorem dJ1_charAt_3b067_14 : decode cJ1_charAt_3b067 14 = .ok (.ireturn, 1) := by decide +kernel
theorem dJ1_canEncode_9a6ad_0 : decode cJ1_canEncode_9a6ad 0 = .ok (.iload_n 0, 1) := by decide +kernel
theorem dJ1_canEncode_9a6ad_1 : decode cJ1_canEncode_9a6ad 1 = .ok (.ifCond .lt 14, 3) := by decide +kernel
theorem dJ1_canEncode_9a6ad_4 : decode cJ1_canEncode_9a6ad 4 = .ok (.iload_n 0, 1) := by decide +kernel
theorem dJ1_canEncode_9a6ad_5 : decode cJ1_canEncode_9a6ad 5 = .ok (.sipush 255, 3) := by decide +kernel
theorem dJ1_canEncode_9a6ad_8 : decode cJ1_canEncode_9a6ad 8 = .ok (.if_icmp .gt 7, 3) := by decide +kernel
theorem dJ1_canEncode_9a6ad_11 : decode cJ1_canEncode_9a6ad 11 = .ok (.iconst 1, 1) := by decide +kernel
theorem dJ1_canEncode_9a6ad_12 : decode cJ1_canEncode_9a6ad 12 = .ok (.goto 4, 3) := by decide +kernel
theorem dJ1_canEncode_9a6ad_15 : decode cJ1_canEncode_9a6ad 15 = .ok (.iconst 0, 1) := by decide +kernel
theorem dJ1_canEncode_9a6ad_16 : decode cJ1_canEncode_9a6ad 16 = .ok (.ireturn, 1) := by decide +kernel
theorem dJ1_indexOf_4cfef_0 : decode cJ1_indexOf_4cfef 0 = .ok (.iload_n 1, 1) := by decide +kernel
theorem dJ1_indexOf_4cfef_1 : decode cJ1_indexOf_4cfef 1 = .ok (.invokestatic 88, 3) := by decide +kernel
theorem dJ1_indexOf_4cfef_4 : decode cJ1_indexOf_4cfef 4 = .ok (.ifCond .ne 5, 3) := by decide +kernel
theorem dJ1_indexOf_4cfef_7 : decode cJ1_indexOf_4cfef 7 = .ok (.iconst (-1), 1) := by decide +kernel
theorem dJ1_indexOf_4cfef_8 : decode cJ1_indexOf_4cfef 8 = .ok (.ireturn, 1) := by decide +kernel
theorem dJ1_indexOf_4cfef_9 : decode cJ1_indexOf_4cfef 9 = .ok (.iload_n 2, 1) := by decide +kernel
theorem dJ1_indexOf_4cfef_10 : decode cJ1_indexOf_4cfef 10 = .ok (.iconst 0, 1) := by decide +kernel
theorem dJ1_indexOf_4cfef_11 : decode cJ1_indexOf_4cfef 11 = .ok (.invokestatic 92, 3) := by decide +kernel
theorem dJ1_indexOf_4cfef_14 : decode cJ1_indexOf_4cfef 14 = .ok (.istore_n 2, 1) := by decide +kernel
theorem dJ1_indexOf_4cfef_15 : decode cJ1_indexOf_4cfef 15 = .ok (.iload_n 3, 1) := by decide +kernel
theorem dJ1_indexOf_4cfef_16 : decode cJ1_indexOf_4cfef 16 = .ok (.aload_n 0, 1) := by decide +kernel
theorem dJ1_indexOf_4cfef_17 : decode cJ1_indexOf_4cfef 17 = .ok (.arraylength, 1) := by decide +kernel
theorem dJ1_indexOf_4cfef_18 : decode cJ1_indexOf_4cfef 18 = .ok (.invokestatic 38, 3) := by decide +kernel
theorem dJ1_indexOf_4cfef_21 : decode cJ1_indexOf_4cfef 21 = .ok (.istore_n 3, 1) := by decide +kernel
theorem dJ1_indexOf_4cfef_22 : decode cJ1_indexOf_4cfef 22 = .ok (.iload_n 2, 1) := by decide +kernel
theorem dJ1_indexOf_4cfef_23 : decode cJ1_indexOf_4cfef 23 = .ok (.iload_n 3, 1) := by decide +kernel
theorem dJ1_indexOf_4cfef_24 : decode cJ1_indexOf_4cfef 24 = .ok (.if_icmp .lt 5, 3) := by decide +kernel
theorem dJ1_indexOf_4cfef_27 : decode cJ1_indexOf_4cfef 27 = .ok (.iconst (-1), 1) := by decide +kernel
theorem dJ1_indexOf_4cfef_28 : decode cJ1_indexOf_4cfef 28 = .ok (.ireturn, 1) := by decide +kernel
theorem dJ1_indexOf_4cfef_29 : decode cJ1_indexOf_4cfef 29 = .ok (.aload_n 0, 1) := by decide +kernel
theorem dJ1_indexOf_4cfef_30 : decode cJ1_indexOf_4cfef 30 = .ok (.iload_n 1, 1) := by decide +kernel
theorem dJ1_indexOf_4cfef_31 : decode cJ1_indexOf_4cfef 31 = .ok (.iload_n 2, 1) := by decide +kernel
theorem dJ1_indexOf_4cfef_32 : decode cJ1_indexOf_4cfef 32 = .ok (.iload_n 3, 1) := by decide +kernel
theorem dJ1_indexOf_4cfef_33 : decode cJ1_indexOf_4cfef 33 = .ok (.invokestatic 95, 3) := by decide +kernel
theorem dJ1_indexOf_4cfef_36 : decode cJ1_indexOf_4cfef 36 = .ok (.ireturn, 1) := by decide +kernel
theorem dJ1_indexOfChar_4cfef_0 : decode cJ1_indexOfChar_4cfef 0 = .ok (.iload_n 1, 1) := by decide +kernel
theorem dJ1_indexOfChar_4cfef_1 : decode cJ1_indexOfChar_4cfef 1 = .ok (.i2b, 1) := by decide +kernel
theorem dJ1_indexOfChar_4cfef_2 : decode cJ1_indexOfChar_4cfef 2 = .ok (.istore 4, 2) := by decide +kernel
theorem dJ1_indexOfChar_4cfef_4 : decode cJ1_indexOfChar_4cfef 4 = .ok (.iload_n 2, 1) := by decide +kernel
theorem dJ1_indexOfChar_4cfef_5 : decode cJ1_indexOfChar_4cfef 5 = .ok (.istore 5, 2) := by decide +kernel
theorem dJ1_indexOfChar_4cfef_7 : decode cJ1_indexOfChar_4cfef 7 = .ok (.iload 5, 2) := by decide +kernel
theorem dJ1_indexOfChar_4cfef_9 : decode cJ1_indexOfChar_4cfef 9 = .ok (.iload_n 3, 1) := by decide +kernel
theorem dJ1_indexOfChar_4cfef_10 : decode cJ1_indexOfChar_4cfef 10 = .ok (.if_icmp .ge 21, 3) := by decide +kernel
theorem dJ1_indexOfChar_4cfef_13 : decode cJ1_indexOfChar_4cfef 13 = .ok (.aload_n 0, 1) := by decide +kernel
theorem dJ1_indexOfChar_4cfef_14 : decode cJ1_indexOfChar_4cfef 14 = .ok (.iload 5, 2) := by decide +kernel
theorem dJ1_indexOfChar_4cfef_16 : decode cJ1_indexOfChar_4cfef 16 = .ok (.baload, 1) := by decide +kernel
theorem dJ1_indexOfChar_4cfef_17 : decode cJ1_indexOfChar_4cfef 17 = .ok (.iload 4, 2) := by decide +kernel
theorem dJ1_indexOfChar_4cfef_19 : decode cJ1_indexOfChar_4cfef 19 = .ok (.if_icmp .ne 6, 3) := by decide +kernel
theorem dJ1_indexOfChar_4cfef_22 : decode cJ1_indexOfChar_4cfef 22 = .ok (.iload 5, 2) := by decide +kernel
theorem dJ1_indexOfChar_4cfef_24 : decode cJ1_indexOfChar_4cfef 24 = .ok (.ireturn, 1) := by decide +kernel
theorem dJ1_indexOfChar_4cfef_25 : decode cJ1_indexOfChar_4cfef 25 = .ok (.iinc 5 1, 3) := by decide +kernel
theorem dJ1_indexOfChar_4cfef_28 : decode cJ1_indexOfChar_4cfef 28 = .ok (.goto (-21), 3) := by decide +kernel
theorem dJ1_indexOfChar_4cfef_31 : decode cJ1_indexOfChar_4cfef 31 = .ok (.iconst (-1), 1) := by decide +kernel
theorem dJ1_indexOfChar_4cfef_32 : decode cJ1_indexOfChar_4cfef 32 = .ok (.ireturn, 1) := by decide +kernel
theorem dJ7_fill_53178_0 : decode cJ7_fill_53178 0 = .ok (.iconst 0, 1) := by decide +kernel
theorem dJ7_fill_53178_1 : decode cJ7_fill_53178 1 = .ok (.istore_n 2, 1) := by decide +kernel
theorem dJ7_fill_53178_2 : decode cJ7_fill_53178 2 = .ok (.aload_n 0, 1) := by decide +kernel
theorem dJ7_fill_53178_3 : decode cJ7_fill_53178 3 = .ok (.arraylength, 1) := by decide +kernel
theorem dJ7_fill_53178_4 : decode cJ7_fill_53178 4 = .ok (.istore_n 3, 1) := by decide +kernel
theorem dJ7_fill_53178_5 : decode cJ7_fill_53178 5 = .ok (.iload_n 2, 1) := by decide +kernel
theorem dJ7_fill_53178_6 : decode cJ7_fill_53178 6 = .ok (.iload_n 3, 1) := by decide +kernel
theorem dJ7_fill_53178_7 : decode cJ7_fill_53178 7 = .ok (.if_icmp .ge 13, 3) := by decide +kernel
theorem dJ7_fill_53178_10 : decode cJ7_fill_53178 10 = .ok (.aload_n 0, 1) := by decide +kernel
theorem dJ7_fill_53178_11 : decode cJ7_fill_53178 11 = .ok (.iload_n 2, 1) := by decide +kernel
theorem dJ7_fill_53178_12 : decode cJ7_fill_53178 12 = .ok (.iload_n 1, 1) := by decide +kernel
theorem dJ7_fill_53178_13 : decode cJ7_fill_53178 13 = .ok (.iastore, 1) := by decide +kernel
theorem dJ7_fill_53178_14 : decode cJ7_fill_53178 14 = .ok (.iinc 2 1, 3) := by decide +kernel
theorem dJ7_fill_53178_17 : decode cJ7_fill_53178 17 = .ok (.goto (-12), 3) := by decide +kernel
theorem dJ7_fill_53178_20 : decode cJ7_fill_53178 20 = .ok (.return_, 1) := by decide +kernel
theorem dJ7_copyOf_59c91_0 : decode cJ7_copyOf_59c91 0 = .ok (.iload_n 1, 1) := by decide +kernel
theorem dJ7_copyOf_59c91_1 : decode cJ7_copyOf_59c91 1 = .ok (.aload_n 0, 1) := by decide +kernel
theorem dJ7_copyOf_59c91_2 : decode cJ7_copyOf_59c91 2 = .ok (.arraylength, 1) := by decide +kernel
theorem dJ7_copyOf_59c91_3 : decode cJ7_copyOf_59c91 3 = .ok (.if_icmp .ne 11, 3) := by decide +kernel
theorem dJ7_copyOf_59c91_6 : decode cJ7_copyOf_59c91 6 = .ok (.aload_n 0, 1) := by decide +kernel
theorem dJ7_copyOf_59c91_7 : decode cJ7_copyOf_59c91 7 = .ok (.invokevirtual 316, 3) := by decide +kernel
theorem dJ7_copyOf_59c91_10 : decode cJ7_copyOf_59c91 10 = .ok (.checkcast 317, 3) := by decide +kernel
theorem dJ7_copyOf_59c91_13 : decode cJ7_copyOf_59c91 13 = .ok (.areturn, 1) := by decide +kernel
theorem dJ7_copyOf_59c91_14 : decode cJ7_copyOf_59c91 14 = .ok (.iload_n 1, 1) := by decide +kernel
theorem dJ7_copyOf_59c91_15 : decode cJ7_copyOf_59c91 15 = .ok (.newarray .int, 2) := by decide +kernel
theorem dJ7_copyOf_59c91_17 : decode cJ7_copyOf_59c91 17 = .ok (.astore_n 2, 1) := by decide +kernel
theorem dJ7_copyOf_59c91_18 : decode cJ7_copyOf_59c91 18 = .ok (.aload_n 0, 1) := by decide +kernel
theorem dJ7_copyOf_59c91_19 : decode cJ7_copyOf_59c91 19 = .ok (.iconst 0, 1) := by decide +kernel
theorem dJ7_copyOf_59c91_20 : decode cJ7_copyOf_59c91 20 = .ok (.aload_n 2, 1) := by decide +kernel
theorem dJ7_copyOf_59c91_21 : decode cJ7_copyOf_59c91 21 = .ok (.iconst 0, 1) := by decide +kernel
theorem dJ7_copyOf_59c91_22 : decode cJ7_copyOf_59c91 22 = .ok (.aload_n 0, 1) := by decide +kernel
theorem dJ7_copyOf_59c91_23 : decode cJ7_copyOf_59c91 23 = .ok (.arraylength, 1) := by decide +kernel
theorem dJ7_copyOf_59c91_24 : decode cJ7_copyOf_59c91 24 = .ok (.iload_n 1, 1) := by decide +kernel
theorem dJ7_copyOf_59c91_25 : decode cJ7_copyOf_59c91 25 = .ok (.invokestatic 304, 3) := by decide +kernel
theorem dJ7_copyOf_59c91_28 : decode cJ7_copyOf_59c91 28 = .ok (.invokestatic 150, 3) := by decide +kernel
theorem dJ7_copyOf_59c91_31 : decode cJ7_copyOf_59c91 31 = .ok (.aload_n 2, 1) := by decide +kernel
theorem dJ7_copyOf_59c91_32 : decode cJ7_copyOf_59c91 32 = .ok (.areturn, 1) := by decide +kernel
theorem dJ3_checkIndex_8e157_0 : decode cJ3_checkIndex_8e157 0 = .ok (.iload_n 0, 1) := by decide +kernel
theorem dJ3_checkIndex_8e157_1 : decode cJ3_checkIndex_8e157 1 = .ok (.ifCond .lt 8, 3) := by decide +kernel
theorem dJ3_checkIndex_8e157_4 : decode cJ3_checkIndex_8e157 4 = .ok (.iload_n 0, 1) := by decide +kernel
theorem dJ3_checkIndex_8e157_5 : decode cJ3_checkIndex_8e157 5 = .ok (.iload_n 1, 1) := by decide +kernel
theorem dJ3_checkIndex_8e157_6 : decode cJ3_checkIndex_8e157 6 = .ok (.if_icmp .lt 10, 3) := by decide +kernel
theorem dJ3_checkIndex_8e157_9 : decode cJ3_checkIndex_8e157 9 = .ok (.aload_n 2, 1) := by decide +kernel
theorem dJ3_checkIndex_8e157_10 : decode cJ3_checkIndex_8e157 10 = .ok (.iload_n 0, 1) := by decide +kernel
theorem dJ3_checkIndex_8e157_11 : decode cJ3_checkIndex_8e157 11 = .ok (.iload_n 1, 1) := by decide +kernel
theorem dJ3_checkIndex_8e157_12 : decode cJ3_checkIndex_8e157 12 = .ok (.invokestatic 95, 3) := by decide +kernel
theorem dJ3_checkIndex_8e157_15 : decode cJ3_checkIndex_8e157 15 = .ok (.athrow, 1) := by decide +kernel
theorem dJ3_checkIndex_8e157_16 : decode cJ3_checkIndex_8e157 16 = .ok (.iload_n 0, 1) := by decide +kernel
theorem dJ3_checkIndex_8e157_17 : decode cJ3_checkIndex_8e157 17 = .ok (.ireturn, 1) := by decide +kernel
theorem dJ3_checkFromToIndex_8c36e_0 : decode cJ3_checkFromToIndex_8c36e 0 = .ok (.iload_n 0, 1) := by decide +kernel
theorem dJ3_checkFromToIndex_8c36e_1 : decode cJ3_checkFromToIndex_8c36e 1 = .ok (.ifCond .lt 13, 3) := by decide +kernel
theorem dJ3_checkFromToIndex_8c36e_4 : decode cJ3_checkFromToIndex_8c36e 4 = .ok (.iload_n 0, 1) := by decide +kernel
theorem dJ3_checkFromToIndex_8c36e_5 : decode cJ3_checkFromToIndex_8c36e 5 = .ok (.iload_n 1, 1) := by decide +kernel
theorem dJ3_checkFromToIndex_8c36e_6 : decode cJ3_checkFromToIndex_8c36e 6 = .ok (.if_icmp .gt 8, 3) := by decide +kernel
theorem dJ3_checkFromToIndex_8c36e_9 : decode cJ3_checkFromToIndex_8c36e 9 = .ok (.iload_n 1, 1) := by decide +kernel
theorem dJ3_checkFromToIndex_8c36e_10 : decode cJ3_checkFromToIndex_8c36e 10 = .ok (.iload_n 2, 1) := by decide +kernel
theorem dJ3_checkFromToIndex_8c36e_11 : decode cJ3_checkFromToIndex_8c36e 11 = .ok (.if_icmp .le 11, 3) := by decide +kernel
theorem dJ3_checkFromToIndex_8c36e_14 : decode cJ3_checkFromToIndex_8c36e 14 = .ok (.aload_n 3, 1) := by decide +kernel
theorem dJ3_checkFromToIndex_8c36e_15 : decode cJ3_checkFromToIndex_8c36e 15 = .ok (.iload_n 0, 1) := by decide +kernel
theorem dJ3_checkFromToIndex_8c36e_16 : decode cJ3_checkFromToIndex_8c36e 16 = .ok (.iload_n 1, 1) := by decide +kernel
theorem dJ3_checkFromToIndex_8c36e_17 : decode cJ3_checkFromToIndex_8c36e 17 = .ok (.iload_n 2, 1) := by decide +kernel
theorem dJ3_checkFromToIndex_8c36e_18 : decode cJ3_checkFromToIndex_8c36e 18 = .ok (.invokestatic 99, 3) := by decide +kernel
theorem dJ3_checkFromToIndex_8c36e_21 : decode cJ3_checkFromToIndex_8c36e 21 = .ok (.athrow, 1) := by decide +kernel
theorem dJ3_checkFromToIndex_8c36e_22 : decode cJ3_checkFromToIndex_8c36e 22 = .ok (.iload_n 0, 1) := by decide +kernel
theorem dJ3_checkFromToIndex_8c36e_23 : decode cJ3_checkFromToIndex_8c36e 23 = .ok (.ireturn, 1) := by decide +kernel
theorem dL_jar_0 : decode cL_jar 0 = .ok (.aload_n 3, 1) := by decide +kernel
theorem dL_jar_1 : decode cL_jar 1 = .ok (.iconst 0, 1) := by decide +kernel
theorem dL_jar_2 : decode cL_jar 2 = .ok (.aload_n 0, 1) := by decide +kernel
theorem dL_jar_3 : decode cL_jar 3 = .ok (.iload_n 1, 1) := by decide +kernel
theorem dL_jar_4 : decode cL_jar 4 = .ok (.iload_n 2, 1) := by decide +kernel
theorem dL_jar_5 : decode cL_jar 5 = .ok (.invokevirtual 7, 3) := by decide +kernel
theorem dL_jar_8 : decode cL_jar 8 = .ok (.i2l, 1) := by decide +kernel
theorem dL_jar_9 : decode cL_jar 9 = .ok (.lastore, 1) := by decide +kernel
theorem dL_jar_10 : decode cL_jar 10 = .ok (.goto 7, 3) := by decide +kernel
theorem dL_jar_13 : decode cL_jar 13 = .ok (.astore 4, 2) := by decide +kernel
theorem dL_jar_15 : decode cL_jar 15 = .ok (.iconst 1, 1) := by decide +kernel
theorem dL_jar_16 : decode cL_jar 16 = .ok (.ireturn, 1) := by decide +kernel
theorem dL_jar_17 : decode cL_jar 17 = .ok (.iconst 0, 1) := by decide +kernel
theorem dL_jar_18 : decode cL_jar 18 = .ok (.ireturn, 1) := by decide +kernel
theorem dL_law_0 : decode cL_law 0 = .ok (.new 8, 3) := by decide +kernel
theorem dL_law_3 : decode cL_law 3 = .ok (.dup, 1) := by decide +kernel
theorem dL_law_4 : decode cL_law 4 = .ok (.invokespecial 15, 3) := by decide +kernel
theorem dL_law_7 : decode cL_law 7 = .ok (.astore_n 1, 1) := by decide +kernel
theorem dL_law_8 : decode cL_law 8 = .ok (.new 16, 3) := by decide +kernel
theorem dL_law_11 : decode cL_law 11 = .ok (.dup, 1) := by decide +kernel
theorem dL_law_12 : decode cL_law 12 = .ok (.invokespecial 18, 3) := by decide +kernel
theorem dL_law_15 : decode cL_law 15 = .ok (.astore_n 2, 1) := by decide +kernel
theorem dL_law_16 : decode cL_law 16 = .ok (.iconst 1, 1) := by decide +kernel
theorem dL_law_17 : decode cL_law 17 = .ok (.newarray .long, 2) := by decide +kernel
theorem dL_law_19 : decode cL_law 19 = .ok (.astore_n 3, 1) := by decide +kernel
theorem dL_law_20 : decode cL_law 20 = .ok (.iconst 0, 1) := by decide +kernel
theorem dL_law_21 : decode cL_law 21 = .ok (.istore 4, 2) := by decide +kernel
theorem dL_law_23 : decode cL_law 23 = .ok (.iload 4, 2) := by decide +kernel
theorem dL_law_25 : decode cL_law 25 = .ok (.aload_n 0, 1) := by decide +kernel
theorem dL_law_26 : decode cL_law 26 = .ok (.arraylength, 1) := by decide +kernel
theorem dL_law_27 : decode cL_law 27 = .ok (.bipush 6, 2) := by decide +kernel
theorem dL_law_29 : decode cL_law 29 = .ok (.isub, 1) := by decide +kernel
theorem dL_law_30 : decode cL_law 30 = .ok (.if_icmp .gt 1630, 3) := by decide +kernel
theorem dL_law_33 : decode cL_law 33 = .ok (.aload_n 0, 1) := by decide +kernel
theorem dL_law_34 : decode cL_law 34 = .ok (.iload 4, 2) := by decide +kernel
theorem dL_law_36 : decode cL_law 36 = .ok (.iaload, 1) := by decide +kernel
theorem dL_law_37 : decode cL_law 37 = .ok (.bipush 63, 2) := by decide +kernel
theorem dL_law_39 : decode cL_law 39 = .ok (.iand, 1) := by decide +kernel
theorem dL_law_40 : decode cL_law 40 = .ok (.tableswitch 1614 0 42 #[188, 261, 286, 311, 336, 404, 441, 478, 503, 540, 589, 638, 687, 712, 737, 762, 787, 812, 837, 850, 915, 940, 977, 1018, 1043, 1068, 1093, 1106, 1143, 1180, 1217, 1266, 1319, 1332, 1357, 1382, 1419, 1432, 1501, 1526, 1563, 1576, 1589], 188) := by decide +kernel
theorem dL_law_228 : decode cL_law 228 = .ok (.aload_n 1, 1) := by decide +kernel
theorem dL_law_229 : decode cL_law 229 = .ok (.aload_n 0, 1) := by decide +kernel
theorem dL_law_230 : decode cL_law 230 = .ok (.iload 4, 2) := by decide +kernel
theorem dL_law_232 : decode cL_law 232 = .ok (.iconst 1, 1) := by decide +kernel
theorem dL_law_233 : decode cL_law 233 = .ok (.iadd, 1) := by decide +kernel
theorem dL_law_234 : decode cL_law 234 = .ok (.iaload, 1) := by decide +kernel
theorem dL_law_235 : decode cL_law 235 = .ok (.aload_n 0, 1) := by decide +kernel
theorem dL_law_236 : decode cL_law 236 = .ok (.iload 4, 2) := by decide +kernel
theorem dL_law_238 : decode cL_law 238 = .ok (.iconst 2, 1) := by decide +kernel
theorem dL_law_239 : decode cL_law 239 = .ok (.iadd, 1) := by decide +kernel
