theorem dX12_readItem_24 : decode cX12_readItem 24 = .ok (.invokevirtual 131, 3) := by decide +kernel
theorem dX12_readItem_27 : decode cX12_readItem 27 = .ok (.pop, 1) := by decide +kernel
theorem dX12_readItem_28 : decode cX12_readItem 28 = .ok (.return_, 1) := by decide +kernel
theorem dX12_readItem_29 : decode cX12_readItem 29 = .ok (.iload 5, 2) := by decide +kernel
theorem dX12_readItem_31 : decode cX12_readItem 31 = .ok (.bipush 48, 2) := by decide +kernel
theorem dX12_readItem_33 : decode cX12_readItem 33 = .ok (.isub, 1) := by decide +kernel
theorem dX12_readItem_34 : decode cX12_readItem 34 = .ok (.istore 6, 2) := by decide +kernel
theorem dX12_readItem_36 : decode cX12_readItem 36 = .ok (.aload_n 0, 1) := by decide +kernel
theorem dX12_readItem_37 : decode cX12_readItem 37 = .ok (.dup, 1) := by decide +kernel
theorem dX12_readItem_38 : decode cX12_readItem 38 = .ok (.getfield 116, 3) := by decide +kernel
theorem dX12_readItem_41 : decode cX12_readItem 41 = .ok (.iconst 1, 1) := by decide +kernel
theorem dX12_readItem_42 : decode cX12_readItem 42 = .ok (.iadd, 1) := by decide +kernel
theorem dX12_readItem_43 : decode cX12_readItem 43 = .ok (.putfield 116, 3) := by decide +kernel
theorem dX12_readItem_46 : decode cX12_readItem 46 = .ok (.aload_n 0, 1) := by decide +kernel
theorem dX12_readItem_47 : decode cX12_readItem 47 = .ok (.invokevirtual 165, 3) := by decide +kernel
theorem dX12_readItem_50 : decode cX12_readItem 50 = .ok (.ifCond .eq 28, 3) := by decide +kernel
theorem dX12_readItem_53 : decode cX12_readItem 53 = .ok (.bipush 10, 2) := by decide +kernel
theorem dX12_readItem_55 : decode cX12_readItem 55 = .ok (.iload 6, 2) := by decide +kernel
theorem dX12_readItem_57 : decode cX12_readItem 57 = .ok (.imul, 1) := by decide +kernel
theorem dX12_readItem_58 : decode cX12_readItem 58 = .ok (.aload_n 0, 1) := by decide +kernel
theorem dX12_readItem_59 : decode cX12_readItem 59 = .ok (.invokevirtual 211, 3) := by decide +kernel
theorem dX12_readItem_62 : decode cX12_readItem 62 = .ok (.iadd, 1) := by decide +kernel
theorem dX12_readItem_63 : decode cX12_readItem 63 = .ok (.bipush 48, 2) := by decide +kernel
theorem dX12_readItem_65 : decode cX12_readItem 65 = .ok (.isub, 1) := by decide +kernel
theorem dX12_readItem_66 : decode cX12_readItem 66 = .ok (.istore 6, 2) := by decide +kernel
theorem dX12_readItem_68 : decode cX12_readItem 68 = .ok (.aload_n 0, 1) := by decide +kernel
theorem dX12_readItem_69 : decode cX12_readItem 69 = .ok (.dup, 1) := by decide +kernel
theorem dX12_readItem_70 : decode cX12_readItem 70 = .ok (.getfield 116, 3) := by decide +kernel
theorem dX12_readItem_73 : decode cX12_readItem 73 = .ok (.iconst 1, 1) := by decide +kernel
theorem dX12_readItem_74 : decode cX12_readItem 74 = .ok (.iadd, 1) := by decide +kernel
theorem dX12_readItem_75 : decode cX12_readItem 75 = .ok (.putfield 116, 3) := by decide +kernel
theorem dX12_readItem_78 : decode cX12_readItem 78 = .ok (.aload_n 0, 1) := by decide +kernel
theorem dX12_readItem_79 : decode cX12_readItem 79 = .ok (.invokevirtual 165, 3) := by decide +kernel
theorem dX12_readItem_82 : decode cX12_readItem 82 = .ok (.ifCond .eq 9, 3) := by decide +kernel
theorem dX12_readItem_85 : decode cX12_readItem 85 = .ok (.aload_n 0, 1) := by decide +kernel
theorem dX12_readItem_86 : decode cX12_readItem 86 = .ok (.invokevirtual 131, 3) := by decide +kernel
theorem dX12_readItem_89 : decode cX12_readItem 89 = .ok (.pop, 1) := by decide +kernel
theorem dX12_readItem_90 : decode cX12_readItem 90 = .ok (.return_, 1) := by decide +kernel
theorem dX12_readItem_91 : decode cX12_readItem 91 = .ok (.iload 6, 2) := by decide +kernel
theorem dX12_readItem_93 : decode cX12_readItem 93 = .ok (.i2l, 1) := by decide +kernel
theorem dX12_readItem_94 : decode cX12_readItem 94 = .ok (.iload_n 3, 1) := by decide +kernel
theorem dX12_readItem_95 : decode cX12_readItem 95 = .ok (.i2l, 1) := by decide +kernel
theorem dX12_readItem_96 : decode cX12_readItem 96 = .ok (.iload 4, 2) := by decide +kernel
theorem dX12_readItem_98 : decode cX12_readItem 98 = .ok (.i2l, 1) := by decide +kernel
theorem dX12_readItem_99 : decode cX12_readItem 99 = .ok (.invokestatic 214, 3) := by decide +kernel
theorem dX12_readItem_102 : decode cX12_readItem 102 = .ok (.ifCond .ne 19, 3) := by decide +kernel
theorem dX12_readItem_105 : decode cX12_readItem 105 = .ok (.aload_n 0, 1) := by decide +kernel
theorem dX12_readItem_106 : decode cX12_readItem 106 = .ok (.dup, 1) := by decide +kernel
theorem dX12_readItem_107 : decode cX12_readItem 107 = .ok (.getfield 116, 3) := by decide +kernel
theorem dX12_readItem_110 : decode cX12_readItem 110 = .ok (.iconst 1, 1) := by decide +kernel
theorem dX12_readItem_111 : decode cX12_readItem 111 = .ok (.isub, 1) := by decide +kernel
theorem dX12_readItem_112 : decode cX12_readItem 112 = .ok (.putfield 116, 3) := by decide +kernel
theorem dX12_readItem_115 : decode cX12_readItem 115 = .ok (.aload_n 0, 1) := by decide +kernel
theorem dX12_readItem_116 : decode cX12_readItem 116 = .ok (.invokevirtual 131, 3) := by decide +kernel
theorem dX12_readItem_119 : decode cX12_readItem 119 = .ok (.pop, 1) := by decide +kernel
theorem dX12_readItem_120 : decode cX12_readItem 120 = .ok (.return_, 1) := by decide +kernel
theorem dX12_readItem_121 : decode cX12_readItem 121 = .ok (.aload_n 1, 1) := by decide +kernel
theorem dX12_readItem_122 : decode cX12_readItem 122 = .ok (.iload_n 2, 1) := by decide +kernel
theorem dX12_readItem_123 : decode cX12_readItem 123 = .ok (.iload 6, 2) := by decide +kernel
theorem dX12_readItem_125 : decode cX12_readItem 125 = .ok (.iastore, 1) := by decide +kernel
theorem dX12_readItem_126 : decode cX12_readItem 126 = .ok (.return_, 1) := by decide +kernel
theorem dX12_mostOf_0 : decode cX12_mostOf 0 = .ok (.iload_n 0, 1) := by decide +kernel
theorem dX12_mostOf_1 : decode cX12_mostOf 1 = .ok (.bipush 106, 2) := by decide +kernel
theorem dX12_mostOf_3 : decode cX12_mostOf 3 = .ok (.if_icmp .ne 30, 3) := by decide +kernel
theorem dX12_mostOf_6 : decode cX12_mostOf 6 = .ok (.iload_n 1, 1) := by decide +kernel
theorem dX12_mostOf_7 : decode cX12_mostOf 7 = .ok (.iconst 2, 1) := by decide +kernel
theorem dX12_mostOf_8 : decode cX12_mostOf 8 = .ok (.if_icmp .lt 8, 3) := by decide +kernel
theorem dX12_mostOf_11 : decode cX12_mostOf 11 = .ok (.iload_n 1, 1) := by decide +kernel
theorem dX12_mostOf_12 : decode cX12_mostOf 12 = .ok (.iconst 5, 1) := by decide +kernel
theorem dX12_mostOf_13 : decode cX12_mostOf 13 = .ok (.if_icmp .ne 8, 3) := by decide +kernel
theorem dX12_mostOf_16 : decode cX12_mostOf 16 = .ok (.bipush 99, 2) := by decide +kernel
theorem dX12_mostOf_18 : decode cX12_mostOf 18 = .ok (.goto 14, 3) := by decide +kernel
theorem dX12_mostOf_21 : decode cX12_mostOf 21 = .ok (.iload_n 1, 1) := by decide +kernel
theorem dX12_mostOf_22 : decode cX12_mostOf 22 = .ok (.iconst 3, 1) := by decide +kernel
theorem dX12_mostOf_23 : decode cX12_mostOf 23 = .ok (.if_icmp .ne 7, 3) := by decide +kernel
theorem dX12_mostOf_26 : decode cX12_mostOf 26 = .ok (.iconst 1, 1) := by decide +kernel
theorem dX12_mostOf_27 : decode cX12_mostOf 27 = .ok (.goto 5, 3) := by decide +kernel
theorem dX12_mostOf_30 : decode cX12_mostOf 30 = .ok (.bipush 9, 2) := by decide +kernel
theorem dX12_mostOf_32 : decode cX12_mostOf 32 = .ok (.ireturn, 1) := by decide +kernel
theorem dX12_mostOf_33 : decode cX12_mostOf 33 = .ok (.iload_n 0, 1) := by decide +kernel
theorem dX12_mostOf_34 : decode cX12_mostOf 34 = .ok (.bipush 104, 2) := by decide +kernel
theorem dX12_mostOf_36 : decode cX12_mostOf 36 = .ok (.if_icmp .ne 12, 3) := by decide +kernel
theorem dX12_mostOf_39 : decode cX12_mostOf 39 = .ok (.iload_n 1, 1) := by decide +kernel
theorem dX12_mostOf_40 : decode cX12_mostOf 40 = .ok (.ifCond .le 8, 3) := by decide +kernel
theorem dX12_mostOf_43 : decode cX12_mostOf 43 = .ok (.bipush 9, 2) := by decide +kernel
theorem dX12_mostOf_45 : decode cX12_mostOf 45 = .ok (.goto 5, 3) := by decide +kernel
theorem dX12_mostOf_48 : decode cX12_mostOf 48 = .ok (.bipush 99, 2) := by decide +kernel
theorem dX12_mostOf_50 : decode cX12_mostOf 50 = .ok (.ireturn, 1) := by decide +kernel
theorem dX12_leastOf_0 : decode cX12_leastOf 0 = .ok (.iload_n 0, 1) := by decide +kernel
theorem dX12_leastOf_1 : decode cX12_leastOf 1 = .ok (.bipush 106, 2) := by decide +kernel
theorem dX12_leastOf_3 : decode cX12_leastOf 3 = .ok (.if_icmp .ne 8, 3) := by decide +kernel
theorem dX12_leastOf_6 : decode cX12_leastOf 6 = .ok (.iload_n 1, 1) := by decide +kernel
theorem dX12_leastOf_7 : decode cX12_leastOf 7 = .ok (.iconst 3, 1) := by decide +kernel
theorem dX12_leastOf_8 : decode cX12_leastOf 8 = .ok (.if_icmp .gt 14, 3) := by decide +kernel
theorem dX12_leastOf_11 : decode cX12_leastOf 11 = .ok (.iload_n 0, 1) := by decide +kernel
theorem dX12_leastOf_12 : decode cX12_leastOf 12 = .ok (.bipush 104, 2) := by decide +kernel
theorem dX12_leastOf_14 : decode cX12_leastOf 14 = .ok (.if_icmp .ne 12, 3) := by decide +kernel
theorem dX12_leastOf_17 : decode cX12_leastOf 17 = .ok (.iload_n 1, 1) := by decide +kernel
theorem dX12_leastOf_18 : decode cX12_leastOf 18 = .ok (.iconst 1, 1) := by decide +kernel
theorem dX12_leastOf_19 : decode cX12_leastOf 19 = .ok (.if_icmp .ne 7, 3) := by decide +kernel
theorem dX12_leastOf_22 : decode cX12_leastOf 22 = .ok (.iconst 1, 1) := by decide +kernel
theorem dX12_leastOf_23 : decode cX12_leastOf 23 = .ok (.goto 4, 3) := by decide +kernel
theorem dX12_leastOf_26 : decode cX12_leastOf 26 = .ok (.iconst 0, 1) := by decide +kernel
theorem dX12_leastOf_27 : decode cX12_leastOf 27 = .ok (.ireturn, 1) := by decide +kernel
theorem dX12_usual_0 : decode cX12_usual 0 = .ok (.iload_n 0, 1) := by decide +kernel
theorem dX12_usual_1 : decode cX12_usual 1 = .ok (.bipush 116, 2) := by decide +kernel
theorem dX12_usual_3 : decode cX12_usual 3 = .ok (.if_icmp .ne 14, 3) := by decide +kernel
theorem dX12_usual_6 : decode cX12_usual 6 = .ok (.iload_n 1, 1) := by decide +kernel
theorem dX12_usual_7 : decode cX12_usual 7 = .ok (.ifCond .ne 8, 3) := by decide +kernel
theorem dX12_usual_10 : decode cX12_usual 10 = .ok (.bipush 10, 2) := by decide +kernel
theorem dX12_usual_12 : decode cX12_usual 12 = .ok (.goto 4, 3) := by decide +kernel
theorem dX12_usual_15 : decode cX12_usual 15 = .ok (.iconst 5, 1) := by decide +kernel
theorem dX12_usual_16 : decode cX12_usual 16 = .ok (.ireturn, 1) := by decide +kernel
theorem dX12_usual_17 : decode cX12_usual 17 = .ok (.iload_n 0, 1) := by decide +kernel
theorem dX12_usual_18 : decode cX12_usual 18 = .ok (.bipush 104, 2) := by decide +kernel
theorem dX12_usual_20 : decode cX12_usual 20 = .ok (.if_icmp .ne 32, 3) := by decide +kernel
theorem dX12_usual_23 : decode cX12_usual 23 = .ok (.iload_n 1, 1) := by decide +kernel
theorem dX12_usual_24 : decode cX12_usual 24 = .ok (.ifCond .ne 8, 3) := by decide +kernel
theorem dX12_usual_27 : decode cX12_usual 27 = .ok (.bipush 30, 2) := by decide +kernel
theorem dX12_usual_29 : decode cX12_usual 29 = .ok (.goto 22, 3) := by decide +kernel
theorem dX12_usual_32 : decode cX12_usual 32 = .ok (.iload_n 1, 1) := by decide +kernel
theorem dX12_usual_33 : decode cX12_usual 33 = .ok (.iconst 1, 1) := by decide +kernel
theorem dX12_usual_34 : decode cX12_usual 34 = .ok (.if_icmp .ne 7, 3) := by decide +kernel
theorem dX12_usual_37 : decode cX12_usual 37 = .ok (.iconst 5, 1) := by decide +kernel
theorem dX12_usual_38 : decode cX12_usual 38 = .ok (.goto 13, 3) := by decide +kernel
theorem dX12_usual_41 : decode cX12_usual 41 = .ok (.iload_n 1, 1) := by decide +kernel
theorem dX12_usual_42 : decode cX12_usual 42 = .ok (.iconst 3, 1) := by decide +kernel
theorem dX12_usual_43 : decode cX12_usual 43 = .ok (.if_icmp .ne 7, 3) := by decide +kernel
theorem dX12_usual_46 : decode cX12_usual 46 = .ok (.iconst 2, 1) := by decide +kernel
theorem dX12_usual_47 : decode cX12_usual 47 = .ok (.goto 4, 3) := by decide +kernel
theorem dX12_usual_50 : decode cX12_usual 50 = .ok (.iconst 0, 1) := by decide +kernel
theorem dX12_usual_51 : decode cX12_usual 51 = .ok (.ireturn, 1) := by decide +kernel
theorem dX12_usual_52 : decode cX12_usual 52 = .ok (.iload_n 1, 1) := by decide +kernel
theorem dX12_usual_53 : decode cX12_usual 53 = .ok (.tableswitch 50 0 5 #[39, 42, 50, 50, 45, 47], 39) := by decide +kernel
theorem dX12_usual_92 : decode cX12_usual 92 = .ok (.bipush 20, 2) := by decide +kernel
theorem dX12_usual_94 : decode cX12_usual 94 = .ok (.ireturn, 1) := by decide +kernel
theorem dX12_usual_95 : decode cX12_usual 95 = .ok (.bipush 10, 2) := by decide +kernel
theorem dX12_usual_97 : decode cX12_usual 97 = .ok (.ireturn, 1) := by decide +kernel
theorem dX12_usual_98 : decode cX12_usual 98 = .ok (.iconst 5, 1) := by decide +kernel
theorem dX12_usual_99 : decode cX12_usual 99 = .ok (.ireturn, 1) := by decide +kernel
theorem dX12_usual_100 : decode cX12_usual 100 = .ok (.bipush 40, 2) := by decide +kernel
theorem dX12_usual_102 : decode cX12_usual 102 = .ok (.ireturn, 1) := by decide +kernel
theorem dX12_usual_103 : decode cX12_usual 103 = .ok (.iconst 0, 1) := by decide +kernel
theorem dX12_usual_104 : decode cX12_usual 104 = .ok (.ireturn, 1) := by decide +kernel
theorem dX12_readClause_0 : decode cX12_readClause 0 = .ok (.aload_n 0, 1) := by decide +kernel
theorem dX12_readClause_1 : decode cX12_readClause 1 = .ok (.invokevirtual 135, 3) := by decide +kernel
theorem dX12_readClause_4 : decode cX12_readClause 4 = .ok (.istore_n 1, 1) := by decide +kernel
theorem dX12_readClause_5 : decode cX12_readClause 5 = .ok (.iload_n 1, 1) := by decide +kernel
theorem dX12_readClause_6 : decode cX12_readClause 6 = .ok (.bipush 106, 2) := by decide +kernel
theorem dX12_readClause_8 : decode cX12_readClause 8 = .ok (.if_icmp .ne 11, 3) := by decide +kernel
theorem dX12_readClause_11 : decode cX12_readClause 11 = .ok (.aload_n 0, 1) := by decide +kernel
theorem dX12_readClause_12 : decode cX12_readClause 12 = .ok (.getfield 218, 3) := by decide +kernel
theorem dX12_readClause_15 : decode cX12_readClause 15 = .ok (.iconst 4, 1) := by decide +kernel
theorem dX12_readClause_16 : decode cX12_readClause 16 = .ok (.if_icmp .lt 32, 3) := by decide +kernel
theorem dX12_readClause_19 : decode cX12_readClause 19 = .ok (.iload_n 1, 1) := by decide +kernel
theorem dX12_readClause_20 : decode cX12_readClause 20 = .ok (.bipush 104, 2) := by decide +kernel
theorem dX12_readClause_22 : decode cX12_readClause 22 = .ok (.if_icmp .ne 12, 3) := by decide +kernel
theorem dX12_readClause_25 : decode cX12_readClause 25 = .ok (.aload_n 0, 1) := by decide +kernel
theorem dX12_readClause_26 : decode cX12_readClause 26 = .ok (.getfield 221, 3) := by decide +kernel
theorem dX12_readClause_29 : decode cX12_readClause 29 = .ok (.bipush 6, 2) := by decide +kernel
theorem dX12_readClause_31 : decode cX12_readClause 31 = .ok (.if_icmp .lt 17, 3) := by decide +kernel
theorem dX12_readClause_34 : decode cX12_readClause 34 = .ok (.iload_n 1, 1) := by decide +kernel
theorem dX12_readClause_35 : decode cX12_readClause 35 = .ok (.bipush 116, 2) := by decide +kernel
theorem dX12_readClause_37 : decode cX12_readClause 37 = .ok (.if_icmp .ne 15, 3) := by decide +kernel
theorem dX12_readClause_40 : decode cX12_readClause 40 = .ok (.aload_n 0, 1) := by decide +kernel
theorem dX12_readClause_41 : decode cX12_readClause 41 = .ok (.getfield 224, 3) := by decide +kernel
theorem dX12_readClause_44 : decode cX12_readClause 44 = .ok (.iconst 4, 1) := by decide +kernel
theorem dX12_readClause_45 : decode cX12_readClause 45 = .ok (.if_icmp .ge 7, 3) := by decide +kernel
theorem dX12_readClause_48 : decode cX12_readClause 48 = .ok (.iconst 1, 1) := by decide +kernel
theorem dX12_readClause_49 : decode cX12_readClause 49 = .ok (.goto 4, 3) := by decide +kernel
theorem dX12_readClause_52 : decode cX12_readClause 52 = .ok (.iconst 0, 1) := by decide +kernel
theorem dX12_readClause_53 : decode cX12_readClause 53 = .ok (.istore_n 2, 1) := by decide +kernel
theorem dX12_readClause_54 : decode cX12_readClause 54 = .ok (.iload_n 2, 1) := by decide +kernel
theorem dX12_readClause_55 : decode cX12_readClause 55 = .ok (.ifCond .ne 9, 3) := by decide +kernel
theorem dX12_readClause_58 : decode cX12_readClause 58 = .ok (.aload_n 0, 1) := by decide +kernel
theorem dX12_readClause_59 : decode cX12_readClause 59 = .ok (.invokevirtual 131, 3) := by decide +kernel
theorem dX12_readClause_62 : decode cX12_readClause 62 = .ok (.pop, 1) := by decide +kernel
theorem dX12_readClause_63 : decode cX12_readClause 63 = .ok (.return_, 1) := by decide +kernel
theorem dX12_readClause_64 : decode cX12_readClause 64 = .ok (.aload_n 0, 1) := by decide +kernel
theorem dX12_readClause_65 : decode cX12_readClause 65 = .ok (.dup, 1) := by decide +kernel
theorem dX12_readClause_66 : decode cX12_readClause 66 = .ok (.getfield 116, 3) := by decide +kernel
theorem dX12_readClause_69 : decode cX12_readClause 69 = .ok (.iconst 1, 1) := by decide +kernel
theorem dX12_readClause_70 : decode cX12_readClause 70 = .ok (.iadd, 1) := by decide +kernel
theorem dX12_readClause_71 : decode cX12_readClause 71 = .ok (.putfield 116, 3) := by decide +kernel
theorem dX12_readClause_74 : decode cX12_readClause 74 = .ok (.iload_n 1, 1) := by decide +kernel
theorem dX12_readClause_75 : decode cX12_readClause 75 = .ok (.bipush 106, 2) := by decide +kernel
theorem dX12_readClause_77 : decode cX12_readClause 77 = .ok (.if_icmp .ne 13, 3) := by decide +kernel
theorem dX12_readClause_80 : decode cX12_readClause 80 = .ok (.bipush 6, 2) := by decide +kernel
theorem dX12_readClause_82 : decode cX12_readClause 82 = .ok (.aload_n 0, 1) := by decide +kernel
theorem dX12_readClause_83 : decode cX12_readClause 83 = .ok (.getfield 218, 3) := by decide +kernel
theorem dX12_readClause_86 : decode cX12_readClause 86 = .ok (.imul, 1) := by decide +kernel
theorem dX12_readClause_87 : decode cX12_readClause 87 = .ok (.goto 24, 3) := by decide +kernel
theorem dX12_readClause_90 : decode cX12_readClause 90 = .ok (.iload_n 1, 1) := by decide +kernel
theorem dX12_readClause_91 : decode cX12_readClause 91 = .ok (.bipush 104, 2) := by decide +kernel
theorem dX12_readClause_93 : decode cX12_readClause 93 = .ok (.if_icmp .ne 12, 3) := by decide +kernel
theorem dX12_readClause_96 : decode cX12_readClause 96 = .ok (.iconst 5, 1) := by decide +kernel
theorem dX12_readClause_97 : decode cX12_readClause 97 = .ok (.aload_n 0, 1) := by decide +kernel
theorem dX12_readClause_98 : decode cX12_readClause 98 = .ok (.getfield 221, 3) := by decide +kernel
theorem dX12_readClause_101 : decode cX12_readClause 101 = .ok (.imul, 1) := by decide +kernel
theorem dX12_readClause_102 : decode cX12_readClause 102 = .ok (.goto 9, 3) := by decide +kernel
theorem dX12_readClause_105 : decode cX12_readClause 105 = .ok (.iconst 2, 1) := by decide +kernel
theorem dX12_readClause_106 : decode cX12_readClause 106 = .ok (.aload_n 0, 1) := by decide +kernel
theorem dX12_readClause_107 : decode cX12_readClause 107 = .ok (.getfield 224, 3) := by decide +kernel
theorem dX12_readClause_110 : decode cX12_readClause 110 = .ok (.imul, 1) := by decide +kernel
theorem dX12_readClause_111 : decode cX12_readClause 111 = .ok (.istore_n 3, 1) := by decide +kernel
theorem dX12_readClause_112 : decode cX12_readClause 112 = .ok (.iload_n 1, 1) := by decide +kernel
theorem dX12_readClause_113 : decode cX12_readClause 113 = .ok (.bipush 106, 2) := by decide +kernel
theorem dX12_readClause_115 : decode cX12_readClause 115 = .ok (.if_icmp .ne 10, 3) := by decide +kernel
theorem dX12_readClause_118 : decode cX12_readClause 118 = .ok (.aload_n 0, 1) := by decide +kernel
theorem dX12_readClause_119 : decode cX12_readClause 119 = .ok (.getfield 40, 3) := by decide +kernel
theorem dX12_readClause_122 : decode cX12_readClause 122 = .ok (.goto 20, 3) := by decide +kernel
theorem dX12_readClause_125 : decode cX12_readClause 125 = .ok (.iload_n 1, 1) := by decide +kernel
theorem dX12_readClause_126 : decode cX12_readClause 126 = .ok (.bipush 104, 2) := by decide +kernel
theorem dX12_readClause_128 : decode cX12_readClause 128 = .ok (.if_icmp .ne 10, 3) := by decide +kernel
theorem dX12_readClause_131 : decode cX12_readClause 131 = .ok (.aload_n 0, 1) := by decide +kernel
theorem dX12_readClause_132 : decode cX12_readClause 132 = .ok (.getfield 46, 3) := by decide +kernel
theorem dX12_readClause_135 : decode cX12_readClause 135 = .ok (.goto 7, 3) := by decide +kernel
theorem dX12_readClause_138 : decode cX12_readClause 138 = .ok (.aload_n 0, 1) := by decide +kernel
theorem dX12_readClause_139 : decode cX12_readClause 139 = .ok (.getfield 52, 3) := by decide +kernel
theorem dX12_readClause_142 : decode cX12_readClause 142 = .ok (.astore 4, 2) := by decide +kernel
theorem dX12_readClause_144 : decode cX12_readClause 144 = .ok (.iload_n 1, 1) := by decide +kernel
theorem dX12_readClause_145 : decode cX12_readClause 145 = .ok (.bipush 106, 2) := by decide +kernel
theorem dX12_readClause_147 : decode cX12_readClause 147 = .ok (.if_icmp .ne 8, 3) := by decide +kernel
theorem dX12_readClause_150 : decode cX12_readClause 150 = .ok (.ldc 227, 2) := by decide +kernel
theorem dX12_readClause_152 : decode cX12_readClause 152 = .ok (.goto 16, 3) := by decide +kernel
theorem dX12_readClause_155 : decode cX12_readClause 155 = .ok (.iload_n 1, 1) := by decide +kernel
theorem dX12_readClause_156 : decode cX12_readClause 156 = .ok (.bipush 104, 2) := by decide +kernel
theorem dX12_readClause_158 : decode cX12_readClause 158 = .ok (.if_icmp .ne 8, 3) := by decide +kernel
theorem dX12_readClause_161 : decode cX12_readClause 161 = .ok (.ldc 229, 2) := by decide +kernel
theorem dX12_readClause_163 : decode cX12_readClause 163 = .ok (.goto 5, 3) := by decide +kernel
theorem dX12_readClause_166 : decode cX12_readClause 166 = .ok (.ldc 231, 2) := by decide +kernel
theorem dX12_readClause_168 : decode cX12_readClause 168 = .ok (.astore 5, 2) := by decide +kernel
theorem dX12_readClause_170 : decode cX12_readClause 170 = .ok (.iload_n 1, 1) := by decide +kernel
theorem dX12_readClause_171 : decode cX12_readClause 171 = .ok (.bipush 106, 2) := by decide +kernel
theorem dX12_readClause_173 : decode cX12_readClause 173 = .ok (.if_icmp .ne 13, 3) := by decide +kernel
theorem dX12_readClause_176 : decode cX12_readClause 176 = .ok (.aload_n 0, 1) := by decide +kernel
theorem dX12_readClause_177 : decode cX12_readClause 177 = .ok (.dup, 1) := by decide +kernel
theorem dX12_readClause_178 : decode cX12_readClause 178 = .ok (.getfield 218, 3) := by decide +kernel
theorem dX12_readClause_181 : decode cX12_readClause 181 = .ok (.iconst 1, 1) := by decide +kernel
theorem dX12_readClause_182 : decode cX12_readClause 182 = .ok (.iadd, 1) := by decide +kernel
theorem dX12_readClause_183 : decode cX12_readClause 183 = .ok (.putfield 218, 3) := by decide +kernel
theorem dX12_readClause_186 : decode cX12_readClause 186 = .ok (.iload_n 1, 1) := by decide +kernel
theorem dX12_readClause_187 : decode cX12_readClause 187 = .ok (.bipush 104, 2) := by decide +kernel
theorem dX12_readClause_189 : decode cX12_readClause 189 = .ok (.if_icmp .ne 13, 3) := by decide +kernel
theorem dX12_readClause_192 : decode cX12_readClause 192 = .ok (.aload_n 0, 1) := by decide +kernel
theorem dX12_readClause_193 : decode cX12_readClause 193 = .ok (.dup, 1) := by decide +kernel
theorem dX12_readClause_194 : decode cX12_readClause 194 = .ok (.getfield 221, 3) := by decide +kernel
theorem dX12_readClause_197 : decode cX12_readClause 197 = .ok (.iconst 1, 1) := by decide +kernel
theorem dX12_readClause_198 : decode cX12_readClause 198 = .ok (.iadd, 1) := by decide +kernel
theorem dX12_readClause_199 : decode cX12_readClause 199 = .ok (.putfield 221, 3) := by decide +kernel
theorem dX12_readClause_202 : decode cX12_readClause 202 = .ok (.iload_n 1, 1) := by decide +kernel
theorem dX12_readClause_203 : decode cX12_readClause 203 = .ok (.bipush 116, 2) := by decide +kernel
theorem dX12_readClause_205 : decode cX12_readClause 205 = .ok (.if_icmp .ne 13, 3) := by decide +kernel
theorem dX12_readClause_208 : decode cX12_readClause 208 = .ok (.aload_n 0, 1) := by decide +kernel
theorem dX12_readClause_209 : decode cX12_readClause 209 = .ok (.dup, 1) := by decide +kernel
theorem dX12_readClause_210 : decode cX12_readClause 210 = .ok (.getfield 224, 3) := by decide +kernel
theorem dX12_readClause_213 : decode cX12_readClause 213 = .ok (.iconst 1, 1) := by decide +kernel
theorem dX12_readClause_214 : decode cX12_readClause 214 = .ok (.iadd, 1) := by decide +kernel
theorem dX12_readClause_215 : decode cX12_readClause 215 = .ok (.putfield 224, 3) := by decide +kernel
theorem dX12_readClause_218 : decode cX12_readClause 218 = .ok (.iconst 0, 1) := by decide +kernel
theorem dX12_readClause_219 : decode cX12_readClause 219 = .ok (.istore 6, 2) := by decide +kernel
theorem dX12_readClause_221 : decode cX12_readClause 221 = .ok (.iload 6, 2) := by decide +kernel
theorem dX12_readClause_223 : decode cX12_readClause 223 = .ok (.aload 5, 2) := by decide +kernel
theorem dX12_readClause_225 : decode cX12_readClause 225 = .ok (.invokevirtual 96, 3) := by decide +kernel
theorem dX12_readClause_228 : decode cX12_readClause 228 = .ok (.if_icmp .ge 22, 3) := by decide +kernel
theorem dX12_readClause_231 : decode cX12_readClause 231 = .ok (.aload 4, 2) := by decide +kernel
theorem dX12_readClause_233 : decode cX12_readClause 233 = .ok (.iload_n 3, 1) := by decide +kernel
theorem dX12_readClause_234 : decode cX12_readClause 234 = .ok (.iload 6, 2) := by decide +kernel
theorem dX12_readClause_236 : decode cX12_readClause 236 = .ok (.iadd, 1) := by decide +kernel
theorem dX12_readClause_237 : decode cX12_readClause 237 = .ok (.iload_n 1, 1) := by decide +kernel
theorem dX12_readClause_238 : decode cX12_readClause 238 = .ok (.iload 6, 2) := by decide +kernel
theorem dX12_readClause_240 : decode cX12_readClause 240 = .ok (.invokestatic 233, 3) := by decide +kernel
theorem dX12_readClause_243 : decode cX12_readClause 243 = .ok (.iastore, 1) := by decide +kernel
theorem dX12_readClause_244 : decode cX12_readClause 244 = .ok (.iinc 6 1, 3) := by decide +kernel
theorem dX12_readClause_247 : decode cX12_readClause 247 = .ok (.goto (-26), 3) := by decide +kernel
theorem dX12_readClause_250 : decode cX12_readClause 250 = .ok (.iconst 0, 1) := by decide +kernel
theorem dX12_readClause_251 : decode cX12_readClause 251 = .ok (.istore 6, 2) := by decide +kernel
theorem dX12_readClause_253 : decode cX12_readClause 253 = .ok (.aload 5, 2) := by decide +kernel
theorem dX12_readClause_255 : decode cX12_readClause 255 = .ok (.aload_n 0, 1) := by decide +kernel
theorem dX12_readClause_256 : decode cX12_readClause 256 = .ok (.invokevirtual 135, 3) := by decide +kernel
theorem dX12_readClause_259 : decode cX12_readClause 259 = .ok (.invokestatic 237, 3) := by decide +kernel
theorem dX12_readClause_262 : decode cX12_readClause 262 = .ok (.istore 7, 2) := by decide +kernel
theorem dX12_readClause_264 : decode cX12_readClause 264 = .ok (.iload 7, 2) := by decide +kernel
theorem dX12_readClause_266 : decode cX12_readClause 266 = .ok (.iconst (-1), 1) := by decide +kernel
theorem dX12_readClause_267 : decode cX12_readClause 267 = .ok (.if_icmp .eq 80, 3) := by decide +kernel
theorem dX12_readClause_270 : decode cX12_readClause 270 = .ok (.aload_n 0, 1) := by decide +kernel
theorem dX12_readClause_271 : decode cX12_readClause 271 = .ok (.getfield 125, 3) := by decide +kernel
theorem dX12_readClause_274 : decode cX12_readClause 274 = .ok (.iconst (-1), 1) := by decide +kernel
theorem dX12_readClause_275 : decode cX12_readClause 275 = .ok (.if_icmp .ne 72, 3) := by decide +kernel
theorem dX12_readClause_278 : decode cX12_readClause 278 = .ok (.iload 6, 2) := by decide +kernel
theorem dX12_readClause_280 : decode cX12_readClause 280 = .ok (.iload 7, 2) := by decide +kernel
theorem dX12_readClause_282 : decode cX12_readClause 282 = .ok (.invokestatic 241, 3) := by decide +kernel
theorem dX12_readClause_285 : decode cX12_readClause 285 = .ok (.ifCond .eq 9, 3) := by decide +kernel
theorem dX12_readClause_288 : decode cX12_readClause 288 = .ok (.aload_n 0, 1) := by decide +kernel
theorem dX12_readClause_289 : decode cX12_readClause 289 = .ok (.invokevirtual 131, 3) := by decide +kernel
theorem dX12_readClause_292 : decode cX12_readClause 292 = .ok (.pop, 1) := by decide +kernel
theorem dX12_readClause_293 : decode cX12_readClause 293 = .ok (.return_, 1) := by decide +kernel
theorem dX12_readClause_294 : decode cX12_readClause 294 = .ok (.iload 6, 2) := by decide +kernel
theorem dX12_readClause_296 : decode cX12_readClause 296 = .ok (.iconst 1, 1) := by decide +kernel
theorem dX12_readClause_297 : decode cX12_readClause 297 = .ok (.iload 7, 2) := by decide +kernel
theorem dX12_readClause_299 : decode cX12_readClause 299 = .ok (.ishl, 1) := by decide +kernel
theorem dX12_readClause_300 : decode cX12_readClause 300 = .ok (.ior, 1) := by decide +kernel
theorem dX12_readClause_301 : decode cX12_readClause 301 = .ok (.istore 6, 2) := by decide +kernel
theorem dX12_readClause_303 : decode cX12_readClause 303 = .ok (.aload_n 0, 1) := by decide +kernel
theorem dX12_readClause_304 : decode cX12_readClause 304 = .ok (.aload 4, 2) := by decide +kernel
theorem dX12_readClause_306 : decode cX12_readClause 306 = .ok (.iload_n 3, 1) := by decide +kernel
theorem dX12_readClause_307 : decode cX12_readClause 307 = .ok (.iload 7, 2) := by decide +kernel
theorem dX12_readClause_309 : decode cX12_readClause 309 = .ok (.iadd, 1) := by decide +kernel
theorem dX12_readClause_310 : decode cX12_readClause 310 = .ok (.iload_n 1, 1) := by decide +kernel
theorem dX12_readClause_311 : decode cX12_readClause 311 = .ok (.iload 7, 2) := by decide +kernel
theorem dX12_readClause_313 : decode cX12_readClause 313 = .ok (.invokestatic 245, 3) := by decide +kernel
theorem dX12_readClause_316 : decode cX12_readClause 316 = .ok (.iload_n 1, 1) := by decide +kernel
theorem dX12_readClause_317 : decode cX12_readClause 317 = .ok (.iload 7, 2) := by decide +kernel
theorem dX12_readClause_319 : decode cX12_readClause 319 = .ok (.invokestatic 248, 3) := by decide +kernel
theorem dX12_readClause_322 : decode cX12_readClause 322 = .ok (.invokevirtual 251, 3) := by decide +kernel
theorem dX12_readClause_325 : decode cX12_readClause 325 = .ok (.aload_n 0, 1) := by decide +kernel
theorem dX12_readClause_326 : decode cX12_readClause 326 = .ok (.getfield 125, 3) := by decide +kernel
theorem dX12_readClause_329 : decode cX12_readClause 329 = .ok (.iconst (-1), 1) := by decide +kernel
theorem dX12_readClause_330 : decode cX12_readClause 330 = .ok (.if_icmp .ne (-66), 3) := by decide +kernel
theorem dX12_readClause_333 : decode cX12_readClause 333 = .ok (.aload 5, 2) := by decide +kernel
theorem dX12_readClause_335 : decode cX12_readClause 335 = .ok (.aload_n 0, 1) := by decide +kernel
theorem dX12_readClause_336 : decode cX12_readClause 336 = .ok (.invokevirtual 135, 3) := by decide +kernel
theorem dX12_readClause_339 : decode cX12_readClause 339 = .ok (.invokestatic 237, 3) := by decide +kernel
theorem dX12_readClause_342 : decode cX12_readClause 342 = .ok (.istore 7, 2) := by decide +kernel
theorem dX12_readClause_344 : decode cX12_readClause 344 = .ok (.goto (-80), 3) := by decide +kernel
theorem dX12_readClause_347 : decode cX12_readClause 347 = .ok (.return_, 1) := by decide +kernel
theorem dX12_readKitchen_0 : decode cX12_readKitchen 0 = .ok (.aload_n 0, 1) := by decide +kernel
theorem dX12_readKitchen_1 : decode cX12_readKitchen 1 = .ok (.aload_n 0, 1) := by decide +kernel
theorem dX12_readKitchen_2 : decode cX12_readKitchen 2 = .ok (.getfield 9, 3) := by decide +kernel
theorem dX12_readKitchen_5 : decode cX12_readKitchen 5 = .ok (.iconst 0, 1) := by decide +kernel
theorem dX12_readKitchen_6 : decode cX12_readKitchen 6 = .ok (.aload_n 0, 1) := by decide +kernel
theorem dX12_readKitchen_7 : decode cX12_readKitchen 7 = .ok (.getfield 106, 3) := by decide +kernel
theorem dX12_readKitchen_10 : decode cX12_readKitchen 10 = .ok (.invokevirtual 204, 3) := by decide +kernel
theorem dX12_readKitchen_13 : decode cX12_readKitchen 13 = .ok (.aload_n 0, 1) := by decide +kernel
theorem dX12_readKitchen_14 : decode cX12_readKitchen 14 = .ok (.iconst 0, 1) := by decide +kernel
theorem dX12_readKitchen_15 : decode cX12_readKitchen 15 = .ok (.putfield 218, 3) := by decide +kernel
theorem dX12_readKitchen_18 : decode cX12_readKitchen 18 = .ok (.aload_n 0, 1) := by decide +kernel
theorem dX12_readKitchen_19 : decode cX12_readKitchen 19 = .ok (.iconst 0, 1) := by decide +kernel
theorem dX12_readKitchen_20 : decode cX12_readKitchen 20 = .ok (.putfield 221, 3) := by decide +kernel
theorem dX12_readKitchen_23 : decode cX12_readKitchen 23 = .ok (.aload_n 0, 1) := by decide +kernel
theorem dX12_readKitchen_24 : decode cX12_readKitchen 24 = .ok (.iconst 0, 1) := by decide +kernel
theorem dX12_readKitchen_25 : decode cX12_readKitchen 25 = .ok (.putfield 224, 3) := by decide +kernel
theorem dX12_readKitchen_28 : decode cX12_readKitchen 28 = .ok (.iconst 1, 1) := by decide +kernel
theorem dX12_readKitchen_29 : decode cX12_readKitchen 29 = .ok (.istore_n 1, 1) := by decide +kernel
theorem dX12_readKitchen_30 : decode cX12_readKitchen 30 = .ok (.iload_n 1, 1) := by decide +kernel
theorem dX12_readKitchen_31 : decode cX12_readKitchen 31 = .ok (.ifCond .eq 55, 3) := by decide +kernel
theorem dX12_readKitchen_34 : decode cX12_readKitchen 34 = .ok (.aload_n 0, 1) := by decide +kernel
theorem dX12_readKitchen_35 : decode cX12_readKitchen 35 = .ok (.getfield 125, 3) := by decide +kernel
theorem dX12_readKitchen_38 : decode cX12_readKitchen 38 = .ok (.iconst (-1), 1) := by decide +kernel
theorem dX12_readKitchen_39 : decode cX12_readKitchen 39 = .ok (.if_icmp .ne 47, 3) := by decide +kernel
theorem dX12_readKitchen_42 : decode cX12_readKitchen 42 = .ok (.aload_n 0, 1) := by decide +kernel
theorem dX12_readKitchen_43 : decode cX12_readKitchen 43 = .ok (.invokevirtual 255, 3) := by decide +kernel
theorem dX12_readKitchen_46 : decode cX12_readKitchen 46 = .ok (.aload_n 0, 1) := by decide +kernel
theorem dX12_readKitchen_47 : decode cX12_readKitchen 47 = .ok (.getfield 125, 3) := by decide +kernel
theorem dX12_readKitchen_50 : decode cX12_readKitchen 50 = .ok (.iconst (-1), 1) := by decide +kernel
theorem dX12_readKitchen_51 : decode cX12_readKitchen 51 = .ok (.if_icmp .ne 16, 3) := by decide +kernel
theorem dX12_readKitchen_54 : decode cX12_readKitchen 54 = .ok (.aload_n 0, 1) := by decide +kernel
theorem dX12_readKitchen_55 : decode cX12_readKitchen 55 = .ok (.invokevirtual 135, 3) := by decide +kernel
theorem dX12_readKitchen_58 : decode cX12_readKitchen 58 = .ok (.bipush 59, 2) := by decide +kernel
theorem dX12_readKitchen_60 : decode cX12_readKitchen 60 = .ok (.if_icmp .ne 7, 3) := by decide +kernel
theorem dX12_readKitchen_63 : decode cX12_readKitchen 63 = .ok (.iconst 1, 1) := by decide +kernel
theorem dX12_readKitchen_64 : decode cX12_readKitchen 64 = .ok (.goto 4, 3) := by decide +kernel
theorem dX12_readKitchen_67 : decode cX12_readKitchen 67 = .ok (.iconst 0, 1) := by decide +kernel
theorem dX12_readKitchen_68 : decode cX12_readKitchen 68 = .ok (.istore_n 1, 1) := by decide +kernel
theorem dX12_readKitchen_69 : decode cX12_readKitchen 69 = .ok (.iload_n 1, 1) := by decide +kernel
theorem dX12_readKitchen_70 : decode cX12_readKitchen 70 = .ok (.ifCond .eq (-40), 3) := by decide +kernel
theorem dX12_readKitchen_73 : decode cX12_readKitchen 73 = .ok (.aload_n 0, 1) := by decide +kernel
theorem dX12_readKitchen_74 : decode cX12_readKitchen 74 = .ok (.dup, 1) := by decide +kernel
theorem dX12_readKitchen_75 : decode cX12_readKitchen 75 = .ok (.getfield 116, 3) := by decide +kernel
theorem dX12_readKitchen_78 : decode cX12_readKitchen 78 = .ok (.iconst 1, 1) := by decide +kernel
theorem dX12_readKitchen_79 : decode cX12_readKitchen 79 = .ok (.iadd, 1) := by decide +kernel
theorem dX12_readKitchen_80 : decode cX12_readKitchen 80 = .ok (.putfield 116, 3) := by decide +kernel
theorem dX12_readKitchen_83 : decode cX12_readKitchen 83 = .ok (.goto (-53), 3) := by decide +kernel
theorem dX12_readKitchen_86 : decode cX12_readKitchen 86 = .ok (.aload_n 0, 1) := by decide +kernel
theorem dX12_readKitchen_87 : decode cX12_readKitchen 87 = .ok (.getfield 125, 3) := by decide +kernel
theorem dX12_readKitchen_90 : decode cX12_readKitchen 90 = .ok (.iconst (-1), 1) := by decide +kernel
theorem dX12_readKitchen_91 : decode cX12_readKitchen 91 = .ok (.if_icmp .ne 30, 3) := by decide +kernel
theorem dX12_readKitchen_94 : decode cX12_readKitchen 94 = .ok (.aload_n 0, 1) := by decide +kernel
theorem dX12_readKitchen_95 : decode cX12_readKitchen 95 = .ok (.invokevirtual 135, 3) := by decide +kernel
theorem dX12_readKitchen_98 : decode cX12_readKitchen 98 = .ok (.iconst (-1), 1) := by decide +kernel
theorem dX12_readKitchen_99 : decode cX12_readKitchen 99 = .ok (.if_icmp .ne 17, 3) := by decide +kernel
theorem dX12_readKitchen_102 : decode cX12_readKitchen 102 = .ok (.aload_n 0, 1) := by decide +kernel
theorem dX12_readKitchen_103 : decode cX12_readKitchen 103 = .ok (.getfield 218, 3) := by decide +kernel
theorem dX12_readKitchen_106 : decode cX12_readKitchen 106 = .ok (.ifCond .eq 10, 3) := by decide +kernel
theorem dX12_readKitchen_109 : decode cX12_readKitchen 109 = .ok (.aload_n 0, 1) := by decide +kernel
theorem dX12_readKitchen_110 : decode cX12_readKitchen 110 = .ok (.getfield 221, 3) := by decide +kernel
theorem dX12_readKitchen_113 : decode cX12_readKitchen 113 = .ok (.ifCond .ne 8, 3) := by decide +kernel
theorem dX12_readKitchen_116 : decode cX12_readKitchen 116 = .ok (.aload_n 0, 1) := by decide +kernel
theorem dX12_readKitchen_117 : decode cX12_readKitchen 117 = .ok (.invokevirtual 131, 3) := by decide +kernel
theorem dX12_readKitchen_120 : decode cX12_readKitchen 120 = .ok (.pop, 1) := by decide +kernel
theorem dX12_readKitchen_121 : decode cX12_readKitchen 121 = .ok (.return_, 1) := by decide +kernel
theorem dX12_digit_0 : decode cX12_digit 0 = .ok (.aload_n 0, 1) := by decide +kernel
theorem dX12_digit_1 : decode cX12_digit 1 = .ok (.invokevirtual 135, 3) := by decide +kernel
theorem dX12_digit_4 : decode cX12_digit 4 = .ok (.pop, 1) := by decide +kernel
theorem dX12_digit_5 : decode cX12_digit 5 = .ok (.aload_n 0, 1) := by decide +kernel
theorem dX12_digit_6 : decode cX12_digit 6 = .ok (.invokevirtual 165, 3) := by decide +kernel
theorem dX12_digit_9 : decode cX12_digit 9 = .ok (.ifCond .ne 10, 3) := by decide +kernel
theorem dX12_digit_12 : decode cX12_digit 12 = .ok (.aload_n 0, 1) := by decide +kernel
theorem dX12_digit_13 : decode cX12_digit 13 = .ok (.invokevirtual 131, 3) := by decide +kernel
theorem dX12_digit_16 : decode cX12_digit 16 = .ok (.pop, 1) := by decide +kernel
theorem dX12_digit_17 : decode cX12_digit 17 = .ok (.iconst 0, 1) := by decide +kernel
theorem dX12_digit_18 : decode cX12_digit 18 = .ok (.ireturn, 1) := by decide +kernel
theorem dX12_digit_19 : decode cX12_digit 19 = .ok (.aload_n 0, 1) := by decide +kernel
theorem dX12_digit_20 : decode cX12_digit 20 = .ok (.dup, 1) := by decide +kernel
theorem dX12_digit_21 : decode cX12_digit 21 = .ok (.getfield 116, 3) := by decide +kernel
theorem dX12_digit_24 : decode cX12_digit 24 = .ok (.iconst 1, 1) := by decide +kernel
theorem dX12_digit_25 : decode cX12_digit 25 = .ok (.iadd, 1) := by decide +kernel
theorem dX12_digit_26 : decode cX12_digit 26 = .ok (.putfield 116, 3) := by decide +kernel
theorem dX12_digit_29 : decode cX12_digit 29 = .ok (.aload_n 0, 1) := by decide +kernel
theorem dX12_digit_30 : decode cX12_digit 30 = .ok (.getfield 23, 3) := by decide +kernel
theorem dX12_digit_33 : decode cX12_digit 33 = .ok (.aload_n 0, 1) := by decide +kernel
theorem dX12_digit_34 : decode cX12_digit 34 = .ok (.getfield 122, 3) := by decide +kernel
theorem dX12_digit_37 : decode cX12_digit 37 = .ok (.aload_n 0, 1) := by decide +kernel
theorem dX12_digit_38 : decode cX12_digit 38 = .ok (.getfield 116, 3) := by decide +kernel
theorem dX12_digit_41 : decode cX12_digit 41 = .ok (.iadd, 1) := by decide +kernel
theorem dX12_digit_42 : decode cX12_digit 42 = .ok (.iconst 1, 1) := by decide +kernel
theorem dX12_digit_43 : decode cX12_digit 43 = .ok (.isub, 1) := by decide +kernel
theorem dX12_digit_44 : decode cX12_digit 44 = .ok (.baload, 1) := by decide +kernel
theorem dX12_digit_45 : decode cX12_digit 45 = .ok (.bipush 48, 2) := by decide +kernel
theorem dX12_digit_47 : decode cX12_digit 47 = .ok (.isub, 1) := by decide +kernel
theorem dX12_digit_48 : decode cX12_digit 48 = .ok (.ireturn, 1) := by decide +kernel
theorem dX12_readStep_0 : decode cX12_readStep 0 = .ok (.aload_n 0, 1) := by decide +kernel
theorem dX12_readStep_1 : decode cX12_readStep 1 = .ok (.invokevirtual 135, 3) := by decide +kernel
theorem dX12_readStep_4 : decode cX12_readStep 4 = .ok (.istore_n 1, 1) := by decide +kernel
theorem dX12_readStep_5 : decode cX12_readStep 5 = .ok (.ldc_w 258, 3) := by decide +kernel
theorem dX12_readStep_8 : decode cX12_readStep 8 = .ok (.iload_n 1, 1) := by decide +kernel
theorem dX12_readStep_9 : decode cX12_readStep 9 = .ok (.invokestatic 237, 3) := by decide +kernel
theorem dX12_readStep_12 : decode cX12_readStep 12 = .ok (.istore_n 2, 1) := by decide +kernel
theorem dX12_readStep_13 : decode cX12_readStep 13 = .ok (.iload_n 2, 1) := by decide +kernel
theorem dX12_readStep_14 : decode cX12_readStep 14 = .ok (.iconst (-1), 1) := by decide +kernel
theorem dX12_readStep_15 : decode cX12_readStep 15 = .ok (.if_icmp .ne 22, 3) := by decide +kernel
theorem dX12_readStep_18 : decode cX12_readStep 18 = .ok (.iload_n 1, 1) := by decide +kernel
theorem dX12_readStep_19 : decode cX12_readStep 19 = .ok (.bipush 100, 2) := by decide +kernel
theorem dX12_readStep_21 : decode cX12_readStep 21 = .ok (.if_icmp .eq 16, 3) := by decide +kernel
theorem dX12_readStep_24 : decode cX12_readStep 24 = .ok (.iload_n 1, 1) := by decide +kernel
theorem dX12_readStep_25 : decode cX12_readStep 25 = .ok (.bipush 121, 2) := by decide +kernel
theorem dX12_readStep_27 : decode cX12_readStep 27 = .ok (.if_icmp .eq 10, 3) := by decide +kernel
theorem dX12_readStep_30 : decode cX12_readStep 30 = .ok (.aload_n 0, 1) := by decide +kernel
theorem dX12_readStep_31 : decode cX12_readStep 31 = .ok (.invokevirtual 131, 3) := by decide +kernel
theorem dX12_readStep_34 : decode cX12_readStep 34 = .ok (.pop, 1) := by decide +kernel
theorem dX12_readStep_35 : decode cX12_readStep 35 = .ok (.iconst (-1), 1) := by decide +kernel
theorem dX12_readStep_36 : decode cX12_readStep 36 = .ok (.ireturn, 1) := by decide +kernel
theorem dX12_readStep_37 : decode cX12_readStep 37 = .ok (.aload_n 0, 1) := by decide +kernel
theorem dX12_readStep_38 : decode cX12_readStep 38 = .ok (.dup, 1) := by decide +kernel
theorem dX12_readStep_39 : decode cX12_readStep 39 = .ok (.getfield 116, 3) := by decide +kernel
theorem dX12_readStep_42 : decode cX12_readStep 42 = .ok (.iconst 1, 1) := by decide +kernel
theorem dX12_readStep_43 : decode cX12_readStep 43 = .ok (.iadd, 1) := by decide +kernel
theorem dX12_readStep_44 : decode cX12_readStep 44 = .ok (.putfield 116, 3) := by decide +kernel
theorem dX12_readStep_47 : decode cX12_readStep 47 = .ok (.iload_n 2, 1) := by decide +kernel
theorem dX12_readStep_48 : decode cX12_readStep 48 = .ok (.iconst (-1), 1) := by decide +kernel
theorem dX12_readStep_49 : decode cX12_readStep 49 = .ok (.if_icmp .eq 5, 3) := by decide +kernel
theorem dX12_readStep_52 : decode cX12_readStep 52 = .ok (.iload_n 2, 1) := by decide +kernel
theorem dX12_readStep_53 : decode cX12_readStep 53 = .ok (.ireturn, 1) := by decide +kernel
theorem dX12_readStep_54 : decode cX12_readStep 54 = .ok (.aload_n 0, 1) := by decide +kernel
theorem dX12_readStep_55 : decode cX12_readStep 55 = .ok (.invokevirtual 260, 3) := by decide +kernel
theorem dX12_readStep_58 : decode cX12_readStep 58 = .ok (.istore_n 3, 1) := by decide +kernel
theorem dX12_readStep_59 : decode cX12_readStep 59 = .ok (.aload_n 0, 1) := by decide +kernel
theorem dX12_readStep_60 : decode cX12_readStep 60 = .ok (.getfield 125, 3) := by decide +kernel
theorem dX12_readStep_63 : decode cX12_readStep 63 = .ok (.iconst (-1), 1) := by decide +kernel
theorem dX12_readStep_64 : decode cX12_readStep 64 = .ok (.if_icmp .ne 9, 3) := by decide +kernel
theorem dX12_readStep_67 : decode cX12_readStep 67 = .ok (.iload_n 1, 1) := by decide +kernel
theorem dX12_readStep_68 : decode cX12_readStep 68 = .ok (.bipush 100, 2) := by decide +kernel
theorem dX12_readStep_70 : decode cX12_readStep 70 = .ok (.if_icmp .ne 8, 3) := by decide +kernel
theorem dX12_readStep_73 : decode cX12_readStep 73 = .ok (.bipush 10, 2) := by decide +kernel
theorem dX12_readStep_75 : decode cX12_readStep 75 = .ok (.iload_n 3, 1) := by decide +kernel
theorem dX12_readStep_76 : decode cX12_readStep 76 = .ok (.iadd, 1) := by decide +kernel
theorem dX12_readStep_77 : decode cX12_readStep 77 = .ok (.ireturn, 1) := by decide +kernel
theorem dX12_readStep_78 : decode cX12_readStep 78 = .ok (.bipush 100, 2) := by decide +kernel
theorem dX12_readStep_80 : decode cX12_readStep 80 = .ok (.bipush 10, 2) := by decide +kernel
theorem dX12_readStep_82 : decode cX12_readStep 82 = .ok (.iload_n 3, 1) := by decide +kernel
theorem dX12_readStep_83 : decode cX12_readStep 83 = .ok (.imul, 1) := by decide +kernel
theorem dX12_readStep_84 : decode cX12_readStep 84 = .ok (.iadd, 1) := by decide +kernel
theorem dX12_readStep_85 : decode cX12_readStep 85 = .ok (.aload_n 0, 1) := by decide +kernel
theorem dX12_readStep_86 : decode cX12_readStep 86 = .ok (.invokevirtual 260, 3) := by decide +kernel
theorem dX12_readStep_89 : decode cX12_readStep 89 = .ok (.iadd, 1) := by decide +kernel
theorem dX12_readStep_90 : decode cX12_readStep 90 = .ok (.ireturn, 1) := by decide +kernel
theorem dX12_readPlan_0 : decode cX12_readPlan 0 = .ok (.aload_n 0, 1) := by decide +kernel
theorem dX12_readPlan_1 : decode cX12_readPlan 1 = .ok (.aload_n 0, 1) := by decide +kernel
theorem dX12_readPlan_2 : decode cX12_readPlan 2 = .ok (.getfield 9, 3) := by decide +kernel
theorem dX12_readPlan_5 : decode cX12_readPlan 5 = .ok (.iconst 0, 1) := by decide +kernel
theorem dX12_readPlan_6 : decode cX12_readPlan 6 = .ok (.aload_n 0, 1) := by decide +kernel
theorem dX12_readPlan_7 : decode cX12_readPlan 7 = .ok (.getfield 106, 3) := by decide +kernel
theorem dX12_readPlan_10 : decode cX12_readPlan 10 = .ok (.invokevirtual 204, 3) := by decide +kernel
theorem dX12_readPlan_13 : decode cX12_readPlan 13 = .ok (.iconst 0, 1) := by decide +kernel
theorem dX12_readPlan_14 : decode cX12_readPlan 14 = .ok (.istore_n 1, 1) := by decide +kernel
theorem dX12_readPlan_15 : decode cX12_readPlan 15 = .ok (.iconst 1, 1) := by decide +kernel
theorem dX12_readPlan_16 : decode cX12_readPlan 16 = .ok (.istore_n 2, 1) := by decide +kernel
theorem dX12_readPlan_17 : decode cX12_readPlan 17 = .ok (.iload_n 2, 1) := by decide +kernel
theorem dX12_readPlan_18 : decode cX12_readPlan 18 = .ok (.ifCond .eq 76, 3) := by decide +kernel
theorem dX12_readPlan_21 : decode cX12_readPlan 21 = .ok (.aload_n 0, 1) := by decide +kernel
theorem dX12_readPlan_22 : decode cX12_readPlan 22 = .ok (.getfield 55, 3) := by decide +kernel
theorem dX12_readPlan_25 : decode cX12_readPlan 25 = .ok (.bipush 64, 2) := by decide +kernel
theorem dX12_readPlan_27 : decode cX12_readPlan 27 = .ok (.iload_n 1, 1) := by decide +kernel
theorem dX12_readPlan_28 : decode cX12_readPlan 28 = .ok (.iadd, 1) := by decide +kernel
theorem dX12_readPlan_29 : decode cX12_readPlan 29 = .ok (.aload_n 0, 1) := by decide +kernel
theorem dX12_readPlan_30 : decode cX12_readPlan 30 = .ok (.invokevirtual 263, 3) := by decide +kernel
theorem dX12_readPlan_33 : decode cX12_readPlan 33 = .ok (.iastore, 1) := by decide +kernel
theorem dX12_readPlan_34 : decode cX12_readPlan 34 = .ok (.aload_n 0, 1) := by decide +kernel
theorem dX12_readPlan_35 : decode cX12_readPlan 35 = .ok (.getfield 125, 3) := by decide +kernel
theorem dX12_readPlan_38 : decode cX12_readPlan 38 = .ok (.iconst (-1), 1) := by decide +kernel
theorem dX12_readPlan_39 : decode cX12_readPlan 39 = .ok (.if_icmp .eq 4, 3) := by decide +kernel
theorem dX12_readPlan_42 : decode cX12_readPlan 42 = .ok (.return_, 1) := by decide +kernel
theorem dX12_readPlan_43 : decode cX12_readPlan 43 = .ok (.iinc 1 1, 3) := by decide +kernel
theorem dX12_readPlan_46 : decode cX12_readPlan 46 = .ok (.aload_n 0, 1) := by decide +kernel
theorem dX12_readPlan_47 : decode cX12_readPlan 47 = .ok (.invokevirtual 135, 3) := by decide +kernel
theorem dX12_readPlan_50 : decode cX12_readPlan 50 = .ok (.bipush 59, 2) := by decide +kernel
theorem dX12_readPlan_52 : decode cX12_readPlan 52 = .ok (.if_icmp .ne 7, 3) := by decide +kernel
theorem dX12_readPlan_55 : decode cX12_readPlan 55 = .ok (.iconst 1, 1) := by decide +kernel
theorem dX12_readPlan_56 : decode cX12_readPlan 56 = .ok (.goto 4, 3) := by decide +kernel
theorem dX12_readPlan_59 : decode cX12_readPlan 59 = .ok (.iconst 0, 1) := by decide +kernel
theorem dX12_readPlan_60 : decode cX12_readPlan 60 = .ok (.istore_n 2, 1) := by decide +kernel
theorem dX12_readPlan_61 : decode cX12_readPlan 61 = .ok (.iload_n 2, 1) := by decide +kernel
theorem dX12_readPlan_62 : decode cX12_readPlan 62 = .ok (.ifCond .eq 15, 3) := by decide +kernel
theorem dX12_readPlan_65 : decode cX12_readPlan 65 = .ok (.iload_n 1, 1) := by decide +kernel
theorem dX12_readPlan_66 : decode cX12_readPlan 66 = .ok (.bipush 16, 2) := by decide +kernel
theorem dX12_readPlan_68 : decode cX12_readPlan 68 = .ok (.if_icmp .ne 9, 3) := by decide +kernel
theorem dX12_readPlan_71 : decode cX12_readPlan 71 = .ok (.aload_n 0, 1) := by decide +kernel
theorem dX12_readPlan_72 : decode cX12_readPlan 72 = .ok (.invokevirtual 131, 3) := by decide +kernel
theorem dX12_readPlan_75 : decode cX12_readPlan 75 = .ok (.pop, 1) := by decide +kernel
theorem dX12_readPlan_76 : decode cX12_readPlan 76 = .ok (.return_, 1) := by decide +kernel
theorem dX12_readPlan_77 : decode cX12_readPlan 77 = .ok (.iload_n 2, 1) := by decide +kernel
theorem dX12_readPlan_78 : decode cX12_readPlan 78 = .ok (.ifCond .eq (-61), 3) := by decide +kernel
theorem dX12_readPlan_81 : decode cX12_readPlan 81 = .ok (.aload_n 0, 1) := by decide +kernel
theorem dX12_readPlan_82 : decode cX12_readPlan 82 = .ok (.dup, 1) := by decide +kernel
theorem dX12_readPlan_83 : decode cX12_readPlan 83 = .ok (.getfield 116, 3) := by decide +kernel
theorem dX12_readPlan_86 : decode cX12_readPlan 86 = .ok (.iconst 1, 1) := by decide +kernel
theorem dX12_readPlan_87 : decode cX12_readPlan 87 = .ok (.iadd, 1) := by decide +kernel
theorem dX12_readPlan_88 : decode cX12_readPlan 88 = .ok (.putfield 116, 3) := by decide +kernel
theorem dX12_readPlan_91 : decode cX12_readPlan 91 = .ok (.goto (-74), 3) := by decide +kernel
theorem dX12_readPlan_94 : decode cX12_readPlan 94 = .ok (.aload_n 0, 1) := by decide +kernel
theorem dX12_readPlan_95 : decode cX12_readPlan 95 = .ok (.getfield 58, 3) := by decide +kernel
theorem dX12_readPlan_98 : decode cX12_readPlan 98 = .ok (.iconst 4, 1) := by decide +kernel
theorem dX12_readPlan_99 : decode cX12_readPlan 99 = .ok (.iload_n 1, 1) := by decide +kernel
theorem dX12_readPlan_100 : decode cX12_readPlan 100 = .ok (.iastore, 1) := by decide +kernel
theorem dX12_readPlan_101 : decode cX12_readPlan 101 = .ok (.aload_n 0, 1) := by decide +kernel
theorem dX12_readPlan_102 : decode cX12_readPlan 102 = .ok (.invokevirtual 135, 3) := by decide +kernel
theorem dX12_readPlan_105 : decode cX12_readPlan 105 = .ok (.iconst (-1), 1) := by decide +kernel
theorem dX12_readPlan_106 : decode cX12_readPlan 106 = .ok (.if_icmp .eq 8, 3) := by decide +kernel
theorem dX12_readPlan_109 : decode cX12_readPlan 109 = .ok (.aload_n 0, 1) := by decide +kernel
theorem dX12_readPlan_110 : decode cX12_readPlan 110 = .ok (.invokevirtual 131, 3) := by decide +kernel
theorem dX12_readPlan_113 : decode cX12_readPlan 113 = .ok (.pop, 1) := by decide +kernel
theorem dX12_readPlan_114 : decode cX12_readPlan 114 = .ok (.return_, 1) := by decide +kernel
theorem dX12_fault_0 : decode cX12_fault 0 = .ok (.aload_n 0, 1) := by decide +kernel
theorem dX12_fault_1 : decode cX12_fault 1 = .ok (.iconst 0, 1) := by decide +kernel
theorem dX12_fault_2 : decode cX12_fault 2 = .ok (.putfield 93, 3) := by decide +kernel
theorem dX12_fault_5 : decode cX12_fault 5 = .ok (.iload_n 1, 1) := by decide +kernel
theorem dX12_fault_6 : decode cX12_fault 6 = .ok (.i2l, 1) := by decide +kernel
theorem dX12_fault_7 : decode cX12_fault 7 = .ok (.lconst 0, 1) := by decide +kernel
theorem dX12_fault_8 : decode cX12_fault 8 = .ok (.ldc2_w 266, 3) := by decide +kernel
theorem dX12_fault_11 : decode cX12_fault 11 = .ok (.invokestatic 214, 3) := by decide +kernel
theorem dX12_fault_14 : decode cX12_fault 14 = .ok (.ifCond .ne 6, 3) := by decide +kernel
theorem dX12_fault_17 : decode cX12_fault 17 = .ok (.bipush (-2), 2) := by decide +kernel
theorem dX12_fault_19 : decode cX12_fault 19 = .ok (.ireturn, 1) := by decide +kernel
theorem dX12_fault_20 : decode cX12_fault 20 = .ok (.iload_n 1, 1) := by decide +kernel
theorem dX12_fault_21 : decode cX12_fault 21 = .ok (.ifCond .ne 7, 3) := by decide +kernel
theorem dX12_fault_24 : decode cX12_fault 24 = .ok (.aload_n 0, 1) := by decide +kernel
theorem dX12_fault_25 : decode cX12_fault 25 = .ok (.invokevirtual 268, 3) := by decide +kernel
theorem dX12_fault_28 : decode cX12_fault 28 = .ok (.iload_n 1, 1) := by decide +kernel
theorem dX12_fault_29 : decode cX12_fault 29 = .ok (.iconst 1, 1) := by decide +kernel
theorem dX12_fault_30 : decode cX12_fault 30 = .ok (.if_icmp .ne 16, 3) := by decide +kernel
theorem dX12_fault_33 : decode cX12_fault 33 = .ok (.aload_n 0, 1) := by decide +kernel
theorem dX12_fault_34 : decode cX12_fault 34 = .ok (.aload_n 0, 1) := by decide +kernel
theorem dX12_fault_35 : decode cX12_fault 35 = .ok (.getfield 9, 3) := by decide +kernel
theorem dX12_fault_38 : decode cX12_fault 38 = .ok (.iconst 0, 1) := by decide +kernel
theorem dX12_fault_39 : decode cX12_fault 39 = .ok (.aload_n 0, 1) := by decide +kernel
theorem dX12_fault_40 : decode cX12_fault 40 = .ok (.getfield 106, 3) := by decide +kernel
theorem dX12_fault_43 : decode cX12_fault 43 = .ok (.invokevirtual 271, 3) := by decide +kernel
theorem dX12_fault_46 : decode cX12_fault 46 = .ok (.iload_n 1, 1) := by decide +kernel
theorem dX12_fault_47 : decode cX12_fault 47 = .ok (.iconst 2, 1) := by decide +kernel
theorem dX12_fault_48 : decode cX12_fault 48 = .ok (.if_icmp .ne 7, 3) := by decide +kernel
theorem dX12_fault_51 : decode cX12_fault 51 = .ok (.aload_n 0, 1) := by decide +kernel
theorem dX12_fault_52 : decode cX12_fault 52 = .ok (.invokevirtual 274, 3) := by decide +kernel
theorem dX12_fault_55 : decode cX12_fault 55 = .ok (.aload_n 0, 1) := by decide +kernel
theorem dX12_fault_56 : decode cX12_fault 56 = .ok (.getfield 125, 3) := by decide +kernel
theorem dX12_fault_59 : decode cX12_fault 59 = .ok (.ireturn, 1) := by decide +kernel
theorem dX12_text_0 : decode cX12_text 0 = .ok (.aload_n 0, 1) := by decide +kernel
theorem dX12_text_1 : decode cX12_text 1 = .ok (.iconst 0, 1) := by decide +kernel
theorem dX12_text_2 : decode cX12_text 2 = .ok (.putfield 93, 3) := by decide +kernel
theorem dX12_text_5 : decode cX12_text 5 = .ok (.iload_n 1, 1) := by decide +kernel
theorem dX12_text_6 : decode cX12_text 6 = .ok (.i2l, 1) := by decide +kernel
theorem dX12_text_7 : decode cX12_text 7 = .ok (.lconst 0, 1) := by decide +kernel
theorem dX12_text_8 : decode cX12_text 8 = .ok (.ldc2_w 266, 3) := by decide +kernel
theorem dX12_text_11 : decode cX12_text 11 = .ok (.invokestatic 214, 3) := by decide +kernel
theorem dX12_text_14 : decode cX12_text 14 = .ok (.ifCond .eq 38, 3) := by decide +kernel
theorem dX12_text_17 : decode cX12_text 17 = .ok (.iload_n 1, 1) := by decide +kernel
theorem dX12_text_18 : decode cX12_text 18 = .ok (.iconst 1, 1) := by decide +kernel
theorem dX12_text_19 : decode cX12_text 19 = .ok (.if_icmp .ne 11, 3) := by decide +kernel
theorem dX12_text_22 : decode cX12_text 22 = .ok (.aload_n 0, 1) := by decide +kernel
theorem dX12_text_23 : decode cX12_text 23 = .ok (.getfield 277, 3) := by decide +kernel
theorem dX12_text_26 : decode cX12_text 26 = .ok (.iconst 4, 1) := by decide +kernel
theorem dX12_text_27 : decode cX12_text 27 = .ok (.if_icmp .eq 25, 3) := by decide +kernel
theorem dX12_text_30 : decode cX12_text 30 = .ok (.iload_n 1, 1) := by decide +kernel
theorem dX12_text_31 : decode cX12_text 31 = .ok (.iconst 2, 1) := by decide +kernel
theorem dX12_text_32 : decode cX12_text 32 = .ok (.if_icmp .ne 11, 3) := by decide +kernel
theorem dX12_text_35 : decode cX12_text 35 = .ok (.aload_n 0, 1) := by decide +kernel
theorem dX12_text_36 : decode cX12_text 36 = .ok (.getfield 280, 3) := by decide +kernel
theorem dX12_text_39 : decode cX12_text 39 = .ok (.iconst 4, 1) := by decide +kernel
theorem dX12_text_40 : decode cX12_text 40 = .ok (.if_icmp .eq 12, 3) := by decide +kernel
theorem dX12_text_43 : decode cX12_text 43 = .ok (.aload_n 0, 1) := by decide +kernel
theorem dX12_text_44 : decode cX12_text 44 = .ok (.iload_n 1, 1) := by decide +kernel
theorem dX12_text_45 : decode cX12_text 45 = .ok (.invokevirtual 283, 3) := by decide +kernel
theorem dX12_text_48 : decode cX12_text 48 = .ok (.iconst (-1), 1) := by decide +kernel
theorem dX12_text_49 : decode cX12_text 49 = .ok (.if_icmp .eq 5, 3) := by decide +kernel
theorem dX12_text_52 : decode cX12_text 52 = .ok (.iconst (-1), 1) := by decide +kernel
theorem dX12_text_53 : decode cX12_text 53 = .ok (.ireturn, 1) := by decide +kernel
theorem dX12_text_54 : decode cX12_text 54 = .ok (.aload_n 0, 1) := by decide +kernel
theorem dX12_text_55 : decode cX12_text 55 = .ok (.getfield 106, 3) := by decide +kernel
theorem dX12_text_58 : decode cX12_text 58 = .ok (.istore_n 2, 1) := by decide +kernel
theorem dX12_text_59 : decode cX12_text 59 = .ok (.aload_n 0, 1) := by decide +kernel
theorem dX12_text_60 : decode cX12_text 60 = .ok (.iconst 0, 1) := by decide +kernel
theorem dX12_text_61 : decode cX12_text 61 = .ok (.putfield 106, 3) := by decide +kernel
theorem dX12_text_64 : decode cX12_text 64 = .ok (.iload_n 1, 1) := by decide +kernel
theorem dX12_text_65 : decode cX12_text 65 = .ok (.iconst 1, 1) := by decide +kernel
theorem dX12_text_66 : decode cX12_text 66 = .ok (.if_icmp .ne 64, 3) := by decide +kernel
theorem dX12_text_69 : decode cX12_text 69 = .ok (.iconst 0, 1) := by decide +kernel
theorem dX12_text_70 : decode cX12_text 70 = .ok (.istore_n 3, 1) := by decide +kernel
theorem dX12_text_71 : decode cX12_text 71 = .ok (.iload_n 3, 1) := by decide +kernel
theorem dX12_text_72 : decode cX12_text 72 = .ok (.iload_n 2, 1) := by decide +kernel
theorem dX12_text_73 : decode cX12_text 73 = .ok (.if_icmp .ge 30, 3) := by decide +kernel
theorem dX12_text_76 : decode cX12_text 76 = .ok (.aload_n 0, 1) := by decide +kernel
theorem dX12_text_77 : decode cX12_text 77 = .ok (.getfield 13, 3) := by decide +kernel
theorem dX12_text_80 : decode cX12_text 80 = .ok (.sipush 200, 3) := by decide +kernel
theorem dX12_text_83 : decode cX12_text 83 = .ok (.aload_n 0, 1) := by decide +kernel
theorem dX12_text_84 : decode cX12_text 84 = .ok (.getfield 277, 3) := by decide +kernel
theorem dX12_text_87 : decode cX12_text 87 = .ok (.imul, 1) := by decide +kernel
theorem dX12_text_88 : decode cX12_text 88 = .ok (.iload_n 3, 1) := by decide +kernel
theorem dX12_text_89 : decode cX12_text 89 = .ok (.iadd, 1) := by decide +kernel
theorem dX12_text_90 : decode cX12_text 90 = .ok (.aload_n 0, 1) := by decide +kernel
theorem dX12_text_91 : decode cX12_text 91 = .ok (.getfield 9, 3) := by decide +kernel
theorem dX12_text_94 : decode cX12_text 94 = .ok (.iload_n 3, 1) := by decide +kernel
theorem dX12_text_95 : decode cX12_text 95 = .ok (.baload, 1) := by decide +kernel
theorem dX12_text_96 : decode cX12_text 96 = .ok (.bastore, 1) := by decide +kernel
theorem dX12_text_97 : decode cX12_text 97 = .ok (.iinc 3 1, 3) := by decide +kernel
theorem dX12_text_100 : decode cX12_text 100 = .ok (.goto (-29), 3) := by decide +kernel
theorem dX12_text_103 : decode cX12_text 103 = .ok (.aload_n 0, 1) := by decide +kernel
theorem dX12_text_104 : decode cX12_text 104 = .ok (.getfield 16, 3) := by decide +kernel
theorem dX12_text_107 : decode cX12_text 107 = .ok (.aload_n 0, 1) := by decide +kernel
theorem dX12_text_108 : decode cX12_text 108 = .ok (.getfield 277, 3) := by decide +kernel
theorem dX12_text_111 : decode cX12_text 111 = .ok (.iload_n 2, 1) := by decide +kernel
theorem dX12_text_112 : decode cX12_text 112 = .ok (.iastore, 1) := by decide +kernel
theorem dX12_text_113 : decode cX12_text 113 = .ok (.aload_n 0, 1) := by decide +kernel
theorem dX12_text_114 : decode cX12_text 114 = .ok (.dup, 1) := by decide +kernel
theorem dX12_text_115 : decode cX12_text 115 = .ok (.getfield 277, 3) := by decide +kernel
theorem dX12_text_118 : decode cX12_text 118 = .ok (.iconst 1, 1) := by decide +kernel
theorem dX12_text_119 : decode cX12_text 119 = .ok (.iadd, 1) := by decide +kernel
theorem dX12_text_120 : decode cX12_text 120 = .ok (.putfield 277, 3) := by decide +kernel
theorem dX12_text_123 : decode cX12_text 123 = .ok (.aload_n 0, 1) := by decide +kernel
theorem dX12_text_124 : decode cX12_text 124 = .ok (.getfield 277, 3) := by decide +kernel
theorem dX12_text_127 : decode cX12_text 127 = .ok (.iconst 1, 1) := by decide +kernel
theorem dX12_text_128 : decode cX12_text 128 = .ok (.isub, 1) := by decide +kernel
theorem dX12_text_129 : decode cX12_text 129 = .ok (.ireturn, 1) := by decide +kernel
theorem dX12_text_130 : decode cX12_text 130 = .ok (.iload_n 1, 1) := by decide +kernel
theorem dX12_text_131 : decode cX12_text 131 = .ok (.iconst 2, 1) := by decide +kernel
theorem dX12_text_132 : decode cX12_text 132 = .ok (.if_icmp .ne 72, 3) := by decide +kernel
theorem dX12_text_135 : decode cX12_text 135 = .ok (.iconst 0, 1) := by decide +kernel
theorem dX12_text_136 : decode cX12_text 136 = .ok (.istore_n 3, 1) := by decide +kernel
theorem dX12_text_137 : decode cX12_text 137 = .ok (.iload_n 3, 1) := by decide +kernel
theorem dX12_text_138 : decode cX12_text 138 = .ok (.bipush 16, 2) := by decide +kernel
theorem dX12_text_140 : decode cX12_text 140 = .ok (.if_icmp .ge 32, 3) := by decide +kernel
theorem dX12_text_143 : decode cX12_text 143 = .ok (.aload_n 0, 1) := by decide +kernel
theorem dX12_text_144 : decode cX12_text 144 = .ok (.getfield 55, 3) := by decide +kernel
theorem dX12_text_147 : decode cX12_text 147 = .ok (.bipush 16, 2) := by decide +kernel
theorem dX12_text_149 : decode cX12_text 149 = .ok (.aload_n 0, 1) := by decide +kernel
theorem dX12_text_150 : decode cX12_text 150 = .ok (.getfield 280, 3) := by decide +kernel
theorem dX12_text_153 : decode cX12_text 153 = .ok (.imul, 1) := by decide +kernel
theorem dX12_text_154 : decode cX12_text 154 = .ok (.iload_n 3, 1) := by decide +kernel
theorem dX12_text_155 : decode cX12_text 155 = .ok (.iadd, 1) := by decide +kernel
theorem dX12_text_156 : decode cX12_text 156 = .ok (.aload_n 0, 1) := by decide +kernel
theorem dX12_text_157 : decode cX12_text 157 = .ok (.getfield 55, 3) := by decide +kernel
theorem dX12_text_160 : decode cX12_text 160 = .ok (.bipush 64, 2) := by decide +kernel
theorem dX12_text_162 : decode cX12_text 162 = .ok (.iload_n 3, 1) := by decide +kernel
theorem dX12_text_163 : decode cX12_text 163 = .ok (.iadd, 1) := by decide +kernel
theorem dX12_text_164 : decode cX12_text 164 = .ok (.iaload, 1) := by decide +kernel
theorem dX12_text_165 : decode cX12_text 165 = .ok (.iastore, 1) := by decide +kernel
theorem dX12_text_166 : decode cX12_text 166 = .ok (.iinc 3 1, 3) := by decide +kernel
theorem dX12_text_169 : decode cX12_text 169 = .ok (.goto (-32), 3) := by decide +kernel
theorem dX12_text_172 : decode cX12_text 172 = .ok (.aload_n 0, 1) := by decide +kernel
theorem dX12_text_173 : decode cX12_text 173 = .ok (.getfield 58, 3) := by decide +kernel
theorem dX12_text_176 : decode cX12_text 176 = .ok (.aload_n 0, 1) := by decide +kernel
theorem dX12_text_177 : decode cX12_text 177 = .ok (.getfield 280, 3) := by decide +kernel
theorem dX12_text_180 : decode cX12_text 180 = .ok (.aload_n 0, 1) := by decide +kernel
theorem dX12_text_181 : decode cX12_text 181 = .ok (.getfield 58, 3) := by decide +kernel
theorem dX12_text_184 : decode cX12_text 184 = .ok (.iconst 4, 1) := by decide +kernel
theorem dX12_text_185 : decode cX12_text 185 = .ok (.iaload, 1) := by decide +kernel
theorem dX12_text_186 : decode cX12_text 186 = .ok (.iastore, 1) := by decide +kernel
theorem dX12_text_187 : decode cX12_text 187 = .ok (.aload_n 0, 1) := by decide +kernel
theorem dX12_text_188 : decode cX12_text 188 = .ok (.dup, 1) := by decide +kernel
theorem dX12_text_189 : decode cX12_text 189 = .ok (.getfield 280, 3) := by decide +kernel
theorem dX12_text_192 : decode cX12_text 192 = .ok (.iconst 1, 1) := by decide +kernel
theorem dX12_text_193 : decode cX12_text 193 = .ok (.iadd, 1) := by decide +kernel
theorem dX12_text_194 : decode cX12_text 194 = .ok (.putfield 280, 3) := by decide +kernel
theorem dX12_text_197 : decode cX12_text 197 = .ok (.aload_n 0, 1) := by decide +kernel
theorem dX12_text_198 : decode cX12_text 198 = .ok (.getfield 280, 3) := by decide +kernel
theorem dX12_text_201 : decode cX12_text 201 = .ok (.iconst 1, 1) := by decide +kernel
theorem dX12_text_202 : decode cX12_text 202 = .ok (.isub, 1) := by decide +kernel
theorem dX12_text_203 : decode cX12_text 203 = .ok (.ireturn, 1) := by decide +kernel
theorem dX12_text_204 : decode cX12_text 204 = .ok (.aload_n 0, 1) := by decide +kernel
theorem dX12_text_205 : decode cX12_text 205 = .ok (.aload_n 0, 1) := by decide +kernel
theorem dX12_text_206 : decode cX12_text 206 = .ok (.getfield 218, 3) := by decide +kernel
theorem dX12_text_209 : decode cX12_text 209 = .ok (.putfield 285, 3) := by decide +kernel
theorem dX12_text_212 : decode cX12_text 212 = .ok (.aload_n 0, 1) := by decide +kernel
theorem dX12_text_213 : decode cX12_text 213 = .ok (.aload_n 0, 1) := by decide +kernel
theorem dX12_text_214 : decode cX12_text 214 = .ok (.getfield 221, 3) := by decide +kernel
theorem dX12_text_217 : decode cX12_text 217 = .ok (.putfield 288, 3) := by decide +kernel
theorem dX12_text_220 : decode cX12_text 220 = .ok (.aload_n 0, 1) := by decide +kernel
theorem dX12_text_221 : decode cX12_text 221 = .ok (.aload_n 0, 1) := by decide +kernel
theorem dX12_text_222 : decode cX12_text 222 = .ok (.getfield 224, 3) := by decide +kernel
theorem dX12_text_225 : decode cX12_text 225 = .ok (.putfield 291, 3) := by decide +kernel
theorem dX12_text_228 : decode cX12_text 228 = .ok (.iconst 0, 1) := by decide +kernel
theorem dX12_text_229 : decode cX12_text 229 = .ok (.istore_n 3, 1) := by decide +kernel
theorem dX12_text_230 : decode cX12_text 230 = .ok (.iload_n 3, 1) := by decide +kernel
theorem dX12_text_231 : decode cX12_text 231 = .ok (.bipush 24, 2) := by decide +kernel
theorem dX12_text_233 : decode cX12_text 233 = .ok (.if_icmp .ge 21, 3) := by decide +kernel
theorem dX12_text_236 : decode cX12_text 236 = .ok (.aload_n 0, 1) := by decide +kernel
theorem dX12_text_237 : decode cX12_text 237 = .ok (.getfield 37, 3) := by decide +kernel
theorem dX12_text_240 : decode cX12_text 240 = .ok (.iload_n 3, 1) := by decide +kernel
theorem dX12_text_241 : decode cX12_text 241 = .ok (.aload_n 0, 1) := by decide +kernel
theorem dX12_text_242 : decode cX12_text 242 = .ok (.getfield 40, 3) := by decide +kernel
theorem dX12_text_245 : decode cX12_text 245 = .ok (.iload_n 3, 1) := by decide +kernel
theorem dX12_text_246 : decode cX12_text 246 = .ok (.iaload, 1) := by decide +kernel
theorem dX12_text_247 : decode cX12_text 247 = .ok (.iastore, 1) := by decide +kernel
theorem dX12_text_248 : decode cX12_text 248 = .ok (.iinc 3 1, 3) := by decide +kernel
theorem dX12_text_251 : decode cX12_text 251 = .ok (.goto (-21), 3) := by decide +kernel
theorem dX12_text_254 : decode cX12_text 254 = .ok (.iconst 0, 1) := by decide +kernel
theorem dX12_text_255 : decode cX12_text 255 = .ok (.istore_n 3, 1) := by decide +kernel
theorem dX12_text_256 : decode cX12_text 256 = .ok (.iload_n 3, 1) := by decide +kernel
theorem dX12_text_257 : decode cX12_text 257 = .ok (.bipush 30, 2) := by decide +kernel
theorem dX12_text_259 : decode cX12_text 259 = .ok (.if_icmp .ge 21, 3) := by decide +kernel
theorem dX12_text_262 : decode cX12_text 262 = .ok (.aload_n 0, 1) := by decide +kernel
theorem dX12_text_263 : decode cX12_text 263 = .ok (.getfield 43, 3) := by decide +kernel
theorem dX12_text_266 : decode cX12_text 266 = .ok (.iload_n 3, 1) := by decide +kernel
theorem dX12_text_267 : decode cX12_text 267 = .ok (.aload_n 0, 1) := by decide +kernel
theorem dX12_text_268 : decode cX12_text 268 = .ok (.getfield 46, 3) := by decide +kernel
theorem dX12_text_271 : decode cX12_text 271 = .ok (.iload_n 3, 1) := by decide +kernel
theorem dX12_text_272 : decode cX12_text 272 = .ok (.iaload, 1) := by decide +kernel
theorem dX12_text_273 : decode cX12_text 273 = .ok (.iastore, 1) := by decide +kernel
theorem dX12_text_274 : decode cX12_text 274 = .ok (.iinc 3 1, 3) := by decide +kernel
theorem dX12_text_277 : decode cX12_text 277 = .ok (.goto (-21), 3) := by decide +kernel
theorem dX12_text_280 : decode cX12_text 280 = .ok (.iconst 0, 1) := by decide +kernel
theorem dX12_text_281 : decode cX12_text 281 = .ok (.istore_n 3, 1) := by decide +kernel
theorem dX12_text_282 : decode cX12_text 282 = .ok (.iload_n 3, 1) := by decide +kernel
theorem dX12_text_283 : decode cX12_text 283 = .ok (.bipush 8, 2) := by decide +kernel
theorem dX12_text_285 : decode cX12_text 285 = .ok (.if_icmp .ge 21, 3) := by decide +kernel
theorem dX12_text_288 : decode cX12_text 288 = .ok (.aload_n 0, 1) := by decide +kernel
theorem dX12_text_289 : decode cX12_text 289 = .ok (.getfield 49, 3) := by decide +kernel
theorem dX12_text_292 : decode cX12_text 292 = .ok (.iload_n 3, 1) := by decide +kernel
theorem dX12_text_293 : decode cX12_text 293 = .ok (.aload_n 0, 1) := by decide +kernel
theorem dX12_text_294 : decode cX12_text 294 = .ok (.getfield 52, 3) := by decide +kernel
theorem dX12_text_297 : decode cX12_text 297 = .ok (.iload_n 3, 1) := by decide +kernel
theorem dX12_text_298 : decode cX12_text 298 = .ok (.iaload, 1) := by decide +kernel
theorem dX12_text_299 : decode cX12_text 299 = .ok (.iastore, 1) := by decide +kernel
theorem dX12_text_300 : decode cX12_text 300 = .ok (.iinc 3 1, 3) := by decide +kernel
theorem dX12_text_303 : decode cX12_text 303 = .ok (.goto (-21), 3) := by decide +kernel
theorem dX12_text_306 : decode cX12_text 306 = .ok (.iconst 0, 1) := by decide +kernel
theorem dX12_text_307 : decode cX12_text 307 = .ok (.istore_n 3, 1) := by decide +kernel
theorem dX12_text_308 : decode cX12_text 308 = .ok (.iload_n 3, 1) := by decide +kernel
theorem dX12_text_309 : decode cX12_text 309 = .ok (.bipush 66, 2) := by decide +kernel
theorem dX12_text_311 : decode cX12_text 311 = .ok (.if_icmp .ge 16, 3) := by decide +kernel
theorem dX12_text_314 : decode cX12_text 314 = .ok (.aload_n 0, 1) := by decide +kernel
theorem dX12_text_315 : decode cX12_text 315 = .ok (.getfield 61, 3) := by decide +kernel
theorem dX12_text_318 : decode cX12_text 318 = .ok (.iload_n 3, 1) := by decide +kernel
theorem dX12_text_319 : decode cX12_text 319 = .ok (.iconst 0, 1) := by decide +kernel
theorem dX12_text_320 : decode cX12_text 320 = .ok (.iastore, 1) := by decide +kernel
theorem dX12_text_321 : decode cX12_text 321 = .ok (.iinc 3 1, 3) := by decide +kernel
theorem dX12_text_324 : decode cX12_text 324 = .ok (.goto (-16), 3) := by decide +kernel
theorem dX12_text_327 : decode cX12_text 327 = .ok (.iconst 0, 1) := by decide +kernel
theorem dX12_text_328 : decode cX12_text 328 = .ok (.istore_n 3, 1) := by decide +kernel
theorem dX12_text_329 : decode cX12_text 329 = .ok (.iload_n 3, 1) := by decide +kernel
theorem dX12_text_330 : decode cX12_text 330 = .ok (.aload_n 0, 1) := by decide +kernel
theorem dX12_text_331 : decode cX12_text 331 = .ok (.getfield 285, 3) := by decide +kernel
theorem dX12_text_334 : decode cX12_text 334 = .ok (.if_icmp .ge 48, 3) := by decide +kernel
theorem dX12_text_337 : decode cX12_text 337 = .ok (.iconst 0, 1) := by decide +kernel
theorem dX12_text_338 : decode cX12_text 338 = .ok (.istore 4, 2) := by decide +kernel
theorem dX12_text_340 : decode cX12_text 340 = .ok (.iload 4, 2) := by decide +kernel
theorem dX12_text_342 : decode cX12_text 342 = .ok (.iconst 3, 1) := by decide +kernel
theorem dX12_text_343 : decode cX12_text 343 = .ok (.if_icmp .ge 33, 3) := by decide +kernel
theorem dX12_text_346 : decode cX12_text 346 = .ok (.aload_n 0, 1) := by decide +kernel
theorem dX12_text_347 : decode cX12_text 347 = .ok (.getfield 61, 3) := by decide +kernel
theorem dX12_text_350 : decode cX12_text 350 = .ok (.bipush 7, 2) := by decide +kernel
theorem dX12_text_352 : decode cX12_text 352 = .ok (.iload_n 3, 1) := by decide +kernel
theorem dX12_text_353 : decode cX12_text 353 = .ok (.imul, 1) := by decide +kernel
theorem dX12_text_354 : decode cX12_text 354 = .ok (.iload 4, 2) := by decide +kernel
theorem dX12_text_356 : decode cX12_text 356 = .ok (.iadd, 1) := by decide +kernel
theorem dX12_text_357 : decode cX12_text 357 = .ok (.aload_n 0, 1) := by decide +kernel
theorem dX12_text_358 : decode cX12_text 358 = .ok (.getfield 37, 3) := by decide +kernel
theorem dX12_text_361 : decode cX12_text 361 = .ok (.bipush 6, 2) := by decide +kernel
theorem dX12_text_363 : decode cX12_text 363 = .ok (.iload_n 3, 1) := by decide +kernel
theorem dX12_text_364 : decode cX12_text 364 = .ok (.imul, 1) := by decide +kernel
theorem dX12_text_365 : decode cX12_text 365 = .ok (.iload 4, 2) := by decide +kernel
theorem dX12_text_367 : decode cX12_text 367 = .ok (.iadd, 1) := by decide +kernel
theorem dX12_text_368 : decode cX12_text 368 = .ok (.iaload, 1) := by decide +kernel
theorem dX12_text_369 : decode cX12_text 369 = .ok (.iastore, 1) := by decide +kernel
theorem dX12_text_370 : decode cX12_text 370 = .ok (.iinc 4 1, 3) := by decide +kernel
theorem dX12_text_373 : decode cX12_text 373 = .ok (.goto (-33), 3) := by decide +kernel
theorem dX12_text_376 : decode cX12_text 376 = .ok (.iinc 3 1, 3) := by decide +kernel
theorem dX12_text_379 : decode cX12_text 379 = .ok (.goto (-50), 3) := by decide +kernel
theorem dX12_text_382 : decode cX12_text 382 = .ok (.iconst 0, 1) := by decide +kernel
theorem dX12_text_383 : decode cX12_text 383 = .ok (.istore_n 3, 1) := by decide +kernel
theorem dX12_text_384 : decode cX12_text 384 = .ok (.iload_n 3, 1) := by decide +kernel
theorem dX12_text_385 : decode cX12_text 385 = .ok (.aload_n 0, 1) := by decide +kernel
theorem dX12_text_386 : decode cX12_text 386 = .ok (.getfield 288, 3) := by decide +kernel
theorem dX12_text_389 : decode cX12_text 389 = .ok (.if_icmp .ge 51, 3) := by decide +kernel
theorem dX12_text_392 : decode cX12_text 392 = .ok (.aload_n 0, 1) := by decide +kernel
theorem dX12_text_393 : decode cX12_text 393 = .ok (.getfield 61, 3) := by decide +kernel
theorem dX12_text_396 : decode cX12_text 396 = .ok (.bipush 28, 2) := by decide +kernel
theorem dX12_text_398 : decode cX12_text 398 = .ok (.iconst 2, 1) := by decide +kernel
theorem dX12_text_399 : decode cX12_text 399 = .ok (.iload_n 3, 1) := by decide +kernel
theorem dX12_text_400 : decode cX12_text 400 = .ok (.imul, 1) := by decide +kernel
theorem dX12_text_401 : decode cX12_text 401 = .ok (.iadd, 1) := by decide +kernel
theorem dX12_text_402 : decode cX12_text 402 = .ok (.aload_n 0, 1) := by decide +kernel
theorem dX12_text_403 : decode cX12_text 403 = .ok (.getfield 43, 3) := by decide +kernel
theorem dX12_text_406 : decode cX12_text 406 = .ok (.iconst 5, 1) := by decide +kernel
theorem dX12_text_407 : decode cX12_text 407 = .ok (.iload_n 3, 1) := by decide +kernel
theorem dX12_text_408 : decode cX12_text 408 = .ok (.imul, 1) := by decide +kernel
theorem dX12_text_409 : decode cX12_text 409 = .ok (.iaload, 1) := by decide +kernel
theorem dX12_text_410 : decode cX12_text 410 = .ok (.iastore, 1) := by decide +kernel
theorem dX12_text_411 : decode cX12_text 411 = .ok (.aload_n 0, 1) := by decide +kernel
theorem dX12_text_412 : decode cX12_text 412 = .ok (.getfield 61, 3) := by decide +kernel
theorem dX12_text_415 : decode cX12_text 415 = .ok (.bipush 28, 2) := by decide +kernel
theorem dX12_text_417 : decode cX12_text 417 = .ok (.iconst 2, 1) := by decide +kernel
theorem dX12_text_418 : decode cX12_text 418 = .ok (.iload_n 3, 1) := by decide +kernel
theorem dX12_text_419 : decode cX12_text 419 = .ok (.imul, 1) := by decide +kernel
theorem dX12_text_420 : decode cX12_text 420 = .ok (.iadd, 1) := by decide +kernel
theorem dX12_text_421 : decode cX12_text 421 = .ok (.iconst 1, 1) := by decide +kernel
theorem dX12_text_422 : decode cX12_text 422 = .ok (.iadd, 1) := by decide +kernel
theorem dX12_text_423 : decode cX12_text 423 = .ok (.aload_n 0, 1) := by decide +kernel
theorem dX12_text_424 : decode cX12_text 424 = .ok (.getfield 43, 3) := by decide +kernel
theorem dX12_text_427 : decode cX12_text 427 = .ok (.iconst 5, 1) := by decide +kernel
theorem dX12_text_428 : decode cX12_text 428 = .ok (.iload_n 3, 1) := by decide +kernel
theorem dX12_text_429 : decode cX12_text 429 = .ok (.imul, 1) := by decide +kernel
theorem dX12_text_430 : decode cX12_text 430 = .ok (.iconst 2, 1) := by decide +kernel
theorem dX12_text_431 : decode cX12_text 431 = .ok (.iadd, 1) := by decide +kernel
theorem dX12_text_432 : decode cX12_text 432 = .ok (.iaload, 1) := by decide +kernel
theorem dX12_text_433 : decode cX12_text 433 = .ok (.iastore, 1) := by decide +kernel
theorem dX12_text_434 : decode cX12_text 434 = .ok (.iinc 3 1, 3) := by decide +kernel
theorem dX12_text_437 : decode cX12_text 437 = .ok (.goto (-53), 3) := by decide +kernel
theorem dX12_text_440 : decode cX12_text 440 = .ok (.aload_n 0, 1) := by decide +kernel
theorem dX12_text_441 : decode cX12_text 441 = .ok (.iconst (-1), 1) := by decide +kernel
theorem dX12_text_442 : decode cX12_text 442 = .ok (.putfield 67, 3) := by decide +kernel
theorem dX12_text_445 : decode cX12_text 445 = .ok (.aload_n 0, 1) := by decide +kernel
theorem dX12_text_446 : decode cX12_text 446 = .ok (.iconst 0, 1) := by decide +kernel
theorem dX12_text_447 : decode cX12_text 447 = .ok (.putfield 294, 3) := by decide +kernel
theorem dX12_text_450 : decode cX12_text 450 = .ok (.aload_n 0, 1) := by decide +kernel
theorem dX12_text_451 : decode cX12_text 451 = .ok (.iconst 0, 1) := by decide +kernel
theorem dX12_text_452 : decode cX12_text 452 = .ok (.putfield 297, 3) := by decide +kernel
theorem dX12_text_455 : decode cX12_text 455 = .ok (.aload_n 0, 1) := by decide +kernel
theorem dX12_text_456 : decode cX12_text 456 = .ok (.iconst 0, 1) := by decide +kernel
theorem dX12_text_457 : decode cX12_text 457 = .ok (.putfield 300, 3) := by decide +kernel
theorem dX12_text_460 : decode cX12_text 460 = .ok (.aload_n 0, 1) := by decide +kernel
theorem dX12_text_461 : decode cX12_text 461 = .ok (.iconst 0, 1) := by decide +kernel
theorem dX12_text_462 : decode cX12_text 462 = .ok (.putfield 303, 3) := by decide +kernel
theorem dX12_text_465 : decode cX12_text 465 = .ok (.aload_n 0, 1) := by decide +kernel
theorem dX12_text_466 : decode cX12_text 466 = .ok (.getfield 285, 3) := by decide +kernel
theorem dX12_text_469 : decode cX12_text 469 = .ok (.ireturn, 1) := by decide +kernel
theorem dX12_copy_0 : decode cX12_copy 0 = .ok (.iconst 0, 1) := by decide +kernel
theorem dX12_copy_1 : decode cX12_copy 1 = .ok (.istore_n 3, 1) := by decide +kernel
theorem dX12_copy_2 : decode cX12_copy 2 = .ok (.iload_n 3, 1) := by decide +kernel
theorem dX12_copy_3 : decode cX12_copy 3 = .ok (.bipush 66, 2) := by decide +kernel
theorem dX12_copy_5 : decode cX12_copy 5 = .ok (.if_icmp .ge 15, 3) := by decide +kernel
theorem dX12_copy_8 : decode cX12_copy 8 = .ok (.aload_n 2, 1) := by decide +kernel
theorem dX12_copy_9 : decode cX12_copy 9 = .ok (.iload_n 3, 1) := by decide +kernel
theorem dX12_copy_10 : decode cX12_copy 10 = .ok (.aload_n 1, 1) := by decide +kernel
theorem dX12_copy_11 : decode cX12_copy 11 = .ok (.iload_n 3, 1) := by decide +kernel
theorem dX12_copy_12 : decode cX12_copy 12 = .ok (.iaload, 1) := by decide +kernel
theorem dX12_copy_13 : decode cX12_copy 13 = .ok (.iastore, 1) := by decide +kernel
theorem dX12_copy_14 : decode cX12_copy 14 = .ok (.iinc 3 1, 3) := by decide +kernel
theorem dX12_copy_17 : decode cX12_copy 17 = .ok (.goto (-15), 3) := by decide +kernel
theorem dX12_copy_20 : decode cX12_copy 20 = .ok (.return_, 1) := by decide +kernel
theorem dX12_isJar_0 : decode cX12_isJar 0 = .ok (.iload_n 1, 1) := by decide +kernel
theorem dX12_isJar_1 : decode cX12_isJar 1 = .ok (.ifCond .lt 15, 3) := by decide +kernel
theorem dX12_isJar_4 : decode cX12_isJar 4 = .ok (.iload_n 1, 1) := by decide +kernel
theorem dX12_isJar_5 : decode cX12_isJar 5 = .ok (.aload_n 0, 1) := by decide +kernel
theorem dX12_isJar_6 : decode cX12_isJar 6 = .ok (.getfield 285, 3) := by decide +kernel
theorem dX12_isJar_9 : decode cX12_isJar 9 = .ok (.if_icmp .ge 7, 3) := by decide +kernel
theorem dX12_isJar_12 : decode cX12_isJar 12 = .ok (.iconst 1, 1) := by decide +kernel
theorem dX12_isJar_13 : decode cX12_isJar 13 = .ok (.goto 4, 3) := by decide +kernel
theorem dX12_isJar_16 : decode cX12_isJar 16 = .ok (.iconst 0, 1) := by decide +kernel
theorem dX12_isJar_17 : decode cX12_isJar 17 = .ok (.ireturn, 1) := by decide +kernel
theorem dX12_isHand_0 : decode cX12_isHand 0 = .ok (.iload_n 1, 1) := by decide +kernel
theorem dX12_isHand_1 : decode cX12_isHand 1 = .ok (.ifCond .lt 15, 3) := by decide +kernel
theorem dX12_isHand_4 : decode cX12_isHand 4 = .ok (.iload_n 1, 1) := by decide +kernel
theorem dX12_isHand_5 : decode cX12_isHand 5 = .ok (.aload_n 0, 1) := by decide +kernel
theorem dX12_isHand_6 : decode cX12_isHand 6 = .ok (.getfield 288, 3) := by decide +kernel
theorem dX12_isHand_9 : decode cX12_isHand 9 = .ok (.if_icmp .ge 7, 3) := by decide +kernel
theorem dX12_isHand_12 : decode cX12_isHand 12 = .ok (.iconst 1, 1) := by decide +kernel
theorem dX12_isHand_13 : decode cX12_isHand 13 = .ok (.goto 4, 3) := by decide +kernel
theorem dX12_isHand_16 : decode cX12_isHand 16 = .ok (.iconst 0, 1) := by decide +kernel
theorem dX12_isHand_17 : decode cX12_isHand 17 = .ok (.ireturn, 1) := by decide +kernel
theorem dX12_isTool_0 : decode cX12_isTool 0 = .ok (.iload_n 1, 1) := by decide +kernel
theorem dX12_isTool_1 : decode cX12_isTool 1 = .ok (.i2l, 1) := by decide +kernel
theorem dX12_isTool_2 : decode cX12_isTool 2 = .ok (.ldc2_w 306, 3) := by decide +kernel
theorem dX12_isTool_5 : decode cX12_isTool 5 = .ok (.aload_n 0, 1) := by decide +kernel
theorem dX12_isTool_6 : decode cX12_isTool 6 = .ok (.getfield 291, 3) := by decide +kernel
theorem dX12_isTool_9 : decode cX12_isTool 9 = .ok (.iconst 1, 1) := by decide +kernel
theorem dX12_isTool_10 : decode cX12_isTool 10 = .ok (.isub, 1) := by decide +kernel
theorem dX12_isTool_11 : decode cX12_isTool 11 = .ok (.i2l, 1) := by decide +kernel
theorem dX12_isTool_12 : decode cX12_isTool 12 = .ok (.invokestatic 214, 3) := by decide +kernel
theorem dX12_isTool_15 : decode cX12_isTool 15 = .ok (.ireturn, 1) := by decide +kernel
theorem dX12_holdOf_0 : decode cX12_holdOf 0 = .ok (.aload_n 0, 1) := by decide +kernel
theorem dX12_holdOf_1 : decode cX12_holdOf 1 = .ok (.bipush 7, 2) := by decide +kernel
theorem dX12_holdOf_3 : decode cX12_holdOf 3 = .ok (.iload_n 1, 1) := by decide +kernel
theorem dX12_holdOf_4 : decode cX12_holdOf 4 = .ok (.imul, 1) := by decide +kernel
theorem dX12_holdOf_5 : decode cX12_holdOf 5 = .ok (.iaload, 1) := by decide +kernel
theorem dX12_holdOf_6 : decode cX12_holdOf 6 = .ok (.aload_n 0, 1) := by decide +kernel
theorem dX12_holdOf_7 : decode cX12_holdOf 7 = .ok (.bipush 7, 2) := by decide +kernel
theorem dX12_holdOf_9 : decode cX12_holdOf 9 = .ok (.iload_n 1, 1) := by decide +kernel
theorem dX12_holdOf_10 : decode cX12_holdOf 10 = .ok (.imul, 1) := by decide +kernel
theorem dX12_holdOf_11 : decode cX12_holdOf 11 = .ok (.iconst 1, 1) := by decide +kernel
theorem dX12_holdOf_12 : decode cX12_holdOf 12 = .ok (.iadd, 1) := by decide +kernel
theorem dX12_holdOf_13 : decode cX12_holdOf 13 = .ok (.iaload, 1) := by decide +kernel
theorem dX12_holdOf_14 : decode cX12_holdOf 14 = .ok (.iadd, 1) := by decide +kernel
theorem dX12_holdOf_15 : decode cX12_holdOf 15 = .ok (.iconst 2, 1) := by decide +kernel
theorem dX12_holdOf_16 : decode cX12_holdOf 16 = .ok (.aload_n 0, 1) := by decide +kernel
theorem dX12_holdOf_17 : decode cX12_holdOf 17 = .ok (.bipush 7, 2) := by decide +kernel
theorem dX12_holdOf_19 : decode cX12_holdOf 19 = .ok (.iload_n 1, 1) := by decide +kernel
theorem dX12_holdOf_20 : decode cX12_holdOf 20 = .ok (.imul, 1) := by decide +kernel
theorem dX12_holdOf_21 : decode cX12_holdOf 21 = .ok (.iconst 2, 1) := by decide +kernel
theorem dX12_holdOf_22 : decode cX12_holdOf 22 = .ok (.iadd, 1) := by decide +kernel
theorem dX12_holdOf_23 : decode cX12_holdOf 23 = .ok (.iaload, 1) := by decide +kernel
theorem dX12_holdOf_24 : decode cX12_holdOf 24 = .ok (.imul, 1) := by decide +kernel
theorem dX12_holdOf_25 : decode cX12_holdOf 25 = .ok (.iadd, 1) := by decide +kernel
theorem dX12_holdOf_26 : decode cX12_holdOf 26 = .ok (.ireturn, 1) := by decide +kernel
theorem dX12_isDone_0 : decode cX12_isDone 0 = .ok (.aload_n 0, 1) := by decide +kernel
theorem dX12_isDone_1 : decode cX12_isDone 1 = .ok (.bipush 7, 2) := by decide +kernel
theorem dX12_isDone_3 : decode cX12_isDone 3 = .ok (.aload_n 0, 1) := by decide +kernel
theorem dX12_isDone_4 : decode cX12_isDone 4 = .ok (.bipush 64, 2) := by decide +kernel
theorem dX12_isDone_6 : decode cX12_isDone 6 = .ok (.iaload, 1) := by decide +kernel
theorem dX12_isDone_7 : decode cX12_isDone 7 = .ok (.imul, 1) := by decide +kernel
theorem dX12_isDone_8 : decode cX12_isDone 8 = .ok (.iconst 5, 1) := by decide +kernel
theorem dX12_isDone_9 : decode cX12_isDone 9 = .ok (.iadd, 1) := by decide +kernel
theorem dX12_isDone_10 : decode cX12_isDone 10 = .ok (.iaload, 1) := by decide +kernel
theorem dX12_isDone_11 : decode cX12_isDone 11 = .ok (.iconst 1, 1) := by decide +kernel
theorem dX12_isDone_12 : decode cX12_isDone 12 = .ok (.if_icmp .eq 19, 3) := by decide +kernel
theorem dX12_isDone_15 : decode cX12_isDone 15 = .ok (.aload_n 0, 1) := by decide +kernel
theorem dX12_isDone_16 : decode cX12_isDone 16 = .ok (.bipush 7, 2) := by decide +kernel
theorem dX12_isDone_18 : decode cX12_isDone 18 = .ok (.aload_n 0, 1) := by decide +kernel
theorem dX12_isDone_19 : decode cX12_isDone 19 = .ok (.bipush 64, 2) := by decide +kernel
theorem dX12_isDone_21 : decode cX12_isDone 21 = .ok (.iaload, 1) := by decide +kernel
theorem dX12_isDone_22 : decode cX12_isDone 22 = .ok (.imul, 1) := by decide +kernel
theorem dX12_isDone_23 : decode cX12_isDone 23 = .ok (.bipush 6, 2) := by decide +kernel
theorem dX12_isDone_25 : decode cX12_isDone 25 = .ok (.iadd, 1) := by decide +kernel
theorem dX12_isDone_26 : decode cX12_isDone 26 = .ok (.iaload, 1) := by decide +kernel
theorem dX12_isDone_27 : decode cX12_isDone 27 = .ok (.iconst 1, 1) := by decide +kernel
theorem dX12_isDone_28 : decode cX12_isDone 28 = .ok (.if_icmp .ne 7, 3) := by decide +kernel
theorem dX12_isDone_31 : decode cX12_isDone 31 = .ok (.iconst 1, 1) := by decide +kernel
theorem dX12_isDone_32 : decode cX12_isDone 32 = .ok (.goto 4, 3) := by decide +kernel
theorem dX12_isDone_35 : decode cX12_isDone 35 = .ok (.iconst 0, 1) := by decide +kernel
theorem dX12_isDone_36 : decode cX12_isDone 36 = .ok (.ireturn, 1) := by decide +kernel
theorem dX12_gripBy_0 : decode cX12_gripBy 0 = .ok (.aload_n 0, 1) := by decide +kernel
theorem dX12_gripBy_1 : decode cX12_gripBy 1 = .ok (.getfield 67, 3) := by decide +kernel
theorem dX12_gripBy_4 : decode cX12_gripBy 4 = .ok (.iconst (-1), 1) := by decide +kernel
theorem dX12_gripBy_5 : decode cX12_gripBy 5 = .ok (.if_icmp .ne 30, 3) := by decide +kernel
theorem dX12_gripBy_8 : decode cX12_gripBy 8 = .ok (.iload_n 1, 1) := by decide +kernel
theorem dX12_gripBy_9 : decode cX12_gripBy 9 = .ok (.iload 6, 2) := by decide +kernel
theorem dX12_gripBy_11 : decode cX12_gripBy 11 = .ok (.iadd, 1) := by decide +kernel
theorem dX12_gripBy_12 : decode cX12_gripBy 12 = .ok (.iconst 4, 1) := by decide +kernel
theorem dX12_gripBy_13 : decode cX12_gripBy 13 = .ok (.iload_n 3, 1) := by decide +kernel
theorem dX12_gripBy_14 : decode cX12_gripBy 14 = .ok (.imul, 1) := by decide +kernel
theorem dX12_gripBy_15 : decode cX12_gripBy 15 = .ok (.isub, 1) := by decide +kernel
theorem dX12_gripBy_16 : decode cX12_gripBy 16 = .ok (.iconst 3, 1) := by decide +kernel
theorem dX12_gripBy_17 : decode cX12_gripBy 17 = .ok (.iconst 0, 1) := by decide +kernel
theorem dX12_gripBy_18 : decode cX12_gripBy 18 = .ok (.iload 4, 2) := by decide +kernel
theorem dX12_gripBy_20 : decode cX12_gripBy 20 = .ok (.iload_n 2, 1) := by decide +kernel
theorem dX12_gripBy_21 : decode cX12_gripBy 21 = .ok (.isub, 1) := by decide +kernel
theorem dX12_gripBy_22 : decode cX12_gripBy 22 = .ok (.invokestatic 308, 3) := by decide +kernel
theorem dX12_gripBy_25 : decode cX12_gripBy 25 = .ok (.imul, 1) := by decide +kernel
theorem dX12_gripBy_26 : decode cX12_gripBy 26 = .ok (.isub, 1) := by decide +kernel
theorem dX12_gripBy_27 : decode cX12_gripBy 27 = .ok (.iload 5, 2) := by decide +kernel
theorem dX12_gripBy_29 : decode cX12_gripBy 29 = .ok (.isub, 1) := by decide +kernel
theorem dX12_gripBy_30 : decode cX12_gripBy 30 = .ok (.istore 7, 2) := by decide +kernel
theorem dX12_gripBy_32 : decode cX12_gripBy 32 = .ok (.goto 85, 3) := by decide +kernel
theorem dX12_gripBy_35 : decode cX12_gripBy 35 = .ok (.aload_n 0, 1) := by decide +kernel
theorem dX12_gripBy_36 : decode cX12_gripBy 36 = .ok (.getfield 20, 3) := by decide +kernel
theorem dX12_gripBy_39 : decode cX12_gripBy 39 = .ok (.bipush 112, 2) := by decide +kernel
theorem dX12_gripBy_41 : decode cX12_gripBy 41 = .ok (.iload_n 1, 1) := by decide +kernel
theorem dX12_gripBy_42 : decode cX12_gripBy 42 = .ok (.iastore, 1) := by decide +kernel
theorem dX12_gripBy_43 : decode cX12_gripBy 43 = .ok (.aload_n 0, 1) := by decide +kernel
theorem dX12_gripBy_44 : decode cX12_gripBy 44 = .ok (.getfield 20, 3) := by decide +kernel
theorem dX12_gripBy_47 : decode cX12_gripBy 47 = .ok (.bipush 115, 2) := by decide +kernel
theorem dX12_gripBy_49 : decode cX12_gripBy 49 = .ok (.iload_n 2, 1) := by decide +kernel
theorem dX12_gripBy_50 : decode cX12_gripBy 50 = .ok (.iastore, 1) := by decide +kernel
theorem dX12_gripBy_51 : decode cX12_gripBy 51 = .ok (.aload_n 0, 1) := by decide +kernel
theorem dX12_gripBy_52 : decode cX12_gripBy 52 = .ok (.getfield 20, 3) := by decide +kernel
theorem dX12_gripBy_55 : decode cX12_gripBy 55 = .ok (.bipush 119, 2) := by decide +kernel
theorem dX12_gripBy_57 : decode cX12_gripBy 57 = .ok (.iload_n 3, 1) := by decide +kernel
theorem dX12_gripBy_58 : decode cX12_gripBy 58 = .ok (.iastore, 1) := by decide +kernel
theorem dX12_gripBy_59 : decode cX12_gripBy 59 = .ok (.aload_n 0, 1) := by decide +kernel
theorem dX12_gripBy_60 : decode cX12_gripBy 60 = .ok (.getfield 20, 3) := by decide +kernel
theorem dX12_gripBy_63 : decode cX12_gripBy 63 = .ok (.bipush 105, 2) := by decide +kernel
theorem dX12_gripBy_65 : decode cX12_gripBy 65 = .ok (.iload 4, 2) := by decide +kernel
theorem dX12_gripBy_67 : decode cX12_gripBy 67 = .ok (.iastore, 1) := by decide +kernel
theorem dX12_gripBy_68 : decode cX12_gripBy 68 = .ok (.aload_n 0, 1) := by decide +kernel
theorem dX12_gripBy_69 : decode cX12_gripBy 69 = .ok (.getfield 20, 3) := by decide +kernel
theorem dX12_gripBy_72 : decode cX12_gripBy 72 = .ok (.bipush 99, 2) := by decide +kernel
theorem dX12_gripBy_74 : decode cX12_gripBy 74 = .ok (.iload 5, 2) := by decide +kernel
theorem dX12_gripBy_76 : decode cX12_gripBy 76 = .ok (.iastore, 1) := by decide +kernel
theorem dX12_gripBy_77 : decode cX12_gripBy 77 = .ok (.aload_n 0, 1) := by decide +kernel
theorem dX12_gripBy_78 : decode cX12_gripBy 78 = .ok (.getfield 20, 3) := by decide +kernel
theorem dX12_gripBy_81 : decode cX12_gripBy 81 = .ok (.bipush 97, 2) := by decide +kernel
theorem dX12_gripBy_83 : decode cX12_gripBy 83 = .ok (.iload 6, 2) := by decide +kernel
theorem dX12_gripBy_85 : decode cX12_gripBy 85 = .ok (.iastore, 1) := by decide +kernel
theorem dX12_gripBy_86 : decode cX12_gripBy 86 = .ok (.aload_n 0, 1) := by decide +kernel
theorem dX12_gripBy_87 : decode cX12_gripBy 87 = .ok (.aload_n 0, 1) := by decide +kernel
theorem dX12_gripBy_88 : decode cX12_gripBy 88 = .ok (.getfield 13, 3) := by decide +kernel
theorem dX12_gripBy_91 : decode cX12_gripBy 91 = .ok (.sipush 200, 3) := by decide +kernel
theorem dX12_gripBy_94 : decode cX12_gripBy 94 = .ok (.aload_n 0, 1) := by decide +kernel
theorem dX12_gripBy_95 : decode cX12_gripBy 95 = .ok (.getfield 67, 3) := by decide +kernel
theorem dX12_gripBy_98 : decode cX12_gripBy 98 = .ok (.imul, 1) := by decide +kernel
theorem dX12_gripBy_99 : decode cX12_gripBy 99 = .ok (.aload_n 0, 1) := by decide +kernel
theorem dX12_gripBy_100 : decode cX12_gripBy 100 = .ok (.getfield 16, 3) := by decide +kernel
theorem dX12_gripBy_103 : decode cX12_gripBy 103 = .ok (.aload_n 0, 1) := by decide +kernel
theorem dX12_gripBy_104 : decode cX12_gripBy 104 = .ok (.getfield 67, 3) := by decide +kernel
theorem dX12_gripBy_107 : decode cX12_gripBy 107 = .ok (.iaload, 1) := by decide +kernel
theorem dX12_gripBy_108 : decode cX12_gripBy 108 = .ok (.invokevirtual 271, 3) := by decide +kernel
theorem dX12_gripBy_111 : decode cX12_gripBy 111 = .ok (.aload_n 0, 1) := by decide +kernel
theorem dX12_gripBy_112 : decode cX12_gripBy 112 = .ok (.getfield 201, 3) := by decide +kernel
theorem dX12_gripBy_115 : decode cX12_gripBy 115 = .ok (.istore 7, 2) := by decide +kernel
theorem dX12_gripBy_117 : decode cX12_gripBy 117 = .ok (.iconst 0, 1) := by decide +kernel
theorem dX12_gripBy_118 : decode cX12_gripBy 118 = .ok (.sipush 999, 3) := by decide +kernel
theorem dX12_gripBy_121 : decode cX12_gripBy 121 = .ok (.iload 7, 2) := by decide +kernel
theorem dX12_gripBy_123 : decode cX12_gripBy 123 = .ok (.invokestatic 310, 3) := by decide +kernel
theorem dX12_gripBy_126 : decode cX12_gripBy 126 = .ok (.invokestatic 308, 3) := by decide +kernel
theorem dX12_gripBy_129 : decode cX12_gripBy 129 = .ok (.ireturn, 1) := by decide +kernel
theorem dX12_gripOf_0 : decode cX12_gripOf 0 = .ok (.aload_n 0, 1) := by decide +kernel
theorem dX12_gripOf_1 : decode cX12_gripOf 1 = .ok (.aload_n 1, 1) := by decide +kernel
theorem dX12_gripOf_2 : decode cX12_gripOf 2 = .ok (.bipush 28, 2) := by decide +kernel
theorem dX12_gripOf_4 : decode cX12_gripOf 4 = .ok (.iconst 2, 1) := by decide +kernel
theorem dX12_gripOf_5 : decode cX12_gripOf 5 = .ok (.iload_n 2, 1) := by decide +kernel
theorem dX12_gripOf_6 : decode cX12_gripOf 6 = .ok (.imul, 1) := by decide +kernel
theorem dX12_gripOf_7 : decode cX12_gripOf 7 = .ok (.iadd, 1) := by decide +kernel
theorem dX12_gripOf_8 : decode cX12_gripOf 8 = .ok (.iaload, 1) := by decide +kernel
theorem dX12_gripOf_9 : decode cX12_gripOf 9 = .ok (.aload_n 0, 1) := by decide +kernel
theorem dX12_gripOf_10 : decode cX12_gripOf 10 = .ok (.getfield 43, 3) := by decide +kernel
theorem dX12_gripOf_13 : decode cX12_gripOf 13 = .ok (.iconst 5, 1) := by decide +kernel
theorem dX12_gripOf_14 : decode cX12_gripOf 14 = .ok (.iload_n 2, 1) := by decide +kernel
theorem dX12_gripOf_15 : decode cX12_gripOf 15 = .ok (.imul, 1) := by decide +kernel
theorem dX12_gripOf_16 : decode cX12_gripOf 16 = .ok (.iconst 1, 1) := by decide +kernel
theorem dX12_gripOf_17 : decode cX12_gripOf 17 = .ok (.iadd, 1) := by decide +kernel
theorem dX12_gripOf_18 : decode cX12_gripOf 18 = .ok (.iaload, 1) := by decide +kernel
theorem dX12_gripOf_19 : decode cX12_gripOf 19 = .ok (.aload_n 1, 1) := by decide +kernel
theorem dX12_gripOf_20 : decode cX12_gripOf 20 = .ok (.bipush 28, 2) := by decide +kernel
theorem dX12_gripOf_22 : decode cX12_gripOf 22 = .ok (.iconst 2, 1) := by decide +kernel
theorem dX12_gripOf_23 : decode cX12_gripOf 23 = .ok (.iload_n 2, 1) := by decide +kernel
theorem dX12_gripOf_24 : decode cX12_gripOf 24 = .ok (.imul, 1) := by decide +kernel
theorem dX12_gripOf_25 : decode cX12_gripOf 25 = .ok (.iadd, 1) := by decide +kernel
theorem dX12_gripOf_26 : decode cX12_gripOf 26 = .ok (.iconst 1, 1) := by decide +kernel
theorem dX12_gripOf_27 : decode cX12_gripOf 27 = .ok (.iadd, 1) := by decide +kernel
theorem dX12_gripOf_28 : decode cX12_gripOf 28 = .ok (.iaload, 1) := by decide +kernel
theorem dX12_gripOf_29 : decode cX12_gripOf 29 = .ok (.aload_n 0, 1) := by decide +kernel
theorem dX12_gripOf_30 : decode cX12_gripOf 30 = .ok (.getfield 37, 3) := by decide +kernel
theorem dX12_gripOf_33 : decode cX12_gripOf 33 = .ok (.bipush 6, 2) := by decide +kernel
theorem dX12_gripOf_35 : decode cX12_gripOf 35 = .ok (.iload 4, 2) := by decide +kernel
theorem dX12_gripOf_37 : decode cX12_gripOf 37 = .ok (.imul, 1) := by decide +kernel
theorem dX12_gripOf_38 : decode cX12_gripOf 38 = .ok (.iconst 4, 1) := by decide +kernel
theorem dX12_gripOf_39 : decode cX12_gripOf 39 = .ok (.iadd, 1) := by decide +kernel
theorem dX12_gripOf_40 : decode cX12_gripOf 40 = .ok (.iaload, 1) := by decide +kernel
theorem dX12_gripOf_41 : decode cX12_gripOf 41 = .ok (.aload_n 1, 1) := by decide +kernel
theorem dX12_gripOf_42 : decode cX12_gripOf 42 = .ok (.bipush 7, 2) := by decide +kernel
theorem dX12_gripOf_44 : decode cX12_gripOf 44 = .ok (.iload 4, 2) := by decide +kernel
theorem dX12_gripOf_46 : decode cX12_gripOf 46 = .ok (.imul, 1) := by decide +kernel
theorem dX12_gripOf_47 : decode cX12_gripOf 47 = .ok (.iconst 2, 1) := by decide +kernel
theorem dX12_gripOf_48 : decode cX12_gripOf 48 = .ok (.iadd, 1) := by decide +kernel
theorem dX12_gripOf_49 : decode cX12_gripOf 49 = .ok (.iaload, 1) := by decide +kernel
theorem dX12_gripOf_50 : decode cX12_gripOf 50 = .ok (.iload_n 3, 1) := by decide +kernel
theorem dX12_gripOf_51 : decode cX12_gripOf 51 = .ok (.iconst (-1), 1) := by decide +kernel
theorem dX12_gripOf_52 : decode cX12_gripOf 52 = .ok (.if_icmp .ne 7, 3) := by decide +kernel
theorem dX12_gripOf_55 : decode cX12_gripOf 55 = .ok (.iconst 0, 1) := by decide +kernel
theorem dX12_gripOf_56 : decode cX12_gripOf 56 = .ok (.goto 11, 3) := by decide +kernel
theorem dX12_gripOf_59 : decode cX12_gripOf 59 = .ok (.aload_n 0, 1) := by decide +kernel
theorem dX12_gripOf_60 : decode cX12_gripOf 60 = .ok (.getfield 49, 3) := by decide +kernel
theorem dX12_gripOf_63 : decode cX12_gripOf 63 = .ok (.iconst 2, 1) := by decide +kernel
theorem dX12_gripOf_64 : decode cX12_gripOf 64 = .ok (.iload_n 3, 1) := by decide +kernel
theorem dX12_gripOf_65 : decode cX12_gripOf 65 = .ok (.imul, 1) := by decide +kernel
theorem dX12_gripOf_66 : decode cX12_gripOf 66 = .ok (.iaload, 1) := by decide +kernel
theorem dX12_gripOf_67 : decode cX12_gripOf 67 = .ok (.invokevirtual 312, 3) := by decide +kernel
theorem dX12_gripOf_70 : decode cX12_gripOf 70 = .ok (.ireturn, 1) := by decide +kernel
theorem dX12_gripTold_0 : decode cX12_gripTold 0 = .ok (.aload_n 0, 1) := by decide +kernel
theorem dX12_gripTold_1 : decode cX12_gripTold 1 = .ok (.aload_n 0, 1) := by decide +kernel
theorem dX12_gripTold_2 : decode cX12_gripTold 2 = .ok (.getfield 43, 3) := by decide +kernel
theorem dX12_gripTold_5 : decode cX12_gripTold 5 = .ok (.iconst 5, 1) := by decide +kernel
theorem dX12_gripTold_6 : decode cX12_gripTold 6 = .ok (.iload_n 1, 1) := by decide +kernel
theorem dX12_gripTold_7 : decode cX12_gripTold 7 = .ok (.imul, 1) := by decide +kernel
theorem dX12_gripTold_8 : decode cX12_gripTold 8 = .ok (.iaload, 1) := by decide +kernel
theorem dX12_gripTold_9 : decode cX12_gripTold 9 = .ok (.aload_n 0, 1) := by decide +kernel
theorem dX12_gripTold_10 : decode cX12_gripTold 10 = .ok (.getfield 43, 3) := by decide +kernel
theorem dX12_gripTold_13 : decode cX12_gripTold 13 = .ok (.iconst 5, 1) := by decide +kernel
theorem dX12_gripTold_14 : decode cX12_gripTold 14 = .ok (.iload_n 1, 1) := by decide +kernel
theorem dX12_gripTold_15 : decode cX12_gripTold 15 = .ok (.imul, 1) := by decide +kernel
theorem dX12_gripTold_16 : decode cX12_gripTold 16 = .ok (.iconst 1, 1) := by decide +kernel
theorem dX12_gripTold_17 : decode cX12_gripTold 17 = .ok (.iadd, 1) := by decide +kernel
theorem dX12_gripTold_18 : decode cX12_gripTold 18 = .ok (.iaload, 1) := by decide +kernel
theorem dX12_gripTold_19 : decode cX12_gripTold 19 = .ok (.aload_n 0, 1) := by decide +kernel
theorem dX12_gripTold_20 : decode cX12_gripTold 20 = .ok (.getfield 43, 3) := by decide +kernel
theorem dX12_gripTold_23 : decode cX12_gripTold 23 = .ok (.iconst 5, 1) := by decide +kernel
theorem dX12_gripTold_24 : decode cX12_gripTold 24 = .ok (.iload_n 1, 1) := by decide +kernel
theorem dX12_gripTold_25 : decode cX12_gripTold 25 = .ok (.imul, 1) := by decide +kernel
theorem dX12_gripTold_26 : decode cX12_gripTold 26 = .ok (.iconst 2, 1) := by decide +kernel
theorem dX12_gripTold_27 : decode cX12_gripTold 27 = .ok (.iadd, 1) := by decide +kernel
theorem dX12_gripTold_28 : decode cX12_gripTold 28 = .ok (.iaload, 1) := by decide +kernel
theorem dX12_gripTold_29 : decode cX12_gripTold 29 = .ok (.aload_n 0, 1) := by decide +kernel
theorem dX12_gripTold_30 : decode cX12_gripTold 30 = .ok (.getfield 37, 3) := by decide +kernel
theorem dX12_gripTold_33 : decode cX12_gripTold 33 = .ok (.bipush 6, 2) := by decide +kernel
theorem dX12_gripTold_35 : decode cX12_gripTold 35 = .ok (.iload_n 3, 1) := by decide +kernel
theorem dX12_gripTold_36 : decode cX12_gripTold 36 = .ok (.imul, 1) := by decide +kernel
theorem dX12_gripTold_37 : decode cX12_gripTold 37 = .ok (.iconst 4, 1) := by decide +kernel
theorem dX12_gripTold_38 : decode cX12_gripTold 38 = .ok (.iadd, 1) := by decide +kernel
theorem dX12_gripTold_39 : decode cX12_gripTold 39 = .ok (.iaload, 1) := by decide +kernel
theorem dX12_gripTold_40 : decode cX12_gripTold 40 = .ok (.aload_n 0, 1) := by decide +kernel
theorem dX12_gripTold_41 : decode cX12_gripTold 41 = .ok (.getfield 37, 3) := by decide +kernel
theorem dX12_gripTold_44 : decode cX12_gripTold 44 = .ok (.bipush 6, 2) := by decide +kernel
theorem dX12_gripTold_46 : decode cX12_gripTold 46 = .ok (.iload_n 3, 1) := by decide +kernel
theorem dX12_gripTold_47 : decode cX12_gripTold 47 = .ok (.imul, 1) := by decide +kernel
theorem dX12_gripTold_48 : decode cX12_gripTold 48 = .ok (.iconst 2, 1) := by decide +kernel
theorem dX12_gripTold_49 : decode cX12_gripTold 49 = .ok (.iadd, 1) := by decide +kernel
theorem dX12_gripTold_50 : decode cX12_gripTold 50 = .ok (.iaload, 1) := by decide +kernel
theorem dX12_gripTold_51 : decode cX12_gripTold 51 = .ok (.iload_n 2, 1) := by decide +kernel
theorem dX12_gripTold_52 : decode cX12_gripTold 52 = .ok (.iconst (-1), 1) := by decide +kernel
theorem dX12_gripTold_53 : decode cX12_gripTold 53 = .ok (.if_icmp .ne 7, 3) := by decide +kernel
theorem dX12_gripTold_56 : decode cX12_gripTold 56 = .ok (.iconst 0, 1) := by decide +kernel
theorem dX12_gripTold_57 : decode cX12_gripTold 57 = .ok (.goto 11, 3) := by decide +kernel
theorem dX12_gripTold_60 : decode cX12_gripTold 60 = .ok (.aload_n 0, 1) := by decide +kernel
theorem dX12_gripTold_61 : decode cX12_gripTold 61 = .ok (.getfield 49, 3) := by decide +kernel
theorem dX12_gripTold_64 : decode cX12_gripTold 64 = .ok (.iconst 2, 1) := by decide +kernel
theorem dX12_gripTold_65 : decode cX12_gripTold 65 = .ok (.iload_n 2, 1) := by decide +kernel
theorem dX12_gripTold_66 : decode cX12_gripTold 66 = .ok (.imul, 1) := by decide +kernel
theorem dX12_gripTold_67 : decode cX12_gripTold 67 = .ok (.iaload, 1) := by decide +kernel
theorem dX12_gripTold_68 : decode cX12_gripTold 68 = .ok (.invokevirtual 312, 3) := by decide +kernel
theorem dX12_gripTold_71 : decode cX12_gripTold 71 = .ok (.ireturn, 1) := by decide +kernel
theorem dX12_jar_0 : decode cX12_jar 0 = .ok (.aload_n 0, 1) := by decide +kernel
theorem dX12_jar_1 : decode cX12_jar 1 = .ok (.aload_n 0, 1) := by decide +kernel
theorem dX12_jar_2 : decode cX12_jar 2 = .ok (.iload_n 1, 1) := by decide +kernel
theorem dX12_jar_3 : decode cX12_jar 3 = .ok (.invokevirtual 316, 3) := by decide +kernel
theorem dX12_jar_6 : decode cX12_jar 6 = .ok (.ifCond .eq 19, 3) := by decide +kernel
theorem dX12_jar_9 : decode cX12_jar 9 = .ok (.iload_n 2, 1) := by decide +kernel
theorem dX12_jar_10 : decode cX12_jar 10 = .ok (.i2l, 1) := by decide +kernel
theorem dX12_jar_11 : decode cX12_jar 11 = .ok (.lconst 0, 1) := by decide +kernel
theorem dX12_jar_12 : decode cX12_jar 12 = .ok (.ldc2_w 319, 3) := by decide +kernel
theorem dX12_jar_15 : decode cX12_jar 15 = .ok (.invokestatic 214, 3) := by decide +kernel
theorem dX12_jar_18 : decode cX12_jar 18 = .ok (.ifCond .eq 7, 3) := by decide +kernel
theorem dX12_jar_21 : decode cX12_jar 21 = .ok (.iconst 0, 1) := by decide +kernel
theorem dX12_jar_22 : decode cX12_jar 22 = .ok (.goto 4, 3) := by decide +kernel
theorem dX12_jar_25 : decode cX12_jar 25 = .ok (.iconst 1, 1) := by decide +kernel
theorem dX12_jar_26 : decode cX12_jar 26 = .ok (.putfield 93, 3) := by decide +kernel
theorem dX12_jar_29 : decode cX12_jar 29 = .ok (.aload_n 0, 1) := by decide +kernel
theorem dX12_jar_30 : decode cX12_jar 30 = .ok (.getfield 93, 3) := by decide +kernel
theorem dX12_jar_33 : decode cX12_jar 33 = .ok (.ifCond .le 5, 3) := by decide +kernel
theorem dX12_jar_36 : decode cX12_jar 36 = .ok (.iconst 0, 1) := by decide +kernel
theorem dX12_jar_37 : decode cX12_jar 37 = .ok (.ireturn, 1) := by decide +kernel
theorem dX12_jar_38 : decode cX12_jar 38 = .ok (.iload_n 2, 1) := by decide +kernel
theorem dX12_jar_39 : decode cX12_jar 39 = .ok (.iconst 3, 1) := by decide +kernel
theorem dX12_jar_40 : decode cX12_jar 40 = .ok (.if_icmp .ge 15, 3) := by decide +kernel
theorem dX12_jar_43 : decode cX12_jar 43 = .ok (.aload_n 0, 1) := by decide +kernel
theorem dX12_jar_44 : decode cX12_jar 44 = .ok (.getfield 61, 3) := by decide +kernel
theorem dX12_jar_47 : decode cX12_jar 47 = .ok (.bipush 7, 2) := by decide +kernel
theorem dX12_jar_49 : decode cX12_jar 49 = .ok (.iload_n 1, 1) := by decide +kernel
theorem dX12_jar_50 : decode cX12_jar 50 = .ok (.imul, 1) := by decide +kernel
theorem dX12_jar_51 : decode cX12_jar 51 = .ok (.iload_n 2, 1) := by decide +kernel
theorem dX12_jar_52 : decode cX12_jar 52 = .ok (.iadd, 1) := by decide +kernel
theorem dX12_jar_53 : decode cX12_jar 53 = .ok (.iaload, 1) := by decide +kernel
theorem dX12_jar_54 : decode cX12_jar 54 = .ok (.ireturn, 1) := by decide +kernel
theorem dX12_jar_55 : decode cX12_jar 55 = .ok (.iload_n 2, 1) := by decide +kernel
theorem dX12_jar_56 : decode cX12_jar 56 = .ok (.bipush 6, 2) := by decide +kernel
theorem dX12_jar_58 : decode cX12_jar 58 = .ok (.if_icmp .ge 15, 3) := by decide +kernel
theorem dX12_jar_61 : decode cX12_jar 61 = .ok (.aload_n 0, 1) := by decide +kernel
theorem dX12_jar_62 : decode cX12_jar 62 = .ok (.getfield 37, 3) := by decide +kernel
theorem dX12_jar_65 : decode cX12_jar 65 = .ok (.bipush 6, 2) := by decide +kernel
theorem dX12_jar_67 : decode cX12_jar 67 = .ok (.iload_n 1, 1) := by decide +kernel
theorem dX12_jar_68 : decode cX12_jar 68 = .ok (.imul, 1) := by decide +kernel
theorem dX12_jar_69 : decode cX12_jar 69 = .ok (.iload_n 2, 1) := by decide +kernel
theorem dX12_jar_70 : decode cX12_jar 70 = .ok (.iadd, 1) := by decide +kernel
theorem dX12_jar_71 : decode cX12_jar 71 = .ok (.iaload, 1) := by decide +kernel
theorem dX12_jar_72 : decode cX12_jar 72 = .ok (.ireturn, 1) := by decide +kernel
theorem dX12_jar_73 : decode cX12_jar 73 = .ok (.iload_n 2, 1) := by decide +kernel
theorem dX12_jar_74 : decode cX12_jar 74 = .ok (.bipush 10, 2) := by decide +kernel
theorem dX12_jar_76 : decode cX12_jar 76 = .ok (.if_icmp .ne 14, 3) := by decide +kernel
theorem dX12_jar_79 : decode cX12_jar 79 = .ok (.aload_n 0, 1) := by decide +kernel
theorem dX12_jar_80 : decode cX12_jar 80 = .ok (.getfield 61, 3) := by decide +kernel
theorem dX12_jar_83 : decode cX12_jar 83 = .ok (.iload_n 1, 1) := by decide +kernel
theorem dX12_jar_84 : decode cX12_jar 84 = .ok (.invokestatic 321, 3) := by decide +kernel
theorem dX12_jar_87 : decode cX12_jar 87 = .ok (.goto 16, 3) := by decide +kernel
theorem dX12_jar_90 : decode cX12_jar 90 = .ok (.aload_n 0, 1) := by decide +kernel
theorem dX12_jar_91 : decode cX12_jar 91 = .ok (.getfield 61, 3) := by decide +kernel
theorem dX12_jar_94 : decode cX12_jar 94 = .ok (.bipush 7, 2) := by decide +kernel
theorem dX12_jar_96 : decode cX12_jar 96 = .ok (.iload_n 1, 1) := by decide +kernel
theorem dX12_jar_97 : decode cX12_jar 97 = .ok (.imul, 1) := by decide +kernel
theorem dX12_jar_98 : decode cX12_jar 98 = .ok (.iload_n 2, 1) := by decide +kernel
theorem dX12_jar_99 : decode cX12_jar 99 = .ok (.iadd, 1) := by decide +kernel
theorem dX12_jar_100 : decode cX12_jar 100 = .ok (.iconst 3, 1) := by decide +kernel
theorem dX12_jar_101 : decode cX12_jar 101 = .ok (.isub, 1) := by decide +kernel
theorem dX12_jar_102 : decode cX12_jar 102 = .ok (.iaload, 1) := by decide +kernel
theorem dX12_jar_103 : decode cX12_jar 103 = .ok (.ireturn, 1) := by decide +kernel
theorem dX12_hand_0 : decode cX12_hand 0 = .ok (.aload_n 0, 1) := by decide +kernel
theorem dX12_hand_1 : decode cX12_hand 1 = .ok (.iconst 0, 1) := by decide +kernel
theorem dX12_hand_2 : decode cX12_hand 2 = .ok (.putfield 93, 3) := by decide +kernel
theorem dX12_hand_5 : decode cX12_hand 5 = .ok (.aload_n 0, 1) := by decide +kernel
theorem dX12_hand_6 : decode cX12_hand 6 = .ok (.iload_n 1, 1) := by decide +kernel
theorem dX12_hand_7 : decode cX12_hand 7 = .ok (.invokevirtual 325, 3) := by decide +kernel
theorem dX12_hand_10 : decode cX12_hand 10 = .ok (.ifCond .eq 15, 3) := by decide +kernel
theorem dX12_hand_13 : decode cX12_hand 13 = .ok (.iload_n 2, 1) := by decide +kernel
theorem dX12_hand_14 : decode cX12_hand 14 = .ok (.i2l, 1) := by decide +kernel
theorem dX12_hand_15 : decode cX12_hand 15 = .ok (.lconst 0, 1) := by decide +kernel
theorem dX12_hand_16 : decode cX12_hand 16 = .ok (.ldc2_w 328, 3) := by decide +kernel
theorem dX12_hand_19 : decode cX12_hand 19 = .ok (.invokestatic 214, 3) := by decide +kernel
theorem dX12_hand_22 : decode cX12_hand 22 = .ok (.ifCond .ne 5, 3) := by decide +kernel
theorem dX12_hand_25 : decode cX12_hand 25 = .ok (.iconst (-1), 1) := by decide +kernel
theorem dX12_hand_26 : decode cX12_hand 26 = .ok (.ireturn, 1) := by decide +kernel
theorem dX12_hand_27 : decode cX12_hand 27 = .ok (.iload_n 2, 1) := by decide +kernel
theorem dX12_hand_28 : decode cX12_hand 28 = .ok (.tableswitch 99 0 6 #[44, 99, 56, 99, 99, 70, 79], 44) := by decide +kernel
theorem dX12_hand_72 : decode cX12_hand 72 = .ok (.aload_n 0, 1) := by decide +kernel
theorem dX12_hand_73 : decode cX12_hand 73 = .ok (.getfield 61, 3) := by decide +kernel
theorem dX12_hand_76 : decode cX12_hand 76 = .ok (.bipush 28, 2) := by decide +kernel
theorem dX12_hand_78 : decode cX12_hand 78 = .ok (.iconst 2, 1) := by decide +kernel
theorem dX12_hand_79 : decode cX12_hand 79 = .ok (.iload_n 1, 1) := by decide +kernel
theorem dX12_hand_80 : decode cX12_hand 80 = .ok (.imul, 1) := by decide +kernel
theorem dX12_hand_81 : decode cX12_hand 81 = .ok (.iadd, 1) := by decide +kernel
theorem dX12_hand_82 : decode cX12_hand 82 = .ok (.iaload, 1) := by decide +kernel
theorem dX12_hand_83 : decode cX12_hand 83 = .ok (.ireturn, 1) := by decide +kernel
theorem dX12_hand_84 : decode cX12_hand 84 = .ok (.aload_n 0, 1) := by decide +kernel
theorem dX12_hand_85 : decode cX12_hand 85 = .ok (.getfield 61, 3) := by decide +kernel
theorem dX12_hand_88 : decode cX12_hand 88 = .ok (.bipush 28, 2) := by decide +kernel
theorem dX12_hand_90 : decode cX12_hand 90 = .ok (.iconst 2, 1) := by decide +kernel
theorem dX12_hand_91 : decode cX12_hand 91 = .ok (.iload_n 1, 1) := by decide +kernel
theorem dX12_hand_92 : decode cX12_hand 92 = .ok (.imul, 1) := by decide +kernel
theorem dX12_hand_93 : decode cX12_hand 93 = .ok (.iadd, 1) := by decide +kernel
theorem dX12_hand_94 : decode cX12_hand 94 = .ok (.iconst 1, 1) := by decide +kernel
theorem dX12_hand_95 : decode cX12_hand 95 = .ok (.iadd, 1) := by decide +kernel
theorem dX12_hand_96 : decode cX12_hand 96 = .ok (.iaload, 1) := by decide +kernel
theorem dX12_hand_97 : decode cX12_hand 97 = .ok (.ireturn, 1) := by decide +kernel
theorem dX12_hand_98 : decode cX12_hand 98 = .ok (.aload_n 0, 1) := by decide +kernel
theorem dX12_hand_99 : decode cX12_hand 99 = .ok (.getfield 43, 3) := by decide +kernel
theorem dX12_hand_102 : decode cX12_hand 102 = .ok (.iconst 5, 1) := by decide +kernel
theorem dX12_hand_103 : decode cX12_hand 103 = .ok (.iload_n 1, 1) := by decide +kernel
theorem dX12_hand_104 : decode cX12_hand 104 = .ok (.imul, 1) := by decide +kernel
theorem dX12_hand_105 : decode cX12_hand 105 = .ok (.iaload, 1) := by decide +kernel
theorem dX12_hand_106 : decode cX12_hand 106 = .ok (.ireturn, 1) := by decide +kernel
theorem dX12_hand_107 : decode cX12_hand 107 = .ok (.aload_n 0, 1) := by decide +kernel
theorem dX12_hand_108 : decode cX12_hand 108 = .ok (.getfield 61, 3) := by decide +kernel
theorem dX12_hand_111 : decode cX12_hand 111 = .ok (.bipush 40, 2) := by decide +kernel
theorem dX12_hand_113 : decode cX12_hand 113 = .ok (.iconst 4, 1) := by decide +kernel
theorem dX12_hand_114 : decode cX12_hand 114 = .ok (.iload_n 1, 1) := by decide +kernel
theorem dX12_hand_115 : decode cX12_hand 115 = .ok (.imul, 1) := by decide +kernel
theorem dX12_hand_116 : decode cX12_hand 116 = .ok (.iadd, 1) := by decide +kernel
theorem dX12_hand_117 : decode cX12_hand 117 = .ok (.aload_n 0, 1) := by decide +kernel
theorem dX12_hand_118 : decode cX12_hand 118 = .ok (.getfield 61, 3) := by decide +kernel
theorem dX12_hand_121 : decode cX12_hand 121 = .ok (.bipush 64, 2) := by decide +kernel
theorem dX12_hand_123 : decode cX12_hand 123 = .ok (.iaload, 1) := by decide +kernel
theorem dX12_hand_124 : decode cX12_hand 124 = .ok (.iadd, 1) := by decide +kernel
theorem dX12_hand_125 : decode cX12_hand 125 = .ok (.iaload, 1) := by decide +kernel
theorem dX12_hand_126 : decode cX12_hand 126 = .ok (.ireturn, 1) := by decide +kernel
theorem dX12_hand_127 : decode cX12_hand 127 = .ok (.aload_n 0, 1) := by decide +kernel
theorem dX12_hand_128 : decode cX12_hand 128 = .ok (.getfield 43, 3) := by decide +kernel
theorem dX12_hand_131 : decode cX12_hand 131 = .ok (.iconst 5, 1) := by decide +kernel
theorem dX12_hand_132 : decode cX12_hand 132 = .ok (.iload_n 1, 1) := by decide +kernel
theorem dX12_hand_133 : decode cX12_hand 133 = .ok (.imul, 1) := by decide +kernel
theorem dX12_hand_134 : decode cX12_hand 134 = .ok (.iload_n 2, 1) := by decide +kernel
theorem dX12_hand_135 : decode cX12_hand 135 = .ok (.iadd, 1) := by decide +kernel
theorem dX12_hand_136 : decode cX12_hand 136 = .ok (.iaload, 1) := by decide +kernel
theorem dX12_hand_137 : decode cX12_hand 137 = .ok (.ireturn, 1) := by decide +kernel
theorem dX12_tool_0 : decode cX12_tool 0 = .ok (.aload_n 0, 1) := by decide +kernel
theorem dX12_tool_1 : decode cX12_tool 1 = .ok (.iconst 0, 1) := by decide +kernel
theorem dX12_tool_2 : decode cX12_tool 2 = .ok (.putfield 93, 3) := by decide +kernel
theorem dX12_tool_5 : decode cX12_tool 5 = .ok (.iload_n 1, 1) := by decide +kernel
theorem dX12_tool_6 : decode cX12_tool 6 = .ok (.ifCond .lt 34, 3) := by decide +kernel
theorem dX12_tool_9 : decode cX12_tool 9 = .ok (.iload_n 1, 1) := by decide +kernel
theorem dX12_tool_10 : decode cX12_tool 10 = .ok (.aload_n 0, 1) := by decide +kernel
theorem dX12_tool_11 : decode cX12_tool 11 = .ok (.getfield 291, 3) := by decide +kernel
theorem dX12_tool_14 : decode cX12_tool 14 = .ok (.if_icmp .ge 26, 3) := by decide +kernel
theorem dX12_tool_17 : decode cX12_tool 17 = .ok (.iload_n 2, 1) := by decide +kernel
theorem dX12_tool_18 : decode cX12_tool 18 = .ok (.i2l, 1) := by decide +kernel
theorem dX12_tool_19 : decode cX12_tool 19 = .ok (.lconst 0, 1) := by decide +kernel
theorem dX12_tool_20 : decode cX12_tool 20 = .ok (.lconst 1, 1) := by decide +kernel
theorem dX12_tool_21 : decode cX12_tool 21 = .ok (.invokestatic 214, 3) := by decide +kernel
theorem dX12_tool_24 : decode cX12_tool 24 = .ok (.ifCond .eq 16, 3) := by decide +kernel
theorem dX12_tool_27 : decode cX12_tool 27 = .ok (.aload_n 0, 1) := by decide +kernel
theorem dX12_tool_28 : decode cX12_tool 28 = .ok (.getfield 49, 3) := by decide +kernel
theorem dX12_tool_31 : decode cX12_tool 31 = .ok (.iconst 2, 1) := by decide +kernel
theorem dX12_tool_32 : decode cX12_tool 32 = .ok (.iload_n 1, 1) := by decide +kernel
theorem dX12_tool_33 : decode cX12_tool 33 = .ok (.imul, 1) := by decide +kernel
theorem dX12_tool_34 : decode cX12_tool 34 = .ok (.iload_n 2, 1) := by decide +kernel
theorem dX12_tool_35 : decode cX12_tool 35 = .ok (.iadd, 1) := by decide +kernel
theorem dX12_tool_36 : decode cX12_tool 36 = .ok (.iaload, 1) := by decide +kernel
theorem dX12_tool_37 : decode cX12_tool 37 = .ok (.goto 4, 3) := by decide +kernel
theorem dX12_tool_40 : decode cX12_tool 40 = .ok (.iconst (-1), 1) := by decide +kernel
theorem dX12_tool_41 : decode cX12_tool 41 = .ok (.ireturn, 1) := by decide +kernel
theorem dX12_law_0 : decode cX12_law 0 = .ok (.aload_n 0, 1) := by decide +kernel
theorem dX12_law_1 : decode cX12_law 1 = .ok (.iconst 0, 1) := by decide +kernel
theorem dX12_law_2 : decode cX12_law 2 = .ok (.putfield 93, 3) := by decide +kernel
theorem dX12_law_5 : decode cX12_law 5 = .ok (.aload_n 0, 1) := by decide +kernel
theorem dX12_law_6 : decode cX12_law 6 = .ok (.getfield 285, 3) := by decide +kernel
theorem dX12_law_9 : decode cX12_law 9 = .ok (.ifCond .eq 24, 3) := by decide +kernel
theorem dX12_law_12 : decode cX12_law 12 = .ok (.iload_n 1, 1) := by decide +kernel
theorem dX12_law_13 : decode cX12_law 13 = .ok (.iconst (-1), 1) := by decide +kernel
theorem dX12_law_14 : decode cX12_law 14 = .ok (.if_icmp .eq 21, 3) := by decide +kernel
theorem dX12_law_17 : decode cX12_law 17 = .ok (.iload_n 1, 1) := by decide +kernel
theorem dX12_law_18 : decode cX12_law 18 = .ok (.i2l, 1) := by decide +kernel
theorem dX12_law_19 : decode cX12_law 19 = .ok (.lconst 0, 1) := by decide +kernel
theorem dX12_law_20 : decode cX12_law 20 = .ok (.aload_n 0, 1) := by decide +kernel
theorem dX12_law_21 : decode cX12_law 21 = .ok (.getfield 277, 3) := by decide +kernel
theorem dX12_law_24 : decode cX12_law 24 = .ok (.iconst 1, 1) := by decide +kernel
theorem dX12_law_25 : decode cX12_law 25 = .ok (.isub, 1) := by decide +kernel
theorem dX12_law_26 : decode cX12_law 26 = .ok (.i2l, 1) := by decide +kernel
theorem dX12_law_27 : decode cX12_law 27 = .ok (.invokestatic 214, 3) := by decide +kernel
theorem dX12_law_30 : decode cX12_law 30 = .ok (.ifCond .ne 5, 3) := by decide +kernel
theorem dX12_law_33 : decode cX12_law 33 = .ok (.iconst 0, 1) := by decide +kernel
theorem dX12_law_34 : decode cX12_law 34 = .ok (.ireturn, 1) := by decide +kernel
theorem dX12_law_35 : decode cX12_law 35 = .ok (.aload_n 0, 1) := by decide +kernel
theorem dX12_law_36 : decode cX12_law 36 = .ok (.iload_n 1, 1) := by decide +kernel
theorem dX12_law_37 : decode cX12_law 37 = .ok (.putfield 67, 3) := by decide +kernel
theorem dX12_law_40 : decode cX12_law 40 = .ok (.iconst 1, 1) := by decide +kernel
theorem dX12_law_41 : decode cX12_law 41 = .ok (.ireturn, 1) := by decide +kernel
theorem dX12_step_0 : decode cX12_step 0 = .ok (.aload_n 0, 1) := by decide +kernel
theorem dX12_step_1 : decode cX12_step 1 = .ok (.iconst 0, 1) := by decide +kernel
theorem dX12_step_2 : decode cX12_step 2 = .ok (.putfield 93, 3) := by decide +kernel
theorem dX12_step_5 : decode cX12_step 5 = .ok (.iload_n 1, 1) := by decide +kernel
theorem dX12_step_6 : decode cX12_step 6 = .ok (.i2l, 1) := by decide +kernel
theorem dX12_step_7 : decode cX12_step 7 = .ok (.lconst 0, 1) := by decide +kernel
theorem dX12_step_8 : decode cX12_step 8 = .ok (.aload_n 0, 1) := by decide +kernel
theorem dX12_step_9 : decode cX12_step 9 = .ok (.getfield 280, 3) := by decide +kernel
theorem dX12_step_12 : decode cX12_step 12 = .ok (.iconst 1, 1) := by decide +kernel
theorem dX12_step_13 : decode cX12_step 13 = .ok (.isub, 1) := by decide +kernel
theorem dX12_step_14 : decode cX12_step 14 = .ok (.i2l, 1) := by decide +kernel
theorem dX12_step_15 : decode cX12_step 15 = .ok (.invokestatic 214, 3) := by decide +kernel
theorem dX12_step_18 : decode cX12_step 18 = .ok (.ifCond .eq 35, 3) := by decide +kernel
theorem dX12_step_21 : decode cX12_step 21 = .ok (.iload_n 2, 1) := by decide +kernel
theorem dX12_step_22 : decode cX12_step 22 = .ok (.i2l, 1) := by decide +kernel
theorem dX12_step_23 : decode cX12_step 23 = .ok (.lconst 0, 1) := by decide +kernel
theorem dX12_step_24 : decode cX12_step 24 = .ok (.aload_n 0, 1) := by decide +kernel
theorem dX12_step_25 : decode cX12_step 25 = .ok (.getfield 58, 3) := by decide +kernel
theorem dX12_step_28 : decode cX12_step 28 = .ok (.iload_n 1, 1) := by decide +kernel
theorem dX12_step_29 : decode cX12_step 29 = .ok (.iaload, 1) := by decide +kernel
theorem dX12_step_30 : decode cX12_step 30 = .ok (.iconst 1, 1) := by decide +kernel
theorem dX12_step_31 : decode cX12_step 31 = .ok (.isub, 1) := by decide +kernel
theorem dX12_step_32 : decode cX12_step 32 = .ok (.i2l, 1) := by decide +kernel
theorem dX12_step_33 : decode cX12_step 33 = .ok (.invokestatic 214, 3) := by decide +kernel
theorem dX12_step_36 : decode cX12_step 36 = .ok (.ifCond .eq 17, 3) := by decide +kernel
theorem dX12_step_39 : decode cX12_step 39 = .ok (.aload_n 0, 1) := by decide +kernel
theorem dX12_step_40 : decode cX12_step 40 = .ok (.getfield 55, 3) := by decide +kernel
theorem dX12_step_43 : decode cX12_step 43 = .ok (.bipush 16, 2) := by decide +kernel
theorem dX12_step_45 : decode cX12_step 45 = .ok (.iload_n 1, 1) := by decide +kernel
theorem dX12_step_46 : decode cX12_step 46 = .ok (.imul, 1) := by decide +kernel
theorem dX12_step_47 : decode cX12_step 47 = .ok (.iload_n 2, 1) := by decide +kernel
theorem dX12_step_48 : decode cX12_step 48 = .ok (.iadd, 1) := by decide +kernel
theorem dX12_step_49 : decode cX12_step 49 = .ok (.iaload, 1) := by decide +kernel
theorem dX12_step_50 : decode cX12_step 50 = .ok (.goto 4, 3) := by decide +kernel
theorem dX12_step_53 : decode cX12_step 53 = .ok (.iconst (-1), 1) := by decide +kernel
theorem dX12_step_54 : decode cX12_step 54 = .ok (.ireturn, 1) := by decide +kernel
theorem dX12_grip_0 : decode cX12_grip 0 = .ok (.aload_n 0, 1) := by decide +kernel
theorem dX12_grip_1 : decode cX12_grip 1 = .ok (.iconst 0, 1) := by decide +kernel
theorem dX12_grip_2 : decode cX12_grip 2 = .ok (.putfield 93, 3) := by decide +kernel
theorem dX12_grip_5 : decode cX12_grip 5 = .ok (.aload_n 0, 1) := by decide +kernel
theorem dX12_grip_6 : decode cX12_grip 6 = .ok (.iload_n 1, 1) := by decide +kernel
theorem dX12_grip_7 : decode cX12_grip 7 = .ok (.invokevirtual 325, 3) := by decide +kernel
theorem dX12_grip_10 : decode cX12_grip 10 = .ok (.ifCond .eq 33, 3) := by decide +kernel
theorem dX12_grip_13 : decode cX12_grip 13 = .ok (.aload_n 0, 1) := by decide +kernel
theorem dX12_grip_14 : decode cX12_grip 14 = .ok (.iload_n 2, 1) := by decide +kernel
theorem dX12_grip_15 : decode cX12_grip 15 = .ok (.invokevirtual 330, 3) := by decide +kernel
theorem dX12_grip_18 : decode cX12_grip 18 = .ok (.ifCond .eq 25, 3) := by decide +kernel
theorem dX12_grip_21 : decode cX12_grip 21 = .ok (.aload_n 0, 1) := by decide +kernel
theorem dX12_grip_22 : decode cX12_grip 22 = .ok (.iload_n 3, 1) := by decide +kernel
theorem dX12_grip_23 : decode cX12_grip 23 = .ok (.invokevirtual 316, 3) := by decide +kernel
theorem dX12_grip_26 : decode cX12_grip 26 = .ok (.ifCond .eq 17, 3) := by decide +kernel
theorem dX12_grip_29 : decode cX12_grip 29 = .ok (.aload_n 0, 1) := by decide +kernel
theorem dX12_grip_30 : decode cX12_grip 30 = .ok (.aload_n 0, 1) := by decide +kernel
theorem dX12_grip_31 : decode cX12_grip 31 = .ok (.getfield 61, 3) := by decide +kernel
theorem dX12_grip_34 : decode cX12_grip 34 = .ok (.iload_n 1, 1) := by decide +kernel
theorem dX12_grip_35 : decode cX12_grip 35 = .ok (.iload_n 2, 1) := by decide +kernel
theorem dX12_grip_36 : decode cX12_grip 36 = .ok (.iload_n 3, 1) := by decide +kernel
theorem dX12_grip_37 : decode cX12_grip 37 = .ok (.invokevirtual 333, 3) := by decide +kernel
theorem dX12_grip_40 : decode cX12_grip 40 = .ok (.goto 4, 3) := by decide +kernel
theorem dX12_grip_43 : decode cX12_grip 43 = .ok (.iconst (-1), 1) := by decide +kernel
theorem dX12_grip_44 : decode cX12_grip 44 = .ok (.ireturn, 1) := by decide +kernel
theorem dX12_lacks_0 : decode cX12_lacks 0 = .ok (.aload_n 0, 1) := by decide +kernel
theorem dX12_lacks_1 : decode cX12_lacks 1 = .ok (.iconst 0, 1) := by decide +kernel
theorem dX12_lacks_2 : decode cX12_lacks 2 = .ok (.putfield 93, 3) := by decide +kernel
theorem dX12_lacks_5 : decode cX12_lacks 5 = .ok (.aload_n 0, 1) := by decide +kernel
theorem dX12_lacks_6 : decode cX12_lacks 6 = .ok (.iload_n 1, 1) := by decide +kernel
theorem dX12_lacks_7 : decode cX12_lacks 7 = .ok (.invokevirtual 325, 3) := by decide +kernel
theorem dX12_lacks_10 : decode cX12_lacks 10 = .ok (.ifCond .eq 50, 3) := by decide +kernel
theorem dX12_lacks_13 : decode cX12_lacks 13 = .ok (.aload_n 0, 1) := by decide +kernel
theorem dX12_lacks_14 : decode cX12_lacks 14 = .ok (.iload_n 2, 1) := by decide +kernel
theorem dX12_lacks_15 : decode cX12_lacks 15 = .ok (.invokevirtual 330, 3) := by decide +kernel
theorem dX12_lacks_18 : decode cX12_lacks 18 = .ok (.ifCond .eq 42, 3) := by decide +kernel
theorem dX12_lacks_21 : decode cX12_lacks 21 = .ok (.aload_n 0, 1) := by decide +kernel
theorem dX12_lacks_22 : decode cX12_lacks 22 = .ok (.iload_n 3, 1) := by decide +kernel
theorem dX12_lacks_23 : decode cX12_lacks 23 = .ok (.invokevirtual 316, 3) := by decide +kernel
theorem dX12_lacks_26 : decode cX12_lacks 26 = .ok (.ifCond .eq 34, 3) := by decide +kernel
theorem dX12_lacks_29 : decode cX12_lacks 29 = .ok (.aload_n 0, 1) := by decide +kernel
theorem dX12_lacks_30 : decode cX12_lacks 30 = .ok (.getfield 61, 3) := by decide +kernel
theorem dX12_lacks_33 : decode cX12_lacks 33 = .ok (.bipush 7, 2) := by decide +kernel
theorem dX12_lacks_35 : decode cX12_lacks 35 = .ok (.iload_n 3, 1) := by decide +kernel
theorem dX12_lacks_36 : decode cX12_lacks 36 = .ok (.imul, 1) := by decide +kernel
theorem dX12_lacks_37 : decode cX12_lacks 37 = .ok (.iconst 5, 1) := by decide +kernel
theorem dX12_lacks_38 : decode cX12_lacks 38 = .ok (.iadd, 1) := by decide +kernel
theorem dX12_lacks_39 : decode cX12_lacks 39 = .ok (.iaload, 1) := by decide +kernel
theorem dX12_lacks_40 : decode cX12_lacks 40 = .ok (.iconst 1, 1) := by decide +kernel
theorem dX12_lacks_41 : decode cX12_lacks 41 = .ok (.if_icmp .eq 19, 3) := by decide +kernel
theorem dX12_lacks_44 : decode cX12_lacks 44 = .ok (.aload_n 0, 1) := by decide +kernel
theorem dX12_lacks_45 : decode cX12_lacks 45 = .ok (.getfield 61, 3) := by decide +kernel
theorem dX12_lacks_48 : decode cX12_lacks 48 = .ok (.bipush 7, 2) := by decide +kernel
theorem dX12_lacks_50 : decode cX12_lacks 50 = .ok (.iload_n 3, 1) := by decide +kernel
theorem dX12_lacks_51 : decode cX12_lacks 51 = .ok (.imul, 1) := by decide +kernel
theorem dX12_lacks_52 : decode cX12_lacks 52 = .ok (.bipush 6, 2) := by decide +kernel
theorem dX12_lacks_54 : decode cX12_lacks 54 = .ok (.iadd, 1) := by decide +kernel
theorem dX12_lacks_55 : decode cX12_lacks 55 = .ok (.iaload, 1) := by decide +kernel
theorem dX12_lacks_56 : decode cX12_lacks 56 = .ok (.iconst 1, 1) := by decide +kernel
theorem dX12_lacks_57 : decode cX12_lacks 57 = .ok (.if_icmp .ne 5, 3) := by decide +kernel
theorem dX12_lacks_60 : decode cX12_lacks 60 = .ok (.iconst (-1), 1) := by decide +kernel
theorem dX12_lacks_61 : decode cX12_lacks 61 = .ok (.ireturn, 1) := by decide +kernel
theorem dX12_lacks_62 : decode cX12_lacks 62 = .ok (.iconst 0, 1) := by decide +kernel
theorem dX12_lacks_63 : decode cX12_lacks 63 = .ok (.aload_n 0, 1) := by decide +kernel
theorem dX12_lacks_64 : decode cX12_lacks 64 = .ok (.getfield 61, 3) := by decide +kernel
theorem dX12_lacks_67 : decode cX12_lacks 67 = .ok (.iload_n 3, 1) := by decide +kernel
theorem dX12_lacks_68 : decode cX12_lacks 68 = .ok (.invokestatic 321, 3) := by decide +kernel
theorem dX12_lacks_71 : decode cX12_lacks 71 = .ok (.aload_n 0, 1) := by decide +kernel
theorem dX12_lacks_72 : decode cX12_lacks 72 = .ok (.aload_n 0, 1) := by decide +kernel
theorem dX12_lacks_73 : decode cX12_lacks 73 = .ok (.getfield 61, 3) := by decide +kernel
theorem dX12_lacks_76 : decode cX12_lacks 76 = .ok (.iload_n 1, 1) := by decide +kernel
theorem dX12_lacks_77 : decode cX12_lacks 77 = .ok (.iload_n 2, 1) := by decide +kernel
theorem dX12_lacks_78 : decode cX12_lacks 78 = .ok (.iload_n 3, 1) := by decide +kernel
theorem dX12_lacks_79 : decode cX12_lacks 79 = .ok (.invokevirtual 333, 3) := by decide +kernel
theorem dX12_lacks_82 : decode cX12_lacks 82 = .ok (.isub, 1) := by decide +kernel
theorem dX12_lacks_83 : decode cX12_lacks 83 = .ok (.invokestatic 308, 3) := by decide +kernel
theorem dX12_lacks_86 : decode cX12_lacks 86 = .ok (.ireturn, 1) := by decide +kernel
theorem dX12_turns_0 : decode cX12_turns 0 = .ok (.aload_n 1, 1) := by decide +kernel
theorem dX12_turns_1 : decode cX12_turns 1 = .ok (.bipush 64, 2) := by decide +kernel
theorem dX12_turns_3 : decode cX12_turns 3 = .ok (.iaload, 1) := by decide +kernel
theorem dX12_turns_4 : decode cX12_turns 4 = .ok (.istore 6, 2) := by decide +kernel
theorem dX12_turns_6 : decode cX12_turns 6 = .ok (.bipush 7, 2) := by decide +kernel
theorem dX12_turns_8 : decode cX12_turns 8 = .ok (.iload 6, 2) := by decide +kernel
theorem dX12_turns_10 : decode cX12_turns 10 = .ok (.imul, 1) := by decide +kernel
theorem dX12_turns_11 : decode cX12_turns 11 = .ok (.istore 7, 2) := by decide +kernel
theorem dX12_turns_13 : decode cX12_turns 13 = .ok (.iconst 0, 1) := by decide +kernel
theorem dX12_turns_14 : decode cX12_turns 14 = .ok (.aload_n 0, 1) := by decide +kernel
theorem dX12_turns_15 : decode cX12_turns 15 = .ok (.aload_n 1, 1) := by decide +kernel
theorem dX12_turns_16 : decode cX12_turns 16 = .ok (.iload_n 2, 1) := by decide +kernel
theorem dX12_turns_17 : decode cX12_turns 17 = .ok (.iload_n 3, 1) := by decide +kernel
theorem dX12_turns_18 : decode cX12_turns 18 = .ok (.iload 6, 2) := by decide +kernel
theorem dX12_turns_20 : decode cX12_turns 20 = .ok (.invokevirtual 333, 3) := by decide +kernel
theorem dX12_turns_23 : decode cX12_turns 23 = .ok (.iload 5, 2) := by decide +kernel
theorem dX12_turns_25 : decode cX12_turns 25 = .ok (.isub, 1) := by decide +kernel
theorem dX12_turns_26 : decode cX12_turns 26 = .ok (.invokestatic 308, 3) := by decide +kernel
theorem dX12_turns_29 : decode cX12_turns 29 = .ok (.istore 8, 2) := by decide +kernel
theorem dX12_turns_31 : decode cX12_turns 31 = .ok (.iload 4, 2) := by decide +kernel
theorem dX12_turns_33 : decode cX12_turns 33 = .ok (.aload_n 0, 1) := by decide +kernel
theorem dX12_turns_34 : decode cX12_turns 34 = .ok (.getfield 37, 3) := by decide +kernel
theorem dX12_turns_37 : decode cX12_turns 37 = .ok (.bipush 6, 2) := by decide +kernel
theorem dX12_turns_39 : decode cX12_turns 39 = .ok (.iload 6, 2) := by decide +kernel
theorem dX12_turns_41 : decode cX12_turns 41 = .ok (.imul, 1) := by decide +kernel
theorem dX12_turns_42 : decode cX12_turns 42 = .ok (.iconst 3, 1) := by decide +kernel
theorem dX12_turns_43 : decode cX12_turns 43 = .ok (.iadd, 1) := by decide +kernel
theorem dX12_turns_44 : decode cX12_turns 44 = .ok (.iaload, 1) := by decide +kernel
theorem dX12_turns_45 : decode cX12_turns 45 = .ok (.if_icmp .eq 25, 3) := by decide +kernel
theorem dX12_turns_48 : decode cX12_turns 48 = .ok (.aload_n 1, 1) := by decide +kernel
theorem dX12_turns_49 : decode cX12_turns 49 = .ok (.iload 7, 2) := by decide +kernel
theorem dX12_turns_51 : decode cX12_turns 51 = .ok (.iconst 1, 1) := by decide +kernel
theorem dX12_turns_52 : decode cX12_turns 52 = .ok (.iadd, 1) := by decide +kernel
theorem dX12_turns_53 : decode cX12_turns 53 = .ok (.bipush 99, 2) := by decide +kernel
theorem dX12_turns_55 : decode cX12_turns 55 = .ok (.aload_n 1, 1) := by decide +kernel
theorem dX12_turns_56 : decode cX12_turns 56 = .ok (.iload 7, 2) := by decide +kernel
theorem dX12_turns_58 : decode cX12_turns 58 = .ok (.iconst 1, 1) := by decide +kernel
theorem dX12_turns_59 : decode cX12_turns 59 = .ok (.iadd, 1) := by decide +kernel
theorem dX12_turns_60 : decode cX12_turns 60 = .ok (.iaload, 1) := by decide +kernel
theorem dX12_turns_61 : decode cX12_turns 61 = .ok (.iconst 2, 1) := by decide +kernel
theorem dX12_turns_62 : decode cX12_turns 62 = .ok (.iadd, 1) := by decide +kernel
theorem dX12_turns_63 : decode cX12_turns 63 = .ok (.invokestatic 310, 3) := by decide +kernel
theorem dX12_turns_66 : decode cX12_turns 66 = .ok (.iastore, 1) := by decide +kernel
theorem dX12_turns_67 : decode cX12_turns 67 = .ok (.goto 67, 3) := by decide +kernel
theorem dX12_turns_70 : decode cX12_turns 70 = .ok (.iload 8, 2) := by decide +kernel
theorem dX12_turns_72 : decode cX12_turns 72 = .ok (.aload_n 1, 1) := by decide +kernel
theorem dX12_turns_73 : decode cX12_turns 73 = .ok (.iload 6, 2) := by decide +kernel
theorem dX12_turns_75 : decode cX12_turns 75 = .ok (.invokestatic 321, 3) := by decide +kernel
theorem dX12_turns_78 : decode cX12_turns 78 = .ok (.if_icmp .lt 13, 3) := by decide +kernel
theorem dX12_turns_81 : decode cX12_turns 81 = .ok (.aload_n 1, 1) := by decide +kernel
theorem dX12_turns_82 : decode cX12_turns 82 = .ok (.iload 7, 2) := by decide +kernel
theorem dX12_turns_84 : decode cX12_turns 84 = .ok (.iconst 5, 1) := by decide +kernel
theorem dX12_turns_85 : decode cX12_turns 85 = .ok (.iadd, 1) := by decide +kernel
theorem dX12_turns_86 : decode cX12_turns 86 = .ok (.iconst 1, 1) := by decide +kernel
theorem dX12_turns_87 : decode cX12_turns 87 = .ok (.iastore, 1) := by decide +kernel
theorem dX12_turns_88 : decode cX12_turns 88 = .ok (.goto 46, 3) := by decide +kernel
theorem dX12_turns_91 : decode cX12_turns 91 = .ok (.aload_n 1, 1) := by decide +kernel
theorem dX12_turns_92 : decode cX12_turns 92 = .ok (.iload 7, 2) := by decide +kernel
theorem dX12_turns_94 : decode cX12_turns 94 = .ok (.iconst 1, 1) := by decide +kernel
theorem dX12_turns_95 : decode cX12_turns 95 = .ok (.iadd, 1) := by decide +kernel
theorem dX12_turns_96 : decode cX12_turns 96 = .ok (.iaload, 1) := by decide +kernel
theorem dX12_turns_97 : decode cX12_turns 97 = .ok (.iload 8, 2) := by decide +kernel
theorem dX12_turns_99 : decode cX12_turns 99 = .ok (.bipush 10, 2) := by decide +kernel
theorem dX12_turns_101 : decode cX12_turns 101 = .ok (.idiv, 1) := by decide +kernel
theorem dX12_turns_102 : decode cX12_turns 102 = .ok (.invokestatic 310, 3) := by decide +kernel
theorem dX12_turns_105 : decode cX12_turns 105 = .ok (.istore 9, 2) := by decide +kernel
theorem dX12_turns_107 : decode cX12_turns 107 = .ok (.aload_n 1, 1) := by decide +kernel
theorem dX12_turns_108 : decode cX12_turns 108 = .ok (.iload 7, 2) := by decide +kernel
theorem dX12_turns_110 : decode cX12_turns 110 = .ok (.iconst 1, 1) := by decide +kernel
theorem dX12_turns_111 : decode cX12_turns 111 = .ok (.iadd, 1) := by decide +kernel
theorem dX12_turns_112 : decode cX12_turns 112 = .ok (.dup2, 1) := by decide +kernel
theorem dX12_turns_113 : decode cX12_turns 113 = .ok (.iaload, 1) := by decide +kernel
theorem dX12_turns_114 : decode cX12_turns 114 = .ok (.iload 9, 2) := by decide +kernel
theorem dX12_turns_116 : decode cX12_turns 116 = .ok (.isub, 1) := by decide +kernel
theorem dX12_turns_117 : decode cX12_turns 117 = .ok (.iastore, 1) := by decide +kernel
theorem dX12_turns_118 : decode cX12_turns 118 = .ok (.aload_n 1, 1) := by decide +kernel
theorem dX12_turns_119 : decode cX12_turns 119 = .ok (.bipush 40, 2) := by decide +kernel
