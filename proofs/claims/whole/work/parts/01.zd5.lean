theorem dX12_turns_121 : decode cX12_turns 121 = .ok (.iconst 4, 1) := by decide +kernel
theorem dX12_turns_122 : decode cX12_turns 122 = .ok (.iload_n 2, 1) := by decide +kernel
theorem dX12_turns_123 : decode cX12_turns 123 = .ok (.imul, 1) := by decide +kernel
theorem dX12_turns_124 : decode cX12_turns 124 = .ok (.iadd, 1) := by decide +kernel
theorem dX12_turns_125 : decode cX12_turns 125 = .ok (.iload 6, 2) := by decide +kernel
theorem dX12_turns_127 : decode cX12_turns 127 = .ok (.iadd, 1) := by decide +kernel
theorem dX12_turns_128 : decode cX12_turns 128 = .ok (.dup2, 1) := by decide +kernel
theorem dX12_turns_129 : decode cX12_turns 129 = .ok (.iaload, 1) := by decide +kernel
theorem dX12_turns_130 : decode cX12_turns 130 = .ok (.iload 9, 2) := by decide +kernel
theorem dX12_turns_132 : decode cX12_turns 132 = .ok (.iadd, 1) := by decide +kernel
theorem dX12_turns_133 : decode cX12_turns 133 = .ok (.iastore, 1) := by decide +kernel
theorem dX12_turns_134 : decode cX12_turns 134 = .ok (.aload_n 1, 1) := by decide +kernel
theorem dX12_turns_135 : decode cX12_turns 135 = .ok (.bipush 28, 2) := by decide +kernel
theorem dX12_turns_137 : decode cX12_turns 137 = .ok (.iconst 2, 1) := by decide +kernel
theorem dX12_turns_138 : decode cX12_turns 138 = .ok (.iload_n 2, 1) := by decide +kernel
theorem dX12_turns_139 : decode cX12_turns 139 = .ok (.imul, 1) := by decide +kernel
theorem dX12_turns_140 : decode cX12_turns 140 = .ok (.iadd, 1) := by decide +kernel
theorem dX12_turns_141 : decode cX12_turns 141 = .ok (.iconst 0, 1) := by decide +kernel
theorem dX12_turns_142 : decode cX12_turns 142 = .ok (.aload_n 1, 1) := by decide +kernel
theorem dX12_turns_143 : decode cX12_turns 143 = .ok (.bipush 28, 2) := by decide +kernel
theorem dX12_turns_145 : decode cX12_turns 145 = .ok (.iconst 2, 1) := by decide +kernel
theorem dX12_turns_146 : decode cX12_turns 146 = .ok (.iload_n 2, 1) := by decide +kernel
theorem dX12_turns_147 : decode cX12_turns 147 = .ok (.imul, 1) := by decide +kernel
theorem dX12_turns_148 : decode cX12_turns 148 = .ok (.iadd, 1) := by decide +kernel
theorem dX12_turns_149 : decode cX12_turns 149 = .ok (.iaload, 1) := by decide +kernel
theorem dX12_turns_150 : decode cX12_turns 150 = .ok (.aload_n 0, 1) := by decide +kernel
theorem dX12_turns_151 : decode cX12_turns 151 = .ok (.getfield 43, 3) := by decide +kernel
theorem dX12_turns_154 : decode cX12_turns 154 = .ok (.iconst 5, 1) := by decide +kernel
theorem dX12_turns_155 : decode cX12_turns 155 = .ok (.iload_n 2, 1) := by decide +kernel
theorem dX12_turns_156 : decode cX12_turns 156 = .ok (.imul, 1) := by decide +kernel
theorem dX12_turns_157 : decode cX12_turns 157 = .ok (.iconst 3, 1) := by decide +kernel
theorem dX12_turns_158 : decode cX12_turns 158 = .ok (.iadd, 1) := by decide +kernel
theorem dX12_turns_159 : decode cX12_turns 159 = .ok (.iaload, 1) := by decide +kernel
theorem dX12_turns_160 : decode cX12_turns 160 = .ok (.isub, 1) := by decide +kernel
theorem dX12_turns_161 : decode cX12_turns 161 = .ok (.invokestatic 308, 3) := by decide +kernel
theorem dX12_turns_164 : decode cX12_turns 164 = .ok (.iastore, 1) := by decide +kernel
theorem dX12_turns_165 : decode cX12_turns 165 = .ok (.aload_n 1, 1) := by decide +kernel
theorem dX12_turns_166 : decode cX12_turns 166 = .ok (.bipush 65, 2) := by decide +kernel
theorem dX12_turns_168 : decode cX12_turns 168 = .ok (.dup2, 1) := by decide +kernel
theorem dX12_turns_169 : decode cX12_turns 169 = .ok (.iaload, 1) := by decide +kernel
theorem dX12_turns_170 : decode cX12_turns 170 = .ok (.iconst 1, 1) := by decide +kernel
theorem dX12_turns_171 : decode cX12_turns 171 = .ok (.iadd, 1) := by decide +kernel
theorem dX12_turns_172 : decode cX12_turns 172 = .ok (.iastore, 1) := by decide +kernel
theorem dX12_turns_173 : decode cX12_turns 173 = .ok (.return_, 1) := by decide +kernel
theorem dX12_heats_0 : decode cX12_heats 0 = .ok (.aload_n 1, 1) := by decide +kernel
theorem dX12_heats_1 : decode cX12_heats 1 = .ok (.bipush 64, 2) := by decide +kernel
theorem dX12_heats_3 : decode cX12_heats 3 = .ok (.iaload, 1) := by decide +kernel
theorem dX12_heats_4 : decode cX12_heats 4 = .ok (.istore_n 3, 1) := by decide +kernel
theorem dX12_heats_5 : decode cX12_heats 5 = .ok (.bipush 7, 2) := by decide +kernel
theorem dX12_heats_7 : decode cX12_heats 7 = .ok (.iload_n 3, 1) := by decide +kernel
theorem dX12_heats_8 : decode cX12_heats 8 = .ok (.imul, 1) := by decide +kernel
theorem dX12_heats_9 : decode cX12_heats 9 = .ok (.istore 4, 2) := by decide +kernel
theorem dX12_heats_11 : decode cX12_heats 11 = .ok (.aload_n 1, 1) := by decide +kernel
theorem dX12_heats_12 : decode cX12_heats 12 = .ok (.iload 4, 2) := by decide +kernel
theorem dX12_heats_14 : decode cX12_heats 14 = .ok (.iconst 3, 1) := by decide +kernel
theorem dX12_heats_15 : decode cX12_heats 15 = .ok (.iadd, 1) := by decide +kernel
theorem dX12_heats_16 : decode cX12_heats 16 = .ok (.dup2, 1) := by decide +kernel
theorem dX12_heats_17 : decode cX12_heats 17 = .ok (.iaload, 1) := by decide +kernel
theorem dX12_heats_18 : decode cX12_heats 18 = .ok (.iload_n 2, 1) := by decide +kernel
theorem dX12_heats_19 : decode cX12_heats 19 = .ok (.iadd, 1) := by decide +kernel
theorem dX12_heats_20 : decode cX12_heats 20 = .ok (.iastore, 1) := by decide +kernel
theorem dX12_heats_21 : decode cX12_heats 21 = .ok (.aload_n 1, 1) := by decide +kernel
theorem dX12_heats_22 : decode cX12_heats 22 = .ok (.iload 4, 2) := by decide +kernel
theorem dX12_heats_24 : decode cX12_heats 24 = .ok (.iconst 2, 1) := by decide +kernel
theorem dX12_heats_25 : decode cX12_heats 25 = .ok (.iadd, 1) := by decide +kernel
theorem dX12_heats_26 : decode cX12_heats 26 = .ok (.iconst 0, 1) := by decide +kernel
theorem dX12_heats_27 : decode cX12_heats 27 = .ok (.aload_n 1, 1) := by decide +kernel
theorem dX12_heats_28 : decode cX12_heats 28 = .ok (.iload 4, 2) := by decide +kernel
theorem dX12_heats_30 : decode cX12_heats 30 = .ok (.iconst 2, 1) := by decide +kernel
theorem dX12_heats_31 : decode cX12_heats 31 = .ok (.iadd, 1) := by decide +kernel
theorem dX12_heats_32 : decode cX12_heats 32 = .ok (.iaload, 1) := by decide +kernel
theorem dX12_heats_33 : decode cX12_heats 33 = .ok (.iload_n 2, 1) := by decide +kernel
theorem dX12_heats_34 : decode cX12_heats 34 = .ok (.bipush 10, 2) := by decide +kernel
theorem dX12_heats_36 : decode cX12_heats 36 = .ok (.idiv, 1) := by decide +kernel
theorem dX12_heats_37 : decode cX12_heats 37 = .ok (.isub, 1) := by decide +kernel
theorem dX12_heats_38 : decode cX12_heats 38 = .ok (.invokestatic 308, 3) := by decide +kernel
theorem dX12_heats_41 : decode cX12_heats 41 = .ok (.iastore, 1) := by decide +kernel
theorem dX12_heats_42 : decode cX12_heats 42 = .ok (.aload_n 1, 1) := by decide +kernel
theorem dX12_heats_43 : decode cX12_heats 43 = .ok (.iload 4, 2) := by decide +kernel
theorem dX12_heats_45 : decode cX12_heats 45 = .ok (.iconst 1, 1) := by decide +kernel
theorem dX12_heats_46 : decode cX12_heats 46 = .ok (.iadd, 1) := by decide +kernel
theorem dX12_heats_47 : decode cX12_heats 47 = .ok (.iconst 0, 1) := by decide +kernel
theorem dX12_heats_48 : decode cX12_heats 48 = .ok (.aload_n 1, 1) := by decide +kernel
theorem dX12_heats_49 : decode cX12_heats 49 = .ok (.iload 4, 2) := by decide +kernel
theorem dX12_heats_51 : decode cX12_heats 51 = .ok (.iconst 1, 1) := by decide +kernel
theorem dX12_heats_52 : decode cX12_heats 52 = .ok (.iadd, 1) := by decide +kernel
theorem dX12_heats_53 : decode cX12_heats 53 = .ok (.iaload, 1) := by decide +kernel
theorem dX12_heats_54 : decode cX12_heats 54 = .ok (.iload_n 2, 1) := by decide +kernel
theorem dX12_heats_55 : decode cX12_heats 55 = .ok (.iconst 5, 1) := by decide +kernel
theorem dX12_heats_56 : decode cX12_heats 56 = .ok (.idiv, 1) := by decide +kernel
theorem dX12_heats_57 : decode cX12_heats 57 = .ok (.isub, 1) := by decide +kernel
theorem dX12_heats_58 : decode cX12_heats 58 = .ok (.invokestatic 308, 3) := by decide +kernel
theorem dX12_heats_61 : decode cX12_heats 61 = .ok (.iastore, 1) := by decide +kernel
theorem dX12_heats_62 : decode cX12_heats 62 = .ok (.aload_n 1, 1) := by decide +kernel
theorem dX12_heats_63 : decode cX12_heats 63 = .ok (.iload 4, 2) := by decide +kernel
theorem dX12_heats_65 : decode cX12_heats 65 = .ok (.iconst 3, 1) := by decide +kernel
theorem dX12_heats_66 : decode cX12_heats 66 = .ok (.iadd, 1) := by decide +kernel
theorem dX12_heats_67 : decode cX12_heats 67 = .ok (.iaload, 1) := by decide +kernel
theorem dX12_heats_68 : decode cX12_heats 68 = .ok (.aload_n 0, 1) := by decide +kernel
theorem dX12_heats_69 : decode cX12_heats 69 = .ok (.getfield 37, 3) := by decide +kernel
theorem dX12_heats_72 : decode cX12_heats 72 = .ok (.bipush 6, 2) := by decide +kernel
theorem dX12_heats_74 : decode cX12_heats 74 = .ok (.iload_n 3, 1) := by decide +kernel
theorem dX12_heats_75 : decode cX12_heats 75 = .ok (.imul, 1) := by decide +kernel
theorem dX12_heats_76 : decode cX12_heats 76 = .ok (.iconst 5, 1) := by decide +kernel
theorem dX12_heats_77 : decode cX12_heats 77 = .ok (.iadd, 1) := by decide +kernel
theorem dX12_heats_78 : decode cX12_heats 78 = .ok (.iaload, 1) := by decide +kernel
theorem dX12_heats_79 : decode cX12_heats 79 = .ok (.if_icmp .le 11, 3) := by decide +kernel
theorem dX12_heats_82 : decode cX12_heats 82 = .ok (.aload_n 1, 1) := by decide +kernel
theorem dX12_heats_83 : decode cX12_heats 83 = .ok (.iload 4, 2) := by decide +kernel
theorem dX12_heats_85 : decode cX12_heats 85 = .ok (.bipush 6, 2) := by decide +kernel
theorem dX12_heats_87 : decode cX12_heats 87 = .ok (.iadd, 1) := by decide +kernel
theorem dX12_heats_88 : decode cX12_heats 88 = .ok (.iconst 1, 1) := by decide +kernel
theorem dX12_heats_89 : decode cX12_heats 89 = .ok (.iastore, 1) := by decide +kernel
theorem dX12_heats_90 : decode cX12_heats 90 = .ok (.aload_n 1, 1) := by decide +kernel
theorem dX12_heats_91 : decode cX12_heats 91 = .ok (.bipush 65, 2) := by decide +kernel
theorem dX12_heats_93 : decode cX12_heats 93 = .ok (.dup2, 1) := by decide +kernel
theorem dX12_heats_94 : decode cX12_heats 94 = .ok (.iaload, 1) := by decide +kernel
theorem dX12_heats_95 : decode cX12_heats 95 = .ok (.iconst 1, 1) := by decide +kernel
theorem dX12_heats_96 : decode cX12_heats 96 = .ok (.iadd, 1) := by decide +kernel
theorem dX12_heats_97 : decode cX12_heats 97 = .ok (.iastore, 1) := by decide +kernel
theorem dX12_heats_98 : decode cX12_heats 98 = .ok (.return_, 1) := by decide +kernel
theorem dX12_works_0 : decode cX12_works 0 = .ok (.bipush 7, 2) := by decide +kernel
theorem dX12_works_2 : decode cX12_works 2 = .ok (.aload_n 1, 1) := by decide +kernel
theorem dX12_works_3 : decode cX12_works 3 = .ok (.bipush 64, 2) := by decide +kernel
theorem dX12_works_5 : decode cX12_works 5 = .ok (.iaload, 1) := by decide +kernel
theorem dX12_works_6 : decode cX12_works 6 = .ok (.imul, 1) := by decide +kernel
theorem dX12_works_7 : decode cX12_works 7 = .ok (.istore_n 3, 1) := by decide +kernel
theorem dX12_works_8 : decode cX12_works 8 = .ok (.iload_n 2, 1) := by decide +kernel
theorem dX12_works_9 : decode cX12_works 9 = .ok (.ifCond .ne 19, 3) := by decide +kernel
theorem dX12_works_12 : decode cX12_works 12 = .ok (.aload_n 1, 1) := by decide +kernel
theorem dX12_works_13 : decode cX12_works 13 = .ok (.iload_n 3, 1) := by decide +kernel
theorem dX12_works_14 : decode cX12_works 14 = .ok (.iconst 1, 1) := by decide +kernel
theorem dX12_works_15 : decode cX12_works 15 = .ok (.iadd, 1) := by decide +kernel
theorem dX12_works_16 : decode cX12_works 16 = .ok (.iconst 0, 1) := by decide +kernel
theorem dX12_works_17 : decode cX12_works 17 = .ok (.aload_n 1, 1) := by decide +kernel
theorem dX12_works_18 : decode cX12_works 18 = .ok (.iload_n 3, 1) := by decide +kernel
theorem dX12_works_19 : decode cX12_works 19 = .ok (.iconst 1, 1) := by decide +kernel
theorem dX12_works_20 : decode cX12_works 20 = .ok (.iadd, 1) := by decide +kernel
theorem dX12_works_21 : decode cX12_works 21 = .ok (.iaload, 1) := by decide +kernel
theorem dX12_works_22 : decode cX12_works 22 = .ok (.iconst 3, 1) := by decide +kernel
theorem dX12_works_23 : decode cX12_works 23 = .ok (.isub, 1) := by decide +kernel
theorem dX12_works_24 : decode cX12_works 24 = .ok (.invokestatic 308, 3) := by decide +kernel
theorem dX12_works_27 : decode cX12_works 27 = .ok (.iastore, 1) := by decide +kernel
theorem dX12_works_28 : decode cX12_works 28 = .ok (.iload_n 2, 1) := by decide +kernel
theorem dX12_works_29 : decode cX12_works 29 = .ok (.iconst 1, 1) := by decide +kernel
theorem dX12_works_30 : decode cX12_works 30 = .ok (.if_icmp .ne 15, 3) := by decide +kernel
theorem dX12_works_33 : decode cX12_works 33 = .ok (.aload_n 1, 1) := by decide +kernel
theorem dX12_works_34 : decode cX12_works 34 = .ok (.iload_n 3, 1) := by decide +kernel
theorem dX12_works_35 : decode cX12_works 35 = .ok (.iconst 0, 1) := by decide +kernel
theorem dX12_works_36 : decode cX12_works 36 = .ok (.aload_n 1, 1) := by decide +kernel
theorem dX12_works_37 : decode cX12_works 37 = .ok (.iload_n 3, 1) := by decide +kernel
theorem dX12_works_38 : decode cX12_works 38 = .ok (.iaload, 1) := by decide +kernel
theorem dX12_works_39 : decode cX12_works 39 = .ok (.iconst 4, 1) := by decide +kernel
theorem dX12_works_40 : decode cX12_works 40 = .ok (.isub, 1) := by decide +kernel
theorem dX12_works_41 : decode cX12_works 41 = .ok (.invokestatic 308, 3) := by decide +kernel
theorem dX12_works_44 : decode cX12_works 44 = .ok (.iastore, 1) := by decide +kernel
theorem dX12_works_45 : decode cX12_works 45 = .ok (.iload_n 2, 1) := by decide +kernel
theorem dX12_works_46 : decode cX12_works 46 = .ok (.iconst 2, 1) := by decide +kernel
theorem dX12_works_47 : decode cX12_works 47 = .ok (.if_icmp .ne 13, 3) := by decide +kernel
theorem dX12_works_50 : decode cX12_works 50 = .ok (.aload_n 1, 1) := by decide +kernel
theorem dX12_works_51 : decode cX12_works 51 = .ok (.iload_n 3, 1) := by decide +kernel
theorem dX12_works_52 : decode cX12_works 52 = .ok (.iconst 0, 1) := by decide +kernel
theorem dX12_works_53 : decode cX12_works 53 = .ok (.iastore, 1) := by decide +kernel
theorem dX12_works_54 : decode cX12_works 54 = .ok (.aload_n 1, 1) := by decide +kernel
theorem dX12_works_55 : decode cX12_works 55 = .ok (.iload_n 3, 1) := by decide +kernel
theorem dX12_works_56 : decode cX12_works 56 = .ok (.iconst 4, 1) := by decide +kernel
theorem dX12_works_57 : decode cX12_works 57 = .ok (.iadd, 1) := by decide +kernel
theorem dX12_works_58 : decode cX12_works 58 = .ok (.iconst 1, 1) := by decide +kernel
theorem dX12_works_59 : decode cX12_works 59 = .ok (.iastore, 1) := by decide +kernel
theorem dX12_works_60 : decode cX12_works 60 = .ok (.iload_n 2, 1) := by decide +kernel
theorem dX12_works_61 : decode cX12_works 61 = .ok (.iconst 3, 1) := by decide +kernel
theorem dX12_works_62 : decode cX12_works 62 = .ok (.if_icmp .ne 20, 3) := by decide +kernel
theorem dX12_works_65 : decode cX12_works 65 = .ok (.aload_n 1, 1) := by decide +kernel
theorem dX12_works_66 : decode cX12_works 66 = .ok (.iload_n 3, 1) := by decide +kernel
theorem dX12_works_67 : decode cX12_works 67 = .ok (.iconst 2, 1) := by decide +kernel
theorem dX12_works_68 : decode cX12_works 68 = .ok (.iadd, 1) := by decide +kernel
theorem dX12_works_69 : decode cX12_works 69 = .ok (.bipush 9, 2) := by decide +kernel
theorem dX12_works_71 : decode cX12_works 71 = .ok (.aload_n 1, 1) := by decide +kernel
theorem dX12_works_72 : decode cX12_works 72 = .ok (.iload_n 3, 1) := by decide +kernel
theorem dX12_works_73 : decode cX12_works 73 = .ok (.iconst 2, 1) := by decide +kernel
theorem dX12_works_74 : decode cX12_works 74 = .ok (.iadd, 1) := by decide +kernel
theorem dX12_works_75 : decode cX12_works 75 = .ok (.iaload, 1) := by decide +kernel
theorem dX12_works_76 : decode cX12_works 76 = .ok (.iconst 3, 1) := by decide +kernel
theorem dX12_works_77 : decode cX12_works 77 = .ok (.iadd, 1) := by decide +kernel
theorem dX12_works_78 : decode cX12_works 78 = .ok (.invokestatic 310, 3) := by decide +kernel
theorem dX12_works_81 : decode cX12_works 81 = .ok (.iastore, 1) := by decide +kernel
theorem dX12_works_82 : decode cX12_works 82 = .ok (.aload_n 1, 1) := by decide +kernel
theorem dX12_works_83 : decode cX12_works 83 = .ok (.bipush 65, 2) := by decide +kernel
theorem dX12_works_85 : decode cX12_works 85 = .ok (.dup2, 1) := by decide +kernel
theorem dX12_works_86 : decode cX12_works 86 = .ok (.iaload, 1) := by decide +kernel
theorem dX12_works_87 : decode cX12_works 87 = .ok (.iconst 1, 1) := by decide +kernel
theorem dX12_works_88 : decode cX12_works 88 = .ok (.iadd, 1) := by decide +kernel
theorem dX12_works_89 : decode cX12_works 89 = .ok (.iastore, 1) := by decide +kernel
theorem dX12_works_90 : decode cX12_works 90 = .ok (.return_, 1) := by decide +kernel
theorem dX12_waits_0 : decode cX12_waits 0 = .ok (.iconst 0, 1) := by decide +kernel
theorem dX12_waits_1 : decode cX12_waits 1 = .ok (.istore_n 3, 1) := by decide +kernel
theorem dX12_waits_2 : decode cX12_waits 2 = .ok (.iload_n 3, 1) := by decide +kernel
theorem dX12_waits_3 : decode cX12_waits 3 = .ok (.aload_n 0, 1) := by decide +kernel
theorem dX12_waits_4 : decode cX12_waits 4 = .ok (.getfield 285, 3) := by decide +kernel
theorem dX12_waits_7 : decode cX12_waits 7 = .ok (.if_icmp .ge 33, 3) := by decide +kernel
theorem dX12_waits_10 : decode cX12_waits 10 = .ok (.aload_n 1, 1) := by decide +kernel
theorem dX12_waits_11 : decode cX12_waits 11 = .ok (.bipush 7, 2) := by decide +kernel
theorem dX12_waits_13 : decode cX12_waits 13 = .ok (.iload_n 3, 1) := by decide +kernel
theorem dX12_waits_14 : decode cX12_waits 14 = .ok (.imul, 1) := by decide +kernel
theorem dX12_waits_15 : decode cX12_waits 15 = .ok (.iconst 3, 1) := by decide +kernel
theorem dX12_waits_16 : decode cX12_waits 16 = .ok (.iadd, 1) := by decide +kernel
theorem dX12_waits_17 : decode cX12_waits 17 = .ok (.iconst 0, 1) := by decide +kernel
theorem dX12_waits_18 : decode cX12_waits 18 = .ok (.aload_n 1, 1) := by decide +kernel
theorem dX12_waits_19 : decode cX12_waits 19 = .ok (.bipush 7, 2) := by decide +kernel
theorem dX12_waits_21 : decode cX12_waits 21 = .ok (.iload_n 3, 1) := by decide +kernel
theorem dX12_waits_22 : decode cX12_waits 22 = .ok (.imul, 1) := by decide +kernel
theorem dX12_waits_23 : decode cX12_waits 23 = .ok (.iconst 3, 1) := by decide +kernel
theorem dX12_waits_24 : decode cX12_waits 24 = .ok (.iadd, 1) := by decide +kernel
theorem dX12_waits_25 : decode cX12_waits 25 = .ok (.iaload, 1) := by decide +kernel
theorem dX12_waits_26 : decode cX12_waits 26 = .ok (.iconst 2, 1) := by decide +kernel
theorem dX12_waits_27 : decode cX12_waits 27 = .ok (.iload_n 2, 1) := by decide +kernel
theorem dX12_waits_28 : decode cX12_waits 28 = .ok (.imul, 1) := by decide +kernel
theorem dX12_waits_29 : decode cX12_waits 29 = .ok (.isub, 1) := by decide +kernel
theorem dX12_waits_30 : decode cX12_waits 30 = .ok (.invokestatic 308, 3) := by decide +kernel
theorem dX12_waits_33 : decode cX12_waits 33 = .ok (.iastore, 1) := by decide +kernel
theorem dX12_waits_34 : decode cX12_waits 34 = .ok (.iinc 3 1, 3) := by decide +kernel
theorem dX12_waits_37 : decode cX12_waits 37 = .ok (.goto (-35), 3) := by decide +kernel
theorem dX12_waits_40 : decode cX12_waits 40 = .ok (.iconst 0, 1) := by decide +kernel
theorem dX12_waits_41 : decode cX12_waits 41 = .ok (.istore_n 3, 1) := by decide +kernel
theorem dX12_waits_42 : decode cX12_waits 42 = .ok (.iload_n 3, 1) := by decide +kernel
theorem dX12_waits_43 : decode cX12_waits 43 = .ok (.aload_n 0, 1) := by decide +kernel
theorem dX12_waits_44 : decode cX12_waits 44 = .ok (.getfield 288, 3) := by decide +kernel
theorem dX12_waits_47 : decode cX12_waits 47 = .ok (.if_icmp .ge 59, 3) := by decide +kernel
theorem dX12_waits_50 : decode cX12_waits 50 = .ok (.bipush 28, 2) := by decide +kernel
theorem dX12_waits_52 : decode cX12_waits 52 = .ok (.iconst 2, 1) := by decide +kernel
theorem dX12_waits_53 : decode cX12_waits 53 = .ok (.iload_n 3, 1) := by decide +kernel
theorem dX12_waits_54 : decode cX12_waits 54 = .ok (.imul, 1) := by decide +kernel
theorem dX12_waits_55 : decode cX12_waits 55 = .ok (.iadd, 1) := by decide +kernel
theorem dX12_waits_56 : decode cX12_waits 56 = .ok (.istore 4, 2) := by decide +kernel
theorem dX12_waits_58 : decode cX12_waits 58 = .ok (.aload_n 1, 1) := by decide +kernel
theorem dX12_waits_59 : decode cX12_waits 59 = .ok (.iload 4, 2) := by decide +kernel
theorem dX12_waits_61 : decode cX12_waits 61 = .ok (.aload_n 0, 1) := by decide +kernel
theorem dX12_waits_62 : decode cX12_waits 62 = .ok (.getfield 43, 3) := by decide +kernel
theorem dX12_waits_65 : decode cX12_waits 65 = .ok (.iconst 5, 1) := by decide +kernel
theorem dX12_waits_66 : decode cX12_waits 66 = .ok (.iload_n 3, 1) := by decide +kernel
theorem dX12_waits_67 : decode cX12_waits 67 = .ok (.imul, 1) := by decide +kernel
theorem dX12_waits_68 : decode cX12_waits 68 = .ok (.iaload, 1) := by decide +kernel
theorem dX12_waits_69 : decode cX12_waits 69 = .ok (.aload_n 1, 1) := by decide +kernel
theorem dX12_waits_70 : decode cX12_waits 70 = .ok (.iload 4, 2) := by decide +kernel
theorem dX12_waits_72 : decode cX12_waits 72 = .ok (.iaload, 1) := by decide +kernel
theorem dX12_waits_73 : decode cX12_waits 73 = .ok (.iload_n 2, 1) := by decide +kernel
theorem dX12_waits_74 : decode cX12_waits 74 = .ok (.iadd, 1) := by decide +kernel
theorem dX12_waits_75 : decode cX12_waits 75 = .ok (.invokestatic 310, 3) := by decide +kernel
theorem dX12_waits_78 : decode cX12_waits 78 = .ok (.iastore, 1) := by decide +kernel
theorem dX12_waits_79 : decode cX12_waits 79 = .ok (.aload_n 1, 1) := by decide +kernel
theorem dX12_waits_80 : decode cX12_waits 80 = .ok (.iload 4, 2) := by decide +kernel
theorem dX12_waits_82 : decode cX12_waits 82 = .ok (.iconst 1, 1) := by decide +kernel
theorem dX12_waits_83 : decode cX12_waits 83 = .ok (.iadd, 1) := by decide +kernel
theorem dX12_waits_84 : decode cX12_waits 84 = .ok (.iconst 0, 1) := by decide +kernel
theorem dX12_waits_85 : decode cX12_waits 85 = .ok (.aload_n 1, 1) := by decide +kernel
theorem dX12_waits_86 : decode cX12_waits 86 = .ok (.iload 4, 2) := by decide +kernel
theorem dX12_waits_88 : decode cX12_waits 88 = .ok (.iconst 1, 1) := by decide +kernel
theorem dX12_waits_89 : decode cX12_waits 89 = .ok (.iadd, 1) := by decide +kernel
theorem dX12_waits_90 : decode cX12_waits 90 = .ok (.iaload, 1) := by decide +kernel
theorem dX12_waits_91 : decode cX12_waits 91 = .ok (.iload_n 2, 1) := by decide +kernel
theorem dX12_waits_92 : decode cX12_waits 92 = .ok (.bipush 10, 2) := by decide +kernel
theorem dX12_waits_94 : decode cX12_waits 94 = .ok (.idiv, 1) := by decide +kernel
theorem dX12_waits_95 : decode cX12_waits 95 = .ok (.isub, 1) := by decide +kernel
theorem dX12_waits_96 : decode cX12_waits 96 = .ok (.invokestatic 308, 3) := by decide +kernel
theorem dX12_waits_99 : decode cX12_waits 99 = .ok (.iastore, 1) := by decide +kernel
theorem dX12_waits_100 : decode cX12_waits 100 = .ok (.iinc 3 1, 3) := by decide +kernel
theorem dX12_waits_103 : decode cX12_waits 103 = .ok (.goto (-61), 3) := by decide +kernel
theorem dX12_waits_106 : decode cX12_waits 106 = .ok (.aload_n 1, 1) := by decide +kernel
theorem dX12_waits_107 : decode cX12_waits 107 = .ok (.bipush 65, 2) := by decide +kernel
theorem dX12_waits_109 : decode cX12_waits 109 = .ok (.dup2, 1) := by decide +kernel
theorem dX12_waits_110 : decode cX12_waits 110 = .ok (.iaload, 1) := by decide +kernel
theorem dX12_waits_111 : decode cX12_waits 111 = .ok (.iload_n 2, 1) := by decide +kernel
theorem dX12_waits_112 : decode cX12_waits 112 = .ok (.iadd, 1) := by decide +kernel
theorem dX12_waits_113 : decode cX12_waits 113 = .ok (.iastore, 1) := by decide +kernel
theorem dX12_waits_114 : decode cX12_waits 114 = .ok (.return_, 1) := by decide +kernel
theorem dX12_dries_0 : decode cX12_dries 0 = .ok (.aload_n 1, 1) := by decide +kernel
theorem dX12_dries_1 : decode cX12_dries 1 = .ok (.bipush 28, 2) := by decide +kernel
theorem dX12_dries_3 : decode cX12_dries 3 = .ok (.iconst 2, 1) := by decide +kernel
theorem dX12_dries_4 : decode cX12_dries 4 = .ok (.iload_n 2, 1) := by decide +kernel
theorem dX12_dries_5 : decode cX12_dries 5 = .ok (.imul, 1) := by decide +kernel
theorem dX12_dries_6 : decode cX12_dries 6 = .ok (.iadd, 1) := by decide +kernel
theorem dX12_dries_7 : decode cX12_dries 7 = .ok (.iconst 1, 1) := by decide +kernel
theorem dX12_dries_8 : decode cX12_dries 8 = .ok (.iadd, 1) := by decide +kernel
theorem dX12_dries_9 : decode cX12_dries 9 = .ok (.iconst 0, 1) := by decide +kernel
theorem dX12_dries_10 : decode cX12_dries 10 = .ok (.iastore, 1) := by decide +kernel
theorem dX12_dries_11 : decode cX12_dries 11 = .ok (.aload_n 1, 1) := by decide +kernel
theorem dX12_dries_12 : decode cX12_dries 12 = .ok (.bipush 65, 2) := by decide +kernel
theorem dX12_dries_14 : decode cX12_dries 14 = .ok (.dup2, 1) := by decide +kernel
theorem dX12_dries_15 : decode cX12_dries 15 = .ok (.iaload, 1) := by decide +kernel
theorem dX12_dries_16 : decode cX12_dries 16 = .ok (.iconst 1, 1) := by decide +kernel
theorem dX12_dries_17 : decode cX12_dries 17 = .ok (.iadd, 1) := by decide +kernel
theorem dX12_dries_18 : decode cX12_dries 18 = .ok (.iastore, 1) := by decide +kernel
theorem dX12_dries_19 : decode cX12_dries 19 = .ok (.return_, 1) := by decide +kernel
theorem dX12_isStep_0 : decode cX12_isStep 0 = .ok (.iload_n 1, 1) := by decide +kernel
theorem dX12_isStep_1 : decode cX12_isStep 1 = .ok (.bipush 10, 2) := by decide +kernel
theorem dX12_isStep_3 : decode cX12_isStep 3 = .ok (.if_icmp .ge 5, 3) := by decide +kernel
theorem dX12_isStep_6 : decode cX12_isStep 6 = .ok (.iconst 1, 1) := by decide +kernel
theorem dX12_isStep_7 : decode cX12_isStep 7 = .ok (.ireturn, 1) := by decide +kernel
theorem dX12_isStep_8 : decode cX12_isStep 8 = .ok (.iload_n 1, 1) := by decide +kernel
theorem dX12_isStep_9 : decode cX12_isStep 9 = .ok (.bipush 100, 2) := by decide +kernel
theorem dX12_isStep_11 : decode cX12_isStep 11 = .ok (.if_icmp .ge 10, 3) := by decide +kernel
theorem dX12_isStep_14 : decode cX12_isStep 14 = .ok (.iload_n 1, 1) := by decide +kernel
theorem dX12_isStep_15 : decode cX12_isStep 15 = .ok (.bipush 10, 2) := by decide +kernel
theorem dX12_isStep_17 : decode cX12_isStep 17 = .ok (.isub, 1) := by decide +kernel
theorem dX12_isStep_18 : decode cX12_isStep 18 = .ok (.goto 10, 3) := by decide +kernel
theorem dX12_isStep_21 : decode cX12_isStep 21 = .ok (.iload_n 1, 1) := by decide +kernel
theorem dX12_isStep_22 : decode cX12_isStep 22 = .ok (.bipush 10, 2) := by decide +kernel
theorem dX12_isStep_24 : decode cX12_isStep 24 = .ok (.idiv, 1) := by decide +kernel
theorem dX12_isStep_25 : decode cX12_isStep 25 = .ok (.bipush 10, 2) := by decide +kernel
theorem dX12_isStep_27 : decode cX12_isStep 27 = .ok (.irem, 1) := by decide +kernel
theorem dX12_isStep_28 : decode cX12_isStep 28 = .ok (.istore_n 2, 1) := by decide +kernel
theorem dX12_isStep_29 : decode cX12_isStep 29 = .ok (.aload_n 0, 1) := by decide +kernel
theorem dX12_isStep_30 : decode cX12_isStep 30 = .ok (.iload_n 2, 1) := by decide +kernel
theorem dX12_isStep_31 : decode cX12_isStep 31 = .ok (.invokevirtual 325, 3) := by decide +kernel
theorem dX12_isStep_34 : decode cX12_isStep 34 = .ok (.ifCond .eq 33, 3) := by decide +kernel
theorem dX12_isStep_37 : decode cX12_isStep 37 = .ok (.iload_n 1, 1) := by decide +kernel
theorem dX12_isStep_38 : decode cX12_isStep 38 = .ok (.bipush 100, 2) := by decide +kernel
theorem dX12_isStep_40 : decode cX12_isStep 40 = .ok (.if_icmp .lt 23, 3) := by decide +kernel
theorem dX12_isStep_43 : decode cX12_isStep 43 = .ok (.iload_n 1, 1) := by decide +kernel
theorem dX12_isStep_44 : decode cX12_isStep 44 = .ok (.bipush 10, 2) := by decide +kernel
theorem dX12_isStep_46 : decode cX12_isStep 46 = .ok (.irem, 1) := by decide +kernel
theorem dX12_isStep_47 : decode cX12_isStep 47 = .ok (.bipush 9, 2) := by decide +kernel
theorem dX12_isStep_49 : decode cX12_isStep 49 = .ok (.if_icmp .eq 14, 3) := by decide +kernel
theorem dX12_isStep_52 : decode cX12_isStep 52 = .ok (.iload_n 1, 1) := by decide +kernel
theorem dX12_isStep_53 : decode cX12_isStep 53 = .ok (.bipush 10, 2) := by decide +kernel
theorem dX12_isStep_55 : decode cX12_isStep 55 = .ok (.irem, 1) := by decide +kernel
theorem dX12_isStep_56 : decode cX12_isStep 56 = .ok (.aload_n 0, 1) := by decide +kernel
theorem dX12_isStep_57 : decode cX12_isStep 57 = .ok (.getfield 291, 3) := by decide +kernel
theorem dX12_isStep_60 : decode cX12_isStep 60 = .ok (.if_icmp .ge 7, 3) := by decide +kernel
theorem dX12_isStep_63 : decode cX12_isStep 63 = .ok (.iconst 1, 1) := by decide +kernel
theorem dX12_isStep_64 : decode cX12_isStep 64 = .ok (.goto 4, 3) := by decide +kernel
theorem dX12_isStep_67 : decode cX12_isStep 67 = .ok (.iconst 0, 1) := by decide +kernel
theorem dX12_isStep_68 : decode cX12_isStep 68 = .ok (.ireturn, 1) := by decide +kernel
theorem dX12_does_0 : decode cX12_does 0 = .ok (.iload_n 2, 1) := by decide +kernel
theorem dX12_does_1 : decode cX12_does 1 = .ok (.iconst 3, 1) := by decide +kernel
theorem dX12_does_2 : decode cX12_does 2 = .ok (.if_icmp .ge 12, 3) := by decide +kernel
theorem dX12_does_5 : decode cX12_does 5 = .ok (.aload_n 0, 1) := by decide +kernel
theorem dX12_does_6 : decode cX12_does 6 = .ok (.aload_n 1, 1) := by decide +kernel
theorem dX12_does_7 : decode cX12_does 7 = .ok (.iload_n 2, 1) := by decide +kernel
theorem dX12_does_8 : decode cX12_does 8 = .ok (.invokevirtual 337, 3) := by decide +kernel
theorem dX12_does_11 : decode cX12_does 11 = .ok (.goto 95, 3) := by decide +kernel
theorem dX12_does_14 : decode cX12_does 14 = .ok (.iload_n 2, 1) := by decide +kernel
theorem dX12_does_15 : decode cX12_does 15 = .ok (.iconst 3, 1) := by decide +kernel
theorem dX12_does_16 : decode cX12_does 16 = .ok (.if_icmp .ne 13, 3) := by decide +kernel
theorem dX12_does_19 : decode cX12_does 19 = .ok (.aload_n 0, 1) := by decide +kernel
theorem dX12_does_20 : decode cX12_does 20 = .ok (.aload_n 1, 1) := by decide +kernel
theorem dX12_does_21 : decode cX12_does 21 = .ok (.bipush 10, 2) := by decide +kernel
theorem dX12_does_23 : decode cX12_does 23 = .ok (.invokevirtual 341, 3) := by decide +kernel
theorem dX12_does_26 : decode cX12_does 26 = .ok (.goto 80, 3) := by decide +kernel
theorem dX12_does_29 : decode cX12_does 29 = .ok (.iload_n 2, 1) := by decide +kernel
theorem dX12_does_30 : decode cX12_does 30 = .ok (.iconst 4, 1) := by decide +kernel
theorem dX12_does_31 : decode cX12_does 31 = .ok (.if_icmp .ne 13, 3) := by decide +kernel
theorem dX12_does_34 : decode cX12_does 34 = .ok (.aload_n 0, 1) := by decide +kernel
theorem dX12_does_35 : decode cX12_does 35 = .ok (.aload_n 1, 1) := by decide +kernel
theorem dX12_does_36 : decode cX12_does 36 = .ok (.bipush 10, 2) := by decide +kernel
theorem dX12_does_38 : decode cX12_does 38 = .ok (.invokevirtual 344, 3) := by decide +kernel
theorem dX12_does_41 : decode cX12_does 41 = .ok (.goto 65, 3) := by decide +kernel
theorem dX12_does_44 : decode cX12_does 44 = .ok (.iload_n 2, 1) := by decide +kernel
theorem dX12_does_45 : decode cX12_does 45 = .ok (.bipush 100, 2) := by decide +kernel
theorem dX12_does_47 : decode cX12_does 47 = .ok (.if_icmp .ge 15, 3) := by decide +kernel
theorem dX12_does_50 : decode cX12_does 50 = .ok (.aload_n 0, 1) := by decide +kernel
theorem dX12_does_51 : decode cX12_does 51 = .ok (.aload_n 1, 1) := by decide +kernel
theorem dX12_does_52 : decode cX12_does 52 = .ok (.iload_n 2, 1) := by decide +kernel
theorem dX12_does_53 : decode cX12_does 53 = .ok (.bipush 10, 2) := by decide +kernel
theorem dX12_does_55 : decode cX12_does 55 = .ok (.isub, 1) := by decide +kernel
theorem dX12_does_56 : decode cX12_does 56 = .ok (.invokevirtual 347, 3) := by decide +kernel
theorem dX12_does_59 : decode cX12_does 59 = .ok (.goto 47, 3) := by decide +kernel
theorem dX12_does_62 : decode cX12_does 62 = .ok (.aload_n 0, 1) := by decide +kernel
theorem dX12_does_63 : decode cX12_does 63 = .ok (.aload_n 1, 1) := by decide +kernel
theorem dX12_does_64 : decode cX12_does 64 = .ok (.iload_n 2, 1) := by decide +kernel
theorem dX12_does_65 : decode cX12_does 65 = .ok (.bipush 10, 2) := by decide +kernel
theorem dX12_does_67 : decode cX12_does 67 = .ok (.idiv, 1) := by decide +kernel
theorem dX12_does_68 : decode cX12_does 68 = .ok (.bipush 10, 2) := by decide +kernel
theorem dX12_does_70 : decode cX12_does 70 = .ok (.irem, 1) := by decide +kernel
theorem dX12_does_71 : decode cX12_does 71 = .ok (.iload_n 2, 1) := by decide +kernel
theorem dX12_does_72 : decode cX12_does 72 = .ok (.bipush 10, 2) := by decide +kernel
theorem dX12_does_74 : decode cX12_does 74 = .ok (.irem, 1) := by decide +kernel
theorem dX12_does_75 : decode cX12_does 75 = .ok (.bipush 9, 2) := by decide +kernel
theorem dX12_does_77 : decode cX12_does 77 = .ok (.if_icmp .ne 7, 3) := by decide +kernel
theorem dX12_does_80 : decode cX12_does 80 = .ok (.iconst (-1), 1) := by decide +kernel
theorem dX12_does_81 : decode cX12_does 81 = .ok (.goto 7, 3) := by decide +kernel
theorem dX12_does_84 : decode cX12_does 84 = .ok (.iload_n 2, 1) := by decide +kernel
theorem dX12_does_85 : decode cX12_does 85 = .ok (.bipush 10, 2) := by decide +kernel
theorem dX12_does_87 : decode cX12_does 87 = .ok (.irem, 1) := by decide +kernel
theorem dX12_does_88 : decode cX12_does 88 = .ok (.aload_n 0, 1) := by decide +kernel
theorem dX12_does_89 : decode cX12_does 89 = .ok (.getfield 37, 3) := by decide +kernel
theorem dX12_does_92 : decode cX12_does 92 = .ok (.bipush 6, 2) := by decide +kernel
theorem dX12_does_94 : decode cX12_does 94 = .ok (.aload_n 1, 1) := by decide +kernel
theorem dX12_does_95 : decode cX12_does 95 = .ok (.bipush 64, 2) := by decide +kernel
theorem dX12_does_97 : decode cX12_does 97 = .ok (.iaload, 1) := by decide +kernel
theorem dX12_does_98 : decode cX12_does 98 = .ok (.imul, 1) := by decide +kernel
theorem dX12_does_99 : decode cX12_does 99 = .ok (.iconst 3, 1) := by decide +kernel
theorem dX12_does_100 : decode cX12_does 100 = .ok (.iadd, 1) := by decide +kernel
theorem dX12_does_101 : decode cX12_does 101 = .ok (.iaload, 1) := by decide +kernel
theorem dX12_does_102 : decode cX12_does 102 = .ok (.iconst 0, 1) := by decide +kernel
theorem dX12_does_103 : decode cX12_does 103 = .ok (.invokevirtual 350, 3) := by decide +kernel
theorem dX12_does_106 : decode cX12_does 106 = .ok (.return_, 1) := by decide +kernel
theorem dX12_remember_0 : decode cX12_remember 0 = .ok (.aload_n 0, 1) := by decide +kernel
theorem dX12_remember_1 : decode cX12_remember 1 = .ok (.getfield 297, 3) := by decide +kernel
theorem dX12_remember_4 : decode cX12_remember 4 = .ok (.bipush 40, 2) := by decide +kernel
theorem dX12_remember_6 : decode cX12_remember 6 = .ok (.if_icmp .ne 43, 3) := by decide +kernel
theorem dX12_remember_9 : decode cX12_remember 9 = .ok (.iconst 0, 1) := by decide +kernel
theorem dX12_remember_10 : decode cX12_remember 10 = .ok (.istore_n 1, 1) := by decide +kernel
theorem dX12_remember_11 : decode cX12_remember 11 = .ok (.iload_n 1, 1) := by decide +kernel
theorem dX12_remember_12 : decode cX12_remember 12 = .ok (.sipush 2574, 3) := by decide +kernel
theorem dX12_remember_15 : decode cX12_remember 15 = .ok (.if_icmp .ge 24, 3) := by decide +kernel
theorem dX12_remember_18 : decode cX12_remember 18 = .ok (.aload_n 0, 1) := by decide +kernel
theorem dX12_remember_19 : decode cX12_remember 19 = .ok (.getfield 71, 3) := by decide +kernel
theorem dX12_remember_22 : decode cX12_remember 22 = .ok (.iload_n 1, 1) := by decide +kernel
theorem dX12_remember_23 : decode cX12_remember 23 = .ok (.aload_n 0, 1) := by decide +kernel
theorem dX12_remember_24 : decode cX12_remember 24 = .ok (.getfield 71, 3) := by decide +kernel
theorem dX12_remember_27 : decode cX12_remember 27 = .ok (.iload_n 1, 1) := by decide +kernel
theorem dX12_remember_28 : decode cX12_remember 28 = .ok (.bipush 66, 2) := by decide +kernel
theorem dX12_remember_30 : decode cX12_remember 30 = .ok (.iadd, 1) := by decide +kernel
theorem dX12_remember_31 : decode cX12_remember 31 = .ok (.iaload, 1) := by decide +kernel
theorem dX12_remember_32 : decode cX12_remember 32 = .ok (.iastore, 1) := by decide +kernel
theorem dX12_remember_33 : decode cX12_remember 33 = .ok (.iinc 1 1, 3) := by decide +kernel
theorem dX12_remember_36 : decode cX12_remember 36 = .ok (.goto (-25), 3) := by decide +kernel
theorem dX12_remember_39 : decode cX12_remember 39 = .ok (.aload_n 0, 1) := by decide +kernel
theorem dX12_remember_40 : decode cX12_remember 40 = .ok (.dup, 1) := by decide +kernel
theorem dX12_remember_41 : decode cX12_remember 41 = .ok (.getfield 297, 3) := by decide +kernel
theorem dX12_remember_44 : decode cX12_remember 44 = .ok (.iconst 1, 1) := by decide +kernel
theorem dX12_remember_45 : decode cX12_remember 45 = .ok (.isub, 1) := by decide +kernel
theorem dX12_remember_46 : decode cX12_remember 46 = .ok (.putfield 297, 3) := by decide +kernel
theorem dX12_remember_49 : decode cX12_remember 49 = .ok (.iconst 0, 1) := by decide +kernel
theorem dX12_remember_50 : decode cX12_remember 50 = .ok (.istore_n 1, 1) := by decide +kernel
theorem dX12_remember_51 : decode cX12_remember 51 = .ok (.iload_n 1, 1) := by decide +kernel
theorem dX12_remember_52 : decode cX12_remember 52 = .ok (.bipush 66, 2) := by decide +kernel
theorem dX12_remember_54 : decode cX12_remember 54 = .ok (.if_icmp .ge 29, 3) := by decide +kernel
theorem dX12_remember_57 : decode cX12_remember 57 = .ok (.aload_n 0, 1) := by decide +kernel
theorem dX12_remember_58 : decode cX12_remember 58 = .ok (.getfield 71, 3) := by decide +kernel
theorem dX12_remember_61 : decode cX12_remember 61 = .ok (.bipush 66, 2) := by decide +kernel
theorem dX12_remember_63 : decode cX12_remember 63 = .ok (.aload_n 0, 1) := by decide +kernel
theorem dX12_remember_64 : decode cX12_remember 64 = .ok (.getfield 297, 3) := by decide +kernel
theorem dX12_remember_67 : decode cX12_remember 67 = .ok (.imul, 1) := by decide +kernel
theorem dX12_remember_68 : decode cX12_remember 68 = .ok (.iload_n 1, 1) := by decide +kernel
theorem dX12_remember_69 : decode cX12_remember 69 = .ok (.iadd, 1) := by decide +kernel
theorem dX12_remember_70 : decode cX12_remember 70 = .ok (.aload_n 0, 1) := by decide +kernel
theorem dX12_remember_71 : decode cX12_remember 71 = .ok (.getfield 61, 3) := by decide +kernel
theorem dX12_remember_74 : decode cX12_remember 74 = .ok (.iload_n 1, 1) := by decide +kernel
theorem dX12_remember_75 : decode cX12_remember 75 = .ok (.iaload, 1) := by decide +kernel
theorem dX12_remember_76 : decode cX12_remember 76 = .ok (.iastore, 1) := by decide +kernel
theorem dX12_remember_77 : decode cX12_remember 77 = .ok (.iinc 1 1, 3) := by decide +kernel
theorem dX12_remember_80 : decode cX12_remember 80 = .ok (.goto (-29), 3) := by decide +kernel
theorem dX12_remember_83 : decode cX12_remember 83 = .ok (.aload_n 0, 1) := by decide +kernel
theorem dX12_remember_84 : decode cX12_remember 84 = .ok (.dup, 1) := by decide +kernel
theorem dX12_remember_85 : decode cX12_remember 85 = .ok (.getfield 297, 3) := by decide +kernel
theorem dX12_remember_88 : decode cX12_remember 88 = .ok (.iconst 1, 1) := by decide +kernel
theorem dX12_remember_89 : decode cX12_remember 89 = .ok (.iadd, 1) := by decide +kernel
theorem dX12_remember_90 : decode cX12_remember 90 = .ok (.putfield 297, 3) := by decide +kernel
theorem dX12_remember_93 : decode cX12_remember 93 = .ok (.return_, 1) := by decide +kernel
theorem dX12_writes_0 : decode cX12_writes 0 = .ok (.aload_n 0, 1) := by decide +kernel
theorem dX12_writes_1 : decode cX12_writes 1 = .ok (.getfield 300, 3) := by decide +kernel
theorem dX12_writes_4 : decode cX12_writes 4 = .ok (.bipush 60, 2) := by decide +kernel
theorem dX12_writes_6 : decode cX12_writes 6 = .ok (.if_icmp .ne 55, 3) := by decide +kernel
theorem dX12_writes_9 : decode cX12_writes 9 = .ok (.iconst 1, 1) := by decide +kernel
theorem dX12_writes_10 : decode cX12_writes 10 = .ok (.istore_n 2, 1) := by decide +kernel
theorem dX12_writes_11 : decode cX12_writes 11 = .ok (.iload_n 2, 1) := by decide +kernel
theorem dX12_writes_12 : decode cX12_writes 12 = .ok (.bipush 60, 2) := by decide +kernel
theorem dX12_writes_14 : decode cX12_writes 14 = .ok (.if_icmp .ge 37, 3) := by decide +kernel
theorem dX12_writes_17 : decode cX12_writes 17 = .ok (.aload_n 0, 1) := by decide +kernel
theorem dX12_writes_18 : decode cX12_writes 18 = .ok (.getfield 74, 3) := by decide +kernel
theorem dX12_writes_21 : decode cX12_writes 21 = .ok (.iload_n 2, 1) := by decide +kernel
theorem dX12_writes_22 : decode cX12_writes 22 = .ok (.iconst 1, 1) := by decide +kernel
theorem dX12_writes_23 : decode cX12_writes 23 = .ok (.isub, 1) := by decide +kernel
theorem dX12_writes_24 : decode cX12_writes 24 = .ok (.aload_n 0, 1) := by decide +kernel
theorem dX12_writes_25 : decode cX12_writes 25 = .ok (.getfield 74, 3) := by decide +kernel
theorem dX12_writes_28 : decode cX12_writes 28 = .ok (.iload_n 2, 1) := by decide +kernel
theorem dX12_writes_29 : decode cX12_writes 29 = .ok (.iaload, 1) := by decide +kernel
theorem dX12_writes_30 : decode cX12_writes 30 = .ok (.iastore, 1) := by decide +kernel
theorem dX12_writes_31 : decode cX12_writes 31 = .ok (.aload_n 0, 1) := by decide +kernel
theorem dX12_writes_32 : decode cX12_writes 32 = .ok (.getfield 77, 3) := by decide +kernel
theorem dX12_writes_35 : decode cX12_writes 35 = .ok (.iload_n 2, 1) := by decide +kernel
theorem dX12_writes_36 : decode cX12_writes 36 = .ok (.iconst 1, 1) := by decide +kernel
theorem dX12_writes_37 : decode cX12_writes 37 = .ok (.isub, 1) := by decide +kernel
theorem dX12_writes_38 : decode cX12_writes 38 = .ok (.aload_n 0, 1) := by decide +kernel
theorem dX12_writes_39 : decode cX12_writes 39 = .ok (.getfield 77, 3) := by decide +kernel
theorem dX12_writes_42 : decode cX12_writes 42 = .ok (.iload_n 2, 1) := by decide +kernel
theorem dX12_writes_43 : decode cX12_writes 43 = .ok (.iaload, 1) := by decide +kernel
theorem dX12_writes_44 : decode cX12_writes 44 = .ok (.iastore, 1) := by decide +kernel
theorem dX12_writes_45 : decode cX12_writes 45 = .ok (.iinc 2 1, 3) := by decide +kernel
theorem dX12_writes_48 : decode cX12_writes 48 = .ok (.goto (-37), 3) := by decide +kernel
theorem dX12_writes_51 : decode cX12_writes 51 = .ok (.aload_n 0, 1) := by decide +kernel
theorem dX12_writes_52 : decode cX12_writes 52 = .ok (.dup, 1) := by decide +kernel
theorem dX12_writes_53 : decode cX12_writes 53 = .ok (.getfield 300, 3) := by decide +kernel
theorem dX12_writes_56 : decode cX12_writes 56 = .ok (.iconst 1, 1) := by decide +kernel
theorem dX12_writes_57 : decode cX12_writes 57 = .ok (.isub, 1) := by decide +kernel
theorem dX12_writes_58 : decode cX12_writes 58 = .ok (.putfield 300, 3) := by decide +kernel
theorem dX12_writes_61 : decode cX12_writes 61 = .ok (.aload_n 0, 1) := by decide +kernel
theorem dX12_writes_62 : decode cX12_writes 62 = .ok (.getfield 74, 3) := by decide +kernel
theorem dX12_writes_65 : decode cX12_writes 65 = .ok (.aload_n 0, 1) := by decide +kernel
theorem dX12_writes_66 : decode cX12_writes 66 = .ok (.getfield 300, 3) := by decide +kernel
theorem dX12_writes_69 : decode cX12_writes 69 = .ok (.iload_n 1, 1) := by decide +kernel
theorem dX12_writes_70 : decode cX12_writes 70 = .ok (.iastore, 1) := by decide +kernel
theorem dX12_writes_71 : decode cX12_writes 71 = .ok (.aload_n 0, 1) := by decide +kernel
theorem dX12_writes_72 : decode cX12_writes 72 = .ok (.getfield 77, 3) := by decide +kernel
theorem dX12_writes_75 : decode cX12_writes 75 = .ok (.aload_n 0, 1) := by decide +kernel
theorem dX12_writes_76 : decode cX12_writes 76 = .ok (.getfield 300, 3) := by decide +kernel
theorem dX12_writes_79 : decode cX12_writes 79 = .ok (.aload_n 0, 1) := by decide +kernel
theorem dX12_writes_80 : decode cX12_writes 80 = .ok (.getfield 61, 3) := by decide +kernel
theorem dX12_writes_83 : decode cX12_writes 83 = .ok (.bipush 65, 2) := by decide +kernel
theorem dX12_writes_85 : decode cX12_writes 85 = .ok (.iaload, 1) := by decide +kernel
theorem dX12_writes_86 : decode cX12_writes 86 = .ok (.iastore, 1) := by decide +kernel
theorem dX12_writes_87 : decode cX12_writes 87 = .ok (.aload_n 0, 1) := by decide +kernel
theorem dX12_writes_88 : decode cX12_writes 88 = .ok (.dup, 1) := by decide +kernel
theorem dX12_writes_89 : decode cX12_writes 89 = .ok (.getfield 300, 3) := by decide +kernel
theorem dX12_writes_92 : decode cX12_writes 92 = .ok (.iconst 1, 1) := by decide +kernel
theorem dX12_writes_93 : decode cX12_writes 93 = .ok (.iadd, 1) := by decide +kernel
theorem dX12_writes_94 : decode cX12_writes 94 = .ok (.putfield 300, 3) := by decide +kernel
theorem dX12_writes_97 : decode cX12_writes 97 = .ok (.return_, 1) := by decide +kernel
theorem dX12_canWork_0 : decode cX12_canWork 0 = .ok (.aload_n 0, 1) := by decide +kernel
theorem dX12_canWork_1 : decode cX12_canWork 1 = .ok (.getfield 285, 3) := by decide +kernel
theorem dX12_canWork_4 : decode cX12_canWork 4 = .ok (.ifCond .le 17, 3) := by decide +kernel
theorem dX12_canWork_7 : decode cX12_canWork 7 = .ok (.aload_n 0, 1) := by decide +kernel
theorem dX12_canWork_8 : decode cX12_canWork 8 = .ok (.getfield 61, 3) := by decide +kernel
theorem dX12_canWork_11 : decode cX12_canWork 11 = .ok (.invokestatic 354, 3) := by decide +kernel
theorem dX12_canWork_14 : decode cX12_canWork 14 = .ok (.ifCond .ne 7, 3) := by decide +kernel
theorem dX12_canWork_17 : decode cX12_canWork 17 = .ok (.iconst 1, 1) := by decide +kernel
theorem dX12_canWork_18 : decode cX12_canWork 18 = .ok (.goto 4, 3) := by decide +kernel
theorem dX12_canWork_21 : decode cX12_canWork 21 = .ok (.iconst 0, 1) := by decide +kernel
theorem dX12_canWork_22 : decode cX12_canWork 22 = .ok (.ireturn, 1) := by decide +kernel
theorem dX12_turn_0 : decode cX12_turn 0 = .ok (.aload_n 0, 1) := by decide +kernel
theorem dX12_turn_1 : decode cX12_turn 1 = .ok (.iconst 0, 1) := by decide +kernel
theorem dX12_turn_2 : decode cX12_turn 2 = .ok (.putfield 93, 3) := by decide +kernel
theorem dX12_turn_5 : decode cX12_turn 5 = .ok (.aload_n 0, 1) := by decide +kernel
theorem dX12_turn_6 : decode cX12_turn 6 = .ok (.iload_n 1, 1) := by decide +kernel
theorem dX12_turn_7 : decode cX12_turn 7 = .ok (.invokevirtual 325, 3) := by decide +kernel
theorem dX12_turn_10 : decode cX12_turn 10 = .ok (.ifCond .eq 31, 3) := by decide +kernel
theorem dX12_turn_13 : decode cX12_turn 13 = .ok (.aload_n 0, 1) := by decide +kernel
theorem dX12_turn_14 : decode cX12_turn 14 = .ok (.iload_n 2, 1) := by decide +kernel
theorem dX12_turn_15 : decode cX12_turn 15 = .ok (.invokevirtual 330, 3) := by decide +kernel
theorem dX12_turn_18 : decode cX12_turn 18 = .ok (.ifCond .eq 23, 3) := by decide +kernel
theorem dX12_turn_21 : decode cX12_turn 21 = .ok (.iload_n 3, 1) := by decide +kernel
theorem dX12_turn_22 : decode cX12_turn 22 = .ok (.i2l, 1) := by decide +kernel
theorem dX12_turn_23 : decode cX12_turn 23 = .ok (.lconst 0, 1) := by decide +kernel
theorem dX12_turn_24 : decode cX12_turn 24 = .ok (.lconst 1, 1) := by decide +kernel
theorem dX12_turn_25 : decode cX12_turn 25 = .ok (.invokestatic 214, 3) := by decide +kernel
theorem dX12_turn_28 : decode cX12_turn 28 = .ok (.ifCond .eq 13, 3) := by decide +kernel
theorem dX12_turn_31 : decode cX12_turn 31 = .ok (.aload_n 0, 1) := by decide +kernel
theorem dX12_turn_32 : decode cX12_turn 32 = .ok (.getfield 61, 3) := by decide +kernel
theorem dX12_turn_35 : decode cX12_turn 35 = .ok (.invokestatic 354, 3) := by decide +kernel
theorem dX12_turn_38 : decode cX12_turn 38 = .ok (.ifCond .eq 5, 3) := by decide +kernel
theorem dX12_turn_41 : decode cX12_turn 41 = .ok (.iconst (-1), 1) := by decide +kernel
theorem dX12_turn_42 : decode cX12_turn 42 = .ok (.ireturn, 1) := by decide +kernel
theorem dX12_turn_43 : decode cX12_turn 43 = .ok (.aload_n 0, 1) := by decide +kernel
theorem dX12_turn_44 : decode cX12_turn 44 = .ok (.invokevirtual 358, 3) := by decide +kernel
theorem dX12_turn_47 : decode cX12_turn 47 = .ok (.aload_n 0, 1) := by decide +kernel
theorem dX12_turn_48 : decode cX12_turn 48 = .ok (.aload_n 0, 1) := by decide +kernel
theorem dX12_turn_49 : decode cX12_turn 49 = .ok (.getfield 61, 3) := by decide +kernel
theorem dX12_turn_52 : decode cX12_turn 52 = .ok (.iload_n 1, 1) := by decide +kernel
theorem dX12_turn_53 : decode cX12_turn 53 = .ok (.iload_n 2, 1) := by decide +kernel
theorem dX12_turn_54 : decode cX12_turn 54 = .ok (.iload_n 3, 1) := by decide +kernel
theorem dX12_turn_55 : decode cX12_turn 55 = .ok (.iconst 0, 1) := by decide +kernel
theorem dX12_turn_56 : decode cX12_turn 56 = .ok (.invokevirtual 350, 3) := by decide +kernel
theorem dX12_turn_59 : decode cX12_turn 59 = .ok (.aload_n 0, 1) := by decide +kernel
theorem dX12_turn_60 : decode cX12_turn 60 = .ok (.bipush 100, 2) := by decide +kernel
theorem dX12_turn_62 : decode cX12_turn 62 = .ok (.bipush 10, 2) := by decide +kernel
theorem dX12_turn_64 : decode cX12_turn 64 = .ok (.iload_n 1, 1) := by decide +kernel
theorem dX12_turn_65 : decode cX12_turn 65 = .ok (.imul, 1) := by decide +kernel
theorem dX12_turn_66 : decode cX12_turn 66 = .ok (.iadd, 1) := by decide +kernel
theorem dX12_turn_67 : decode cX12_turn 67 = .ok (.iload_n 2, 1) := by decide +kernel
theorem dX12_turn_68 : decode cX12_turn 68 = .ok (.iconst (-1), 1) := by decide +kernel
theorem dX12_turn_69 : decode cX12_turn 69 = .ok (.if_icmp .ne 8, 3) := by decide +kernel
theorem dX12_turn_72 : decode cX12_turn 72 = .ok (.bipush 9, 2) := by decide +kernel
theorem dX12_turn_74 : decode cX12_turn 74 = .ok (.goto 4, 3) := by decide +kernel
theorem dX12_turn_77 : decode cX12_turn 77 = .ok (.iload_n 2, 1) := by decide +kernel
theorem dX12_turn_78 : decode cX12_turn 78 = .ok (.iadd, 1) := by decide +kernel
theorem dX12_turn_79 : decode cX12_turn 79 = .ok (.iload_n 3, 1) := by decide +kernel
theorem dX12_turn_80 : decode cX12_turn 80 = .ok (.aload_n 0, 1) := by decide +kernel
theorem dX12_turn_81 : decode cX12_turn 81 = .ok (.getfield 37, 3) := by decide +kernel
theorem dX12_turn_84 : decode cX12_turn 84 = .ok (.bipush 6, 2) := by decide +kernel
theorem dX12_turn_86 : decode cX12_turn 86 = .ok (.aload_n 0, 1) := by decide +kernel
theorem dX12_turn_87 : decode cX12_turn 87 = .ok (.getfield 61, 3) := by decide +kernel
theorem dX12_turn_90 : decode cX12_turn 90 = .ok (.bipush 64, 2) := by decide +kernel
theorem dX12_turn_92 : decode cX12_turn 92 = .ok (.iaload, 1) := by decide +kernel
theorem dX12_turn_93 : decode cX12_turn 93 = .ok (.imul, 1) := by decide +kernel
theorem dX12_turn_94 : decode cX12_turn 94 = .ok (.iconst 3, 1) := by decide +kernel
theorem dX12_turn_95 : decode cX12_turn 95 = .ok (.iadd, 1) := by decide +kernel
theorem dX12_turn_96 : decode cX12_turn 96 = .ok (.iaload, 1) := by decide +kernel
theorem dX12_turn_97 : decode cX12_turn 97 = .ok (.if_icmp .ne 7, 3) := by decide +kernel
theorem dX12_turn_100 : decode cX12_turn 100 = .ok (.iconst 0, 1) := by decide +kernel
theorem dX12_turn_101 : decode cX12_turn 101 = .ok (.goto 6, 3) := by decide +kernel
theorem dX12_turn_104 : decode cX12_turn 104 = .ok (.sipush 1000, 3) := by decide +kernel
theorem dX12_turn_107 : decode cX12_turn 107 = .ok (.iadd, 1) := by decide +kernel
theorem dX12_turn_108 : decode cX12_turn 108 = .ok (.invokevirtual 361, 3) := by decide +kernel
theorem dX12_turn_111 : decode cX12_turn 111 = .ok (.aload_n 0, 1) := by decide +kernel
theorem dX12_turn_112 : decode cX12_turn 112 = .ok (.getfield 61, 3) := by decide +kernel
theorem dX12_turn_115 : decode cX12_turn 115 = .ok (.bipush 7, 2) := by decide +kernel
theorem dX12_turn_117 : decode cX12_turn 117 = .ok (.aload_n 0, 1) := by decide +kernel
theorem dX12_turn_118 : decode cX12_turn 118 = .ok (.getfield 61, 3) := by decide +kernel
theorem dX12_turn_121 : decode cX12_turn 121 = .ok (.bipush 64, 2) := by decide +kernel
theorem dX12_turn_123 : decode cX12_turn 123 = .ok (.iaload, 1) := by decide +kernel
theorem dX12_turn_124 : decode cX12_turn 124 = .ok (.imul, 1) := by decide +kernel
theorem dX12_turn_125 : decode cX12_turn 125 = .ok (.iconst 5, 1) := by decide +kernel
theorem dX12_turn_126 : decode cX12_turn 126 = .ok (.iadd, 1) := by decide +kernel
theorem dX12_turn_127 : decode cX12_turn 127 = .ok (.iaload, 1) := by decide +kernel
theorem dX12_turn_128 : decode cX12_turn 128 = .ok (.ireturn, 1) := by decide +kernel
theorem dX12_heat_0 : decode cX12_heat 0 = .ok (.aload_n 0, 1) := by decide +kernel
theorem dX12_heat_1 : decode cX12_heat 1 = .ok (.iconst 0, 1) := by decide +kernel
theorem dX12_heat_2 : decode cX12_heat 2 = .ok (.putfield 93, 3) := by decide +kernel
theorem dX12_heat_5 : decode cX12_heat 5 = .ok (.aload_n 0, 1) := by decide +kernel
theorem dX12_heat_6 : decode cX12_heat 6 = .ok (.invokevirtual 364, 3) := by decide +kernel
theorem dX12_heat_9 : decode cX12_heat 9 = .ok (.ifCond .eq 15, 3) := by decide +kernel
theorem dX12_heat_12 : decode cX12_heat 12 = .ok (.iload_n 1, 1) := by decide +kernel
theorem dX12_heat_13 : decode cX12_heat 13 = .ok (.i2l, 1) := by decide +kernel
theorem dX12_heat_14 : decode cX12_heat 14 = .ok (.lconst 1, 1) := by decide +kernel
theorem dX12_heat_15 : decode cX12_heat 15 = .ok (.ldc2_w 367, 3) := by decide +kernel
theorem dX12_heat_18 : decode cX12_heat 18 = .ok (.invokestatic 214, 3) := by decide +kernel
theorem dX12_heat_21 : decode cX12_heat 21 = .ok (.ifCond .ne 5, 3) := by decide +kernel
theorem dX12_heat_24 : decode cX12_heat 24 = .ok (.iconst (-1), 1) := by decide +kernel
theorem dX12_heat_25 : decode cX12_heat 25 = .ok (.ireturn, 1) := by decide +kernel
theorem dX12_heat_26 : decode cX12_heat 26 = .ok (.aload_n 0, 1) := by decide +kernel
theorem dX12_heat_27 : decode cX12_heat 27 = .ok (.invokevirtual 358, 3) := by decide +kernel
theorem dX12_heat_30 : decode cX12_heat 30 = .ok (.aload_n 0, 1) := by decide +kernel
theorem dX12_heat_31 : decode cX12_heat 31 = .ok (.aload_n 0, 1) := by decide +kernel
theorem dX12_heat_32 : decode cX12_heat 32 = .ok (.getfield 61, 3) := by decide +kernel
theorem dX12_heat_35 : decode cX12_heat 35 = .ok (.iload_n 1, 1) := by decide +kernel
theorem dX12_heat_36 : decode cX12_heat 36 = .ok (.invokevirtual 341, 3) := by decide +kernel
theorem dX12_heat_39 : decode cX12_heat 39 = .ok (.aload_n 0, 1) := by decide +kernel
theorem dX12_heat_40 : decode cX12_heat 40 = .ok (.iload_n 1, 1) := by decide +kernel
theorem dX12_heat_41 : decode cX12_heat 41 = .ok (.bipush 10, 2) := by decide +kernel
theorem dX12_heat_43 : decode cX12_heat 43 = .ok (.if_icmp .ne 7, 3) := by decide +kernel
theorem dX12_heat_46 : decode cX12_heat 46 = .ok (.iconst 3, 1) := by decide +kernel
theorem dX12_heat_47 : decode cX12_heat 47 = .ok (.goto 4, 3) := by decide +kernel
theorem dX12_heat_50 : decode cX12_heat 50 = .ok (.iconst 5, 1) := by decide +kernel
theorem dX12_heat_51 : decode cX12_heat 51 = .ok (.invokevirtual 361, 3) := by decide +kernel
theorem dX12_heat_54 : decode cX12_heat 54 = .ok (.aload_n 0, 1) := by decide +kernel
theorem dX12_heat_55 : decode cX12_heat 55 = .ok (.getfield 61, 3) := by decide +kernel
theorem dX12_heat_58 : decode cX12_heat 58 = .ok (.bipush 7, 2) := by decide +kernel
theorem dX12_heat_60 : decode cX12_heat 60 = .ok (.aload_n 0, 1) := by decide +kernel
theorem dX12_heat_61 : decode cX12_heat 61 = .ok (.getfield 61, 3) := by decide +kernel
theorem dX12_heat_64 : decode cX12_heat 64 = .ok (.bipush 64, 2) := by decide +kernel
theorem dX12_heat_66 : decode cX12_heat 66 = .ok (.iaload, 1) := by decide +kernel
theorem dX12_heat_67 : decode cX12_heat 67 = .ok (.imul, 1) := by decide +kernel
theorem dX12_heat_68 : decode cX12_heat 68 = .ok (.bipush 6, 2) := by decide +kernel
theorem dX12_heat_70 : decode cX12_heat 70 = .ok (.iadd, 1) := by decide +kernel
theorem dX12_heat_71 : decode cX12_heat 71 = .ok (.iaload, 1) := by decide +kernel
theorem dX12_heat_72 : decode cX12_heat 72 = .ok (.ireturn, 1) := by decide +kernel
theorem dX12_work_0 : decode cX12_work 0 = .ok (.aload_n 0, 1) := by decide +kernel
theorem dX12_work_1 : decode cX12_work 1 = .ok (.iconst 0, 1) := by decide +kernel
theorem dX12_work_2 : decode cX12_work 2 = .ok (.putfield 93, 3) := by decide +kernel
theorem dX12_work_5 : decode cX12_work 5 = .ok (.aload_n 0, 1) := by decide +kernel
theorem dX12_work_6 : decode cX12_work 6 = .ok (.invokevirtual 364, 3) := by decide +kernel
theorem dX12_work_9 : decode cX12_work 9 = .ok (.ifCond .eq 15, 3) := by decide +kernel
theorem dX12_work_12 : decode cX12_work 12 = .ok (.iload_n 1, 1) := by decide +kernel
theorem dX12_work_13 : decode cX12_work 13 = .ok (.i2l, 1) := by decide +kernel
theorem dX12_work_14 : decode cX12_work 14 = .ok (.lconst 0, 1) := by decide +kernel
theorem dX12_work_15 : decode cX12_work 15 = .ok (.ldc2_w 369, 3) := by decide +kernel
theorem dX12_work_18 : decode cX12_work 18 = .ok (.invokestatic 214, 3) := by decide +kernel
theorem dX12_work_21 : decode cX12_work 21 = .ok (.ifCond .ne 5, 3) := by decide +kernel
theorem dX12_work_24 : decode cX12_work 24 = .ok (.iconst (-1), 1) := by decide +kernel
theorem dX12_work_25 : decode cX12_work 25 = .ok (.ireturn, 1) := by decide +kernel
theorem dX12_work_26 : decode cX12_work 26 = .ok (.aload_n 0, 1) := by decide +kernel
theorem dX12_work_27 : decode cX12_work 27 = .ok (.invokevirtual 358, 3) := by decide +kernel
theorem dX12_work_30 : decode cX12_work 30 = .ok (.aload_n 0, 1) := by decide +kernel
theorem dX12_work_31 : decode cX12_work 31 = .ok (.aload_n 0, 1) := by decide +kernel
theorem dX12_work_32 : decode cX12_work 32 = .ok (.getfield 61, 3) := by decide +kernel
theorem dX12_work_35 : decode cX12_work 35 = .ok (.iload_n 1, 1) := by decide +kernel
theorem dX12_work_36 : decode cX12_work 36 = .ok (.invokevirtual 337, 3) := by decide +kernel
theorem dX12_work_39 : decode cX12_work 39 = .ok (.aload_n 0, 1) := by decide +kernel
theorem dX12_work_40 : decode cX12_work 40 = .ok (.iload_n 1, 1) := by decide +kernel
theorem dX12_work_41 : decode cX12_work 41 = .ok (.iconst 3, 1) := by decide +kernel
theorem dX12_work_42 : decode cX12_work 42 = .ok (.if_icmp .ne 8, 3) := by decide +kernel
theorem dX12_work_45 : decode cX12_work 45 = .ok (.bipush 7, 2) := by decide +kernel
theorem dX12_work_47 : decode cX12_work 47 = .ok (.goto 4, 3) := by decide +kernel
theorem dX12_work_50 : decode cX12_work 50 = .ok (.iload_n 1, 1) := by decide +kernel
theorem dX12_work_51 : decode cX12_work 51 = .ok (.invokevirtual 361, 3) := by decide +kernel
theorem dX12_work_54 : decode cX12_work 54 = .ok (.aload_n 0, 1) := by decide +kernel
theorem dX12_work_55 : decode cX12_work 55 = .ok (.getfield 61, 3) := by decide +kernel
theorem dX12_work_58 : decode cX12_work 58 = .ok (.aload_n 0, 1) := by decide +kernel
theorem dX12_work_59 : decode cX12_work 59 = .ok (.getfield 61, 3) := by decide +kernel
theorem dX12_work_62 : decode cX12_work 62 = .ok (.bipush 64, 2) := by decide +kernel
theorem dX12_work_64 : decode cX12_work 64 = .ok (.iaload, 1) := by decide +kernel
theorem dX12_work_65 : decode cX12_work 65 = .ok (.invokestatic 321, 3) := by decide +kernel
theorem dX12_work_68 : decode cX12_work 68 = .ok (.ireturn, 1) := by decide +kernel
theorem dX12_dry_0 : decode cX12_dry 0 = .ok (.aload_n 0, 1) := by decide +kernel
theorem dX12_dry_1 : decode cX12_dry 1 = .ok (.iconst 0, 1) := by decide +kernel
theorem dX12_dry_2 : decode cX12_dry 2 = .ok (.putfield 93, 3) := by decide +kernel
theorem dX12_dry_5 : decode cX12_dry 5 = .ok (.aload_n 0, 1) := by decide +kernel
theorem dX12_dry_6 : decode cX12_dry 6 = .ok (.iload_n 1, 1) := by decide +kernel
theorem dX12_dry_7 : decode cX12_dry 7 = .ok (.invokevirtual 325, 3) := by decide +kernel
theorem dX12_dry_10 : decode cX12_dry 10 = .ok (.ifCond .ne 5, 3) := by decide +kernel
theorem dX12_dry_13 : decode cX12_dry 13 = .ok (.iconst 0, 1) := by decide +kernel
theorem dX12_dry_14 : decode cX12_dry 14 = .ok (.ireturn, 1) := by decide +kernel
theorem dX12_dry_15 : decode cX12_dry 15 = .ok (.aload_n 0, 1) := by decide +kernel
theorem dX12_dry_16 : decode cX12_dry 16 = .ok (.invokevirtual 358, 3) := by decide +kernel
theorem dX12_dry_19 : decode cX12_dry 19 = .ok (.aload_n 0, 1) := by decide +kernel
theorem dX12_dry_20 : decode cX12_dry 20 = .ok (.aload_n 0, 1) := by decide +kernel
theorem dX12_dry_21 : decode cX12_dry 21 = .ok (.getfield 61, 3) := by decide +kernel
theorem dX12_dry_24 : decode cX12_dry 24 = .ok (.iload_n 1, 1) := by decide +kernel
theorem dX12_dry_25 : decode cX12_dry 25 = .ok (.invokevirtual 347, 3) := by decide +kernel
theorem dX12_dry_28 : decode cX12_dry 28 = .ok (.aload_n 0, 1) := by decide +kernel
theorem dX12_dry_29 : decode cX12_dry 29 = .ok (.bipush 10, 2) := by decide +kernel
theorem dX12_dry_31 : decode cX12_dry 31 = .ok (.iload_n 1, 1) := by decide +kernel
theorem dX12_dry_32 : decode cX12_dry 32 = .ok (.iadd, 1) := by decide +kernel
theorem dX12_dry_33 : decode cX12_dry 33 = .ok (.invokevirtual 361, 3) := by decide +kernel
theorem dX12_dry_36 : decode cX12_dry 36 = .ok (.iconst 1, 1) := by decide +kernel
theorem dX12_dry_37 : decode cX12_dry 37 = .ok (.ireturn, 1) := by decide +kernel
theorem dX12_pause_0 : decode cX12_pause 0 = .ok (.aload_n 0, 1) := by decide +kernel
theorem dX12_pause_1 : decode cX12_pause 1 = .ok (.iconst 0, 1) := by decide +kernel
theorem dX12_pause_2 : decode cX12_pause 2 = .ok (.putfield 93, 3) := by decide +kernel
theorem dX12_pause_5 : decode cX12_pause 5 = .ok (.aload_n 0, 1) := by decide +kernel
theorem dX12_pause_6 : decode cX12_pause 6 = .ok (.getfield 285, 3) := by decide +kernel
theorem dX12_pause_9 : decode cX12_pause 9 = .ok (.ifCond .eq 15, 3) := by decide +kernel
theorem dX12_pause_12 : decode cX12_pause 12 = .ok (.iload_n 1, 1) := by decide +kernel
theorem dX12_pause_13 : decode cX12_pause 13 = .ok (.i2l, 1) := by decide +kernel
theorem dX12_pause_14 : decode cX12_pause 14 = .ok (.lconst 1, 1) := by decide +kernel
theorem dX12_pause_15 : decode cX12_pause 15 = .ok (.ldc2_w 367, 3) := by decide +kernel
theorem dX12_pause_18 : decode cX12_pause 18 = .ok (.invokestatic 214, 3) := by decide +kernel
theorem dX12_pause_21 : decode cX12_pause 21 = .ok (.ifCond .ne 5, 3) := by decide +kernel
theorem dX12_pause_24 : decode cX12_pause 24 = .ok (.iconst (-1), 1) := by decide +kernel
theorem dX12_pause_25 : decode cX12_pause 25 = .ok (.ireturn, 1) := by decide +kernel
theorem dX12_pause_26 : decode cX12_pause 26 = .ok (.aload_n 0, 1) := by decide +kernel
theorem dX12_pause_27 : decode cX12_pause 27 = .ok (.invokevirtual 358, 3) := by decide +kernel
theorem dX12_pause_30 : decode cX12_pause 30 = .ok (.aload_n 0, 1) := by decide +kernel
theorem dX12_pause_31 : decode cX12_pause 31 = .ok (.aload_n 0, 1) := by decide +kernel
theorem dX12_pause_32 : decode cX12_pause 32 = .ok (.getfield 61, 3) := by decide +kernel
theorem dX12_pause_35 : decode cX12_pause 35 = .ok (.iload_n 1, 1) := by decide +kernel
theorem dX12_pause_36 : decode cX12_pause 36 = .ok (.invokevirtual 344, 3) := by decide +kernel
theorem dX12_pause_39 : decode cX12_pause 39 = .ok (.aload_n 0, 1) := by decide +kernel
theorem dX12_pause_40 : decode cX12_pause 40 = .ok (.iload_n 1, 1) := by decide +kernel
theorem dX12_pause_41 : decode cX12_pause 41 = .ok (.bipush 10, 2) := by decide +kernel
theorem dX12_pause_43 : decode cX12_pause 43 = .ok (.if_icmp .ne 7, 3) := by decide +kernel
theorem dX12_pause_46 : decode cX12_pause 46 = .ok (.iconst 4, 1) := by decide +kernel
theorem dX12_pause_47 : decode cX12_pause 47 = .ok (.goto 5, 3) := by decide +kernel
theorem dX12_pause_50 : decode cX12_pause 50 = .ok (.bipush 6, 2) := by decide +kernel
theorem dX12_pause_52 : decode cX12_pause 52 = .ok (.invokevirtual 361, 3) := by decide +kernel
theorem dX12_pause_55 : decode cX12_pause 55 = .ok (.aload_n 0, 1) := by decide +kernel
theorem dX12_pause_56 : decode cX12_pause 56 = .ok (.getfield 61, 3) := by decide +kernel
theorem dX12_pause_59 : decode cX12_pause 59 = .ok (.bipush 65, 2) := by decide +kernel
theorem dX12_pause_61 : decode cX12_pause 61 = .ok (.iaload, 1) := by decide +kernel
theorem dX12_pause_62 : decode cX12_pause 62 = .ok (.ireturn, 1) := by decide +kernel
theorem dX12_shut_0 : decode cX12_shut 0 = .ok (.aload_n 0, 1) := by decide +kernel
theorem dX12_shut_1 : decode cX12_shut 1 = .ok (.iconst 0, 1) := by decide +kernel
theorem dX12_shut_2 : decode cX12_shut 2 = .ok (.putfield 93, 3) := by decide +kernel
theorem dX12_shut_5 : decode cX12_shut 5 = .ok (.bipush 7, 2) := by decide +kernel
theorem dX12_shut_7 : decode cX12_shut 7 = .ok (.aload_n 0, 1) := by decide +kernel
theorem dX12_shut_8 : decode cX12_shut 8 = .ok (.getfield 61, 3) := by decide +kernel
theorem dX12_shut_11 : decode cX12_shut 11 = .ok (.bipush 64, 2) := by decide +kernel
theorem dX12_shut_13 : decode cX12_shut 13 = .ok (.iaload, 1) := by decide +kernel
theorem dX12_shut_14 : decode cX12_shut 14 = .ok (.imul, 1) := by decide +kernel
theorem dX12_shut_15 : decode cX12_shut 15 = .ok (.istore_n 2, 1) := by decide +kernel
theorem dX12_shut_16 : decode cX12_shut 16 = .ok (.aload_n 0, 1) := by decide +kernel
theorem dX12_shut_17 : decode cX12_shut 17 = .ok (.iload_n 1, 1) := by decide +kernel
theorem dX12_shut_18 : decode cX12_shut 18 = .ok (.invokevirtual 325, 3) := by decide +kernel
theorem dX12_shut_21 : decode cX12_shut 21 = .ok (.ifCond .eq 14, 3) := by decide +kernel
theorem dX12_shut_24 : decode cX12_shut 24 = .ok (.aload_n 0, 1) := by decide +kernel
theorem dX12_shut_25 : decode cX12_shut 25 = .ok (.getfield 61, 3) := by decide +kernel
theorem dX12_shut_28 : decode cX12_shut 28 = .ok (.iload_n 2, 1) := by decide +kernel
theorem dX12_shut_29 : decode cX12_shut 29 = .ok (.iconst 5, 1) := by decide +kernel
theorem dX12_shut_30 : decode cX12_shut 30 = .ok (.iadd, 1) := by decide +kernel
theorem dX12_shut_31 : decode cX12_shut 31 = .ok (.iaload, 1) := by decide +kernel
theorem dX12_shut_32 : decode cX12_shut 32 = .ok (.ifCond .ne 5, 3) := by decide +kernel
theorem dX12_shut_35 : decode cX12_shut 35 = .ok (.iconst (-1), 1) := by decide +kernel
theorem dX12_shut_36 : decode cX12_shut 36 = .ok (.ireturn, 1) := by decide +kernel
theorem dX12_shut_37 : decode cX12_shut 37 = .ok (.aload_n 0, 1) := by decide +kernel
theorem dX12_shut_38 : decode cX12_shut 38 = .ok (.invokevirtual 358, 3) := by decide +kernel
theorem dX12_shut_41 : decode cX12_shut 41 = .ok (.aload_n 0, 1) := by decide +kernel
theorem dX12_shut_42 : decode cX12_shut 42 = .ok (.getfield 61, 3) := by decide +kernel
theorem dX12_shut_45 : decode cX12_shut 45 = .ok (.iload_n 2, 1) := by decide +kernel
theorem dX12_shut_46 : decode cX12_shut 46 = .ok (.iconst 5, 1) := by decide +kernel
theorem dX12_shut_47 : decode cX12_shut 47 = .ok (.iadd, 1) := by decide +kernel
theorem dX12_shut_48 : decode cX12_shut 48 = .ok (.iconst 0, 1) := by decide +kernel
theorem dX12_shut_49 : decode cX12_shut 49 = .ok (.iastore, 1) := by decide +kernel
theorem dX12_shut_50 : decode cX12_shut 50 = .ok (.aload_n 0, 1) := by decide +kernel
theorem dX12_shut_51 : decode cX12_shut 51 = .ok (.getfield 61, 3) := by decide +kernel
theorem dX12_shut_54 : decode cX12_shut 54 = .ok (.iload_n 2, 1) := by decide +kernel
theorem dX12_shut_55 : decode cX12_shut 55 = .ok (.iconst 1, 1) := by decide +kernel
theorem dX12_shut_56 : decode cX12_shut 56 = .ok (.iadd, 1) := by decide +kernel
theorem dX12_shut_57 : decode cX12_shut 57 = .ok (.aload_n 0, 1) := by decide +kernel
theorem dX12_shut_58 : decode cX12_shut 58 = .ok (.getfield 61, 3) := by decide +kernel
theorem dX12_shut_61 : decode cX12_shut 61 = .ok (.bipush 28, 2) := by decide +kernel
theorem dX12_shut_63 : decode cX12_shut 63 = .ok (.iconst 2, 1) := by decide +kernel
theorem dX12_shut_64 : decode cX12_shut 64 = .ok (.iload_n 1, 1) := by decide +kernel
theorem dX12_shut_65 : decode cX12_shut 65 = .ok (.imul, 1) := by decide +kernel
theorem dX12_shut_66 : decode cX12_shut 66 = .ok (.iadd, 1) := by decide +kernel
theorem dX12_shut_67 : decode cX12_shut 67 = .ok (.iaload, 1) := by decide +kernel
theorem dX12_shut_68 : decode cX12_shut 68 = .ok (.iconst 2, 1) := by decide +kernel
theorem dX12_shut_69 : decode cX12_shut 69 = .ok (.idiv, 1) := by decide +kernel
theorem dX12_shut_70 : decode cX12_shut 70 = .ok (.iastore, 1) := by decide +kernel
theorem dX12_shut_71 : decode cX12_shut 71 = .ok (.aload_n 0, 1) := by decide +kernel
theorem dX12_shut_72 : decode cX12_shut 72 = .ok (.getfield 61, 3) := by decide +kernel
theorem dX12_shut_75 : decode cX12_shut 75 = .ok (.iload_n 2, 1) := by decide +kernel
theorem dX12_shut_76 : decode cX12_shut 76 = .ok (.iconst 0, 1) := by decide +kernel
theorem dX12_shut_77 : decode cX12_shut 77 = .ok (.iastore, 1) := by decide +kernel
theorem dX12_shut_78 : decode cX12_shut 78 = .ok (.iconst 0, 1) := by decide +kernel
theorem dX12_shut_79 : decode cX12_shut 79 = .ok (.istore_n 3, 1) := by decide +kernel
theorem dX12_shut_80 : decode cX12_shut 80 = .ok (.iload_n 3, 1) := by decide +kernel
theorem dX12_shut_81 : decode cX12_shut 81 = .ok (.aload_n 0, 1) := by decide +kernel
theorem dX12_shut_82 : decode cX12_shut 82 = .ok (.getfield 288, 3) := by decide +kernel
theorem dX12_shut_85 : decode cX12_shut 85 = .ok (.if_icmp .ge 29, 3) := by decide +kernel
theorem dX12_shut_88 : decode cX12_shut 88 = .ok (.aload_n 0, 1) := by decide +kernel
theorem dX12_shut_89 : decode cX12_shut 89 = .ok (.getfield 61, 3) := by decide +kernel
theorem dX12_shut_92 : decode cX12_shut 92 = .ok (.bipush 40, 2) := by decide +kernel
theorem dX12_shut_94 : decode cX12_shut 94 = .ok (.iconst 4, 1) := by decide +kernel
theorem dX12_shut_95 : decode cX12_shut 95 = .ok (.iload_n 3, 1) := by decide +kernel
theorem dX12_shut_96 : decode cX12_shut 96 = .ok (.imul, 1) := by decide +kernel
theorem dX12_shut_97 : decode cX12_shut 97 = .ok (.iadd, 1) := by decide +kernel
theorem dX12_shut_98 : decode cX12_shut 98 = .ok (.aload_n 0, 1) := by decide +kernel
theorem dX12_shut_99 : decode cX12_shut 99 = .ok (.getfield 61, 3) := by decide +kernel
theorem dX12_shut_102 : decode cX12_shut 102 = .ok (.bipush 64, 2) := by decide +kernel
theorem dX12_shut_104 : decode cX12_shut 104 = .ok (.iaload, 1) := by decide +kernel
theorem dX12_shut_105 : decode cX12_shut 105 = .ok (.iadd, 1) := by decide +kernel
theorem dX12_shut_106 : decode cX12_shut 106 = .ok (.iconst 0, 1) := by decide +kernel
theorem dX12_shut_107 : decode cX12_shut 107 = .ok (.iastore, 1) := by decide +kernel
theorem dX12_shut_108 : decode cX12_shut 108 = .ok (.iinc 3 1, 3) := by decide +kernel
theorem dX12_shut_111 : decode cX12_shut 111 = .ok (.goto (-31), 3) := by decide +kernel
theorem dX12_shut_114 : decode cX12_shut 114 = .ok (.aload_n 0, 1) := by decide +kernel
theorem dX12_shut_115 : decode cX12_shut 115 = .ok (.getfield 61, 3) := by decide +kernel
theorem dX12_shut_118 : decode cX12_shut 118 = .ok (.bipush 65, 2) := by decide +kernel
theorem dX12_shut_120 : decode cX12_shut 120 = .ok (.dup2, 1) := by decide +kernel
theorem dX12_shut_121 : decode cX12_shut 121 = .ok (.iaload, 1) := by decide +kernel
theorem dX12_shut_122 : decode cX12_shut 122 = .ok (.iconst 1, 1) := by decide +kernel
theorem dX12_shut_123 : decode cX12_shut 123 = .ok (.iadd, 1) := by decide +kernel
theorem dX12_shut_124 : decode cX12_shut 124 = .ok (.iastore, 1) := by decide +kernel
theorem dX12_shut_125 : decode cX12_shut 125 = .ok (.aload_n 0, 1) := by decide +kernel
theorem dX12_shut_126 : decode cX12_shut 126 = .ok (.bipush 20, 2) := by decide +kernel
theorem dX12_shut_128 : decode cX12_shut 128 = .ok (.iload_n 1, 1) := by decide +kernel
theorem dX12_shut_129 : decode cX12_shut 129 = .ok (.iadd, 1) := by decide +kernel
theorem dX12_shut_130 : decode cX12_shut 130 = .ok (.invokevirtual 361, 3) := by decide +kernel
theorem dX12_shut_133 : decode cX12_shut 133 = .ok (.aload_n 0, 1) := by decide +kernel
theorem dX12_shut_134 : decode cX12_shut 134 = .ok (.getfield 61, 3) := by decide +kernel
theorem dX12_shut_137 : decode cX12_shut 137 = .ok (.aload_n 0, 1) := by decide +kernel
theorem dX12_shut_138 : decode cX12_shut 138 = .ok (.getfield 61, 3) := by decide +kernel
theorem dX12_shut_141 : decode cX12_shut 141 = .ok (.bipush 64, 2) := by decide +kernel
theorem dX12_shut_143 : decode cX12_shut 143 = .ok (.iaload, 1) := by decide +kernel
theorem dX12_shut_144 : decode cX12_shut 144 = .ok (.invokestatic 321, 3) := by decide +kernel
theorem dX12_shut_147 : decode cX12_shut 147 = .ok (.ireturn, 1) := by decide +kernel
theorem dX12_table_0 : decode cX12_table 0 = .ok (.aload_n 0, 1) := by decide +kernel
theorem dX12_table_1 : decode cX12_table 1 = .ok (.iconst 0, 1) := by decide +kernel
theorem dX12_table_2 : decode cX12_table 2 = .ok (.putfield 93, 3) := by decide +kernel
theorem dX12_table_5 : decode cX12_table 5 = .ok (.aload_n 0, 1) := by decide +kernel
theorem dX12_table_6 : decode cX12_table 6 = .ok (.iload_n 1, 1) := by decide +kernel
theorem dX12_table_7 : decode cX12_table 7 = .ok (.invokevirtual 316, 3) := by decide +kernel
theorem dX12_table_10 : decode cX12_table 10 = .ok (.ifCond .eq 14, 3) := by decide +kernel
theorem dX12_table_13 : decode cX12_table 13 = .ok (.aload_n 0, 1) := by decide +kernel
theorem dX12_table_14 : decode cX12_table 14 = .ok (.getfield 61, 3) := by decide +kernel
theorem dX12_table_17 : decode cX12_table 17 = .ok (.bipush 64, 2) := by decide +kernel
theorem dX12_table_19 : decode cX12_table 19 = .ok (.iaload, 1) := by decide +kernel
theorem dX12_table_20 : decode cX12_table 20 = .ok (.iload_n 1, 1) := by decide +kernel
theorem dX12_table_21 : decode cX12_table 21 = .ok (.if_icmp .ne 5, 3) := by decide +kernel
theorem dX12_table_24 : decode cX12_table 24 = .ok (.iconst 0, 1) := by decide +kernel
theorem dX12_table_25 : decode cX12_table 25 = .ok (.ireturn, 1) := by decide +kernel
theorem dX12_table_26 : decode cX12_table 26 = .ok (.aload_n 0, 1) := by decide +kernel
theorem dX12_table_27 : decode cX12_table 27 = .ok (.invokevirtual 358, 3) := by decide +kernel
theorem dX12_table_30 : decode cX12_table 30 = .ok (.aload_n 0, 1) := by decide +kernel
theorem dX12_table_31 : decode cX12_table 31 = .ok (.getfield 61, 3) := by decide +kernel
theorem dX12_table_34 : decode cX12_table 34 = .ok (.bipush 64, 2) := by decide +kernel
theorem dX12_table_36 : decode cX12_table 36 = .ok (.iload_n 1, 1) := by decide +kernel
theorem dX12_table_37 : decode cX12_table 37 = .ok (.iastore, 1) := by decide +kernel
theorem dX12_table_38 : decode cX12_table 38 = .ok (.aload_n 0, 1) := by decide +kernel
theorem dX12_table_39 : decode cX12_table 39 = .ok (.bipush 30, 2) := by decide +kernel
theorem dX12_table_41 : decode cX12_table 41 = .ok (.iload_n 1, 1) := by decide +kernel
theorem dX12_table_42 : decode cX12_table 42 = .ok (.iadd, 1) := by decide +kernel
theorem dX12_table_43 : decode cX12_table 43 = .ok (.invokevirtual 361, 3) := by decide +kernel
theorem dX12_table_46 : decode cX12_table 46 = .ok (.iconst 1, 1) := by decide +kernel
theorem dX12_table_47 : decode cX12_table 47 = .ok (.ireturn, 1) := by decide +kernel
theorem dX12_undo_0 : decode cX12_undo 0 = .ok (.aload_n 0, 1) := by decide +kernel
theorem dX12_undo_1 : decode cX12_undo 1 = .ok (.iconst 0, 1) := by decide +kernel
theorem dX12_undo_2 : decode cX12_undo 2 = .ok (.putfield 93, 3) := by decide +kernel
theorem dX12_undo_5 : decode cX12_undo 5 = .ok (.aload_n 0, 1) := by decide +kernel
theorem dX12_undo_6 : decode cX12_undo 6 = .ok (.getfield 297, 3) := by decide +kernel
theorem dX12_undo_9 : decode cX12_undo 9 = .ok (.ifCond .ne 5, 3) := by decide +kernel
theorem dX12_undo_12 : decode cX12_undo 12 = .ok (.iconst (-1), 1) := by decide +kernel
theorem dX12_undo_13 : decode cX12_undo 13 = .ok (.ireturn, 1) := by decide +kernel
theorem dX12_undo_14 : decode cX12_undo 14 = .ok (.aload_n 0, 1) := by decide +kernel
theorem dX12_undo_15 : decode cX12_undo 15 = .ok (.dup, 1) := by decide +kernel
theorem dX12_undo_16 : decode cX12_undo 16 = .ok (.getfield 297, 3) := by decide +kernel
theorem dX12_undo_19 : decode cX12_undo 19 = .ok (.iconst 1, 1) := by decide +kernel
theorem dX12_undo_20 : decode cX12_undo 20 = .ok (.isub, 1) := by decide +kernel
theorem dX12_undo_21 : decode cX12_undo 21 = .ok (.putfield 297, 3) := by decide +kernel
theorem dX12_undo_24 : decode cX12_undo 24 = .ok (.iconst 0, 1) := by decide +kernel
theorem dX12_undo_25 : decode cX12_undo 25 = .ok (.istore_n 1, 1) := by decide +kernel
theorem dX12_undo_26 : decode cX12_undo 26 = .ok (.iload_n 1, 1) := by decide +kernel
theorem dX12_undo_27 : decode cX12_undo 27 = .ok (.bipush 66, 2) := by decide +kernel
theorem dX12_undo_29 : decode cX12_undo 29 = .ok (.if_icmp .ge 29, 3) := by decide +kernel
theorem dX12_undo_32 : decode cX12_undo 32 = .ok (.aload_n 0, 1) := by decide +kernel
theorem dX12_undo_33 : decode cX12_undo 33 = .ok (.getfield 61, 3) := by decide +kernel
theorem dX12_undo_36 : decode cX12_undo 36 = .ok (.iload_n 1, 1) := by decide +kernel
theorem dX12_undo_37 : decode cX12_undo 37 = .ok (.aload_n 0, 1) := by decide +kernel
theorem dX12_undo_38 : decode cX12_undo 38 = .ok (.getfield 71, 3) := by decide +kernel
theorem dX12_undo_41 : decode cX12_undo 41 = .ok (.bipush 66, 2) := by decide +kernel
theorem dX12_undo_43 : decode cX12_undo 43 = .ok (.aload_n 0, 1) := by decide +kernel
theorem dX12_undo_44 : decode cX12_undo 44 = .ok (.getfield 297, 3) := by decide +kernel
theorem dX12_undo_47 : decode cX12_undo 47 = .ok (.imul, 1) := by decide +kernel
theorem dX12_undo_48 : decode cX12_undo 48 = .ok (.iload_n 1, 1) := by decide +kernel
theorem dX12_undo_49 : decode cX12_undo 49 = .ok (.iadd, 1) := by decide +kernel
theorem dX12_undo_50 : decode cX12_undo 50 = .ok (.iaload, 1) := by decide +kernel
theorem dX12_undo_51 : decode cX12_undo 51 = .ok (.iastore, 1) := by decide +kernel
theorem dX12_undo_52 : decode cX12_undo 52 = .ok (.iinc 1 1, 3) := by decide +kernel
theorem dX12_undo_55 : decode cX12_undo 55 = .ok (.goto (-29), 3) := by decide +kernel
theorem dX12_undo_58 : decode cX12_undo 58 = .ok (.aload_n 0, 1) := by decide +kernel
theorem dX12_undo_59 : decode cX12_undo 59 = .ok (.dup, 1) := by decide +kernel
theorem dX12_undo_60 : decode cX12_undo 60 = .ok (.getfield 300, 3) := by decide +kernel
theorem dX12_undo_63 : decode cX12_undo 63 = .ok (.iconst 1, 1) := by decide +kernel
theorem dX12_undo_64 : decode cX12_undo 64 = .ok (.isub, 1) := by decide +kernel
theorem dX12_undo_65 : decode cX12_undo 65 = .ok (.putfield 300, 3) := by decide +kernel
theorem dX12_undo_68 : decode cX12_undo 68 = .ok (.aload_n 0, 1) := by decide +kernel
theorem dX12_undo_69 : decode cX12_undo 69 = .ok (.getfield 297, 3) := by decide +kernel
theorem dX12_undo_72 : decode cX12_undo 72 = .ok (.ireturn, 1) := by decide +kernel
theorem dX12_log_0 : decode cX12_log 0 = .ok (.aload_n 0, 1) := by decide +kernel
theorem dX12_log_1 : decode cX12_log 1 = .ok (.iconst 0, 1) := by decide +kernel
theorem dX12_log_2 : decode cX12_log 2 = .ok (.putfield 93, 3) := by decide +kernel
theorem dX12_log_5 : decode cX12_log 5 = .ok (.iload_n 1, 1) := by decide +kernel
theorem dX12_log_6 : decode cX12_log 6 = .ok (.i2l, 1) := by decide +kernel
theorem dX12_log_7 : decode cX12_log 7 = .ok (.lconst 0, 1) := by decide +kernel
theorem dX12_log_8 : decode cX12_log 8 = .ok (.aload_n 0, 1) := by decide +kernel
theorem dX12_log_9 : decode cX12_log 9 = .ok (.getfield 300, 3) := by decide +kernel
theorem dX12_log_12 : decode cX12_log 12 = .ok (.iconst 1, 1) := by decide +kernel
theorem dX12_log_13 : decode cX12_log 13 = .ok (.isub, 1) := by decide +kernel
theorem dX12_log_14 : decode cX12_log 14 = .ok (.i2l, 1) := by decide +kernel
theorem dX12_log_15 : decode cX12_log 15 = .ok (.invokestatic 214, 3) := by decide +kernel
theorem dX12_log_18 : decode cX12_log 18 = .ok (.ifCond .eq 13, 3) := by decide +kernel
theorem dX12_log_21 : decode cX12_log 21 = .ok (.iload_n 2, 1) := by decide +kernel
theorem dX12_log_22 : decode cX12_log 22 = .ok (.i2l, 1) := by decide +kernel
theorem dX12_log_23 : decode cX12_log 23 = .ok (.lconst 0, 1) := by decide +kernel
theorem dX12_log_24 : decode cX12_log 24 = .ok (.lconst 1, 1) := by decide +kernel
theorem dX12_log_25 : decode cX12_log 25 = .ok (.invokestatic 214, 3) := by decide +kernel
theorem dX12_log_28 : decode cX12_log 28 = .ok (.ifCond .ne 5, 3) := by decide +kernel
theorem dX12_log_31 : decode cX12_log 31 = .ok (.iconst (-1), 1) := by decide +kernel
theorem dX12_log_32 : decode cX12_log 32 = .ok (.ireturn, 1) := by decide +kernel
theorem dX12_log_33 : decode cX12_log 33 = .ok (.iload_n 2, 1) := by decide +kernel
theorem dX12_log_34 : decode cX12_log 34 = .ok (.ifCond .ne 19, 3) := by decide +kernel
theorem dX12_log_37 : decode cX12_log 37 = .ok (.aload_n 0, 1) := by decide +kernel
theorem dX12_log_38 : decode cX12_log 38 = .ok (.getfield 74, 3) := by decide +kernel
theorem dX12_log_41 : decode cX12_log 41 = .ok (.aload_n 0, 1) := by decide +kernel
theorem dX12_log_42 : decode cX12_log 42 = .ok (.getfield 300, 3) := by decide +kernel
theorem dX12_log_45 : decode cX12_log 45 = .ok (.iconst 1, 1) := by decide +kernel
theorem dX12_log_46 : decode cX12_log 46 = .ok (.isub, 1) := by decide +kernel
theorem dX12_log_47 : decode cX12_log 47 = .ok (.iload_n 1, 1) := by decide +kernel
theorem dX12_log_48 : decode cX12_log 48 = .ok (.isub, 1) := by decide +kernel
theorem dX12_log_49 : decode cX12_log 49 = .ok (.iaload, 1) := by decide +kernel
theorem dX12_log_50 : decode cX12_log 50 = .ok (.goto 16, 3) := by decide +kernel
theorem dX12_log_53 : decode cX12_log 53 = .ok (.aload_n 0, 1) := by decide +kernel
theorem dX12_log_54 : decode cX12_log 54 = .ok (.getfield 77, 3) := by decide +kernel
theorem dX12_log_57 : decode cX12_log 57 = .ok (.aload_n 0, 1) := by decide +kernel
theorem dX12_log_58 : decode cX12_log 58 = .ok (.getfield 300, 3) := by decide +kernel
theorem dX12_log_61 : decode cX12_log 61 = .ok (.iconst 1, 1) := by decide +kernel
theorem dX12_log_62 : decode cX12_log 62 = .ok (.isub, 1) := by decide +kernel
theorem dX12_log_63 : decode cX12_log 63 = .ok (.iload_n 1, 1) := by decide +kernel
theorem dX12_log_64 : decode cX12_log 64 = .ok (.isub, 1) := by decide +kernel
theorem dX12_log_65 : decode cX12_log 65 = .ok (.iaload, 1) := by decide +kernel
theorem dX12_log_66 : decode cX12_log 66 = .ok (.ireturn, 1) := by decide +kernel
theorem dX12_opensBy_0 : decode cX12_opensBy 0 = .ok (.iconst 0, 1) := by decide +kernel
theorem dX12_opensBy_1 : decode cX12_opensBy 1 = .ok (.istore 4, 2) := by decide +kernel
theorem dX12_opensBy_3 : decode cX12_opensBy 3 = .ok (.iload 4, 2) := by decide +kernel
theorem dX12_opensBy_5 : decode cX12_opensBy 5 = .ok (.sipush 160, 3) := by decide +kernel
theorem dX12_opensBy_8 : decode cX12_opensBy 8 = .ok (.if_icmp .ge 23, 3) := by decide +kernel
theorem dX12_opensBy_11 : decode cX12_opensBy 11 = .ok (.aload_n 0, 1) := by decide +kernel
theorem dX12_opensBy_12 : decode cX12_opensBy 12 = .ok (.iload 4, 2) := by decide +kernel
theorem dX12_opensBy_14 : decode cX12_opensBy 14 = .ok (.iload_n 1, 1) := by decide +kernel
theorem dX12_opensBy_15 : decode cX12_opensBy 15 = .ok (.iload_n 2, 1) := by decide +kernel
theorem dX12_opensBy_16 : decode cX12_opensBy 16 = .ok (.iload_n 3, 1) := by decide +kernel
theorem dX12_opensBy_17 : decode cX12_opensBy 17 = .ok (.invokevirtual 371, 3) := by decide +kernel
theorem dX12_opensBy_20 : decode cX12_opensBy 20 = .ok (.ifCond .eq 5, 3) := by decide +kernel
theorem dX12_opensBy_23 : decode cX12_opensBy 23 = .ok (.iconst 1, 1) := by decide +kernel
theorem dX12_opensBy_24 : decode cX12_opensBy 24 = .ok (.ireturn, 1) := by decide +kernel
theorem dX12_opensBy_25 : decode cX12_opensBy 25 = .ok (.iinc 4 1, 3) := by decide +kernel
theorem dX12_opensBy_28 : decode cX12_opensBy 28 = .ok (.goto (-25), 3) := by decide +kernel
theorem dX12_opensBy_31 : decode cX12_opensBy 31 = .ok (.iconst 0, 1) := by decide +kernel
theorem dX12_opensBy_32 : decode cX12_opensBy 32 = .ok (.ireturn, 1) := by decide +kernel
theorem dX12_isAct_0 : decode cX12_isAct 0 = .ok (.iload_n 1, 1) := by decide +kernel
theorem dX12_isAct_1 : decode cX12_isAct 1 = .ok (.iconst 5, 1) := by decide +kernel
theorem dX12_isAct_2 : decode cX12_isAct 2 = .ok (.if_icmp .lt 21, 3) := by decide +kernel
theorem dX12_isAct_5 : decode cX12_isAct 5 = .ok (.iload_n 1, 1) := by decide +kernel
theorem dX12_isAct_6 : decode cX12_isAct 6 = .ok (.bipush 9, 2) := by decide +kernel
theorem dX12_isAct_8 : decode cX12_isAct 8 = .ok (.if_icmp .le 9, 3) := by decide +kernel
theorem dX12_isAct_11 : decode cX12_isAct 11 = .ok (.iload_n 1, 1) := by decide +kernel
theorem dX12_isAct_12 : decode cX12_isAct 12 = .ok (.bipush 16, 2) := by decide +kernel
theorem dX12_isAct_14 : decode cX12_isAct 14 = .ok (.if_icmp .lt 9, 3) := by decide +kernel
theorem dX12_isAct_17 : decode cX12_isAct 17 = .ok (.iload_n 1, 1) := by decide +kernel
theorem dX12_isAct_18 : decode cX12_isAct 18 = .ok (.bipush 99, 2) := by decide +kernel
theorem dX12_isAct_20 : decode cX12_isAct 20 = .ok (.if_icmp .le 24, 3) := by decide +kernel
theorem dX12_isAct_23 : decode cX12_isAct 23 = .ok (.aload_n 0, 1) := by decide +kernel
theorem dX12_isAct_24 : decode cX12_isAct 24 = .ok (.iload_n 1, 1) := by decide +kernel
theorem dX12_isAct_25 : decode cX12_isAct 25 = .ok (.invokevirtual 375, 3) := by decide +kernel
theorem dX12_isAct_28 : decode cX12_isAct 28 = .ok (.ifCond .eq 16, 3) := by decide +kernel
theorem dX12_isAct_31 : decode cX12_isAct 31 = .ok (.iload_n 2, 1) := by decide +kernel
theorem dX12_isAct_32 : decode cX12_isAct 32 = .ok (.ifCond .ne 8, 3) := by decide +kernel
theorem dX12_isAct_35 : decode cX12_isAct 35 = .ok (.iload_n 1, 1) := by decide +kernel
theorem dX12_isAct_36 : decode cX12_isAct 36 = .ok (.iconst 2, 1) := by decide +kernel
theorem dX12_isAct_37 : decode cX12_isAct 37 = .ok (.if_icmp .eq 7, 3) := by decide +kernel
theorem dX12_isAct_40 : decode cX12_isAct 40 = .ok (.iconst 1, 1) := by decide +kernel
theorem dX12_isAct_41 : decode cX12_isAct 41 = .ok (.goto 4, 3) := by decide +kernel
theorem dX12_isAct_44 : decode cX12_isAct 44 = .ok (.iconst 0, 1) := by decide +kernel
theorem dX12_isAct_45 : decode cX12_isAct 45 = .ok (.ireturn, 1) := by decide +kernel
theorem dX12_opensFirst_0 : decode cX12_opensFirst 0 = .ok (.aload_n 0, 1) := by decide +kernel
theorem dX12_opensFirst_1 : decode cX12_opensFirst 1 = .ok (.iload_n 1, 1) := by decide +kernel
theorem dX12_opensFirst_2 : decode cX12_opensFirst 2 = .ok (.iload 4, 2) := by decide +kernel
theorem dX12_opensFirst_4 : decode cX12_opensFirst 4 = .ok (.invokevirtual 378, 3) := by decide +kernel
theorem dX12_opensFirst_7 : decode cX12_opensFirst 7 = .ok (.ifCond .ne 5, 3) := by decide +kernel
theorem dX12_opensFirst_10 : decode cX12_opensFirst 10 = .ok (.iconst 0, 1) := by decide +kernel
theorem dX12_opensFirst_11 : decode cX12_opensFirst 11 = .ok (.ireturn, 1) := by decide +kernel
theorem dX12_opensFirst_12 : decode cX12_opensFirst 12 = .ok (.iconst 0, 1) := by decide +kernel
theorem dX12_opensFirst_13 : decode cX12_opensFirst 13 = .ok (.istore 5, 2) := by decide +kernel
theorem dX12_opensFirst_15 : decode cX12_opensFirst 15 = .ok (.iload 5, 2) := by decide +kernel
theorem dX12_opensFirst_17 : decode cX12_opensFirst 17 = .ok (.bipush 66, 2) := by decide +kernel
theorem dX12_opensFirst_19 : decode cX12_opensFirst 19 = .ok (.if_icmp .ge 28, 3) := by decide +kernel
theorem dX12_opensFirst_22 : decode cX12_opensFirst 22 = .ok (.aload_n 0, 1) := by decide +kernel
theorem dX12_opensFirst_23 : decode cX12_opensFirst 23 = .ok (.getfield 64, 3) := by decide +kernel
theorem dX12_opensFirst_26 : decode cX12_opensFirst 26 = .ok (.iload 5, 2) := by decide +kernel
theorem dX12_opensFirst_28 : decode cX12_opensFirst 28 = .ok (.aload_n 0, 1) := by decide +kernel
theorem dX12_opensFirst_29 : decode cX12_opensFirst 29 = .ok (.getfield 80, 3) := by decide +kernel
theorem dX12_opensFirst_32 : decode cX12_opensFirst 32 = .ok (.bipush 66, 2) := by decide +kernel
theorem dX12_opensFirst_34 : decode cX12_opensFirst 34 = .ok (.iload_n 3, 1) := by decide +kernel
theorem dX12_opensFirst_35 : decode cX12_opensFirst 35 = .ok (.imul, 1) := by decide +kernel
theorem dX12_opensFirst_36 : decode cX12_opensFirst 36 = .ok (.iload 5, 2) := by decide +kernel
theorem dX12_opensFirst_38 : decode cX12_opensFirst 38 = .ok (.iadd, 1) := by decide +kernel
theorem dX12_opensFirst_39 : decode cX12_opensFirst 39 = .ok (.iaload, 1) := by decide +kernel
theorem dX12_opensFirst_40 : decode cX12_opensFirst 40 = .ok (.iastore, 1) := by decide +kernel
theorem dX12_opensFirst_41 : decode cX12_opensFirst 41 = .ok (.iinc 5 1, 3) := by decide +kernel
theorem dX12_opensFirst_44 : decode cX12_opensFirst 44 = .ok (.goto (-29), 3) := by decide +kernel
theorem dX12_opensFirst_47 : decode cX12_opensFirst 47 = .ok (.aload_n 0, 1) := by decide +kernel
theorem dX12_opensFirst_48 : decode cX12_opensFirst 48 = .ok (.aload_n 0, 1) := by decide +kernel
theorem dX12_opensFirst_49 : decode cX12_opensFirst 49 = .ok (.getfield 64, 3) := by decide +kernel
theorem dX12_opensFirst_52 : decode cX12_opensFirst 52 = .ok (.iload_n 1, 1) := by decide +kernel
theorem dX12_opensFirst_53 : decode cX12_opensFirst 53 = .ok (.invokevirtual 382, 3) := by decide +kernel
theorem dX12_opensFirst_56 : decode cX12_opensFirst 56 = .ok (.bipush 7, 2) := by decide +kernel
theorem dX12_opensFirst_58 : decode cX12_opensFirst 58 = .ok (.aload_n 0, 1) := by decide +kernel
theorem dX12_opensFirst_59 : decode cX12_opensFirst 59 = .ok (.getfield 64, 3) := by decide +kernel
theorem dX12_opensFirst_62 : decode cX12_opensFirst 62 = .ok (.bipush 64, 2) := by decide +kernel
theorem dX12_opensFirst_64 : decode cX12_opensFirst 64 = .ok (.iaload, 1) := by decide +kernel
theorem dX12_opensFirst_65 : decode cX12_opensFirst 65 = .ok (.imul, 1) := by decide +kernel
theorem dX12_opensFirst_66 : decode cX12_opensFirst 66 = .ok (.istore 5, 2) := by decide +kernel
theorem dX12_opensFirst_68 : decode cX12_opensFirst 68 = .ok (.aload_n 0, 1) := by decide +kernel
theorem dX12_opensFirst_69 : decode cX12_opensFirst 69 = .ok (.getfield 64, 3) := by decide +kernel
theorem dX12_opensFirst_72 : decode cX12_opensFirst 72 = .ok (.iload 5, 2) := by decide +kernel
theorem dX12_opensFirst_74 : decode cX12_opensFirst 74 = .ok (.iconst 5, 1) := by decide +kernel
theorem dX12_opensFirst_75 : decode cX12_opensFirst 75 = .ok (.iadd, 1) := by decide +kernel
theorem dX12_opensFirst_76 : decode cX12_opensFirst 76 = .ok (.iaload, 1) := by decide +kernel
theorem dX12_opensFirst_77 : decode cX12_opensFirst 77 = .ok (.iconst 1, 1) := by decide +kernel
theorem dX12_opensFirst_78 : decode cX12_opensFirst 78 = .ok (.if_icmp .ne 5, 3) := by decide +kernel
theorem dX12_opensFirst_81 : decode cX12_opensFirst 81 = .ok (.iconst 1, 1) := by decide +kernel
theorem dX12_opensFirst_82 : decode cX12_opensFirst 82 = .ok (.ireturn, 1) := by decide +kernel
theorem dX12_opensFirst_83 : decode cX12_opensFirst 83 = .ok (.iload_n 2, 1) := by decide +kernel
theorem dX12_opensFirst_84 : decode cX12_opensFirst 84 = .ok (.iconst 1, 1) := by decide +kernel
theorem dX12_opensFirst_85 : decode cX12_opensFirst 85 = .ok (.if_icmp .eq 17, 3) := by decide +kernel
theorem dX12_opensFirst_88 : decode cX12_opensFirst 88 = .ok (.aload_n 0, 1) := by decide +kernel
theorem dX12_opensFirst_89 : decode cX12_opensFirst 89 = .ok (.getfield 64, 3) := by decide +kernel
theorem dX12_opensFirst_92 : decode cX12_opensFirst 92 = .ok (.iload 5, 2) := by decide +kernel
theorem dX12_opensFirst_94 : decode cX12_opensFirst 94 = .ok (.bipush 6, 2) := by decide +kernel
theorem dX12_opensFirst_96 : decode cX12_opensFirst 96 = .ok (.iadd, 1) := by decide +kernel
theorem dX12_opensFirst_97 : decode cX12_opensFirst 97 = .ok (.iaload, 1) := by decide +kernel
theorem dX12_opensFirst_98 : decode cX12_opensFirst 98 = .ok (.iconst 1, 1) := by decide +kernel
theorem dX12_opensFirst_99 : decode cX12_opensFirst 99 = .ok (.if_icmp .ne 5, 3) := by decide +kernel
theorem dX12_opensFirst_102 : decode cX12_opensFirst 102 = .ok (.iconst 0, 1) := by decide +kernel
theorem dX12_opensFirst_103 : decode cX12_opensFirst 103 = .ok (.ireturn, 1) := by decide +kernel
theorem dX12_opensFirst_104 : decode cX12_opensFirst 104 = .ok (.iconst 0, 1) := by decide +kernel
theorem dX12_opensFirst_105 : decode cX12_opensFirst 105 = .ok (.istore 6, 2) := by decide +kernel
theorem dX12_opensFirst_107 : decode cX12_opensFirst 107 = .ok (.iload 6, 2) := by decide +kernel
theorem dX12_opensFirst_109 : decode cX12_opensFirst 109 = .ok (.bipush 66, 2) := by decide +kernel
theorem dX12_opensFirst_111 : decode cX12_opensFirst 111 = .ok (.if_icmp .ge 30, 3) := by decide +kernel
theorem dX12_opensFirst_114 : decode cX12_opensFirst 114 = .ok (.aload_n 0, 1) := by decide +kernel
theorem dX12_opensFirst_115 : decode cX12_opensFirst 115 = .ok (.getfield 80, 3) := by decide +kernel
theorem dX12_opensFirst_118 : decode cX12_opensFirst 118 = .ok (.bipush 66, 2) := by decide +kernel
theorem dX12_opensFirst_120 : decode cX12_opensFirst 120 = .ok (.iload_n 3, 1) := by decide +kernel
theorem dX12_opensFirst_121 : decode cX12_opensFirst 121 = .ok (.iconst 1, 1) := by decide +kernel
theorem dX12_opensFirst_122 : decode cX12_opensFirst 122 = .ok (.iadd, 1) := by decide +kernel
theorem dX12_opensFirst_123 : decode cX12_opensFirst 123 = .ok (.imul, 1) := by decide +kernel
theorem dX12_opensFirst_124 : decode cX12_opensFirst 124 = .ok (.iload 6, 2) := by decide +kernel
theorem dX12_opensFirst_126 : decode cX12_opensFirst 126 = .ok (.iadd, 1) := by decide +kernel
theorem dX12_opensFirst_127 : decode cX12_opensFirst 127 = .ok (.aload_n 0, 1) := by decide +kernel
theorem dX12_opensFirst_128 : decode cX12_opensFirst 128 = .ok (.getfield 64, 3) := by decide +kernel
theorem dX12_opensFirst_131 : decode cX12_opensFirst 131 = .ok (.iload 6, 2) := by decide +kernel
theorem dX12_opensFirst_133 : decode cX12_opensFirst 133 = .ok (.iaload, 1) := by decide +kernel
theorem dX12_opensFirst_134 : decode cX12_opensFirst 134 = .ok (.iastore, 1) := by decide +kernel
theorem dX12_opensFirst_135 : decode cX12_opensFirst 135 = .ok (.iinc 6 1, 3) := by decide +kernel
theorem dX12_opensFirst_138 : decode cX12_opensFirst 138 = .ok (.goto (-31), 3) := by decide +kernel
theorem dX12_opensFirst_141 : decode cX12_opensFirst 141 = .ok (.aload_n 0, 1) := by decide +kernel
theorem dX12_opensFirst_142 : decode cX12_opensFirst 142 = .ok (.iload_n 2, 1) := by decide +kernel
theorem dX12_opensFirst_143 : decode cX12_opensFirst 143 = .ok (.iconst 1, 1) := by decide +kernel
theorem dX12_opensFirst_144 : decode cX12_opensFirst 144 = .ok (.isub, 1) := by decide +kernel
theorem dX12_opensFirst_145 : decode cX12_opensFirst 145 = .ok (.iload_n 3, 1) := by decide +kernel
theorem dX12_opensFirst_146 : decode cX12_opensFirst 146 = .ok (.iconst 1, 1) := by decide +kernel
theorem dX12_opensFirst_147 : decode cX12_opensFirst 147 = .ok (.iadd, 1) := by decide +kernel
theorem dX12_opensFirst_148 : decode cX12_opensFirst 148 = .ok (.iload 4, 2) := by decide +kernel
theorem dX12_opensFirst_150 : decode cX12_opensFirst 150 = .ok (.invokevirtual 385, 3) := by decide +kernel
theorem dX12_opensFirst_153 : decode cX12_opensFirst 153 = .ok (.ireturn, 1) := by decide +kernel
theorem dX12_soonest_0 : decode cX12_soonest 0 = .ok (.aload_n 0, 1) := by decide +kernel
theorem dX12_soonest_1 : decode cX12_soonest 1 = .ok (.iconst 0, 1) := by decide +kernel
theorem dX12_soonest_2 : decode cX12_soonest 2 = .ok (.putfield 93, 3) := by decide +kernel
theorem dX12_soonest_5 : decode cX12_soonest 5 = .ok (.aload_n 0, 1) := by decide +kernel
theorem dX12_soonest_6 : decode cX12_soonest 6 = .ok (.getfield 285, 3) := by decide +kernel
theorem dX12_soonest_9 : decode cX12_soonest 9 = .ok (.ifCond .eq 47, 3) := by decide +kernel
theorem dX12_soonest_12 : decode cX12_soonest 12 = .ok (.iload_n 1, 1) := by decide +kernel
theorem dX12_soonest_13 : decode cX12_soonest 13 = .ok (.i2l, 1) := by decide +kernel
theorem dX12_soonest_14 : decode cX12_soonest 14 = .ok (.lconst 1, 1) := by decide +kernel
theorem dX12_soonest_15 : decode cX12_soonest 15 = .ok (.ldc2_w 369, 3) := by decide +kernel
theorem dX12_soonest_18 : decode cX12_soonest 18 = .ok (.invokestatic 214, 3) := by decide +kernel
theorem dX12_soonest_21 : decode cX12_soonest 21 = .ok (.ifCond .eq 35, 3) := by decide +kernel
theorem dX12_soonest_24 : decode cX12_soonest 24 = .ok (.iload_n 3, 1) := by decide +kernel
theorem dX12_soonest_25 : decode cX12_soonest 25 = .ok (.i2l, 1) := by decide +kernel
theorem dX12_soonest_26 : decode cX12_soonest 26 = .ok (.lconst 0, 1) := by decide +kernel
theorem dX12_soonest_27 : decode cX12_soonest 27 = .ok (.lconst 1, 1) := by decide +kernel
theorem dX12_soonest_28 : decode cX12_soonest 28 = .ok (.invokestatic 214, 3) := by decide +kernel
theorem dX12_soonest_31 : decode cX12_soonest 31 = .ok (.ifCond .eq 25, 3) := by decide +kernel
theorem dX12_soonest_34 : decode cX12_soonest 34 = .ok (.aload_n 0, 1) := by decide +kernel
theorem dX12_soonest_35 : decode cX12_soonest 35 = .ok (.getfield 61, 3) := by decide +kernel
theorem dX12_soonest_38 : decode cX12_soonest 38 = .ok (.bipush 7, 2) := by decide +kernel
theorem dX12_soonest_40 : decode cX12_soonest 40 = .ok (.aload_n 0, 1) := by decide +kernel
theorem dX12_soonest_41 : decode cX12_soonest 41 = .ok (.getfield 61, 3) := by decide +kernel
theorem dX12_soonest_44 : decode cX12_soonest 44 = .ok (.bipush 64, 2) := by decide +kernel
theorem dX12_soonest_46 : decode cX12_soonest 46 = .ok (.iaload, 1) := by decide +kernel
theorem dX12_soonest_47 : decode cX12_soonest 47 = .ok (.imul, 1) := by decide +kernel
theorem dX12_soonest_48 : decode cX12_soonest 48 = .ok (.bipush 6, 2) := by decide +kernel
theorem dX12_soonest_50 : decode cX12_soonest 50 = .ok (.iadd, 1) := by decide +kernel
theorem dX12_soonest_51 : decode cX12_soonest 51 = .ok (.iaload, 1) := by decide +kernel
theorem dX12_soonest_52 : decode cX12_soonest 52 = .ok (.iconst 1, 1) := by decide +kernel
theorem dX12_soonest_53 : decode cX12_soonest 53 = .ok (.if_icmp .ne 7, 3) := by decide +kernel
theorem dX12_soonest_56 : decode cX12_soonest 56 = .ok (.ldc_w 389, 3) := by decide +kernel
theorem dX12_soonest_59 : decode cX12_soonest 59 = .ok (.ireturn, 1) := by decide +kernel
theorem dX12_soonest_60 : decode cX12_soonest 60 = .ok (.aload_n 0, 1) := by decide +kernel
theorem dX12_soonest_61 : decode cX12_soonest 61 = .ok (.getfield 61, 3) := by decide +kernel
theorem dX12_soonest_64 : decode cX12_soonest 64 = .ok (.bipush 7, 2) := by decide +kernel
theorem dX12_soonest_66 : decode cX12_soonest 66 = .ok (.aload_n 0, 1) := by decide +kernel
theorem dX12_soonest_67 : decode cX12_soonest 67 = .ok (.getfield 61, 3) := by decide +kernel
theorem dX12_soonest_70 : decode cX12_soonest 70 = .ok (.bipush 64, 2) := by decide +kernel
theorem dX12_soonest_72 : decode cX12_soonest 72 = .ok (.iaload, 1) := by decide +kernel
theorem dX12_soonest_73 : decode cX12_soonest 73 = .ok (.imul, 1) := by decide +kernel
theorem dX12_soonest_74 : decode cX12_soonest 74 = .ok (.iconst 5, 1) := by decide +kernel
theorem dX12_soonest_75 : decode cX12_soonest 75 = .ok (.iadd, 1) := by decide +kernel
theorem dX12_soonest_76 : decode cX12_soonest 76 = .ok (.iaload, 1) := by decide +kernel
theorem dX12_soonest_77 : decode cX12_soonest 77 = .ok (.iconst 1, 1) := by decide +kernel
theorem dX12_soonest_78 : decode cX12_soonest 78 = .ok (.if_icmp .ne 13, 3) := by decide +kernel
theorem dX12_soonest_81 : decode cX12_soonest 81 = .ok (.iload_n 3, 1) := by decide +kernel
theorem dX12_soonest_82 : decode cX12_soonest 82 = .ok (.ifCond .ne 7, 3) := by decide +kernel
theorem dX12_soonest_85 : decode cX12_soonest 85 = .ok (.iconst 0, 1) := by decide +kernel
theorem dX12_soonest_86 : decode cX12_soonest 86 = .ok (.goto 4, 3) := by decide +kernel
theorem dX12_soonest_89 : decode cX12_soonest 89 = .ok (.iconst (-1), 1) := by decide +kernel
theorem dX12_soonest_90 : decode cX12_soonest 90 = .ok (.ireturn, 1) := by decide +kernel
theorem dX12_soonest_91 : decode cX12_soonest 91 = .ok (.iconst 0, 1) := by decide +kernel
theorem dX12_soonest_92 : decode cX12_soonest 92 = .ok (.istore 4, 2) := by decide +kernel
theorem dX12_soonest_94 : decode cX12_soonest 94 = .ok (.iload 4, 2) := by decide +kernel
theorem dX12_soonest_96 : decode cX12_soonest 96 = .ok (.bipush 66, 2) := by decide +kernel
theorem dX12_soonest_98 : decode cX12_soonest 98 = .ok (.if_icmp .ge 23, 3) := by decide +kernel
theorem dX12_soonest_101 : decode cX12_soonest 101 = .ok (.aload_n 0, 1) := by decide +kernel
theorem dX12_soonest_102 : decode cX12_soonest 102 = .ok (.getfield 80, 3) := by decide +kernel
theorem dX12_soonest_105 : decode cX12_soonest 105 = .ok (.iload 4, 2) := by decide +kernel
theorem dX12_soonest_107 : decode cX12_soonest 107 = .ok (.aload_n 0, 1) := by decide +kernel
theorem dX12_soonest_108 : decode cX12_soonest 108 = .ok (.getfield 61, 3) := by decide +kernel
theorem dX12_soonest_111 : decode cX12_soonest 111 = .ok (.iload 4, 2) := by decide +kernel
theorem dX12_soonest_113 : decode cX12_soonest 113 = .ok (.iaload, 1) := by decide +kernel
theorem dX12_soonest_114 : decode cX12_soonest 114 = .ok (.iastore, 1) := by decide +kernel
theorem dX12_soonest_115 : decode cX12_soonest 115 = .ok (.iinc 4 1, 3) := by decide +kernel
theorem dX12_soonest_118 : decode cX12_soonest 118 = .ok (.goto (-24), 3) := by decide +kernel
theorem dX12_soonest_121 : decode cX12_soonest 121 = .ok (.iconst 1, 1) := by decide +kernel
theorem dX12_soonest_122 : decode cX12_soonest 122 = .ok (.istore 4, 2) := by decide +kernel
theorem dX12_soonest_124 : decode cX12_soonest 124 = .ok (.iload 4, 2) := by decide +kernel
theorem dX12_soonest_126 : decode cX12_soonest 126 = .ok (.iload_n 1, 1) := by decide +kernel
theorem dX12_soonest_127 : decode cX12_soonest 127 = .ok (.if_icmp .gt 51, 3) := by decide +kernel
theorem dX12_soonest_130 : decode cX12_soonest 130 = .ok (.iconst 0, 1) := by decide +kernel
theorem dX12_soonest_131 : decode cX12_soonest 131 = .ok (.istore 5, 2) := by decide +kernel
theorem dX12_soonest_133 : decode cX12_soonest 133 = .ok (.iload 5, 2) := by decide +kernel
theorem dX12_soonest_135 : decode cX12_soonest 135 = .ok (.sipush 160, 3) := by decide +kernel
theorem dX12_soonest_138 : decode cX12_soonest 138 = .ok (.if_icmp .ge 34, 3) := by decide +kernel
theorem dX12_soonest_141 : decode cX12_soonest 141 = .ok (.aload_n 0, 1) := by decide +kernel
theorem dX12_soonest_142 : decode cX12_soonest 142 = .ok (.iload 5, 2) := by decide +kernel
theorem dX12_soonest_144 : decode cX12_soonest 144 = .ok (.iload 4, 2) := by decide +kernel
theorem dX12_soonest_146 : decode cX12_soonest 146 = .ok (.iconst 0, 1) := by decide +kernel
theorem dX12_soonest_147 : decode cX12_soonest 147 = .ok (.iload_n 2, 1) := by decide +kernel
theorem dX12_soonest_148 : decode cX12_soonest 148 = .ok (.invokevirtual 371, 3) := by decide +kernel
theorem dX12_soonest_151 : decode cX12_soonest 151 = .ok (.ifCond .eq 15, 3) := by decide +kernel
theorem dX12_soonest_154 : decode cX12_soonest 154 = .ok (.iload_n 3, 1) := by decide +kernel
theorem dX12_soonest_155 : decode cX12_soonest 155 = .ok (.ifCond .ne 8, 3) := by decide +kernel
theorem dX12_soonest_158 : decode cX12_soonest 158 = .ok (.iload 4, 2) := by decide +kernel
theorem dX12_soonest_160 : decode cX12_soonest 160 = .ok (.goto 5, 3) := by decide +kernel
theorem dX12_soonest_163 : decode cX12_soonest 163 = .ok (.iload 5, 2) := by decide +kernel
theorem dX12_soonest_165 : decode cX12_soonest 165 = .ok (.ireturn, 1) := by decide +kernel
theorem dX12_soonest_166 : decode cX12_soonest 166 = .ok (.iinc 5 1, 3) := by decide +kernel
theorem dX12_soonest_169 : decode cX12_soonest 169 = .ok (.goto (-36), 3) := by decide +kernel
theorem dX12_soonest_172 : decode cX12_soonest 172 = .ok (.iinc 4 1, 3) := by decide +kernel
theorem dX12_soonest_175 : decode cX12_soonest 175 = .ok (.goto (-51), 3) := by decide +kernel
theorem dX12_soonest_178 : decode cX12_soonest 178 = .ok (.ldc_w 389, 3) := by decide +kernel
theorem dX12_soonest_181 : decode cX12_soonest 181 = .ok (.ireturn, 1) := by decide +kernel
theorem dX12_goOrder_0 : decode cX12_goOrder 0 = .ok (.iload_n 3, 1) := by decide +kernel
theorem dX12_goOrder_1 : decode cX12_goOrder 1 = .ok (.aload_n 0, 1) := by decide +kernel
theorem dX12_goOrder_2 : decode cX12_goOrder 2 = .ok (.getfield 288, 3) := by decide +kernel
theorem dX12_goOrder_5 : decode cX12_goOrder 5 = .ok (.if_icmp .ne 39, 3) := by decide +kernel
theorem dX12_goOrder_8 : decode cX12_goOrder 8 = .ok (.iload 4, 2) := by decide +kernel
theorem dX12_goOrder_10 : decode cX12_goOrder 10 = .ok (.iconst (-1), 1) := by decide +kernel
theorem dX12_goOrder_11 : decode cX12_goOrder 11 = .ok (.if_icmp .eq 20, 3) := by decide +kernel
theorem dX12_goOrder_14 : decode cX12_goOrder 14 = .ok (.aload_n 0, 1) := by decide +kernel
theorem dX12_goOrder_15 : decode cX12_goOrder 15 = .ok (.getfield 390, 3) := by decide +kernel
theorem dX12_goOrder_18 : decode cX12_goOrder 18 = .ok (.iconst (-1), 1) := by decide +kernel
theorem dX12_goOrder_19 : decode cX12_goOrder 19 = .ok (.if_icmp .eq 13, 3) := by decide +kernel
theorem dX12_goOrder_22 : decode cX12_goOrder 22 = .ok (.iload 4, 2) := by decide +kernel
theorem dX12_goOrder_24 : decode cX12_goOrder 24 = .ok (.aload_n 0, 1) := by decide +kernel
theorem dX12_goOrder_25 : decode cX12_goOrder 25 = .ok (.getfield 393, 3) := by decide +kernel
theorem dX12_goOrder_28 : decode cX12_goOrder 28 = .ok (.if_icmp .lt 4, 3) := by decide +kernel
theorem dX12_goOrder_31 : decode cX12_goOrder 31 = .ok (.return_, 1) := by decide +kernel
theorem dX12_goOrder_32 : decode cX12_goOrder 32 = .ok (.aload_n 0, 1) := by decide +kernel
theorem dX12_goOrder_33 : decode cX12_goOrder 33 = .ok (.iload_n 2, 1) := by decide +kernel
theorem dX12_goOrder_34 : decode cX12_goOrder 34 = .ok (.putfield 390, 3) := by decide +kernel
theorem dX12_goOrder_37 : decode cX12_goOrder 37 = .ok (.aload_n 0, 1) := by decide +kernel
theorem dX12_goOrder_38 : decode cX12_goOrder 38 = .ok (.iload 4, 2) := by decide +kernel
theorem dX12_goOrder_40 : decode cX12_goOrder 40 = .ok (.putfield 393, 3) := by decide +kernel
theorem dX12_goOrder_43 : decode cX12_goOrder 43 = .ok (.return_, 1) := by decide +kernel
theorem dX12_goOrder_44 : decode cX12_goOrder 44 = .ok (.iconst 0, 1) := by decide +kernel
theorem dX12_goOrder_45 : decode cX12_goOrder 45 = .ok (.istore 5, 2) := by decide +kernel
theorem dX12_goOrder_47 : decode cX12_goOrder 47 = .ok (.iload 5, 2) := by decide +kernel
theorem dX12_goOrder_49 : decode cX12_goOrder 49 = .ok (.aload_n 0, 1) := by decide +kernel
theorem dX12_goOrder_50 : decode cX12_goOrder 50 = .ok (.getfield 288, 3) := by decide +kernel
theorem dX12_goOrder_53 : decode cX12_goOrder 53 = .ok (.if_icmp .ge 135, 3) := by decide +kernel
theorem dX12_goOrder_56 : decode cX12_goOrder 56 = .ok (.iload_n 1, 1) := by decide +kernel
theorem dX12_goOrder_57 : decode cX12_goOrder 57 = .ok (.iload 5, 2) := by decide +kernel
theorem dX12_goOrder_59 : decode cX12_goOrder 59 = .ok (.invokestatic 241, 3) := by decide +kernel
theorem dX12_goOrder_62 : decode cX12_goOrder 62 = .ok (.ifCond .eq 6, 3) := by decide +kernel
theorem dX12_goOrder_65 : decode cX12_goOrder 65 = .ok (.goto 117, 3) := by decide +kernel
theorem dX12_goOrder_68 : decode cX12_goOrder 68 = .ok (.iload 4, 2) := by decide +kernel
theorem dX12_goOrder_70 : decode cX12_goOrder 70 = .ok (.iconst (-1), 1) := by decide +kernel
theorem dX12_goOrder_71 : decode cX12_goOrder 71 = .ok (.if_icmp .eq 28, 3) := by decide +kernel
theorem dX12_goOrder_74 : decode cX12_goOrder 74 = .ok (.aload_n 0, 1) := by decide +kernel
theorem dX12_goOrder_75 : decode cX12_goOrder 75 = .ok (.iload_n 1, 1) := by decide +kernel
theorem dX12_goOrder_76 : decode cX12_goOrder 76 = .ok (.iconst 1, 1) := by decide +kernel
theorem dX12_goOrder_77 : decode cX12_goOrder 77 = .ok (.iload 5, 2) := by decide +kernel
theorem dX12_goOrder_79 : decode cX12_goOrder 79 = .ok (.ishl, 1) := by decide +kernel
theorem dX12_goOrder_80 : decode cX12_goOrder 80 = .ok (.ior, 1) := by decide +kernel
theorem dX12_goOrder_81 : decode cX12_goOrder 81 = .ok (.bipush 10, 2) := by decide +kernel
theorem dX12_goOrder_83 : decode cX12_goOrder 83 = .ok (.iload_n 2, 1) := by decide +kernel
theorem dX12_goOrder_84 : decode cX12_goOrder 84 = .ok (.imul, 1) := by decide +kernel
theorem dX12_goOrder_85 : decode cX12_goOrder 85 = .ok (.iload 5, 2) := by decide +kernel
theorem dX12_goOrder_87 : decode cX12_goOrder 87 = .ok (.iadd, 1) := by decide +kernel
theorem dX12_goOrder_88 : decode cX12_goOrder 88 = .ok (.iload_n 3, 1) := by decide +kernel
theorem dX12_goOrder_89 : decode cX12_goOrder 89 = .ok (.iconst 1, 1) := by decide +kernel
theorem dX12_goOrder_90 : decode cX12_goOrder 90 = .ok (.iadd, 1) := by decide +kernel
theorem dX12_goOrder_91 : decode cX12_goOrder 91 = .ok (.iload 4, 2) := by decide +kernel
theorem dX12_goOrder_93 : decode cX12_goOrder 93 = .ok (.invokevirtual 396, 3) := by decide +kernel
theorem dX12_goOrder_96 : decode cX12_goOrder 96 = .ok (.goto 86, 3) := by decide +kernel
theorem dX12_goOrder_99 : decode cX12_goOrder 99 = .ok (.aload_n 0, 1) := by decide +kernel
theorem dX12_goOrder_100 : decode cX12_goOrder 100 = .ok (.iload_n 2, 1) := by decide +kernel
theorem dX12_goOrder_101 : decode cX12_goOrder 101 = .ok (.iload_n 3, 1) := by decide +kernel
theorem dX12_goOrder_102 : decode cX12_goOrder 102 = .ok (.invokevirtual 400, 3) := by decide +kernel
theorem dX12_goOrder_105 : decode cX12_goOrder 105 = .ok (.aload_n 0, 1) := by decide +kernel
theorem dX12_goOrder_106 : decode cX12_goOrder 106 = .ok (.aload_n 0, 1) := by decide +kernel
theorem dX12_goOrder_107 : decode cX12_goOrder 107 = .ok (.getfield 64, 3) := by decide +kernel
theorem dX12_goOrder_110 : decode cX12_goOrder 110 = .ok (.iload 5, 2) := by decide +kernel
theorem dX12_goOrder_112 : decode cX12_goOrder 112 = .ok (.iconst (-1), 1) := by decide +kernel
theorem dX12_goOrder_113 : decode cX12_goOrder 113 = .ok (.aload_n 0, 1) := by decide +kernel
theorem dX12_goOrder_114 : decode cX12_goOrder 114 = .ok (.getfield 37, 3) := by decide +kernel
theorem dX12_goOrder_117 : decode cX12_goOrder 117 = .ok (.bipush 6, 2) := by decide +kernel
theorem dX12_goOrder_119 : decode cX12_goOrder 119 = .ok (.aload_n 0, 1) := by decide +kernel
theorem dX12_goOrder_120 : decode cX12_goOrder 120 = .ok (.getfield 64, 3) := by decide +kernel
theorem dX12_goOrder_123 : decode cX12_goOrder 123 = .ok (.bipush 64, 2) := by decide +kernel
theorem dX12_goOrder_125 : decode cX12_goOrder 125 = .ok (.iaload, 1) := by decide +kernel
theorem dX12_goOrder_126 : decode cX12_goOrder 126 = .ok (.imul, 1) := by decide +kernel
theorem dX12_goOrder_127 : decode cX12_goOrder 127 = .ok (.iconst 3, 1) := by decide +kernel
theorem dX12_goOrder_128 : decode cX12_goOrder 128 = .ok (.iadd, 1) := by decide +kernel
theorem dX12_goOrder_129 : decode cX12_goOrder 129 = .ok (.iaload, 1) := by decide +kernel
theorem dX12_goOrder_130 : decode cX12_goOrder 130 = .ok (.iconst 0, 1) := by decide +kernel
theorem dX12_goOrder_131 : decode cX12_goOrder 131 = .ok (.invokevirtual 350, 3) := by decide +kernel
theorem dX12_goOrder_134 : decode cX12_goOrder 134 = .ok (.aload_n 0, 1) := by decide +kernel
theorem dX12_goOrder_135 : decode cX12_goOrder 135 = .ok (.iload_n 1, 1) := by decide +kernel
theorem dX12_goOrder_136 : decode cX12_goOrder 136 = .ok (.iconst 1, 1) := by decide +kernel
theorem dX12_goOrder_137 : decode cX12_goOrder 137 = .ok (.iload 5, 2) := by decide +kernel
theorem dX12_goOrder_139 : decode cX12_goOrder 139 = .ok (.ishl, 1) := by decide +kernel
theorem dX12_goOrder_140 : decode cX12_goOrder 140 = .ok (.ior, 1) := by decide +kernel
theorem dX12_goOrder_141 : decode cX12_goOrder 141 = .ok (.bipush 10, 2) := by decide +kernel
theorem dX12_goOrder_143 : decode cX12_goOrder 143 = .ok (.iload_n 2, 1) := by decide +kernel
theorem dX12_goOrder_144 : decode cX12_goOrder 144 = .ok (.imul, 1) := by decide +kernel
theorem dX12_goOrder_145 : decode cX12_goOrder 145 = .ok (.iload 5, 2) := by decide +kernel
theorem dX12_goOrder_147 : decode cX12_goOrder 147 = .ok (.iadd, 1) := by decide +kernel
theorem dX12_goOrder_148 : decode cX12_goOrder 148 = .ok (.iload_n 3, 1) := by decide +kernel
theorem dX12_goOrder_149 : decode cX12_goOrder 149 = .ok (.iconst 1, 1) := by decide +kernel
theorem dX12_goOrder_150 : decode cX12_goOrder 150 = .ok (.iadd, 1) := by decide +kernel
theorem dX12_goOrder_151 : decode cX12_goOrder 151 = .ok (.aload_n 0, 1) := by decide +kernel
theorem dX12_goOrder_152 : decode cX12_goOrder 152 = .ok (.getfield 64, 3) := by decide +kernel
theorem dX12_goOrder_155 : decode cX12_goOrder 155 = .ok (.bipush 7, 2) := by decide +kernel
theorem dX12_goOrder_157 : decode cX12_goOrder 157 = .ok (.aload_n 0, 1) := by decide +kernel
theorem dX12_goOrder_158 : decode cX12_goOrder 158 = .ok (.getfield 64, 3) := by decide +kernel
theorem dX12_goOrder_161 : decode cX12_goOrder 161 = .ok (.bipush 64, 2) := by decide +kernel
theorem dX12_goOrder_163 : decode cX12_goOrder 163 = .ok (.iaload, 1) := by decide +kernel
theorem dX12_goOrder_164 : decode cX12_goOrder 164 = .ok (.imul, 1) := by decide +kernel
theorem dX12_goOrder_165 : decode cX12_goOrder 165 = .ok (.iconst 5, 1) := by decide +kernel
theorem dX12_goOrder_166 : decode cX12_goOrder 166 = .ok (.iadd, 1) := by decide +kernel
theorem dX12_goOrder_167 : decode cX12_goOrder 167 = .ok (.iaload, 1) := by decide +kernel
theorem dX12_goOrder_168 : decode cX12_goOrder 168 = .ok (.iconst 1, 1) := by decide +kernel
theorem dX12_goOrder_169 : decode cX12_goOrder 169 = .ok (.if_icmp .ne 9, 3) := by decide +kernel
theorem dX12_goOrder_172 : decode cX12_goOrder 172 = .ok (.iload_n 3, 1) := by decide +kernel
theorem dX12_goOrder_173 : decode cX12_goOrder 173 = .ok (.iconst 1, 1) := by decide +kernel
theorem dX12_goOrder_174 : decode cX12_goOrder 174 = .ok (.iadd, 1) := by decide +kernel
theorem dX12_goOrder_175 : decode cX12_goOrder 175 = .ok (.goto 4, 3) := by decide +kernel
theorem dX12_goOrder_178 : decode cX12_goOrder 178 = .ok (.iconst (-1), 1) := by decide +kernel
theorem dX12_goOrder_179 : decode cX12_goOrder 179 = .ok (.invokevirtual 396, 3) := by decide +kernel
theorem dX12_goOrder_182 : decode cX12_goOrder 182 = .ok (.iinc 5 1, 3) := by decide +kernel
theorem dX12_goOrder_185 : decode cX12_goOrder 185 = .ok (.goto (-138), 3) := by decide +kernel
theorem dX12_goOrder_188 : decode cX12_goOrder 188 = .ok (.return_, 1) := by decide +kernel
theorem dX12_lineUp_0 : decode cX12_lineUp 0 = .ok (.aload_n 0, 1) := by decide +kernel
theorem dX12_lineUp_1 : decode cX12_lineUp 1 = .ok (.aload_n 0, 1) := by decide +kernel
theorem dX12_lineUp_2 : decode cX12_lineUp 2 = .ok (.getfield 61, 3) := by decide +kernel
theorem dX12_lineUp_5 : decode cX12_lineUp 5 = .ok (.aload_n 0, 1) := by decide +kernel
theorem dX12_lineUp_6 : decode cX12_lineUp 6 = .ok (.getfield 64, 3) := by decide +kernel
theorem dX12_lineUp_9 : decode cX12_lineUp 9 = .ok (.invokevirtual 404, 3) := by decide +kernel
theorem dX12_lineUp_12 : decode cX12_lineUp 12 = .ok (.iconst 1, 1) := by decide +kernel
theorem dX12_lineUp_13 : decode cX12_lineUp 13 = .ok (.istore_n 3, 1) := by decide +kernel
theorem dX12_lineUp_14 : decode cX12_lineUp 14 = .ok (.iconst 1, 1) := by decide +kernel
theorem dX12_lineUp_15 : decode cX12_lineUp 15 = .ok (.istore 4, 2) := by decide +kernel
theorem dX12_lineUp_17 : decode cX12_lineUp 17 = .ok (.iload 4, 2) := by decide +kernel
theorem dX12_lineUp_19 : decode cX12_lineUp 19 = .ok (.iload_n 2, 1) := by decide +kernel
theorem dX12_lineUp_20 : decode cX12_lineUp 20 = .ok (.if_icmp .ge 14, 3) := by decide +kernel
theorem dX12_lineUp_23 : decode cX12_lineUp 23 = .ok (.iload_n 3, 1) := by decide +kernel
theorem dX12_lineUp_24 : decode cX12_lineUp 24 = .ok (.bipush 10, 2) := by decide +kernel
theorem dX12_lineUp_26 : decode cX12_lineUp 26 = .ok (.imul, 1) := by decide +kernel
theorem dX12_lineUp_27 : decode cX12_lineUp 27 = .ok (.istore_n 3, 1) := by decide +kernel
theorem dX12_lineUp_28 : decode cX12_lineUp 28 = .ok (.iinc 4 1, 3) := by decide +kernel
theorem dX12_lineUp_31 : decode cX12_lineUp 31 = .ok (.goto (-14), 3) := by decide +kernel
theorem dX12_lineUp_34 : decode cX12_lineUp 34 = .ok (.iconst 0, 1) := by decide +kernel
theorem dX12_lineUp_35 : decode cX12_lineUp 35 = .ok (.istore 4, 2) := by decide +kernel
theorem dX12_lineUp_37 : decode cX12_lineUp 37 = .ok (.iload 4, 2) := by decide +kernel
theorem dX12_lineUp_39 : decode cX12_lineUp 39 = .ok (.iload_n 2, 1) := by decide +kernel
theorem dX12_lineUp_40 : decode cX12_lineUp 40 = .ok (.if_icmp .ge 47, 3) := by decide +kernel
theorem dX12_lineUp_43 : decode cX12_lineUp 43 = .ok (.aload_n 0, 1) := by decide +kernel
theorem dX12_lineUp_44 : decode cX12_lineUp 44 = .ok (.aload_n 0, 1) := by decide +kernel
theorem dX12_lineUp_45 : decode cX12_lineUp 45 = .ok (.getfield 64, 3) := by decide +kernel
theorem dX12_lineUp_48 : decode cX12_lineUp 48 = .ok (.iload_n 1, 1) := by decide +kernel
theorem dX12_lineUp_49 : decode cX12_lineUp 49 = .ok (.iload_n 3, 1) := by decide +kernel
theorem dX12_lineUp_50 : decode cX12_lineUp 50 = .ok (.idiv, 1) := by decide +kernel
theorem dX12_lineUp_51 : decode cX12_lineUp 51 = .ok (.bipush 10, 2) := by decide +kernel
theorem dX12_lineUp_53 : decode cX12_lineUp 53 = .ok (.irem, 1) := by decide +kernel
theorem dX12_lineUp_54 : decode cX12_lineUp 54 = .ok (.iconst (-1), 1) := by decide +kernel
theorem dX12_lineUp_55 : decode cX12_lineUp 55 = .ok (.aload_n 0, 1) := by decide +kernel
theorem dX12_lineUp_56 : decode cX12_lineUp 56 = .ok (.getfield 37, 3) := by decide +kernel
theorem dX12_lineUp_59 : decode cX12_lineUp 59 = .ok (.bipush 6, 2) := by decide +kernel
theorem dX12_lineUp_61 : decode cX12_lineUp 61 = .ok (.aload_n 0, 1) := by decide +kernel
theorem dX12_lineUp_62 : decode cX12_lineUp 62 = .ok (.getfield 64, 3) := by decide +kernel
theorem dX12_lineUp_65 : decode cX12_lineUp 65 = .ok (.bipush 64, 2) := by decide +kernel
theorem dX12_lineUp_67 : decode cX12_lineUp 67 = .ok (.iaload, 1) := by decide +kernel
theorem dX12_lineUp_68 : decode cX12_lineUp 68 = .ok (.imul, 1) := by decide +kernel
theorem dX12_lineUp_69 : decode cX12_lineUp 69 = .ok (.iconst 3, 1) := by decide +kernel
theorem dX12_lineUp_70 : decode cX12_lineUp 70 = .ok (.iadd, 1) := by decide +kernel
theorem dX12_lineUp_71 : decode cX12_lineUp 71 = .ok (.iaload, 1) := by decide +kernel
theorem dX12_lineUp_72 : decode cX12_lineUp 72 = .ok (.iconst 0, 1) := by decide +kernel
theorem dX12_lineUp_73 : decode cX12_lineUp 73 = .ok (.invokevirtual 350, 3) := by decide +kernel
theorem dX12_lineUp_76 : decode cX12_lineUp 76 = .ok (.iload_n 3, 1) := by decide +kernel
theorem dX12_lineUp_77 : decode cX12_lineUp 77 = .ok (.bipush 10, 2) := by decide +kernel
theorem dX12_lineUp_79 : decode cX12_lineUp 79 = .ok (.idiv, 1) := by decide +kernel
theorem dX12_lineUp_80 : decode cX12_lineUp 80 = .ok (.istore_n 3, 1) := by decide +kernel
theorem dX12_lineUp_81 : decode cX12_lineUp 81 = .ok (.iinc 4 1, 3) := by decide +kernel
theorem dX12_lineUp_84 : decode cX12_lineUp 84 = .ok (.goto (-47), 3) := by decide +kernel
theorem dX12_lineUp_87 : decode cX12_lineUp 87 = .ok (.return_, 1) := by decide +kernel
theorem dX12_order_0 : decode cX12_order 0 = .ok (.aload_n 0, 1) := by decide +kernel
theorem dX12_order_1 : decode cX12_order 1 = .ok (.iconst 0, 1) := by decide +kernel
theorem dX12_order_2 : decode cX12_order 2 = .ok (.putfield 93, 3) := by decide +kernel
theorem dX12_order_5 : decode cX12_order 5 = .ok (.aload_n 0, 1) := by decide +kernel
theorem dX12_order_6 : decode cX12_order 6 = .ok (.invokevirtual 364, 3) := by decide +kernel
theorem dX12_order_9 : decode cX12_order 9 = .ok (.ifCond .eq 13, 3) := by decide +kernel
theorem dX12_order_12 : decode cX12_order 12 = .ok (.iload_n 1, 1) := by decide +kernel
theorem dX12_order_13 : decode cX12_order 13 = .ok (.i2l, 1) := by decide +kernel
theorem dX12_order_14 : decode cX12_order 14 = .ok (.lconst 0, 1) := by decide +kernel
theorem dX12_order_15 : decode cX12_order 15 = .ok (.lconst 1, 1) := by decide +kernel
theorem dX12_order_16 : decode cX12_order 16 = .ok (.invokestatic 214, 3) := by decide +kernel
theorem dX12_order_19 : decode cX12_order 19 = .ok (.ifCond .ne 5, 3) := by decide +kernel
theorem dX12_order_22 : decode cX12_order 22 = .ok (.iconst (-1), 1) := by decide +kernel
theorem dX12_order_23 : decode cX12_order 23 = .ok (.ireturn, 1) := by decide +kernel
theorem dX12_order_24 : decode cX12_order 24 = .ok (.aload_n 0, 1) := by decide +kernel
theorem dX12_order_25 : decode cX12_order 25 = .ok (.iconst (-1), 1) := by decide +kernel
theorem dX12_order_26 : decode cX12_order 26 = .ok (.putfield 390, 3) := by decide +kernel
theorem dX12_order_29 : decode cX12_order 29 = .ok (.aload_n 0, 1) := by decide +kernel
theorem dX12_order_30 : decode cX12_order 30 = .ok (.iconst 0, 1) := by decide +kernel
theorem dX12_order_31 : decode cX12_order 31 = .ok (.iconst 0, 1) := by decide +kernel
theorem dX12_order_32 : decode cX12_order 32 = .ok (.iconst 0, 1) := by decide +kernel
theorem dX12_order_33 : decode cX12_order 33 = .ok (.iconst (-1), 1) := by decide +kernel
theorem dX12_order_34 : decode cX12_order 34 = .ok (.invokevirtual 396, 3) := by decide +kernel
theorem dX12_order_37 : decode cX12_order 37 = .ok (.iload_n 1, 1) := by decide +kernel
theorem dX12_order_38 : decode cX12_order 38 = .ok (.ifCond .ne 10, 3) := by decide +kernel
theorem dX12_order_41 : decode cX12_order 41 = .ok (.aload_n 0, 1) := by decide +kernel
theorem dX12_order_42 : decode cX12_order 42 = .ok (.getfield 390, 3) := by decide +kernel
theorem dX12_order_45 : decode cX12_order 45 = .ok (.goto 19, 3) := by decide +kernel
theorem dX12_order_48 : decode cX12_order 48 = .ok (.aload_n 0, 1) := by decide +kernel
theorem dX12_order_49 : decode cX12_order 49 = .ok (.getfield 390, 3) := by decide +kernel
theorem dX12_order_52 : decode cX12_order 52 = .ok (.iconst (-1), 1) := by decide +kernel
theorem dX12_order_53 : decode cX12_order 53 = .ok (.if_icmp .ne 7, 3) := by decide +kernel
theorem dX12_order_56 : decode cX12_order 56 = .ok (.iconst (-1), 1) := by decide +kernel
theorem dX12_order_57 : decode cX12_order 57 = .ok (.goto 7, 3) := by decide +kernel
theorem dX12_order_60 : decode cX12_order 60 = .ok (.aload_n 0, 1) := by decide +kernel
theorem dX12_order_61 : decode cX12_order 61 = .ok (.getfield 393, 3) := by decide +kernel
theorem dX12_order_64 : decode cX12_order 64 = .ok (.ireturn, 1) := by decide +kernel
theorem dX12_goPlan_0 : decode cX12_goPlan 0 = .ok (.aload_n 0, 1) := by decide +kernel
theorem dX12_goPlan_1 : decode cX12_goPlan 1 = .ok (.aload_n 0, 1) := by decide +kernel
theorem dX12_goPlan_2 : decode cX12_goPlan 2 = .ok (.getfield 61, 3) := by decide +kernel
theorem dX12_goPlan_5 : decode cX12_goPlan 5 = .ok (.aload_n 0, 1) := by decide +kernel
theorem dX12_goPlan_6 : decode cX12_goPlan 6 = .ok (.getfield 64, 3) := by decide +kernel
theorem dX12_goPlan_9 : decode cX12_goPlan 9 = .ok (.invokevirtual 404, 3) := by decide +kernel
theorem dX12_goPlan_12 : decode cX12_goPlan 12 = .ok (.aload_n 0, 1) := by decide +kernel
theorem dX12_goPlan_13 : decode cX12_goPlan 13 = .ok (.iconst (-1), 1) := by decide +kernel
theorem dX12_goPlan_14 : decode cX12_goPlan 14 = .ok (.putfield 408, 3) := by decide +kernel
theorem dX12_goPlan_17 : decode cX12_goPlan 17 = .ok (.aload_n 0, 1) := by decide +kernel
theorem dX12_goPlan_18 : decode cX12_goPlan 18 = .ok (.iconst (-1), 1) := by decide +kernel
theorem dX12_goPlan_19 : decode cX12_goPlan 19 = .ok (.putfield 411, 3) := by decide +kernel
theorem dX12_goPlan_22 : decode cX12_goPlan 22 = .ok (.aload_n 0, 1) := by decide +kernel
theorem dX12_goPlan_23 : decode cX12_goPlan 23 = .ok (.iconst 0, 1) := by decide +kernel
theorem dX12_goPlan_24 : decode cX12_goPlan 24 = .ok (.putfield 414, 3) := by decide +kernel
theorem dX12_goPlan_27 : decode cX12_goPlan 27 = .ok (.iconst 0, 1) := by decide +kernel
theorem dX12_goPlan_28 : decode cX12_goPlan 28 = .ok (.istore_n 2, 1) := by decide +kernel
theorem dX12_goPlan_29 : decode cX12_goPlan 29 = .ok (.iload_n 2, 1) := by decide +kernel
theorem dX12_goPlan_30 : decode cX12_goPlan 30 = .ok (.aload_n 0, 1) := by decide +kernel
theorem dX12_goPlan_31 : decode cX12_goPlan 31 = .ok (.getfield 58, 3) := by decide +kernel
theorem dX12_goPlan_34 : decode cX12_goPlan 34 = .ok (.iload_n 1, 1) := by decide +kernel
theorem dX12_goPlan_35 : decode cX12_goPlan 35 = .ok (.iaload, 1) := by decide +kernel
theorem dX12_goPlan_36 : decode cX12_goPlan 36 = .ok (.if_icmp .ge 126, 3) := by decide +kernel
theorem dX12_goPlan_39 : decode cX12_goPlan 39 = .ok (.aload_n 0, 1) := by decide +kernel
theorem dX12_goPlan_40 : decode cX12_goPlan 40 = .ok (.getfield 64, 3) := by decide +kernel
theorem dX12_goPlan_43 : decode cX12_goPlan 43 = .ok (.invokestatic 354, 3) := by decide +kernel
theorem dX12_goPlan_46 : decode cX12_goPlan 46 = .ok (.ifCond .ne 116, 3) := by decide +kernel
theorem dX12_goPlan_49 : decode cX12_goPlan 49 = .ok (.aload_n 0, 1) := by decide +kernel
theorem dX12_goPlan_50 : decode cX12_goPlan 50 = .ok (.getfield 55, 3) := by decide +kernel
theorem dX12_goPlan_53 : decode cX12_goPlan 53 = .ok (.bipush 16, 2) := by decide +kernel
theorem dX12_goPlan_55 : decode cX12_goPlan 55 = .ok (.iload_n 1, 1) := by decide +kernel
theorem dX12_goPlan_56 : decode cX12_goPlan 56 = .ok (.imul, 1) := by decide +kernel
theorem dX12_goPlan_57 : decode cX12_goPlan 57 = .ok (.iload_n 2, 1) := by decide +kernel
theorem dX12_goPlan_58 : decode cX12_goPlan 58 = .ok (.iadd, 1) := by decide +kernel
theorem dX12_goPlan_59 : decode cX12_goPlan 59 = .ok (.iaload, 1) := by decide +kernel
theorem dX12_goPlan_60 : decode cX12_goPlan 60 = .ok (.istore_n 3, 1) := by decide +kernel
theorem dX12_goPlan_61 : decode cX12_goPlan 61 = .ok (.aload_n 0, 1) := by decide +kernel
theorem dX12_goPlan_62 : decode cX12_goPlan 62 = .ok (.iload_n 3, 1) := by decide +kernel
theorem dX12_goPlan_63 : decode cX12_goPlan 63 = .ok (.invokevirtual 375, 3) := by decide +kernel
theorem dX12_goPlan_66 : decode cX12_goPlan 66 = .ok (.ifCond .eq 12, 3) := by decide +kernel
theorem dX12_goPlan_69 : decode cX12_goPlan 69 = .ok (.aload_n 0, 1) := by decide +kernel
theorem dX12_goPlan_70 : decode cX12_goPlan 70 = .ok (.aload_n 0, 1) := by decide +kernel
theorem dX12_goPlan_71 : decode cX12_goPlan 71 = .ok (.getfield 64, 3) := by decide +kernel
theorem dX12_goPlan_74 : decode cX12_goPlan 74 = .ok (.iload_n 3, 1) := by decide +kernel
theorem dX12_goPlan_75 : decode cX12_goPlan 75 = .ok (.invokevirtual 382, 3) := by decide +kernel
theorem dX12_goPlan_78 : decode cX12_goPlan 78 = .ok (.aload_n 0, 1) := by decide +kernel
theorem dX12_goPlan_79 : decode cX12_goPlan 79 = .ok (.aload_n 0, 1) := by decide +kernel
theorem dX12_goPlan_80 : decode cX12_goPlan 80 = .ok (.getfield 414, 3) := by decide +kernel
theorem dX12_goPlan_83 : decode cX12_goPlan 83 = .ok (.ifCond .ne 8, 3) := by decide +kernel
theorem dX12_goPlan_86 : decode cX12_goPlan 86 = .ok (.iload_n 3, 1) := by decide +kernel
theorem dX12_goPlan_87 : decode cX12_goPlan 87 = .ok (.iconst 2, 1) := by decide +kernel
theorem dX12_goPlan_88 : decode cX12_goPlan 88 = .ok (.if_icmp .ne 7, 3) := by decide +kernel
theorem dX12_goPlan_91 : decode cX12_goPlan 91 = .ok (.iconst 1, 1) := by decide +kernel
theorem dX12_goPlan_92 : decode cX12_goPlan 92 = .ok (.goto 4, 3) := by decide +kernel
theorem dX12_goPlan_95 : decode cX12_goPlan 95 = .ok (.iconst 0, 1) := by decide +kernel
theorem dX12_goPlan_96 : decode cX12_goPlan 96 = .ok (.putfield 414, 3) := by decide +kernel
theorem dX12_goPlan_99 : decode cX12_goPlan 99 = .ok (.aload_n 0, 1) := by decide +kernel
theorem dX12_goPlan_100 : decode cX12_goPlan 100 = .ok (.getfield 64, 3) := by decide +kernel
theorem dX12_goPlan_103 : decode cX12_goPlan 103 = .ok (.bipush 7, 2) := by decide +kernel
theorem dX12_goPlan_105 : decode cX12_goPlan 105 = .ok (.aload_n 0, 1) := by decide +kernel
theorem dX12_goPlan_106 : decode cX12_goPlan 106 = .ok (.getfield 64, 3) := by decide +kernel
theorem dX12_goPlan_109 : decode cX12_goPlan 109 = .ok (.bipush 64, 2) := by decide +kernel
theorem dX12_goPlan_111 : decode cX12_goPlan 111 = .ok (.iaload, 1) := by decide +kernel
theorem dX12_goPlan_112 : decode cX12_goPlan 112 = .ok (.imul, 1) := by decide +kernel
theorem dX12_goPlan_113 : decode cX12_goPlan 113 = .ok (.iconst 5, 1) := by decide +kernel
theorem dX12_goPlan_114 : decode cX12_goPlan 114 = .ok (.iadd, 1) := by decide +kernel
theorem dX12_goPlan_115 : decode cX12_goPlan 115 = .ok (.iaload, 1) := by decide +kernel
theorem dX12_goPlan_116 : decode cX12_goPlan 116 = .ok (.iconst 1, 1) := by decide +kernel
theorem dX12_goPlan_117 : decode cX12_goPlan 117 = .ok (.if_icmp .ne 10, 3) := by decide +kernel
theorem dX12_goPlan_120 : decode cX12_goPlan 120 = .ok (.aload_n 0, 1) := by decide +kernel
theorem dX12_goPlan_121 : decode cX12_goPlan 121 = .ok (.iload_n 2, 1) := by decide +kernel
theorem dX12_goPlan_122 : decode cX12_goPlan 122 = .ok (.iconst 1, 1) := by decide +kernel
theorem dX12_goPlan_123 : decode cX12_goPlan 123 = .ok (.iadd, 1) := by decide +kernel
theorem dX12_goPlan_124 : decode cX12_goPlan 124 = .ok (.putfield 408, 3) := by decide +kernel
theorem dX12_goPlan_127 : decode cX12_goPlan 127 = .ok (.aload_n 0, 1) := by decide +kernel
theorem dX12_goPlan_128 : decode cX12_goPlan 128 = .ok (.getfield 64, 3) := by decide +kernel
theorem dX12_goPlan_131 : decode cX12_goPlan 131 = .ok (.bipush 7, 2) := by decide +kernel
theorem dX12_goPlan_133 : decode cX12_goPlan 133 = .ok (.aload_n 0, 1) := by decide +kernel
theorem dX12_goPlan_134 : decode cX12_goPlan 134 = .ok (.getfield 64, 3) := by decide +kernel
theorem dX12_goPlan_137 : decode cX12_goPlan 137 = .ok (.bipush 64, 2) := by decide +kernel
theorem dX12_goPlan_139 : decode cX12_goPlan 139 = .ok (.iaload, 1) := by decide +kernel
theorem dX12_goPlan_140 : decode cX12_goPlan 140 = .ok (.imul, 1) := by decide +kernel
theorem dX12_goPlan_141 : decode cX12_goPlan 141 = .ok (.bipush 6, 2) := by decide +kernel
theorem dX12_goPlan_143 : decode cX12_goPlan 143 = .ok (.iadd, 1) := by decide +kernel
theorem dX12_goPlan_144 : decode cX12_goPlan 144 = .ok (.iaload, 1) := by decide +kernel
theorem dX12_goPlan_145 : decode cX12_goPlan 145 = .ok (.iconst 1, 1) := by decide +kernel
theorem dX12_goPlan_146 : decode cX12_goPlan 146 = .ok (.if_icmp .ne 10, 3) := by decide +kernel
theorem dX12_goPlan_149 : decode cX12_goPlan 149 = .ok (.aload_n 0, 1) := by decide +kernel
theorem dX12_goPlan_150 : decode cX12_goPlan 150 = .ok (.iload_n 2, 1) := by decide +kernel
theorem dX12_goPlan_151 : decode cX12_goPlan 151 = .ok (.iconst 1, 1) := by decide +kernel
theorem dX12_goPlan_152 : decode cX12_goPlan 152 = .ok (.iadd, 1) := by decide +kernel
theorem dX12_goPlan_153 : decode cX12_goPlan 153 = .ok (.putfield 411, 3) := by decide +kernel
theorem dX12_goPlan_156 : decode cX12_goPlan 156 = .ok (.iinc 2 1, 3) := by decide +kernel
theorem dX12_goPlan_159 : decode cX12_goPlan 159 = .ok (.goto (-130), 3) := by decide +kernel
theorem dX12_goPlan_162 : decode cX12_goPlan 162 = .ok (.aload_n 0, 1) := by decide +kernel
theorem dX12_goPlan_163 : decode cX12_goPlan 163 = .ok (.aload_n 0, 1) := by decide +kernel
theorem dX12_goPlan_164 : decode cX12_goPlan 164 = .ok (.getfield 64, 3) := by decide +kernel
theorem dX12_goPlan_167 : decode cX12_goPlan 167 = .ok (.bipush 65, 2) := by decide +kernel
theorem dX12_goPlan_169 : decode cX12_goPlan 169 = .ok (.iaload, 1) := by decide +kernel
theorem dX12_goPlan_170 : decode cX12_goPlan 170 = .ok (.aload_n 0, 1) := by decide +kernel
theorem dX12_goPlan_171 : decode cX12_goPlan 171 = .ok (.getfield 61, 3) := by decide +kernel
theorem dX12_goPlan_174 : decode cX12_goPlan 174 = .ok (.bipush 65, 2) := by decide +kernel
theorem dX12_goPlan_176 : decode cX12_goPlan 176 = .ok (.iaload, 1) := by decide +kernel
theorem dX12_goPlan_177 : decode cX12_goPlan 177 = .ok (.isub, 1) := by decide +kernel
theorem dX12_goPlan_178 : decode cX12_goPlan 178 = .ok (.putfield 417, 3) := by decide +kernel
theorem dX12_goPlan_181 : decode cX12_goPlan 181 = .ok (.return_, 1) := by decide +kernel
theorem dX12_run_0 : decode cX12_run 0 = .ok (.aload_n 0, 1) := by decide +kernel
theorem dX12_run_1 : decode cX12_run 1 = .ok (.iconst 0, 1) := by decide +kernel
theorem dX12_run_2 : decode cX12_run 2 = .ok (.putfield 93, 3) := by decide +kernel
theorem dX12_run_5 : decode cX12_run 5 = .ok (.aload_n 0, 1) := by decide +kernel
theorem dX12_run_6 : decode cX12_run 6 = .ok (.invokevirtual 364, 3) := by decide +kernel
theorem dX12_run_9 : decode cX12_run 9 = .ok (.ifCond .eq 31, 3) := by decide +kernel
theorem dX12_run_12 : decode cX12_run 12 = .ok (.iload_n 1, 1) := by decide +kernel
theorem dX12_run_13 : decode cX12_run 13 = .ok (.i2l, 1) := by decide +kernel
theorem dX12_run_14 : decode cX12_run 14 = .ok (.lconst 0, 1) := by decide +kernel
theorem dX12_run_15 : decode cX12_run 15 = .ok (.aload_n 0, 1) := by decide +kernel
theorem dX12_run_16 : decode cX12_run 16 = .ok (.getfield 280, 3) := by decide +kernel
theorem dX12_run_19 : decode cX12_run 19 = .ok (.iconst 1, 1) := by decide +kernel
theorem dX12_run_20 : decode cX12_run 20 = .ok (.isub, 1) := by decide +kernel
theorem dX12_run_21 : decode cX12_run 21 = .ok (.i2l, 1) := by decide +kernel
theorem dX12_run_22 : decode cX12_run 22 = .ok (.invokestatic 214, 3) := by decide +kernel
theorem dX12_run_25 : decode cX12_run 25 = .ok (.ifCond .eq 15, 3) := by decide +kernel
theorem dX12_run_28 : decode cX12_run 28 = .ok (.iload_n 2, 1) := by decide +kernel
theorem dX12_run_29 : decode cX12_run 29 = .ok (.i2l, 1) := by decide +kernel
