theorem dX9_number_132 : decode cX9_number 132 = .ok (.if_icmp .le 13, 3) := by decide +kernel
theorem dX9_number_135 : decode cX9_number 135 = .ok (.aload_n 0, 1) := by decide +kernel
theorem dX9_number_136 : decode cX9_number 136 = .ok (.aload_n 0, 1) := by decide +kernel
theorem dX9_number_137 : decode cX9_number 137 = .ok (.getfield 22, 3) := by decide +kernel
theorem dX9_number_140 : decode cX9_number 140 = .ok (.iconst 1, 1) := by decide +kernel
theorem dX9_number_141 : decode cX9_number 141 = .ok (.isub, 1) := by decide +kernel
theorem dX9_number_142 : decode cX9_number 142 = .ok (.putfield 15, 3) := by decide +kernel
theorem dX9_number_145 : decode cX9_number 145 = .ok (.iload 4, 2) := by decide +kernel
theorem dX9_number_147 : decode cX9_number 147 = .ok (.ireturn, 1) := by decide +kernel
theorem dX10_init_0 : decode cX10_init 0 = .ok (.aload_n 0, 1) := by decide +kernel
theorem dX10_init_1 : decode cX10_init 1 = .ok (.invokespecial 3, 3) := by decide +kernel
theorem dX10_init_4 : decode cX10_init 4 = .ok (.aload_n 0, 1) := by decide +kernel
theorem dX10_init_5 : decode cX10_init 5 = .ok (.iconst 3, 1) := by decide +kernel
theorem dX10_init_6 : decode cX10_init 6 = .ok (.newarray .int, 2) := by decide +kernel
theorem dX10_init_8 : decode cX10_init 8 = .ok (.putfield 9, 3) := by decide +kernel
theorem dX10_init_11 : decode cX10_init 11 = .ok (.aload_n 0, 1) := by decide +kernel
theorem dX10_init_12 : decode cX10_init 12 = .ok (.bipush 62, 2) := by decide +kernel
theorem dX10_init_14 : decode cX10_init 14 = .ok (.newarray .int, 2) := by decide +kernel
theorem dX10_init_16 : decode cX10_init 16 = .ok (.putfield 15, 3) := by decide +kernel
theorem dX10_init_19 : decode cX10_init 19 = .ok (.return_, 1) := by decide +kernel
theorem dX10_clear_0 : decode cX10_clear 0 = .ok (.aload_n 0, 1) := by decide +kernel
theorem dX10_clear_1 : decode cX10_clear 1 = .ok (.getfield 9, 3) := by decide +kernel
theorem dX10_clear_4 : decode cX10_clear 4 = .ok (.iconst 0, 1) := by decide +kernel
theorem dX10_clear_5 : decode cX10_clear 5 = .ok (.invokestatic 18, 3) := by decide +kernel
theorem dX10_clear_8 : decode cX10_clear 8 = .ok (.return_, 1) := by decide +kernel
theorem dX10_take_0 : decode cX10_take 0 = .ok (.aload_n 1, 1) := by decide +kernel
theorem dX10_take_1 : decode cX10_take 1 = .ok (.getfield 9, 3) := by decide +kernel
theorem dX10_take_4 : decode cX10_take 4 = .ok (.iconst 0, 1) := by decide +kernel
theorem dX10_take_5 : decode cX10_take 5 = .ok (.aload_n 0, 1) := by decide +kernel
theorem dX10_take_6 : decode cX10_take 6 = .ok (.getfield 9, 3) := by decide +kernel
theorem dX10_take_9 : decode cX10_take 9 = .ok (.iconst 0, 1) := by decide +kernel
theorem dX10_take_10 : decode cX10_take 10 = .ok (.aload_n 0, 1) := by decide +kernel
theorem dX10_take_11 : decode cX10_take 11 = .ok (.getfield 9, 3) := by decide +kernel
theorem dX10_take_14 : decode cX10_take 14 = .ok (.arraylength, 1) := by decide +kernel
theorem dX10_take_15 : decode cX10_take 15 = .ok (.invokestatic 24, 3) := by decide +kernel
theorem dX10_take_18 : decode cX10_take 18 = .ok (.aload_n 1, 1) := by decide +kernel
theorem dX10_take_19 : decode cX10_take 19 = .ok (.getfield 15, 3) := by decide +kernel
theorem dX10_take_22 : decode cX10_take 22 = .ok (.iconst 0, 1) := by decide +kernel
theorem dX10_take_23 : decode cX10_take 23 = .ok (.aload_n 0, 1) := by decide +kernel
theorem dX10_take_24 : decode cX10_take 24 = .ok (.getfield 15, 3) := by decide +kernel
theorem dX10_take_27 : decode cX10_take 27 = .ok (.iconst 0, 1) := by decide +kernel
theorem dX10_take_28 : decode cX10_take 28 = .ok (.aload_n 0, 1) := by decide +kernel
theorem dX10_take_29 : decode cX10_take 29 = .ok (.getfield 15, 3) := by decide +kernel
theorem dX10_take_32 : decode cX10_take 32 = .ok (.arraylength, 1) := by decide +kernel
theorem dX10_take_33 : decode cX10_take 33 = .ok (.invokestatic 24, 3) := by decide +kernel
theorem dX10_take_36 : decode cX10_take 36 = .ok (.return_, 1) := by decide +kernel
theorem dX10_cellOf_0 : decode cX10_cellOf 0 = .ok (.getstatic 30, 3) := by decide +kernel
theorem dX10_cellOf_3 : decode cX10_cellOf 3 = .ok (.iload_n 0, 1) := by decide +kernel
theorem dX10_cellOf_4 : decode cX10_cellOf 4 = .ok (.iaload, 1) := by decide +kernel
theorem dX10_cellOf_5 : decode cX10_cellOf 5 = .ok (.iload_n 1, 1) := by decide +kernel
theorem dX10_cellOf_6 : decode cX10_cellOf 6 = .ok (.getstatic 33, 3) := by decide +kernel
theorem dX10_cellOf_9 : decode cX10_cellOf 9 = .ok (.iload_n 0, 1) := by decide +kernel
theorem dX10_cellOf_10 : decode cX10_cellOf 10 = .ok (.iaload, 1) := by decide +kernel
theorem dX10_cellOf_11 : decode cX10_cellOf 11 = .ok (.imul, 1) := by decide +kernel
theorem dX10_cellOf_12 : decode cX10_cellOf 12 = .ok (.iadd, 1) := by decide +kernel
theorem dX10_cellOf_13 : decode cX10_cellOf 13 = .ok (.iload_n 2, 1) := by decide +kernel
theorem dX10_cellOf_14 : decode cX10_cellOf 14 = .ok (.iadd, 1) := by decide +kernel
theorem dX10_cellOf_15 : decode cX10_cellOf 15 = .ok (.ireturn, 1) := by decide +kernel
theorem dX10_item_0 : decode cX10_item 0 = .ok (.aload_n 0, 1) := by decide +kernel
theorem dX10_item_1 : decode cX10_item 1 = .ok (.getfield 15, 3) := by decide +kernel
theorem dX10_item_4 : decode cX10_item 4 = .ok (.iload_n 1, 1) := by decide +kernel
theorem dX10_item_5 : decode cX10_item 5 = .ok (.iload_n 2, 1) := by decide +kernel
theorem dX10_item_6 : decode cX10_item 6 = .ok (.iload_n 3, 1) := by decide +kernel
theorem dX10_item_7 : decode cX10_item 7 = .ok (.invokestatic 36, 3) := by decide +kernel
theorem dX10_item_10 : decode cX10_item 10 = .ok (.iaload, 1) := by decide +kernel
theorem dX10_item_11 : decode cX10_item 11 = .ok (.ireturn, 1) := by decide +kernel
theorem dX11_init_0 : decode cX11_init 0 = .ok (.aload_n 0, 1) := by decide +kernel
theorem dX11_init_1 : decode cX11_init 1 = .ok (.invokespecial 1, 3) := by decide +kernel
theorem dX11_init_4 : decode cX11_init 4 = .ok (.aload_n 0, 1) := by decide +kernel
theorem dX11_init_5 : decode cX11_init 5 = .ok (.new 7, 3) := by decide +kernel
theorem dX11_init_8 : decode cX11_init 8 = .ok (.dup, 1) := by decide +kernel
theorem dX11_init_9 : decode cX11_init 9 = .ok (.invokespecial 9, 3) := by decide +kernel
theorem dX11_init_12 : decode cX11_init 12 = .ok (.putfield 10, 3) := by decide +kernel
theorem dX11_init_15 : decode cX11_init 15 = .ok (.aload_n 0, 1) := by decide +kernel
theorem dX11_init_16 : decode cX11_init 16 = .ok (.new 16, 3) := by decide +kernel
theorem dX11_init_19 : decode cX11_init 19 = .ok (.dup, 1) := by decide +kernel
theorem dX11_init_20 : decode cX11_init 20 = .ok (.aload_n 0, 1) := by decide +kernel
theorem dX11_init_21 : decode cX11_init 21 = .ok (.getfield 10, 3) := by decide +kernel
theorem dX11_init_24 : decode cX11_init 24 = .ok (.invokespecial 18, 3) := by decide +kernel
theorem dX11_init_27 : decode cX11_init 27 = .ok (.putfield 21, 3) := by decide +kernel
theorem dX11_init_30 : decode cX11_init 30 = .ok (.aload_n 0, 1) := by decide +kernel
theorem dX11_init_31 : decode cX11_init 31 = .ok (.new 25, 3) := by decide +kernel
theorem dX11_init_34 : decode cX11_init 34 = .ok (.dup, 1) := by decide +kernel
theorem dX11_init_35 : decode cX11_init 35 = .ok (.aload_n 0, 1) := by decide +kernel
theorem dX11_init_36 : decode cX11_init 36 = .ok (.getfield 10, 3) := by decide +kernel
theorem dX11_init_39 : decode cX11_init 39 = .ok (.invokespecial 27, 3) := by decide +kernel
theorem dX11_init_42 : decode cX11_init 42 = .ok (.putfield 28, 3) := by decide +kernel
theorem dX11_init_45 : decode cX11_init 45 = .ok (.aload_n 0, 1) := by decide +kernel
theorem dX11_init_46 : decode cX11_init 46 = .ok (.new 32, 3) := by decide +kernel
theorem dX11_init_49 : decode cX11_init 49 = .ok (.dup, 1) := by decide +kernel
theorem dX11_init_50 : decode cX11_init 50 = .ok (.aload_n 0, 1) := by decide +kernel
theorem dX11_init_51 : decode cX11_init 51 = .ok (.getfield 10, 3) := by decide +kernel
theorem dX11_init_54 : decode cX11_init 54 = .ok (.invokespecial 34, 3) := by decide +kernel
theorem dX11_init_57 : decode cX11_init 57 = .ok (.putfield 35, 3) := by decide +kernel
theorem dX11_init_60 : decode cX11_init 60 = .ok (.aload_n 0, 1) := by decide +kernel
theorem dX11_init_61 : decode cX11_init 61 = .ok (.new 39, 3) := by decide +kernel
theorem dX11_init_64 : decode cX11_init 64 = .ok (.dup, 1) := by decide +kernel
theorem dX11_init_65 : decode cX11_init 65 = .ok (.invokespecial 41, 3) := by decide +kernel
theorem dX11_init_68 : decode cX11_init 68 = .ok (.putfield 42, 3) := by decide +kernel
theorem dX11_init_71 : decode cX11_init 71 = .ok (.aload_n 0, 1) := by decide +kernel
theorem dX11_init_72 : decode cX11_init 72 = .ok (.new 46, 3) := by decide +kernel
theorem dX11_init_75 : decode cX11_init 75 = .ok (.dup, 1) := by decide +kernel
theorem dX11_init_76 : decode cX11_init 76 = .ok (.invokespecial 48, 3) := by decide +kernel
theorem dX11_init_79 : decode cX11_init 79 = .ok (.putfield 49, 3) := by decide +kernel
theorem dX11_init_82 : decode cX11_init 82 = .ok (.aload_n 0, 1) := by decide +kernel
theorem dX11_init_83 : decode cX11_init 83 = .ok (.new 53, 3) := by decide +kernel
theorem dX11_init_86 : decode cX11_init 86 = .ok (.dup, 1) := by decide +kernel
theorem dX11_init_87 : decode cX11_init 87 = .ok (.aload_n 0, 1) := by decide +kernel
theorem dX11_init_88 : decode cX11_init 88 = .ok (.getfield 42, 3) := by decide +kernel
theorem dX11_init_91 : decode cX11_init 91 = .ok (.aload_n 0, 1) := by decide +kernel
theorem dX11_init_92 : decode cX11_init 92 = .ok (.getfield 49, 3) := by decide +kernel
theorem dX11_init_95 : decode cX11_init 95 = .ok (.invokespecial 55, 3) := by decide +kernel
theorem dX11_init_98 : decode cX11_init 98 = .ok (.putfield 58, 3) := by decide +kernel
theorem dX11_init_101 : decode cX11_init 101 = .ok (.aload_n 0, 1) := by decide +kernel
theorem dX11_init_102 : decode cX11_init 102 = .ok (.new 53, 3) := by decide +kernel
theorem dX11_init_105 : decode cX11_init 105 = .ok (.dup, 1) := by decide +kernel
theorem dX11_init_106 : decode cX11_init 106 = .ok (.aload_n 0, 1) := by decide +kernel
theorem dX11_init_107 : decode cX11_init 107 = .ok (.getfield 42, 3) := by decide +kernel
theorem dX11_init_110 : decode cX11_init 110 = .ok (.aload_n 0, 1) := by decide +kernel
theorem dX11_init_111 : decode cX11_init 111 = .ok (.getfield 49, 3) := by decide +kernel
theorem dX11_init_114 : decode cX11_init 114 = .ok (.invokespecial 55, 3) := by decide +kernel
theorem dX11_init_117 : decode cX11_init 117 = .ok (.putfield 62, 3) := by decide +kernel
theorem dX11_init_120 : decode cX11_init 120 = .ok (.aload_n 0, 1) := by decide +kernel
theorem dX11_init_121 : decode cX11_init 121 = .ok (.new 65, 3) := by decide +kernel
theorem dX11_init_124 : decode cX11_init 124 = .ok (.dup, 1) := by decide +kernel
theorem dX11_init_125 : decode cX11_init 125 = .ok (.invokespecial 67, 3) := by decide +kernel
theorem dX11_init_128 : decode cX11_init 128 = .ok (.putfield 68, 3) := by decide +kernel
theorem dX11_init_131 : decode cX11_init 131 = .ok (.aload_n 0, 1) := by decide +kernel
theorem dX11_init_132 : decode cX11_init 132 = .ok (.new 72, 3) := by decide +kernel
theorem dX11_init_135 : decode cX11_init 135 = .ok (.dup, 1) := by decide +kernel
theorem dX11_init_136 : decode cX11_init 136 = .ok (.aload_n 0, 1) := by decide +kernel
theorem dX11_init_137 : decode cX11_init 137 = .ok (.getfield 42, 3) := by decide +kernel
theorem dX11_init_140 : decode cX11_init 140 = .ok (.aload_n 0, 1) := by decide +kernel
theorem dX11_init_141 : decode cX11_init 141 = .ok (.getfield 49, 3) := by decide +kernel
theorem dX11_init_144 : decode cX11_init 144 = .ok (.invokespecial 74, 3) := by decide +kernel
theorem dX11_init_147 : decode cX11_init 147 = .ok (.putfield 75, 3) := by decide +kernel
theorem dX11_init_150 : decode cX11_init 150 = .ok (.aload_n 0, 1) := by decide +kernel
theorem dX11_init_151 : decode cX11_init 151 = .ok (.new 79, 3) := by decide +kernel
theorem dX11_init_154 : decode cX11_init 154 = .ok (.dup, 1) := by decide +kernel
theorem dX11_init_155 : decode cX11_init 155 = .ok (.invokespecial 81, 3) := by decide +kernel
theorem dX11_init_158 : decode cX11_init 158 = .ok (.putfield 82, 3) := by decide +kernel
theorem dX11_init_161 : decode cX11_init 161 = .ok (.aload_n 0, 1) := by decide +kernel
theorem dX11_init_162 : decode cX11_init 162 = .ok (.new 86, 3) := by decide +kernel
theorem dX11_init_165 : decode cX11_init 165 = .ok (.dup, 1) := by decide +kernel
theorem dX11_init_166 : decode cX11_init 166 = .ok (.invokespecial 88, 3) := by decide +kernel
theorem dX11_init_169 : decode cX11_init 169 = .ok (.putfield 89, 3) := by decide +kernel
theorem dX11_init_172 : decode cX11_init 172 = .ok (.aload_n 0, 1) := by decide +kernel
theorem dX11_init_173 : decode cX11_init 173 = .ok (.iconst 4, 1) := by decide +kernel
theorem dX11_init_174 : decode cX11_init 174 = .ok (.anewarray 93, 3) := by decide +kernel
theorem dX11_init_177 : decode cX11_init 177 = .ok (.putfield 95, 3) := by decide +kernel
theorem dX11_init_180 : decode cX11_init 180 = .ok (.aload_n 0, 1) := by decide +kernel
theorem dX11_init_181 : decode cX11_init 181 = .ok (.iconst 4, 1) := by decide +kernel
theorem dX11_init_182 : decode cX11_init 182 = .ok (.anewarray 93, 3) := by decide +kernel
theorem dX11_init_185 : decode cX11_init 185 = .ok (.putfield 99, 3) := by decide +kernel
theorem dX11_init_188 : decode cX11_init 188 = .ok (.aload_n 0, 1) := by decide +kernel
theorem dX11_init_189 : decode cX11_init 189 = .ok (.iconst (-1), 1) := by decide +kernel
theorem dX11_init_190 : decode cX11_init 190 = .ok (.putfield 102, 3) := by decide +kernel
theorem dX11_init_193 : decode cX11_init 193 = .ok (.return_, 1) := by decide +kernel
theorem dX11_feed_0 : decode cX11_feed 0 = .ok (.iload_n 1, 1) := by decide +kernel
theorem dX11_feed_1 : decode cX11_feed 1 = .ok (.invokestatic 106, 3) := by decide +kernel
theorem dX11_feed_4 : decode cX11_feed 4 = .ok (.iload_n 2, 1) := by decide +kernel
theorem dX11_feed_5 : decode cX11_feed 5 = .ok (.invokestatic 106, 3) := by decide +kernel
theorem dX11_feed_8 : decode cX11_feed 8 = .ok (.iadd, 1) := by decide +kernel
theorem dX11_feed_9 : decode cX11_feed 9 = .ok (.iload_n 3, 1) := by decide +kernel
theorem dX11_feed_10 : decode cX11_feed 10 = .ok (.invokestatic 106, 3) := by decide +kernel
theorem dX11_feed_13 : decode cX11_feed 13 = .ok (.iadd, 1) := by decide +kernel
theorem dX11_feed_14 : decode cX11_feed 14 = .ok (.iload 4, 2) := by decide +kernel
theorem dX11_feed_16 : decode cX11_feed 16 = .ok (.invokestatic 106, 3) := by decide +kernel
theorem dX11_feed_19 : decode cX11_feed 19 = .ok (.iadd, 1) := by decide +kernel
theorem dX11_feed_20 : decode cX11_feed 20 = .ok (.iload 5, 2) := by decide +kernel
theorem dX11_feed_22 : decode cX11_feed 22 = .ok (.invokestatic 106, 3) := by decide +kernel
theorem dX11_feed_25 : decode cX11_feed 25 = .ok (.iadd, 1) := by decide +kernel
theorem dX11_feed_26 : decode cX11_feed 26 = .ok (.istore 6, 2) := by decide +kernel
theorem dX11_feed_28 : decode cX11_feed 28 = .ok (.aload_n 0, 1) := by decide +kernel
theorem dX11_feed_29 : decode cX11_feed 29 = .ok (.getfield 10, 3) := by decide +kernel
theorem dX11_feed_32 : decode cX11_feed 32 = .ok (.getfield 110, 3) := by decide +kernel
theorem dX11_feed_35 : decode cX11_feed 35 = .ok (.iload 6, 2) := by decide +kernel
theorem dX11_feed_37 : decode cX11_feed 37 = .ok (.iadd, 1) := by decide +kernel
theorem dX11_feed_38 : decode cX11_feed 38 = .ok (.sipush 200, 3) := by decide +kernel
theorem dX11_feed_41 : decode cX11_feed 41 = .ok (.if_icmp .le 5, 3) := by decide +kernel
theorem dX11_feed_44 : decode cX11_feed 44 = .ok (.iconst (-1), 1) := by decide +kernel
theorem dX11_feed_45 : decode cX11_feed 45 = .ok (.ireturn, 1) := by decide +kernel
theorem dX11_feed_46 : decode cX11_feed 46 = .ok (.aload_n 0, 1) := by decide +kernel
theorem dX11_feed_47 : decode cX11_feed 47 = .ok (.getfield 10, 3) := by decide +kernel
theorem dX11_feed_50 : decode cX11_feed 50 = .ok (.iload_n 1, 1) := by decide +kernel
theorem dX11_feed_51 : decode cX11_feed 51 = .ok (.invokevirtual 113, 3) := by decide +kernel
theorem dX11_feed_54 : decode cX11_feed 54 = .ok (.aload_n 0, 1) := by decide +kernel
theorem dX11_feed_55 : decode cX11_feed 55 = .ok (.getfield 10, 3) := by decide +kernel
theorem dX11_feed_58 : decode cX11_feed 58 = .ok (.iload_n 2, 1) := by decide +kernel
theorem dX11_feed_59 : decode cX11_feed 59 = .ok (.invokevirtual 113, 3) := by decide +kernel
theorem dX11_feed_62 : decode cX11_feed 62 = .ok (.aload_n 0, 1) := by decide +kernel
theorem dX11_feed_63 : decode cX11_feed 63 = .ok (.getfield 10, 3) := by decide +kernel
theorem dX11_feed_66 : decode cX11_feed 66 = .ok (.iload_n 3, 1) := by decide +kernel
theorem dX11_feed_67 : decode cX11_feed 67 = .ok (.invokevirtual 113, 3) := by decide +kernel
theorem dX11_feed_70 : decode cX11_feed 70 = .ok (.aload_n 0, 1) := by decide +kernel
theorem dX11_feed_71 : decode cX11_feed 71 = .ok (.getfield 10, 3) := by decide +kernel
theorem dX11_feed_74 : decode cX11_feed 74 = .ok (.iload 4, 2) := by decide +kernel
theorem dX11_feed_76 : decode cX11_feed 76 = .ok (.invokevirtual 113, 3) := by decide +kernel
theorem dX11_feed_79 : decode cX11_feed 79 = .ok (.aload_n 0, 1) := by decide +kernel
theorem dX11_feed_80 : decode cX11_feed 80 = .ok (.getfield 10, 3) := by decide +kernel
theorem dX11_feed_83 : decode cX11_feed 83 = .ok (.iload 5, 2) := by decide +kernel
theorem dX11_feed_85 : decode cX11_feed 85 = .ok (.invokevirtual 113, 3) := by decide +kernel
theorem dX11_feed_88 : decode cX11_feed 88 = .ok (.aload_n 0, 1) := by decide +kernel
theorem dX11_feed_89 : decode cX11_feed 89 = .ok (.getfield 10, 3) := by decide +kernel
theorem dX11_feed_92 : decode cX11_feed 92 = .ok (.getfield 110, 3) := by decide +kernel
theorem dX11_feed_95 : decode cX11_feed 95 = .ok (.ireturn, 1) := by decide +kernel
theorem dX11_end_0 : decode cX11_end 0 = .ok (.iload_n 1, 1) := by decide +kernel
theorem dX11_end_1 : decode cX11_end 1 = .ok (.ifCond .lt 14, 3) := by decide +kernel
theorem dX11_end_4 : decode cX11_end 4 = .ok (.iload_n 1, 1) := by decide +kernel
theorem dX11_end_5 : decode cX11_end 5 = .ok (.aload_n 0, 1) := by decide +kernel
theorem dX11_end_6 : decode cX11_end 6 = .ok (.getfield 10, 3) := by decide +kernel
theorem dX11_end_9 : decode cX11_end 9 = .ok (.getfield 110, 3) := by decide +kernel
theorem dX11_end_12 : decode cX11_end 12 = .ok (.if_icmp .le 5, 3) := by decide +kernel
theorem dX11_end_15 : decode cX11_end 15 = .ok (.iconst 0, 1) := by decide +kernel
theorem dX11_end_16 : decode cX11_end 16 = .ok (.ireturn, 1) := by decide +kernel
theorem dX11_end_17 : decode cX11_end 17 = .ok (.aload_n 0, 1) := by decide +kernel
theorem dX11_end_18 : decode cX11_end 18 = .ok (.getfield 10, 3) := by decide +kernel
theorem dX11_end_21 : decode cX11_end 21 = .ok (.iload_n 1, 1) := by decide +kernel
theorem dX11_end_22 : decode cX11_end 22 = .ok (.putfield 110, 3) := by decide +kernel
theorem dX11_end_25 : decode cX11_end 25 = .ok (.iconst 1, 1) := by decide +kernel
theorem dX11_end_26 : decode cX11_end 26 = .ok (.ireturn, 1) := by decide +kernel
theorem dX11_fault_0 : decode cX11_fault 0 = .ok (.iload_n 1, 1) := by decide +kernel
theorem dX11_fault_1 : decode cX11_fault 1 = .ok (.tableswitch 51 0 2 #[27, 35, 43], 27) := by decide +kernel
theorem dX11_fault_28 : decode cX11_fault 28 = .ok (.aload_n 0, 1) := by decide +kernel
theorem dX11_fault_29 : decode cX11_fault 29 = .ok (.getfield 21, 3) := by decide +kernel
theorem dX11_fault_32 : decode cX11_fault 32 = .ok (.invokevirtual 117, 3) := by decide +kernel
theorem dX11_fault_35 : decode cX11_fault 35 = .ok (.ireturn, 1) := by decide +kernel
theorem dX11_fault_36 : decode cX11_fault 36 = .ok (.aload_n 0, 1) := by decide +kernel
theorem dX11_fault_37 : decode cX11_fault 37 = .ok (.getfield 28, 3) := by decide +kernel
theorem dX11_fault_40 : decode cX11_fault 40 = .ok (.invokevirtual 121, 3) := by decide +kernel
theorem dX11_fault_43 : decode cX11_fault 43 = .ok (.ireturn, 1) := by decide +kernel
theorem dX11_fault_44 : decode cX11_fault 44 = .ok (.aload_n 0, 1) := by decide +kernel
theorem dX11_fault_45 : decode cX11_fault 45 = .ok (.getfield 35, 3) := by decide +kernel
theorem dX11_fault_48 : decode cX11_fault 48 = .ok (.invokevirtual 122, 3) := by decide +kernel
theorem dX11_fault_51 : decode cX11_fault 51 = .ok (.ireturn, 1) := by decide +kernel
theorem dX11_fault_52 : decode cX11_fault 52 = .ok (.bipush (-2), 2) := by decide +kernel
theorem dX11_fault_54 : decode cX11_fault 54 = .ok (.ireturn, 1) := by decide +kernel
theorem dX11_text_0 : decode cX11_text 0 = .ok (.iload_n 1, 1) := by decide +kernel
theorem dX11_text_1 : decode cX11_text 1 = .ok (.tableswitch 87 0 2 #[27, 47, 67], 27) := by decide +kernel
theorem dX11_text_28 : decode cX11_text 28 = .ok (.aload_n 0, 1) := by decide +kernel
theorem dX11_text_29 : decode cX11_text 29 = .ok (.getfield 21, 3) := by decide +kernel
theorem dX11_text_32 : decode cX11_text 32 = .ok (.invokevirtual 117, 3) := by decide +kernel
theorem dX11_text_35 : decode cX11_text 35 = .ok (.iconst (-1), 1) := by decide +kernel
theorem dX11_text_36 : decode cX11_text 36 = .ok (.if_icmp .ne 10, 3) := by decide +kernel
theorem dX11_text_39 : decode cX11_text 39 = .ok (.aload_n 0, 1) := by decide +kernel
theorem dX11_text_40 : decode cX11_text 40 = .ok (.invokevirtual 123, 3) := by decide +kernel
theorem dX11_text_43 : decode cX11_text 43 = .ok (.goto 4, 3) := by decide +kernel
theorem dX11_text_46 : decode cX11_text 46 = .ok (.iconst (-1), 1) := by decide +kernel
theorem dX11_text_47 : decode cX11_text 47 = .ok (.ireturn, 1) := by decide +kernel
theorem dX11_text_48 : decode cX11_text 48 = .ok (.aload_n 0, 1) := by decide +kernel
theorem dX11_text_49 : decode cX11_text 49 = .ok (.getfield 28, 3) := by decide +kernel
theorem dX11_text_52 : decode cX11_text 52 = .ok (.invokevirtual 121, 3) := by decide +kernel
theorem dX11_text_55 : decode cX11_text 55 = .ok (.iconst (-1), 1) := by decide +kernel
theorem dX11_text_56 : decode cX11_text 56 = .ok (.if_icmp .ne 10, 3) := by decide +kernel
theorem dX11_text_59 : decode cX11_text 59 = .ok (.aload_n 0, 1) := by decide +kernel
theorem dX11_text_60 : decode cX11_text 60 = .ok (.invokevirtual 126, 3) := by decide +kernel
theorem dX11_text_63 : decode cX11_text 63 = .ok (.goto 4, 3) := by decide +kernel
theorem dX11_text_66 : decode cX11_text 66 = .ok (.iconst (-1), 1) := by decide +kernel
theorem dX11_text_67 : decode cX11_text 67 = .ok (.ireturn, 1) := by decide +kernel
theorem dX11_text_68 : decode cX11_text 68 = .ok (.aload_n 0, 1) := by decide +kernel
theorem dX11_text_69 : decode cX11_text 69 = .ok (.getfield 35, 3) := by decide +kernel
theorem dX11_text_72 : decode cX11_text 72 = .ok (.invokevirtual 122, 3) := by decide +kernel
theorem dX11_text_75 : decode cX11_text 75 = .ok (.iconst (-1), 1) := by decide +kernel
theorem dX11_text_76 : decode cX11_text 76 = .ok (.if_icmp .ne 10, 3) := by decide +kernel
theorem dX11_text_79 : decode cX11_text 79 = .ok (.aload_n 0, 1) := by decide +kernel
theorem dX11_text_80 : decode cX11_text 80 = .ok (.invokevirtual 129, 3) := by decide +kernel
theorem dX11_text_83 : decode cX11_text 83 = .ok (.goto 4, 3) := by decide +kernel
theorem dX11_text_86 : decode cX11_text 86 = .ok (.iconst (-1), 1) := by decide +kernel
theorem dX11_text_87 : decode cX11_text 87 = .ok (.ireturn, 1) := by decide +kernel
theorem dX11_text_88 : decode cX11_text 88 = .ok (.iconst (-1), 1) := by decide +kernel
theorem dX11_text_89 : decode cX11_text 89 = .ok (.ireturn, 1) := by decide +kernel
theorem dX11_keepKitchen_0 : decode cX11_keepKitchen 0 = .ok (.aload_n 0, 1) := by decide +kernel
theorem dX11_keepKitchen_1 : decode cX11_keepKitchen 1 = .ok (.getfield 42, 3) := by decide +kernel
theorem dX11_keepKitchen_4 : decode cX11_keepKitchen 4 = .ok (.aload_n 0, 1) := by decide +kernel
theorem dX11_keepKitchen_5 : decode cX11_keepKitchen 5 = .ok (.getfield 21, 3) := by decide +kernel
theorem dX11_keepKitchen_8 : decode cX11_keepKitchen 8 = .ok (.getfield 132, 3) := by decide +kernel
theorem dX11_keepKitchen_11 : decode cX11_keepKitchen 11 = .ok (.invokevirtual 135, 3) := by decide +kernel
theorem dX11_keepKitchen_14 : decode cX11_keepKitchen 14 = .ok (.aload_n 0, 1) := by decide +kernel
theorem dX11_keepKitchen_15 : decode cX11_keepKitchen 15 = .ok (.getfield 10, 3) := by decide +kernel
theorem dX11_keepKitchen_18 : decode cX11_keepKitchen 18 = .ok (.iconst 0, 1) := by decide +kernel
theorem dX11_keepKitchen_19 : decode cX11_keepKitchen 19 = .ok (.putfield 110, 3) := by decide +kernel
theorem dX11_keepKitchen_22 : decode cX11_keepKitchen 22 = .ok (.aload_n 0, 1) := by decide +kernel
theorem dX11_keepKitchen_23 : decode cX11_keepKitchen 23 = .ok (.getfield 49, 3) := by decide +kernel
theorem dX11_keepKitchen_26 : decode cX11_keepKitchen 26 = .ok (.aconst_null, 1) := by decide +kernel
theorem dX11_keepKitchen_27 : decode cX11_keepKitchen 27 = .ok (.putfield 139, 3) := by decide +kernel
theorem dX11_keepKitchen_30 : decode cX11_keepKitchen 30 = .ok (.aload_n 0, 1) := by decide +kernel
theorem dX11_keepKitchen_31 : decode cX11_keepKitchen 31 = .ok (.iconst (-1), 1) := by decide +kernel
theorem dX11_keepKitchen_32 : decode cX11_keepKitchen 32 = .ok (.putfield 102, 3) := by decide +kernel
theorem dX11_keepKitchen_35 : decode cX11_keepKitchen 35 = .ok (.aload_n 0, 1) := by decide +kernel
theorem dX11_keepKitchen_36 : decode cX11_keepKitchen 36 = .ok (.getfield 58, 3) := by decide +kernel
theorem dX11_keepKitchen_39 : decode cX11_keepKitchen 39 = .ok (.invokevirtual 142, 3) := by decide +kernel
theorem dX11_keepKitchen_42 : decode cX11_keepKitchen 42 = .ok (.aload_n 0, 1) := by decide +kernel
theorem dX11_keepKitchen_43 : decode cX11_keepKitchen 43 = .ok (.getfield 68, 3) := by decide +kernel
theorem dX11_keepKitchen_46 : decode cX11_keepKitchen 46 = .ok (.invokevirtual 145, 3) := by decide +kernel
theorem dX11_keepKitchen_49 : decode cX11_keepKitchen 49 = .ok (.aload_n 0, 1) := by decide +kernel
theorem dX11_keepKitchen_50 : decode cX11_keepKitchen 50 = .ok (.getfield 89, 3) := by decide +kernel
theorem dX11_keepKitchen_53 : decode cX11_keepKitchen 53 = .ok (.invokevirtual 148, 3) := by decide +kernel
theorem dX11_keepKitchen_56 : decode cX11_keepKitchen 56 = .ok (.aload_n 0, 1) := by decide +kernel
theorem dX11_keepKitchen_57 : decode cX11_keepKitchen 57 = .ok (.iconst 1, 1) := by decide +kernel
theorem dX11_keepKitchen_58 : decode cX11_keepKitchen 58 = .ok (.putfield 149, 3) := by decide +kernel
theorem dX11_keepKitchen_61 : decode cX11_keepKitchen 61 = .ok (.aload_n 0, 1) := by decide +kernel
theorem dX11_keepKitchen_62 : decode cX11_keepKitchen 62 = .ok (.getfield 42, 3) := by decide +kernel
theorem dX11_keepKitchen_65 : decode cX11_keepKitchen 65 = .ok (.getfield 153, 3) := by decide +kernel
theorem dX11_keepKitchen_68 : decode cX11_keepKitchen 68 = .ok (.iconst 0, 1) := by decide +kernel
theorem dX11_keepKitchen_69 : decode cX11_keepKitchen 69 = .ok (.iaload, 1) := by decide +kernel
theorem dX11_keepKitchen_70 : decode cX11_keepKitchen 70 = .ok (.ireturn, 1) := by decide +kernel
theorem dX11_keepLaw_0 : decode cX11_keepLaw 0 = .ok (.aload_n 0, 1) := by decide +kernel
theorem dX11_keepLaw_1 : decode cX11_keepLaw 1 = .ok (.getfield 156, 3) := by decide +kernel
theorem dX11_keepLaw_4 : decode cX11_keepLaw 4 = .ok (.iconst 4, 1) := by decide +kernel
theorem dX11_keepLaw_5 : decode cX11_keepLaw 5 = .ok (.if_icmp .lt 5, 3) := by decide +kernel
theorem dX11_keepLaw_8 : decode cX11_keepLaw 8 = .ok (.iconst (-1), 1) := by decide +kernel
theorem dX11_keepLaw_9 : decode cX11_keepLaw 9 = .ok (.ireturn, 1) := by decide +kernel
theorem dX11_keepLaw_10 : decode cX11_keepLaw 10 = .ok (.aload_n 0, 1) := by decide +kernel
theorem dX11_keepLaw_11 : decode cX11_keepLaw 11 = .ok (.getfield 95, 3) := by decide +kernel
theorem dX11_keepLaw_14 : decode cX11_keepLaw 14 = .ok (.aload_n 0, 1) := by decide +kernel
theorem dX11_keepLaw_15 : decode cX11_keepLaw 15 = .ok (.getfield 156, 3) := by decide +kernel
theorem dX11_keepLaw_18 : decode cX11_keepLaw 18 = .ok (.aload_n 0, 1) := by decide +kernel
theorem dX11_keepLaw_19 : decode cX11_keepLaw 19 = .ok (.getfield 28, 3) := by decide +kernel
theorem dX11_keepLaw_22 : decode cX11_keepLaw 22 = .ok (.getfield 159, 3) := by decide +kernel
theorem dX11_keepLaw_25 : decode cX11_keepLaw 25 = .ok (.aload_n 0, 1) := by decide +kernel
theorem dX11_keepLaw_26 : decode cX11_keepLaw 26 = .ok (.getfield 28, 3) := by decide +kernel
theorem dX11_keepLaw_29 : decode cX11_keepLaw 29 = .ok (.getfield 162, 3) := by decide +kernel
theorem dX11_keepLaw_32 : decode cX11_keepLaw 32 = .ok (.invokestatic 163, 3) := by decide +kernel
theorem dX11_keepLaw_35 : decode cX11_keepLaw 35 = .ok (.aastore, 1) := by decide +kernel
theorem dX11_keepLaw_36 : decode cX11_keepLaw 36 = .ok (.aload_n 0, 1) := by decide +kernel
theorem dX11_keepLaw_37 : decode cX11_keepLaw 37 = .ok (.dup, 1) := by decide +kernel
theorem dX11_keepLaw_38 : decode cX11_keepLaw 38 = .ok (.getfield 156, 3) := by decide +kernel
theorem dX11_keepLaw_41 : decode cX11_keepLaw 41 = .ok (.iconst 1, 1) := by decide +kernel
theorem dX11_keepLaw_42 : decode cX11_keepLaw 42 = .ok (.iadd, 1) := by decide +kernel
theorem dX11_keepLaw_43 : decode cX11_keepLaw 43 = .ok (.putfield 156, 3) := by decide +kernel
theorem dX11_keepLaw_46 : decode cX11_keepLaw 46 = .ok (.aload_n 0, 1) := by decide +kernel
theorem dX11_keepLaw_47 : decode cX11_keepLaw 47 = .ok (.getfield 10, 3) := by decide +kernel
theorem dX11_keepLaw_50 : decode cX11_keepLaw 50 = .ok (.iconst 0, 1) := by decide +kernel
theorem dX11_keepLaw_51 : decode cX11_keepLaw 51 = .ok (.putfield 110, 3) := by decide +kernel
theorem dX11_keepLaw_54 : decode cX11_keepLaw 54 = .ok (.aload_n 0, 1) := by decide +kernel
theorem dX11_keepLaw_55 : decode cX11_keepLaw 55 = .ok (.getfield 156, 3) := by decide +kernel
theorem dX11_keepLaw_58 : decode cX11_keepLaw 58 = .ok (.iconst 1, 1) := by decide +kernel
theorem dX11_keepLaw_59 : decode cX11_keepLaw 59 = .ok (.isub, 1) := by decide +kernel
theorem dX11_keepLaw_60 : decode cX11_keepLaw 60 = .ok (.ireturn, 1) := by decide +kernel
theorem dX11_keepPlan_0 : decode cX11_keepPlan 0 = .ok (.aload_n 0, 1) := by decide +kernel
theorem dX11_keepPlan_1 : decode cX11_keepPlan 1 = .ok (.getfield 169, 3) := by decide +kernel
theorem dX11_keepPlan_4 : decode cX11_keepPlan 4 = .ok (.iconst 4, 1) := by decide +kernel
theorem dX11_keepPlan_5 : decode cX11_keepPlan 5 = .ok (.if_icmp .lt 5, 3) := by decide +kernel
theorem dX11_keepPlan_8 : decode cX11_keepPlan 8 = .ok (.iconst (-1), 1) := by decide +kernel
theorem dX11_keepPlan_9 : decode cX11_keepPlan 9 = .ok (.ireturn, 1) := by decide +kernel
theorem dX11_keepPlan_10 : decode cX11_keepPlan 10 = .ok (.aload_n 0, 1) := by decide +kernel
theorem dX11_keepPlan_11 : decode cX11_keepPlan 11 = .ok (.getfield 99, 3) := by decide +kernel
theorem dX11_keepPlan_14 : decode cX11_keepPlan 14 = .ok (.aload_n 0, 1) := by decide +kernel
theorem dX11_keepPlan_15 : decode cX11_keepPlan 15 = .ok (.getfield 169, 3) := by decide +kernel
theorem dX11_keepPlan_18 : decode cX11_keepPlan 18 = .ok (.aload_n 0, 1) := by decide +kernel
theorem dX11_keepPlan_19 : decode cX11_keepPlan 19 = .ok (.getfield 35, 3) := by decide +kernel
theorem dX11_keepPlan_22 : decode cX11_keepPlan 22 = .ok (.getfield 172, 3) := by decide +kernel
theorem dX11_keepPlan_25 : decode cX11_keepPlan 25 = .ok (.aload_n 0, 1) := by decide +kernel
theorem dX11_keepPlan_26 : decode cX11_keepPlan 26 = .ok (.getfield 35, 3) := by decide +kernel
theorem dX11_keepPlan_29 : decode cX11_keepPlan 29 = .ok (.getfield 175, 3) := by decide +kernel
theorem dX11_keepPlan_32 : decode cX11_keepPlan 32 = .ok (.invokestatic 163, 3) := by decide +kernel
theorem dX11_keepPlan_35 : decode cX11_keepPlan 35 = .ok (.aastore, 1) := by decide +kernel
theorem dX11_keepPlan_36 : decode cX11_keepPlan 36 = .ok (.aload_n 0, 1) := by decide +kernel
theorem dX11_keepPlan_37 : decode cX11_keepPlan 37 = .ok (.dup, 1) := by decide +kernel
theorem dX11_keepPlan_38 : decode cX11_keepPlan 38 = .ok (.getfield 169, 3) := by decide +kernel
theorem dX11_keepPlan_41 : decode cX11_keepPlan 41 = .ok (.iconst 1, 1) := by decide +kernel
theorem dX11_keepPlan_42 : decode cX11_keepPlan 42 = .ok (.iadd, 1) := by decide +kernel
theorem dX11_keepPlan_43 : decode cX11_keepPlan 43 = .ok (.putfield 169, 3) := by decide +kernel
theorem dX11_keepPlan_46 : decode cX11_keepPlan 46 = .ok (.aload_n 0, 1) := by decide +kernel
theorem dX11_keepPlan_47 : decode cX11_keepPlan 47 = .ok (.getfield 10, 3) := by decide +kernel
theorem dX11_keepPlan_50 : decode cX11_keepPlan 50 = .ok (.iconst 0, 1) := by decide +kernel
theorem dX11_keepPlan_51 : decode cX11_keepPlan 51 = .ok (.putfield 110, 3) := by decide +kernel
theorem dX11_keepPlan_54 : decode cX11_keepPlan 54 = .ok (.aload_n 0, 1) := by decide +kernel
theorem dX11_keepPlan_55 : decode cX11_keepPlan 55 = .ok (.getfield 169, 3) := by decide +kernel
theorem dX11_keepPlan_58 : decode cX11_keepPlan 58 = .ok (.iconst 1, 1) := by decide +kernel
theorem dX11_keepPlan_59 : decode cX11_keepPlan 59 = .ok (.isub, 1) := by decide +kernel
theorem dX11_keepPlan_60 : decode cX11_keepPlan 60 = .ok (.ireturn, 1) := by decide +kernel
theorem dX11_jar_0 : decode cX11_jar 0 = .ok (.aload_n 0, 1) := by decide +kernel
theorem dX11_jar_1 : decode cX11_jar 1 = .ok (.iload_n 1, 1) := by decide +kernel
theorem dX11_jar_2 : decode cX11_jar 2 = .ok (.invokevirtual 178, 3) := by decide +kernel
theorem dX11_jar_5 : decode cX11_jar 5 = .ok (.ifCond .eq 13, 3) := by decide +kernel
theorem dX11_jar_8 : decode cX11_jar 8 = .ok (.iload_n 2, 1) := by decide +kernel
theorem dX11_jar_9 : decode cX11_jar 9 = .ok (.ifCond .lt 9, 3) := by decide +kernel
theorem dX11_jar_12 : decode cX11_jar 12 = .ok (.iload_n 2, 1) := by decide +kernel
theorem dX11_jar_13 : decode cX11_jar 13 = .ok (.bipush 10, 2) := by decide +kernel
theorem dX11_jar_15 : decode cX11_jar 15 = .ok (.if_icmp .le 11, 3) := by decide +kernel
theorem dX11_jar_18 : decode cX11_jar 18 = .ok (.new 182, 3) := by decide +kernel
theorem dX11_jar_21 : decode cX11_jar 21 = .ok (.dup, 1) := by decide +kernel
theorem dX11_jar_22 : decode cX11_jar 22 = .ok (.invokespecial 184, 3) := by decide +kernel
theorem dX11_jar_25 : decode cX11_jar 25 = .ok (.athrow, 1) := by decide +kernel
theorem dX11_jar_26 : decode cX11_jar 26 = .ok (.iload_n 2, 1) := by decide +kernel
theorem dX11_jar_27 : decode cX11_jar 27 = .ok (.bipush 10, 2) := by decide +kernel
theorem dX11_jar_29 : decode cX11_jar 29 = .ok (.if_icmp .ne 12, 3) := by decide +kernel
theorem dX11_jar_32 : decode cX11_jar 32 = .ok (.aload_n 0, 1) := by decide +kernel
theorem dX11_jar_33 : decode cX11_jar 33 = .ok (.getfield 58, 3) := by decide +kernel
theorem dX11_jar_36 : decode cX11_jar 36 = .ok (.iload_n 1, 1) := by decide +kernel
theorem dX11_jar_37 : decode cX11_jar 37 = .ok (.invokevirtual 185, 3) := by decide +kernel
theorem dX11_jar_40 : decode cX11_jar 40 = .ok (.ireturn, 1) := by decide +kernel
theorem dX11_jar_41 : decode cX11_jar 41 = .ok (.iload_n 2, 1) := by decide +kernel
theorem dX11_jar_42 : decode cX11_jar 42 = .ok (.iconst 2, 1) := by decide +kernel
theorem dX11_jar_43 : decode cX11_jar 43 = .ok (.if_icmp .gt 13, 3) := by decide +kernel
theorem dX11_jar_46 : decode cX11_jar 46 = .ok (.aload_n 0, 1) := by decide +kernel
theorem dX11_jar_47 : decode cX11_jar 47 = .ok (.getfield 58, 3) := by decide +kernel
theorem dX11_jar_50 : decode cX11_jar 50 = .ok (.iload_n 1, 1) := by decide +kernel
theorem dX11_jar_51 : decode cX11_jar 51 = .ok (.iload_n 2, 1) := by decide +kernel
theorem dX11_jar_52 : decode cX11_jar 52 = .ok (.invokevirtual 188, 3) := by decide +kernel
theorem dX11_jar_55 : decode cX11_jar 55 = .ok (.ireturn, 1) := by decide +kernel
theorem dX11_jar_56 : decode cX11_jar 56 = .ok (.iload_n 2, 1) := by decide +kernel
theorem dX11_jar_57 : decode cX11_jar 57 = .ok (.iconst 5, 1) := by decide +kernel
theorem dX11_jar_58 : decode cX11_jar 58 = .ok (.if_icmp .gt 16, 3) := by decide +kernel
theorem dX11_jar_61 : decode cX11_jar 61 = .ok (.aload_n 0, 1) := by decide +kernel
theorem dX11_jar_62 : decode cX11_jar 62 = .ok (.getfield 42, 3) := by decide +kernel
theorem dX11_jar_65 : decode cX11_jar 65 = .ok (.iconst 0, 1) := by decide +kernel
theorem dX11_jar_66 : decode cX11_jar 66 = .ok (.iload_n 1, 1) := by decide +kernel
theorem dX11_jar_67 : decode cX11_jar 67 = .ok (.iload_n 2, 1) := by decide +kernel
theorem dX11_jar_68 : decode cX11_jar 68 = .ok (.invokevirtual 192, 3) := by decide +kernel
theorem dX11_jar_71 : decode cX11_jar 71 = .ok (.goto 14, 3) := by decide +kernel
theorem dX11_jar_74 : decode cX11_jar 74 = .ok (.aload_n 0, 1) := by decide +kernel
theorem dX11_jar_75 : decode cX11_jar 75 = .ok (.getfield 58, 3) := by decide +kernel
theorem dX11_jar_78 : decode cX11_jar 78 = .ok (.iload_n 1, 1) := by decide +kernel
theorem dX11_jar_79 : decode cX11_jar 79 = .ok (.iload_n 2, 1) := by decide +kernel
theorem dX11_jar_80 : decode cX11_jar 80 = .ok (.iconst 3, 1) := by decide +kernel
theorem dX11_jar_81 : decode cX11_jar 81 = .ok (.isub, 1) := by decide +kernel
theorem dX11_jar_82 : decode cX11_jar 82 = .ok (.invokevirtual 188, 3) := by decide +kernel
theorem dX11_jar_85 : decode cX11_jar 85 = .ok (.ireturn, 1) := by decide +kernel
theorem dX11_hand_0 : decode cX11_hand 0 = .ok (.aload_n 0, 1) := by decide +kernel
theorem dX11_hand_1 : decode cX11_hand 1 = .ok (.iload_n 1, 1) := by decide +kernel
theorem dX11_hand_2 : decode cX11_hand 2 = .ok (.invokevirtual 196, 3) := by decide +kernel
theorem dX11_hand_5 : decode cX11_hand 5 = .ok (.ifCond .ne 5, 3) := by decide +kernel
theorem dX11_hand_8 : decode cX11_hand 8 = .ok (.iconst (-1), 1) := by decide +kernel
theorem dX11_hand_9 : decode cX11_hand 9 = .ok (.ireturn, 1) := by decide +kernel
theorem dX11_hand_10 : decode cX11_hand 10 = .ok (.iload_n 2, 1) := by decide +kernel
theorem dX11_hand_11 : decode cX11_hand 11 = .ok (.tableswitch 92 0 6 #[41, 61, 51, 61, 61, 72, 83], 41) := by decide +kernel
theorem dX11_hand_52 : decode cX11_hand 52 = .ok (.aload_n 0, 1) := by decide +kernel
theorem dX11_hand_53 : decode cX11_hand 53 = .ok (.getfield 58, 3) := by decide +kernel
theorem dX11_hand_56 : decode cX11_hand 56 = .ok (.iload_n 1, 1) := by decide +kernel
theorem dX11_hand_57 : decode cX11_hand 57 = .ok (.iconst 0, 1) := by decide +kernel
theorem dX11_hand_58 : decode cX11_hand 58 = .ok (.invokevirtual 199, 3) := by decide +kernel
theorem dX11_hand_61 : decode cX11_hand 61 = .ok (.ireturn, 1) := by decide +kernel
theorem dX11_hand_62 : decode cX11_hand 62 = .ok (.aload_n 0, 1) := by decide +kernel
theorem dX11_hand_63 : decode cX11_hand 63 = .ok (.getfield 58, 3) := by decide +kernel
theorem dX11_hand_66 : decode cX11_hand 66 = .ok (.iload_n 1, 1) := by decide +kernel
theorem dX11_hand_67 : decode cX11_hand 67 = .ok (.iconst 1, 1) := by decide +kernel
theorem dX11_hand_68 : decode cX11_hand 68 = .ok (.invokevirtual 199, 3) := by decide +kernel
theorem dX11_hand_71 : decode cX11_hand 71 = .ok (.ireturn, 1) := by decide +kernel
theorem dX11_hand_72 : decode cX11_hand 72 = .ok (.aload_n 0, 1) := by decide +kernel
theorem dX11_hand_73 : decode cX11_hand 73 = .ok (.getfield 42, 3) := by decide +kernel
theorem dX11_hand_76 : decode cX11_hand 76 = .ok (.iconst 1, 1) := by decide +kernel
theorem dX11_hand_77 : decode cX11_hand 77 = .ok (.iload_n 1, 1) := by decide +kernel
theorem dX11_hand_78 : decode cX11_hand 78 = .ok (.iload_n 2, 1) := by decide +kernel
theorem dX11_hand_79 : decode cX11_hand 79 = .ok (.invokevirtual 192, 3) := by decide +kernel
theorem dX11_hand_82 : decode cX11_hand 82 = .ok (.ireturn, 1) := by decide +kernel
theorem dX11_hand_83 : decode cX11_hand 83 = .ok (.aload_n 0, 1) := by decide +kernel
theorem dX11_hand_84 : decode cX11_hand 84 = .ok (.getfield 42, 3) := by decide +kernel
theorem dX11_hand_87 : decode cX11_hand 87 = .ok (.iconst 1, 1) := by decide +kernel
theorem dX11_hand_88 : decode cX11_hand 88 = .ok (.iload_n 1, 1) := by decide +kernel
theorem dX11_hand_89 : decode cX11_hand 89 = .ok (.iconst 0, 1) := by decide +kernel
theorem dX11_hand_90 : decode cX11_hand 90 = .ok (.invokevirtual 192, 3) := by decide +kernel
theorem dX11_hand_93 : decode cX11_hand 93 = .ok (.ireturn, 1) := by decide +kernel
theorem dX11_hand_94 : decode cX11_hand 94 = .ok (.aload_n 0, 1) := by decide +kernel
theorem dX11_hand_95 : decode cX11_hand 95 = .ok (.getfield 58, 3) := by decide +kernel
theorem dX11_hand_98 : decode cX11_hand 98 = .ok (.iload_n 1, 1) := by decide +kernel
theorem dX11_hand_99 : decode cX11_hand 99 = .ok (.invokevirtual 202, 3) := by decide +kernel
theorem dX11_hand_102 : decode cX11_hand 102 = .ok (.ireturn, 1) := by decide +kernel
theorem dX11_hand_103 : decode cX11_hand 103 = .ok (.iconst (-1), 1) := by decide +kernel
theorem dX11_hand_104 : decode cX11_hand 104 = .ok (.ireturn, 1) := by decide +kernel
theorem dX11_tool_0 : decode cX11_tool 0 = .ok (.iload_n 1, 1) := by decide +kernel
theorem dX11_tool_1 : decode cX11_tool 1 = .ok (.iconst (-1), 1) := by decide +kernel
theorem dX11_tool_2 : decode cX11_tool 2 = .ok (.if_icmp .eq 20, 3) := by decide +kernel
theorem dX11_tool_5 : decode cX11_tool 5 = .ok (.aload_n 0, 1) := by decide +kernel
theorem dX11_tool_6 : decode cX11_tool 6 = .ok (.iload_n 1, 1) := by decide +kernel
theorem dX11_tool_7 : decode cX11_tool 7 = .ok (.invokevirtual 205, 3) := by decide +kernel
theorem dX11_tool_10 : decode cX11_tool 10 = .ok (.ifCond .eq 12, 3) := by decide +kernel
theorem dX11_tool_13 : decode cX11_tool 13 = .ok (.iload_n 2, 1) := by decide +kernel
theorem dX11_tool_14 : decode cX11_tool 14 = .ok (.ifCond .lt 8, 3) := by decide +kernel
theorem dX11_tool_17 : decode cX11_tool 17 = .ok (.iload_n 2, 1) := by decide +kernel
theorem dX11_tool_18 : decode cX11_tool 18 = .ok (.iconst 1, 1) := by decide +kernel
theorem dX11_tool_19 : decode cX11_tool 19 = .ok (.if_icmp .le 5, 3) := by decide +kernel
theorem dX11_tool_22 : decode cX11_tool 22 = .ok (.iconst (-1), 1) := by decide +kernel
theorem dX11_tool_23 : decode cX11_tool 23 = .ok (.ireturn, 1) := by decide +kernel
theorem dX11_tool_24 : decode cX11_tool 24 = .ok (.aload_n 0, 1) := by decide +kernel
theorem dX11_tool_25 : decode cX11_tool 25 = .ok (.getfield 42, 3) := by decide +kernel
theorem dX11_tool_28 : decode cX11_tool 28 = .ok (.iconst 2, 1) := by decide +kernel
theorem dX11_tool_29 : decode cX11_tool 29 = .ok (.iload_n 1, 1) := by decide +kernel
theorem dX11_tool_30 : decode cX11_tool 30 = .ok (.iload_n 2, 1) := by decide +kernel
theorem dX11_tool_31 : decode cX11_tool 31 = .ok (.invokevirtual 192, 3) := by decide +kernel
theorem dX11_tool_34 : decode cX11_tool 34 = .ok (.ireturn, 1) := by decide +kernel
theorem dX11_law_0 : decode cX11_law 0 = .ok (.aload_n 0, 1) := by decide +kernel
theorem dX11_law_1 : decode cX11_law 1 = .ok (.getfield 149, 3) := by decide +kernel
theorem dX11_law_4 : decode cX11_law 4 = .ok (.ifCond .eq 16, 3) := by decide +kernel
theorem dX11_law_7 : decode cX11_law 7 = .ok (.iload_n 1, 1) := by decide +kernel
theorem dX11_law_8 : decode cX11_law 8 = .ok (.iconst (-1), 1) := by decide +kernel
theorem dX11_law_9 : decode cX11_law 9 = .ok (.if_icmp .lt 11, 3) := by decide +kernel
theorem dX11_law_12 : decode cX11_law 12 = .ok (.iload_n 1, 1) := by decide +kernel
theorem dX11_law_13 : decode cX11_law 13 = .ok (.aload_n 0, 1) := by decide +kernel
theorem dX11_law_14 : decode cX11_law 14 = .ok (.getfield 156, 3) := by decide +kernel
theorem dX11_law_17 : decode cX11_law 17 = .ok (.if_icmp .lt 5, 3) := by decide +kernel
theorem dX11_law_20 : decode cX11_law 20 = .ok (.iconst 0, 1) := by decide +kernel
theorem dX11_law_21 : decode cX11_law 21 = .ok (.ireturn, 1) := by decide +kernel
theorem dX11_law_22 : decode cX11_law 22 = .ok (.aload_n 0, 1) := by decide +kernel
theorem dX11_law_23 : decode cX11_law 23 = .ok (.iload_n 1, 1) := by decide +kernel
theorem dX11_law_24 : decode cX11_law 24 = .ok (.putfield 102, 3) := by decide +kernel
theorem dX11_law_27 : decode cX11_law 27 = .ok (.aload_n 0, 1) := by decide +kernel
theorem dX11_law_28 : decode cX11_law 28 = .ok (.getfield 49, 3) := by decide +kernel
theorem dX11_law_31 : decode cX11_law 31 = .ok (.iload_n 1, 1) := by decide +kernel
theorem dX11_law_32 : decode cX11_law 32 = .ok (.iconst (-1), 1) := by decide +kernel
theorem dX11_law_33 : decode cX11_law 33 = .ok (.if_icmp .ne 7, 3) := by decide +kernel
theorem dX11_law_36 : decode cX11_law 36 = .ok (.aconst_null, 1) := by decide +kernel
theorem dX11_law_37 : decode cX11_law 37 = .ok (.goto 9, 3) := by decide +kernel
theorem dX11_law_40 : decode cX11_law 40 = .ok (.aload_n 0, 1) := by decide +kernel
theorem dX11_law_41 : decode cX11_law 41 = .ok (.getfield 95, 3) := by decide +kernel
theorem dX11_law_44 : decode cX11_law 44 = .ok (.iload_n 1, 1) := by decide +kernel
theorem dX11_law_45 : decode cX11_law 45 = .ok (.aaload, 1) := by decide +kernel
theorem dX11_law_46 : decode cX11_law 46 = .ok (.putfield 139, 3) := by decide +kernel
theorem dX11_law_49 : decode cX11_law 49 = .ok (.iconst 1, 1) := by decide +kernel
theorem dX11_law_50 : decode cX11_law 50 = .ok (.ireturn, 1) := by decide +kernel
theorem dX11_step_0 : decode cX11_step 0 = .ok (.aload_n 0, 1) := by decide +kernel
theorem dX11_step_1 : decode cX11_step 1 = .ok (.iload_n 1, 1) := by decide +kernel
theorem dX11_step_2 : decode cX11_step 2 = .ok (.invokevirtual 208, 3) := by decide +kernel
theorem dX11_step_5 : decode cX11_step 5 = .ok (.astore_n 3, 1) := by decide +kernel
theorem dX11_step_6 : decode cX11_step 6 = .ok (.aload_n 3, 1) := by decide +kernel
theorem dX11_step_7 : decode cX11_step 7 = .ok (.ifnull 13, 3) := by decide +kernel
theorem dX11_step_10 : decode cX11_step 10 = .ok (.iload_n 2, 1) := by decide +kernel
theorem dX11_step_11 : decode cX11_step 11 = .ok (.ifCond .lt 9, 3) := by decide +kernel
theorem dX11_step_14 : decode cX11_step 14 = .ok (.iload_n 2, 1) := by decide +kernel
theorem dX11_step_15 : decode cX11_step 15 = .ok (.aload_n 3, 1) := by decide +kernel
theorem dX11_step_16 : decode cX11_step 16 = .ok (.arraylength, 1) := by decide +kernel
theorem dX11_step_17 : decode cX11_step 17 = .ok (.if_icmp .lt 5, 3) := by decide +kernel
theorem dX11_step_20 : decode cX11_step 20 = .ok (.iconst (-1), 1) := by decide +kernel
theorem dX11_step_21 : decode cX11_step 21 = .ok (.ireturn, 1) := by decide +kernel
theorem dX11_step_22 : decode cX11_step 22 = .ok (.aload_n 3, 1) := by decide +kernel
theorem dX11_step_23 : decode cX11_step 23 = .ok (.iload_n 2, 1) := by decide +kernel
theorem dX11_step_24 : decode cX11_step 24 = .ok (.iaload, 1) := by decide +kernel
theorem dX11_step_25 : decode cX11_step 25 = .ok (.ireturn, 1) := by decide +kernel
theorem dX11_grip_0 : decode cX11_grip 0 = .ok (.aload_n 0, 1) := by decide +kernel
theorem dX11_grip_1 : decode cX11_grip 1 = .ok (.iload_n 1, 1) := by decide +kernel
theorem dX11_grip_2 : decode cX11_grip 2 = .ok (.invokevirtual 196, 3) := by decide +kernel
theorem dX11_grip_5 : decode cX11_grip 5 = .ok (.ifCond .eq 19, 3) := by decide +kernel
theorem dX11_grip_8 : decode cX11_grip 8 = .ok (.aload_n 0, 1) := by decide +kernel
theorem dX11_grip_9 : decode cX11_grip 9 = .ok (.iload_n 2, 1) := by decide +kernel
theorem dX11_grip_10 : decode cX11_grip 10 = .ok (.invokevirtual 205, 3) := by decide +kernel
theorem dX11_grip_13 : decode cX11_grip 13 = .ok (.ifCond .eq 11, 3) := by decide +kernel
theorem dX11_grip_16 : decode cX11_grip 16 = .ok (.aload_n 0, 1) := by decide +kernel
theorem dX11_grip_17 : decode cX11_grip 17 = .ok (.iload_n 3, 1) := by decide +kernel
theorem dX11_grip_18 : decode cX11_grip 18 = .ok (.invokevirtual 178, 3) := by decide +kernel
theorem dX11_grip_21 : decode cX11_grip 21 = .ok (.ifCond .ne 5, 3) := by decide +kernel
theorem dX11_grip_24 : decode cX11_grip 24 = .ok (.iconst (-1), 1) := by decide +kernel
theorem dX11_grip_25 : decode cX11_grip 25 = .ok (.ireturn, 1) := by decide +kernel
theorem dX11_grip_26 : decode cX11_grip 26 = .ok (.aload_n 0, 1) := by decide +kernel
theorem dX11_grip_27 : decode cX11_grip 27 = .ok (.getfield 58, 3) := by decide +kernel
theorem dX11_grip_30 : decode cX11_grip 30 = .ok (.iload_n 1, 1) := by decide +kernel
theorem dX11_grip_31 : decode cX11_grip 31 = .ok (.iload_n 2, 1) := by decide +kernel
theorem dX11_grip_32 : decode cX11_grip 32 = .ok (.iload_n 3, 1) := by decide +kernel
theorem dX11_grip_33 : decode cX11_grip 33 = .ok (.invokevirtual 212, 3) := by decide +kernel
theorem dX11_grip_36 : decode cX11_grip 36 = .ok (.ireturn, 1) := by decide +kernel
theorem dX11_lacks_0 : decode cX11_lacks 0 = .ok (.aload_n 0, 1) := by decide +kernel
theorem dX11_lacks_1 : decode cX11_lacks 1 = .ok (.iload_n 1, 1) := by decide +kernel
theorem dX11_lacks_2 : decode cX11_lacks 2 = .ok (.invokevirtual 196, 3) := by decide +kernel
theorem dX11_lacks_5 : decode cX11_lacks 5 = .ok (.ifCond .eq 30, 3) := by decide +kernel
theorem dX11_lacks_8 : decode cX11_lacks 8 = .ok (.aload_n 0, 1) := by decide +kernel
theorem dX11_lacks_9 : decode cX11_lacks 9 = .ok (.iload_n 2, 1) := by decide +kernel
theorem dX11_lacks_10 : decode cX11_lacks 10 = .ok (.invokevirtual 205, 3) := by decide +kernel
theorem dX11_lacks_13 : decode cX11_lacks 13 = .ok (.ifCond .eq 22, 3) := by decide +kernel
theorem dX11_lacks_16 : decode cX11_lacks 16 = .ok (.aload_n 0, 1) := by decide +kernel
theorem dX11_lacks_17 : decode cX11_lacks 17 = .ok (.iload_n 3, 1) := by decide +kernel
theorem dX11_lacks_18 : decode cX11_lacks 18 = .ok (.invokevirtual 178, 3) := by decide +kernel
theorem dX11_lacks_21 : decode cX11_lacks 21 = .ok (.ifCond .eq 14, 3) := by decide +kernel
theorem dX11_lacks_24 : decode cX11_lacks 24 = .ok (.aload_n 0, 1) := by decide +kernel
theorem dX11_lacks_25 : decode cX11_lacks 25 = .ok (.getfield 58, 3) := by decide +kernel
theorem dX11_lacks_28 : decode cX11_lacks 28 = .ok (.iload_n 3, 1) := by decide +kernel
theorem dX11_lacks_29 : decode cX11_lacks 29 = .ok (.invokevirtual 215, 3) := by decide +kernel
theorem dX11_lacks_32 : decode cX11_lacks 32 = .ok (.ifCond .ne 5, 3) := by decide +kernel
theorem dX11_lacks_35 : decode cX11_lacks 35 = .ok (.iconst (-1), 1) := by decide +kernel
theorem dX11_lacks_36 : decode cX11_lacks 36 = .ok (.ireturn, 1) := by decide +kernel
theorem dX11_lacks_37 : decode cX11_lacks 37 = .ok (.iconst 0, 1) := by decide +kernel
theorem dX11_lacks_38 : decode cX11_lacks 38 = .ok (.aload_n 0, 1) := by decide +kernel
theorem dX11_lacks_39 : decode cX11_lacks 39 = .ok (.getfield 58, 3) := by decide +kernel
theorem dX11_lacks_42 : decode cX11_lacks 42 = .ok (.iload_n 3, 1) := by decide +kernel
theorem dX11_lacks_43 : decode cX11_lacks 43 = .ok (.invokevirtual 185, 3) := by decide +kernel
theorem dX11_lacks_46 : decode cX11_lacks 46 = .ok (.aload_n 0, 1) := by decide +kernel
theorem dX11_lacks_47 : decode cX11_lacks 47 = .ok (.getfield 58, 3) := by decide +kernel
theorem dX11_lacks_50 : decode cX11_lacks 50 = .ok (.iload_n 1, 1) := by decide +kernel
theorem dX11_lacks_51 : decode cX11_lacks 51 = .ok (.iload_n 2, 1) := by decide +kernel
theorem dX11_lacks_52 : decode cX11_lacks 52 = .ok (.iload_n 3, 1) := by decide +kernel
theorem dX11_lacks_53 : decode cX11_lacks 53 = .ok (.invokevirtual 212, 3) := by decide +kernel
theorem dX11_lacks_56 : decode cX11_lacks 56 = .ok (.isub, 1) := by decide +kernel
theorem dX11_lacks_57 : decode cX11_lacks 57 = .ok (.invokestatic 218, 3) := by decide +kernel
theorem dX11_lacks_60 : decode cX11_lacks 60 = .ok (.ireturn, 1) := by decide +kernel
theorem dX11_turn_0 : decode cX11_turn 0 = .ok (.aload_n 0, 1) := by decide +kernel
theorem dX11_turn_1 : decode cX11_turn 1 = .ok (.iload_n 1, 1) := by decide +kernel
theorem dX11_turn_2 : decode cX11_turn 2 = .ok (.invokevirtual 196, 3) := by decide +kernel
theorem dX11_turn_5 : decode cX11_turn 5 = .ok (.ifCond .eq 27, 3) := by decide +kernel
theorem dX11_turn_8 : decode cX11_turn 8 = .ok (.aload_n 0, 1) := by decide +kernel
theorem dX11_turn_9 : decode cX11_turn 9 = .ok (.iload_n 2, 1) := by decide +kernel
theorem dX11_turn_10 : decode cX11_turn 10 = .ok (.invokevirtual 205, 3) := by decide +kernel
theorem dX11_turn_13 : decode cX11_turn 13 = .ok (.ifCond .eq 19, 3) := by decide +kernel
theorem dX11_turn_16 : decode cX11_turn 16 = .ok (.iload_n 3, 1) := by decide +kernel
theorem dX11_turn_17 : decode cX11_turn 17 = .ok (.ifCond .lt 15, 3) := by decide +kernel
theorem dX11_turn_20 : decode cX11_turn 20 = .ok (.iload_n 3, 1) := by decide +kernel
theorem dX11_turn_21 : decode cX11_turn 21 = .ok (.iconst 1, 1) := by decide +kernel
theorem dX11_turn_22 : decode cX11_turn 22 = .ok (.if_icmp .gt 10, 3) := by decide +kernel
theorem dX11_turn_25 : decode cX11_turn 25 = .ok (.aload_n 0, 1) := by decide +kernel
theorem dX11_turn_26 : decode cX11_turn 26 = .ok (.invokevirtual 223, 3) := by decide +kernel
theorem dX11_turn_29 : decode cX11_turn 29 = .ok (.ifCond .ne 5, 3) := by decide +kernel
theorem dX11_turn_32 : decode cX11_turn 32 = .ok (.iconst (-1), 1) := by decide +kernel
theorem dX11_turn_33 : decode cX11_turn 33 = .ok (.ireturn, 1) := by decide +kernel
theorem dX11_turn_34 : decode cX11_turn 34 = .ok (.iload_n 1, 1) := by decide +kernel
theorem dX11_turn_35 : decode cX11_turn 35 = .ok (.iload_n 2, 1) := by decide +kernel
theorem dX11_turn_36 : decode cX11_turn 36 = .ok (.invokestatic 227, 3) := by decide +kernel
theorem dX11_turn_39 : decode cX11_turn 39 = .ok (.istore 4, 2) := by decide +kernel
theorem dX11_turn_41 : decode cX11_turn 41 = .ok (.aload_n 0, 1) := by decide +kernel
theorem dX11_turn_42 : decode cX11_turn 42 = .ok (.getfield 68, 3) := by decide +kernel
theorem dX11_turn_45 : decode cX11_turn 45 = .ok (.aload_n 0, 1) := by decide +kernel
theorem dX11_turn_46 : decode cX11_turn 46 = .ok (.getfield 58, 3) := by decide +kernel
theorem dX11_turn_49 : decode cX11_turn 49 = .ok (.invokevirtual 230, 3) := by decide +kernel
theorem dX11_turn_52 : decode cX11_turn 52 = .ok (.iload_n 3, 1) := by decide +kernel
theorem dX11_turn_53 : decode cX11_turn 53 = .ok (.aload_n 0, 1) := by decide +kernel
theorem dX11_turn_54 : decode cX11_turn 54 = .ok (.getfield 42, 3) := by decide +kernel
theorem dX11_turn_57 : decode cX11_turn 57 = .ok (.iconst 0, 1) := by decide +kernel
theorem dX11_turn_58 : decode cX11_turn 58 = .ok (.aload_n 0, 1) := by decide +kernel
theorem dX11_turn_59 : decode cX11_turn 59 = .ok (.getfield 58, 3) := by decide +kernel
theorem dX11_turn_62 : decode cX11_turn 62 = .ok (.invokevirtual 234, 3) := by decide +kernel
theorem dX11_turn_65 : decode cX11_turn 65 = .ok (.iconst 3, 1) := by decide +kernel
theorem dX11_turn_66 : decode cX11_turn 66 = .ok (.invokevirtual 192, 3) := by decide +kernel
theorem dX11_turn_69 : decode cX11_turn 69 = .ok (.if_icmp .ne 30, 3) := by decide +kernel
theorem dX11_turn_72 : decode cX11_turn 72 = .ok (.aload_n 0, 1) := by decide +kernel
theorem dX11_turn_73 : decode cX11_turn 73 = .ok (.getfield 58, 3) := by decide +kernel
theorem dX11_turn_76 : decode cX11_turn 76 = .ok (.iload_n 1, 1) := by decide +kernel
theorem dX11_turn_77 : decode cX11_turn 77 = .ok (.aload_n 0, 1) := by decide +kernel
theorem dX11_turn_78 : decode cX11_turn 78 = .ok (.getfield 58, 3) := by decide +kernel
theorem dX11_turn_81 : decode cX11_turn 81 = .ok (.iload_n 1, 1) := by decide +kernel
theorem dX11_turn_82 : decode cX11_turn 82 = .ok (.iload_n 2, 1) := by decide +kernel
theorem dX11_turn_83 : decode cX11_turn 83 = .ok (.aload_n 0, 1) := by decide +kernel
theorem dX11_turn_84 : decode cX11_turn 84 = .ok (.getfield 58, 3) := by decide +kernel
theorem dX11_turn_87 : decode cX11_turn 87 = .ok (.invokevirtual 234, 3) := by decide +kernel
theorem dX11_turn_90 : decode cX11_turn 90 = .ok (.invokevirtual 212, 3) := by decide +kernel
theorem dX11_turn_93 : decode cX11_turn 93 = .ok (.invokevirtual 237, 3) := by decide +kernel
theorem dX11_turn_96 : decode cX11_turn 96 = .ok (.goto 17, 3) := by decide +kernel
theorem dX11_turn_99 : decode cX11_turn 99 = .ok (.aload_n 0, 1) := by decide +kernel
theorem dX11_turn_100 : decode cX11_turn 100 = .ok (.getfield 58, 3) := by decide +kernel
theorem dX11_turn_103 : decode cX11_turn 103 = .ok (.iload_n 1, 1) := by decide +kernel
theorem dX11_turn_104 : decode cX11_turn 104 = .ok (.invokevirtual 241, 3) := by decide +kernel
theorem dX11_turn_107 : decode cX11_turn 107 = .ok (.iinc 4 1000, 6) := by decide +kernel
theorem dX11_turn_113 : decode cX11_turn 113 = .ok (.aload_n 0, 1) := by decide +kernel
theorem dX11_turn_114 : decode cX11_turn 114 = .ok (.getfield 68, 3) := by decide +kernel
theorem dX11_turn_117 : decode cX11_turn 117 = .ok (.iload 4, 2) := by decide +kernel
theorem dX11_turn_119 : decode cX11_turn 119 = .ok (.aload_n 0, 1) := by decide +kernel
theorem dX11_turn_120 : decode cX11_turn 120 = .ok (.getfield 58, 3) := by decide +kernel
theorem dX11_turn_123 : decode cX11_turn 123 = .ok (.invokevirtual 244, 3) := by decide +kernel
theorem dX11_turn_126 : decode cX11_turn 126 = .ok (.invokevirtual 247, 3) := by decide +kernel
theorem dX11_turn_129 : decode cX11_turn 129 = .ok (.aload_n 0, 1) := by decide +kernel
theorem dX11_turn_130 : decode cX11_turn 130 = .ok (.getfield 58, 3) := by decide +kernel
theorem dX11_turn_133 : decode cX11_turn 133 = .ok (.iconst 5, 1) := by decide +kernel
theorem dX11_turn_134 : decode cX11_turn 134 = .ok (.invokevirtual 250, 3) := by decide +kernel
theorem dX11_turn_137 : decode cX11_turn 137 = .ok (.ireturn, 1) := by decide +kernel
theorem dX11_heat_0 : decode cX11_heat 0 = .ok (.iload_n 1, 1) := by decide +kernel
theorem dX11_heat_1 : decode cX11_heat 1 = .ok (.iconst 1, 1) := by decide +kernel
theorem dX11_heat_2 : decode cX11_heat 2 = .ok (.if_icmp .lt 16, 3) := by decide +kernel
theorem dX11_heat_5 : decode cX11_heat 5 = .ok (.iload_n 1, 1) := by decide +kernel
theorem dX11_heat_6 : decode cX11_heat 6 = .ok (.bipush 60, 2) := by decide +kernel
theorem dX11_heat_8 : decode cX11_heat 8 = .ok (.if_icmp .gt 10, 3) := by decide +kernel
theorem dX11_heat_11 : decode cX11_heat 11 = .ok (.aload_n 0, 1) := by decide +kernel
theorem dX11_heat_12 : decode cX11_heat 12 = .ok (.invokevirtual 223, 3) := by decide +kernel
theorem dX11_heat_15 : decode cX11_heat 15 = .ok (.ifCond .ne 5, 3) := by decide +kernel
theorem dX11_heat_18 : decode cX11_heat 18 = .ok (.iconst (-1), 1) := by decide +kernel
theorem dX11_heat_19 : decode cX11_heat 19 = .ok (.ireturn, 1) := by decide +kernel
theorem dX11_heat_20 : decode cX11_heat 20 = .ok (.aload_n 0, 1) := by decide +kernel
theorem dX11_heat_21 : decode cX11_heat 21 = .ok (.getfield 68, 3) := by decide +kernel
theorem dX11_heat_24 : decode cX11_heat 24 = .ok (.aload_n 0, 1) := by decide +kernel
theorem dX11_heat_25 : decode cX11_heat 25 = .ok (.getfield 58, 3) := by decide +kernel
theorem dX11_heat_28 : decode cX11_heat 28 = .ok (.invokevirtual 230, 3) := by decide +kernel
theorem dX11_heat_31 : decode cX11_heat 31 = .ok (.aload_n 0, 1) := by decide +kernel
theorem dX11_heat_32 : decode cX11_heat 32 = .ok (.getfield 58, 3) := by decide +kernel
theorem dX11_heat_35 : decode cX11_heat 35 = .ok (.iload_n 1, 1) := by decide +kernel
theorem dX11_heat_36 : decode cX11_heat 36 = .ok (.invokevirtual 253, 3) := by decide +kernel
theorem dX11_heat_39 : decode cX11_heat 39 = .ok (.aload_n 0, 1) := by decide +kernel
theorem dX11_heat_40 : decode cX11_heat 40 = .ok (.getfield 68, 3) := by decide +kernel
theorem dX11_heat_43 : decode cX11_heat 43 = .ok (.iload_n 1, 1) := by decide +kernel
theorem dX11_heat_44 : decode cX11_heat 44 = .ok (.bipush 10, 2) := by decide +kernel
theorem dX11_heat_46 : decode cX11_heat 46 = .ok (.if_icmp .ne 7, 3) := by decide +kernel
theorem dX11_heat_49 : decode cX11_heat 49 = .ok (.iconst 3, 1) := by decide +kernel
theorem dX11_heat_50 : decode cX11_heat 50 = .ok (.goto 4, 3) := by decide +kernel
theorem dX11_heat_53 : decode cX11_heat 53 = .ok (.iconst 5, 1) := by decide +kernel
theorem dX11_heat_54 : decode cX11_heat 54 = .ok (.aload_n 0, 1) := by decide +kernel
theorem dX11_heat_55 : decode cX11_heat 55 = .ok (.getfield 58, 3) := by decide +kernel
theorem dX11_heat_58 : decode cX11_heat 58 = .ok (.invokevirtual 244, 3) := by decide +kernel
theorem dX11_heat_61 : decode cX11_heat 61 = .ok (.invokevirtual 247, 3) := by decide +kernel
theorem dX11_heat_64 : decode cX11_heat 64 = .ok (.aload_n 0, 1) := by decide +kernel
theorem dX11_heat_65 : decode cX11_heat 65 = .ok (.getfield 58, 3) := by decide +kernel
theorem dX11_heat_68 : decode cX11_heat 68 = .ok (.bipush 6, 2) := by decide +kernel
theorem dX11_heat_70 : decode cX11_heat 70 = .ok (.invokevirtual 250, 3) := by decide +kernel
theorem dX11_heat_73 : decode cX11_heat 73 = .ok (.ireturn, 1) := by decide +kernel
theorem dX11_work_0 : decode cX11_work 0 = .ok (.iload_n 1, 1) := by decide +kernel
theorem dX11_work_1 : decode cX11_work 1 = .ok (.ifCond .lt 15, 3) := by decide +kernel
theorem dX11_work_4 : decode cX11_work 4 = .ok (.iload_n 1, 1) := by decide +kernel
theorem dX11_work_5 : decode cX11_work 5 = .ok (.iconst 3, 1) := by decide +kernel
theorem dX11_work_6 : decode cX11_work 6 = .ok (.if_icmp .gt 10, 3) := by decide +kernel
theorem dX11_work_9 : decode cX11_work 9 = .ok (.aload_n 0, 1) := by decide +kernel
theorem dX11_work_10 : decode cX11_work 10 = .ok (.invokevirtual 223, 3) := by decide +kernel
theorem dX11_work_13 : decode cX11_work 13 = .ok (.ifCond .ne 5, 3) := by decide +kernel
theorem dX11_work_16 : decode cX11_work 16 = .ok (.iconst (-1), 1) := by decide +kernel
theorem dX11_work_17 : decode cX11_work 17 = .ok (.ireturn, 1) := by decide +kernel
theorem dX11_work_18 : decode cX11_work 18 = .ok (.aload_n 0, 1) := by decide +kernel
theorem dX11_work_19 : decode cX11_work 19 = .ok (.getfield 68, 3) := by decide +kernel
theorem dX11_work_22 : decode cX11_work 22 = .ok (.aload_n 0, 1) := by decide +kernel
theorem dX11_work_23 : decode cX11_work 23 = .ok (.getfield 58, 3) := by decide +kernel
theorem dX11_work_26 : decode cX11_work 26 = .ok (.invokevirtual 230, 3) := by decide +kernel
theorem dX11_work_29 : decode cX11_work 29 = .ok (.iload_n 1, 1) := by decide +kernel
theorem dX11_work_30 : decode cX11_work 30 = .ok (.iconst 3, 1) := by decide +kernel
theorem dX11_work_31 : decode cX11_work 31 = .ok (.if_icmp .ne 13, 3) := by decide +kernel
theorem dX11_work_34 : decode cX11_work 34 = .ok (.aload_n 0, 1) := by decide +kernel
theorem dX11_work_35 : decode cX11_work 35 = .ok (.getfield 58, 3) := by decide +kernel
theorem dX11_work_38 : decode cX11_work 38 = .ok (.invokevirtual 256, 3) := by decide +kernel
theorem dX11_work_41 : decode cX11_work 41 = .ok (.goto 11, 3) := by decide +kernel
theorem dX11_work_44 : decode cX11_work 44 = .ok (.aload_n 0, 1) := by decide +kernel
theorem dX11_work_45 : decode cX11_work 45 = .ok (.getfield 58, 3) := by decide +kernel
theorem dX11_work_48 : decode cX11_work 48 = .ok (.iload_n 1, 1) := by decide +kernel
theorem dX11_work_49 : decode cX11_work 49 = .ok (.invokevirtual 259, 3) := by decide +kernel
theorem dX11_work_52 : decode cX11_work 52 = .ok (.aload_n 0, 1) := by decide +kernel
theorem dX11_work_53 : decode cX11_work 53 = .ok (.getfield 68, 3) := by decide +kernel
theorem dX11_work_56 : decode cX11_work 56 = .ok (.iload_n 1, 1) := by decide +kernel
theorem dX11_work_57 : decode cX11_work 57 = .ok (.iconst 3, 1) := by decide +kernel
theorem dX11_work_58 : decode cX11_work 58 = .ok (.if_icmp .ne 8, 3) := by decide +kernel
theorem dX11_work_61 : decode cX11_work 61 = .ok (.bipush 7, 2) := by decide +kernel
theorem dX11_work_63 : decode cX11_work 63 = .ok (.goto 4, 3) := by decide +kernel
theorem dX11_work_66 : decode cX11_work 66 = .ok (.iload_n 1, 1) := by decide +kernel
theorem dX11_work_67 : decode cX11_work 67 = .ok (.aload_n 0, 1) := by decide +kernel
theorem dX11_work_68 : decode cX11_work 68 = .ok (.getfield 58, 3) := by decide +kernel
theorem dX11_work_71 : decode cX11_work 71 = .ok (.invokevirtual 244, 3) := by decide +kernel
theorem dX11_work_74 : decode cX11_work 74 = .ok (.invokevirtual 247, 3) := by decide +kernel
theorem dX11_work_77 : decode cX11_work 77 = .ok (.aload_n 0, 1) := by decide +kernel
theorem dX11_work_78 : decode cX11_work 78 = .ok (.getfield 58, 3) := by decide +kernel
theorem dX11_work_81 : decode cX11_work 81 = .ok (.aload_n 0, 1) := by decide +kernel
theorem dX11_work_82 : decode cX11_work 82 = .ok (.getfield 58, 3) := by decide +kernel
theorem dX11_work_85 : decode cX11_work 85 = .ok (.invokevirtual 234, 3) := by decide +kernel
theorem dX11_work_88 : decode cX11_work 88 = .ok (.invokevirtual 185, 3) := by decide +kernel
theorem dX11_work_91 : decode cX11_work 91 = .ok (.ireturn, 1) := by decide +kernel
theorem dX11_dry_0 : decode cX11_dry 0 = .ok (.aload_n 0, 1) := by decide +kernel
theorem dX11_dry_1 : decode cX11_dry 1 = .ok (.iload_n 1, 1) := by decide +kernel
theorem dX11_dry_2 : decode cX11_dry 2 = .ok (.invokevirtual 196, 3) := by decide +kernel
theorem dX11_dry_5 : decode cX11_dry 5 = .ok (.ifCond .ne 5, 3) := by decide +kernel
theorem dX11_dry_8 : decode cX11_dry 8 = .ok (.iconst 0, 1) := by decide +kernel
theorem dX11_dry_9 : decode cX11_dry 9 = .ok (.ireturn, 1) := by decide +kernel
theorem dX11_dry_10 : decode cX11_dry 10 = .ok (.aload_n 0, 1) := by decide +kernel
theorem dX11_dry_11 : decode cX11_dry 11 = .ok (.getfield 68, 3) := by decide +kernel
theorem dX11_dry_14 : decode cX11_dry 14 = .ok (.aload_n 0, 1) := by decide +kernel
theorem dX11_dry_15 : decode cX11_dry 15 = .ok (.getfield 58, 3) := by decide +kernel
theorem dX11_dry_18 : decode cX11_dry 18 = .ok (.invokevirtual 230, 3) := by decide +kernel
theorem dX11_dry_21 : decode cX11_dry 21 = .ok (.aload_n 0, 1) := by decide +kernel
theorem dX11_dry_22 : decode cX11_dry 22 = .ok (.getfield 58, 3) := by decide +kernel
theorem dX11_dry_25 : decode cX11_dry 25 = .ok (.bipush 10, 2) := by decide +kernel
theorem dX11_dry_27 : decode cX11_dry 27 = .ok (.iload_n 1, 1) := by decide +kernel
theorem dX11_dry_28 : decode cX11_dry 28 = .ok (.iadd, 1) := by decide +kernel
theorem dX11_dry_29 : decode cX11_dry 29 = .ok (.invokevirtual 259, 3) := by decide +kernel
theorem dX11_dry_32 : decode cX11_dry 32 = .ok (.aload_n 0, 1) := by decide +kernel
theorem dX11_dry_33 : decode cX11_dry 33 = .ok (.getfield 68, 3) := by decide +kernel
theorem dX11_dry_36 : decode cX11_dry 36 = .ok (.bipush 10, 2) := by decide +kernel
theorem dX11_dry_38 : decode cX11_dry 38 = .ok (.iload_n 1, 1) := by decide +kernel
theorem dX11_dry_39 : decode cX11_dry 39 = .ok (.iadd, 1) := by decide +kernel
theorem dX11_dry_40 : decode cX11_dry 40 = .ok (.aload_n 0, 1) := by decide +kernel
theorem dX11_dry_41 : decode cX11_dry 41 = .ok (.getfield 58, 3) := by decide +kernel
theorem dX11_dry_44 : decode cX11_dry 44 = .ok (.invokevirtual 244, 3) := by decide +kernel
theorem dX11_dry_47 : decode cX11_dry 47 = .ok (.invokevirtual 247, 3) := by decide +kernel
theorem dX11_dry_50 : decode cX11_dry 50 = .ok (.iconst 1, 1) := by decide +kernel
theorem dX11_dry_51 : decode cX11_dry 51 = .ok (.ireturn, 1) := by decide +kernel
theorem dX11_pause_0 : decode cX11_pause 0 = .ok (.aload_n 0, 1) := by decide +kernel
theorem dX11_pause_1 : decode cX11_pause 1 = .ok (.getfield 149, 3) := by decide +kernel
theorem dX11_pause_4 : decode cX11_pause 4 = .ok (.ifCond .eq 14, 3) := by decide +kernel
theorem dX11_pause_7 : decode cX11_pause 7 = .ok (.iload_n 1, 1) := by decide +kernel
theorem dX11_pause_8 : decode cX11_pause 8 = .ok (.iconst 1, 1) := by decide +kernel
theorem dX11_pause_9 : decode cX11_pause 9 = .ok (.if_icmp .lt 9, 3) := by decide +kernel
theorem dX11_pause_12 : decode cX11_pause 12 = .ok (.iload_n 1, 1) := by decide +kernel
theorem dX11_pause_13 : decode cX11_pause 13 = .ok (.bipush 60, 2) := by decide +kernel
theorem dX11_pause_15 : decode cX11_pause 15 = .ok (.if_icmp .le 5, 3) := by decide +kernel
theorem dX11_pause_18 : decode cX11_pause 18 = .ok (.iconst (-1), 1) := by decide +kernel
theorem dX11_pause_19 : decode cX11_pause 19 = .ok (.ireturn, 1) := by decide +kernel
theorem dX11_pause_20 : decode cX11_pause 20 = .ok (.aload_n 0, 1) := by decide +kernel
theorem dX11_pause_21 : decode cX11_pause 21 = .ok (.getfield 68, 3) := by decide +kernel
theorem dX11_pause_24 : decode cX11_pause 24 = .ok (.aload_n 0, 1) := by decide +kernel
theorem dX11_pause_25 : decode cX11_pause 25 = .ok (.getfield 58, 3) := by decide +kernel
theorem dX11_pause_28 : decode cX11_pause 28 = .ok (.invokevirtual 230, 3) := by decide +kernel
theorem dX11_pause_31 : decode cX11_pause 31 = .ok (.aload_n 0, 1) := by decide +kernel
theorem dX11_pause_32 : decode cX11_pause 32 = .ok (.getfield 58, 3) := by decide +kernel
theorem dX11_pause_35 : decode cX11_pause 35 = .ok (.iload_n 1, 1) := by decide +kernel
theorem dX11_pause_36 : decode cX11_pause 36 = .ok (.invokevirtual 262, 3) := by decide +kernel
theorem dX11_pause_39 : decode cX11_pause 39 = .ok (.aload_n 0, 1) := by decide +kernel
theorem dX11_pause_40 : decode cX11_pause 40 = .ok (.getfield 68, 3) := by decide +kernel
theorem dX11_pause_43 : decode cX11_pause 43 = .ok (.iload_n 1, 1) := by decide +kernel
theorem dX11_pause_44 : decode cX11_pause 44 = .ok (.bipush 10, 2) := by decide +kernel
theorem dX11_pause_46 : decode cX11_pause 46 = .ok (.if_icmp .ne 7, 3) := by decide +kernel
theorem dX11_pause_49 : decode cX11_pause 49 = .ok (.iconst 4, 1) := by decide +kernel
theorem dX11_pause_50 : decode cX11_pause 50 = .ok (.goto 5, 3) := by decide +kernel
theorem dX11_pause_53 : decode cX11_pause 53 = .ok (.bipush 6, 2) := by decide +kernel
theorem dX11_pause_55 : decode cX11_pause 55 = .ok (.aload_n 0, 1) := by decide +kernel
theorem dX11_pause_56 : decode cX11_pause 56 = .ok (.getfield 58, 3) := by decide +kernel
theorem dX11_pause_59 : decode cX11_pause 59 = .ok (.invokevirtual 244, 3) := by decide +kernel
theorem dX11_pause_62 : decode cX11_pause 62 = .ok (.invokevirtual 247, 3) := by decide +kernel
theorem dX11_pause_65 : decode cX11_pause 65 = .ok (.aload_n 0, 1) := by decide +kernel
theorem dX11_pause_66 : decode cX11_pause 66 = .ok (.getfield 58, 3) := by decide +kernel
theorem dX11_pause_69 : decode cX11_pause 69 = .ok (.invokevirtual 244, 3) := by decide +kernel
theorem dX11_pause_72 : decode cX11_pause 72 = .ok (.ireturn, 1) := by decide +kernel
theorem dX11_shut_0 : decode cX11_shut 0 = .ok (.aload_n 0, 1) := by decide +kernel
theorem dX11_shut_1 : decode cX11_shut 1 = .ok (.iload_n 1, 1) := by decide +kernel
theorem dX11_shut_2 : decode cX11_shut 2 = .ok (.invokevirtual 196, 3) := by decide +kernel
theorem dX11_shut_5 : decode cX11_shut 5 = .ok (.ifCond .eq 14, 3) := by decide +kernel
theorem dX11_shut_8 : decode cX11_shut 8 = .ok (.aload_n 0, 1) := by decide +kernel
theorem dX11_shut_9 : decode cX11_shut 9 = .ok (.getfield 58, 3) := by decide +kernel
theorem dX11_shut_12 : decode cX11_shut 12 = .ok (.iconst 5, 1) := by decide +kernel
theorem dX11_shut_13 : decode cX11_shut 13 = .ok (.invokevirtual 250, 3) := by decide +kernel
theorem dX11_shut_16 : decode cX11_shut 16 = .ok (.ifCond .ne 5, 3) := by decide +kernel
theorem dX11_shut_19 : decode cX11_shut 19 = .ok (.iconst (-1), 1) := by decide +kernel
theorem dX11_shut_20 : decode cX11_shut 20 = .ok (.ireturn, 1) := by decide +kernel
theorem dX11_shut_21 : decode cX11_shut 21 = .ok (.aload_n 0, 1) := by decide +kernel
theorem dX11_shut_22 : decode cX11_shut 22 = .ok (.getfield 68, 3) := by decide +kernel
theorem dX11_shut_25 : decode cX11_shut 25 = .ok (.aload_n 0, 1) := by decide +kernel
theorem dX11_shut_26 : decode cX11_shut 26 = .ok (.getfield 58, 3) := by decide +kernel
theorem dX11_shut_29 : decode cX11_shut 29 = .ok (.invokevirtual 230, 3) := by decide +kernel
theorem dX11_shut_32 : decode cX11_shut 32 = .ok (.aload_n 0, 1) := by decide +kernel
theorem dX11_shut_33 : decode cX11_shut 33 = .ok (.getfield 58, 3) := by decide +kernel
theorem dX11_shut_36 : decode cX11_shut 36 = .ok (.iload_n 1, 1) := by decide +kernel
theorem dX11_shut_37 : decode cX11_shut 37 = .ok (.invokevirtual 265, 3) := by decide +kernel
theorem dX11_shut_40 : decode cX11_shut 40 = .ok (.aload_n 0, 1) := by decide +kernel
theorem dX11_shut_41 : decode cX11_shut 41 = .ok (.getfield 68, 3) := by decide +kernel
theorem dX11_shut_44 : decode cX11_shut 44 = .ok (.bipush 20, 2) := by decide +kernel
theorem dX11_shut_46 : decode cX11_shut 46 = .ok (.iload_n 1, 1) := by decide +kernel
theorem dX11_shut_47 : decode cX11_shut 47 = .ok (.iadd, 1) := by decide +kernel
theorem dX11_shut_48 : decode cX11_shut 48 = .ok (.aload_n 0, 1) := by decide +kernel
theorem dX11_shut_49 : decode cX11_shut 49 = .ok (.getfield 58, 3) := by decide +kernel
theorem dX11_shut_52 : decode cX11_shut 52 = .ok (.invokevirtual 244, 3) := by decide +kernel
theorem dX11_shut_55 : decode cX11_shut 55 = .ok (.invokevirtual 247, 3) := by decide +kernel
theorem dX11_shut_58 : decode cX11_shut 58 = .ok (.aload_n 0, 1) := by decide +kernel
theorem dX11_shut_59 : decode cX11_shut 59 = .ok (.getfield 58, 3) := by decide +kernel
theorem dX11_shut_62 : decode cX11_shut 62 = .ok (.aload_n 0, 1) := by decide +kernel
theorem dX11_shut_63 : decode cX11_shut 63 = .ok (.getfield 58, 3) := by decide +kernel
theorem dX11_shut_66 : decode cX11_shut 66 = .ok (.invokevirtual 234, 3) := by decide +kernel
theorem dX11_shut_69 : decode cX11_shut 69 = .ok (.invokevirtual 185, 3) := by decide +kernel
theorem dX11_shut_72 : decode cX11_shut 72 = .ok (.ireturn, 1) := by decide +kernel
theorem dX11_table_0 : decode cX11_table 0 = .ok (.aload_n 0, 1) := by decide +kernel
theorem dX11_table_1 : decode cX11_table 1 = .ok (.iload_n 1, 1) := by decide +kernel
theorem dX11_table_2 : decode cX11_table 2 = .ok (.invokevirtual 178, 3) := by decide +kernel
theorem dX11_table_5 : decode cX11_table 5 = .ok (.ifCond .eq 14, 3) := by decide +kernel
theorem dX11_table_8 : decode cX11_table 8 = .ok (.iload_n 1, 1) := by decide +kernel
theorem dX11_table_9 : decode cX11_table 9 = .ok (.aload_n 0, 1) := by decide +kernel
theorem dX11_table_10 : decode cX11_table 10 = .ok (.getfield 58, 3) := by decide +kernel
theorem dX11_table_13 : decode cX11_table 13 = .ok (.invokevirtual 234, 3) := by decide +kernel
theorem dX11_table_16 : decode cX11_table 16 = .ok (.if_icmp .ne 5, 3) := by decide +kernel
theorem dX11_table_19 : decode cX11_table 19 = .ok (.iconst 0, 1) := by decide +kernel
theorem dX11_table_20 : decode cX11_table 20 = .ok (.ireturn, 1) := by decide +kernel
theorem dX11_table_21 : decode cX11_table 21 = .ok (.aload_n 0, 1) := by decide +kernel
theorem dX11_table_22 : decode cX11_table 22 = .ok (.getfield 68, 3) := by decide +kernel
theorem dX11_table_25 : decode cX11_table 25 = .ok (.aload_n 0, 1) := by decide +kernel
theorem dX11_table_26 : decode cX11_table 26 = .ok (.getfield 58, 3) := by decide +kernel
theorem dX11_table_29 : decode cX11_table 29 = .ok (.invokevirtual 230, 3) := by decide +kernel
theorem dX11_table_32 : decode cX11_table 32 = .ok (.aload_n 0, 1) := by decide +kernel
theorem dX11_table_33 : decode cX11_table 33 = .ok (.getfield 58, 3) := by decide +kernel
theorem dX11_table_36 : decode cX11_table 36 = .ok (.getfield 268, 3) := by decide +kernel
theorem dX11_table_39 : decode cX11_table 39 = .ok (.bipush 64, 2) := by decide +kernel
theorem dX11_table_41 : decode cX11_table 41 = .ok (.iload_n 1, 1) := by decide +kernel
theorem dX11_table_42 : decode cX11_table 42 = .ok (.iastore, 1) := by decide +kernel
theorem dX11_table_43 : decode cX11_table 43 = .ok (.aload_n 0, 1) := by decide +kernel
theorem dX11_table_44 : decode cX11_table 44 = .ok (.getfield 68, 3) := by decide +kernel
theorem dX11_table_47 : decode cX11_table 47 = .ok (.bipush 30, 2) := by decide +kernel
theorem dX11_table_49 : decode cX11_table 49 = .ok (.iload_n 1, 1) := by decide +kernel
theorem dX11_table_50 : decode cX11_table 50 = .ok (.iadd, 1) := by decide +kernel
theorem dX11_table_51 : decode cX11_table 51 = .ok (.aload_n 0, 1) := by decide +kernel
theorem dX11_table_52 : decode cX11_table 52 = .ok (.getfield 58, 3) := by decide +kernel
theorem dX11_table_55 : decode cX11_table 55 = .ok (.invokevirtual 244, 3) := by decide +kernel
theorem dX11_table_58 : decode cX11_table 58 = .ok (.invokevirtual 247, 3) := by decide +kernel
theorem dX11_table_61 : decode cX11_table 61 = .ok (.iconst 1, 1) := by decide +kernel
theorem dX11_table_62 : decode cX11_table 62 = .ok (.ireturn, 1) := by decide +kernel
theorem dX11_undo_0 : decode cX11_undo 0 = .ok (.aload_n 0, 1) := by decide +kernel
theorem dX11_undo_1 : decode cX11_undo 1 = .ok (.getfield 68, 3) := by decide +kernel
theorem dX11_undo_4 : decode cX11_undo 4 = .ok (.aload_n 0, 1) := by decide +kernel
theorem dX11_undo_5 : decode cX11_undo 5 = .ok (.getfield 58, 3) := by decide +kernel
theorem dX11_undo_8 : decode cX11_undo 8 = .ok (.invokevirtual 271, 3) := by decide +kernel
theorem dX11_undo_11 : decode cX11_undo 11 = .ok (.ireturn, 1) := by decide +kernel
theorem dX11_soonest_0 : decode cX11_soonest 0 = .ok (.aload_n 0, 1) := by decide +kernel
theorem dX11_soonest_1 : decode cX11_soonest 1 = .ok (.getfield 149, 3) := by decide +kernel
theorem dX11_soonest_4 : decode cX11_soonest 4 = .ok (.ifCond .eq 35, 3) := by decide +kernel
theorem dX11_soonest_7 : decode cX11_soonest 7 = .ok (.iload_n 1, 1) := by decide +kernel
theorem dX11_soonest_8 : decode cX11_soonest 8 = .ok (.iconst 1, 1) := by decide +kernel
theorem dX11_soonest_9 : decode cX11_soonest 9 = .ok (.if_icmp .lt 30, 3) := by decide +kernel
theorem dX11_soonest_12 : decode cX11_soonest 12 = .ok (.iload_n 1, 1) := by decide +kernel
theorem dX11_soonest_13 : decode cX11_soonest 13 = .ok (.iconst 3, 1) := by decide +kernel
theorem dX11_soonest_14 : decode cX11_soonest 14 = .ok (.if_icmp .gt 25, 3) := by decide +kernel
theorem dX11_soonest_17 : decode cX11_soonest 17 = .ok (.iload_n 3, 1) := by decide +kernel
theorem dX11_soonest_18 : decode cX11_soonest 18 = .ok (.ifCond .lt 21, 3) := by decide +kernel
theorem dX11_soonest_21 : decode cX11_soonest 21 = .ok (.iload_n 3, 1) := by decide +kernel
theorem dX11_soonest_22 : decode cX11_soonest 22 = .ok (.iconst 1, 1) := by decide +kernel
theorem dX11_soonest_23 : decode cX11_soonest 23 = .ok (.if_icmp .gt 16, 3) := by decide +kernel
theorem dX11_soonest_26 : decode cX11_soonest 26 = .ok (.aload_n 0, 1) := by decide +kernel
theorem dX11_soonest_27 : decode cX11_soonest 27 = .ok (.getfield 58, 3) := by decide +kernel
theorem dX11_soonest_30 : decode cX11_soonest 30 = .ok (.bipush 6, 2) := by decide +kernel
theorem dX11_soonest_32 : decode cX11_soonest 32 = .ok (.invokevirtual 250, 3) := by decide +kernel
theorem dX11_soonest_35 : decode cX11_soonest 35 = .ok (.iconst 1, 1) := by decide +kernel
theorem dX11_soonest_36 : decode cX11_soonest 36 = .ok (.if_icmp .ne 7, 3) := by decide +kernel
theorem dX11_soonest_39 : decode cX11_soonest 39 = .ok (.ldc_w 275, 3) := by decide +kernel
theorem dX11_soonest_42 : decode cX11_soonest 42 = .ok (.ireturn, 1) := by decide +kernel
theorem dX11_soonest_43 : decode cX11_soonest 43 = .ok (.aload_n 0, 1) := by decide +kernel
theorem dX11_soonest_44 : decode cX11_soonest 44 = .ok (.getfield 58, 3) := by decide +kernel
theorem dX11_soonest_47 : decode cX11_soonest 47 = .ok (.iconst 5, 1) := by decide +kernel
theorem dX11_soonest_48 : decode cX11_soonest 48 = .ok (.invokevirtual 250, 3) := by decide +kernel
theorem dX11_soonest_51 : decode cX11_soonest 51 = .ok (.iconst 1, 1) := by decide +kernel
theorem dX11_soonest_52 : decode cX11_soonest 52 = .ok (.if_icmp .ne 13, 3) := by decide +kernel
theorem dX11_soonest_55 : decode cX11_soonest 55 = .ok (.iload_n 3, 1) := by decide +kernel
theorem dX11_soonest_56 : decode cX11_soonest 56 = .ok (.ifCond .ne 7, 3) := by decide +kernel
theorem dX11_soonest_59 : decode cX11_soonest 59 = .ok (.iconst 0, 1) := by decide +kernel
theorem dX11_soonest_60 : decode cX11_soonest 60 = .ok (.goto 4, 3) := by decide +kernel
theorem dX11_soonest_63 : decode cX11_soonest 63 = .ok (.iconst (-1), 1) := by decide +kernel
theorem dX11_soonest_64 : decode cX11_soonest 64 = .ok (.ireturn, 1) := by decide +kernel
theorem dX11_soonest_65 : decode cX11_soonest 65 = .ok (.aload_n 0, 1) := by decide +kernel
theorem dX11_soonest_66 : decode cX11_soonest 66 = .ok (.getfield 75, 3) := by decide +kernel
theorem dX11_soonest_69 : decode cX11_soonest 69 = .ok (.iload_n 2, 1) := by decide +kernel
theorem dX11_soonest_70 : decode cX11_soonest 70 = .ok (.invokevirtual 276, 3) := by decide +kernel
theorem dX11_soonest_73 : decode cX11_soonest 73 = .ok (.iconst 1, 1) := by decide +kernel
theorem dX11_soonest_74 : decode cX11_soonest 74 = .ok (.istore 4, 2) := by decide +kernel
theorem dX11_soonest_76 : decode cX11_soonest 76 = .ok (.iload 4, 2) := by decide +kernel
theorem dX11_soonest_78 : decode cX11_soonest 78 = .ok (.iload_n 1, 1) := by decide +kernel
theorem dX11_soonest_79 : decode cX11_soonest 79 = .ok (.if_icmp .gt 42, 3) := by decide +kernel
theorem dX11_soonest_82 : decode cX11_soonest 82 = .ok (.aload_n 0, 1) := by decide +kernel
theorem dX11_soonest_83 : decode cX11_soonest 83 = .ok (.getfield 75, 3) := by decide +kernel
theorem dX11_soonest_86 : decode cX11_soonest 86 = .ok (.iload 4, 2) := by decide +kernel
theorem dX11_soonest_88 : decode cX11_soonest 88 = .ok (.aload_n 0, 1) := by decide +kernel
theorem dX11_soonest_89 : decode cX11_soonest 89 = .ok (.getfield 58, 3) := by decide +kernel
theorem dX11_soonest_92 : decode cX11_soonest 92 = .ok (.invokevirtual 280, 3) := by decide +kernel
theorem dX11_soonest_95 : decode cX11_soonest 95 = .ok (.istore 5, 2) := by decide +kernel
theorem dX11_soonest_97 : decode cX11_soonest 97 = .ok (.iload 5, 2) := by decide +kernel
theorem dX11_soonest_99 : decode cX11_soonest 99 = .ok (.iconst (-1), 1) := by decide +kernel
theorem dX11_soonest_100 : decode cX11_soonest 100 = .ok (.if_icmp .eq 15, 3) := by decide +kernel
theorem dX11_soonest_103 : decode cX11_soonest 103 = .ok (.iload_n 3, 1) := by decide +kernel
theorem dX11_soonest_104 : decode cX11_soonest 104 = .ok (.ifCond .ne 8, 3) := by decide +kernel
theorem dX11_soonest_107 : decode cX11_soonest 107 = .ok (.iload 4, 2) := by decide +kernel
theorem dX11_soonest_109 : decode cX11_soonest 109 = .ok (.goto 5, 3) := by decide +kernel
theorem dX11_soonest_112 : decode cX11_soonest 112 = .ok (.iload 5, 2) := by decide +kernel
theorem dX11_soonest_114 : decode cX11_soonest 114 = .ok (.ireturn, 1) := by decide +kernel
theorem dX11_soonest_115 : decode cX11_soonest 115 = .ok (.iinc 4 1, 3) := by decide +kernel
theorem dX11_soonest_118 : decode cX11_soonest 118 = .ok (.goto (-42), 3) := by decide +kernel
theorem dX11_soonest_121 : decode cX11_soonest 121 = .ok (.ldc_w 275, 3) := by decide +kernel
theorem dX11_soonest_124 : decode cX11_soonest 124 = .ok (.ireturn, 1) := by decide +kernel
theorem dX11_order_0 : decode cX11_order 0 = .ok (.iload_n 1, 1) := by decide +kernel
theorem dX11_order_1 : decode cX11_order 1 = .ok (.ifCond .lt 15, 3) := by decide +kernel
theorem dX11_order_4 : decode cX11_order 4 = .ok (.iload_n 1, 1) := by decide +kernel
theorem dX11_order_5 : decode cX11_order 5 = .ok (.iconst 1, 1) := by decide +kernel
theorem dX11_order_6 : decode cX11_order 6 = .ok (.if_icmp .gt 10, 3) := by decide +kernel
theorem dX11_order_9 : decode cX11_order 9 = .ok (.aload_n 0, 1) := by decide +kernel
theorem dX11_order_10 : decode cX11_order 10 = .ok (.invokevirtual 223, 3) := by decide +kernel
theorem dX11_order_13 : decode cX11_order 13 = .ok (.ifCond .ne 5, 3) := by decide +kernel
theorem dX11_order_16 : decode cX11_order 16 = .ok (.iconst (-1), 1) := by decide +kernel
theorem dX11_order_17 : decode cX11_order 17 = .ok (.ireturn, 1) := by decide +kernel
theorem dX11_order_18 : decode cX11_order 18 = .ok (.aload_n 0, 1) := by decide +kernel
theorem dX11_order_19 : decode cX11_order 19 = .ok (.getfield 82, 3) := by decide +kernel
theorem dX11_order_22 : decode cX11_order 22 = .ok (.aload_n 0, 1) := by decide +kernel
theorem dX11_order_23 : decode cX11_order 23 = .ok (.getfield 58, 3) := by decide +kernel
theorem dX11_order_26 : decode cX11_order 26 = .ok (.invokevirtual 284, 3) := by decide +kernel
theorem dX11_order_29 : decode cX11_order 29 = .ok (.aload_n 0, 1) := by decide +kernel
theorem dX11_order_30 : decode cX11_order 30 = .ok (.getfield 82, 3) := by decide +kernel
theorem dX11_order_33 : decode cX11_order 33 = .ok (.invokevirtual 287, 3) := by decide +kernel
theorem dX11_order_36 : decode cX11_order 36 = .ok (.ifCond .ne 5, 3) := by decide +kernel
theorem dX11_order_39 : decode cX11_order 39 = .ok (.iconst (-1), 1) := by decide +kernel
theorem dX11_order_40 : decode cX11_order 40 = .ok (.ireturn, 1) := by decide +kernel
theorem dX11_order_41 : decode cX11_order 41 = .ok (.iload_n 1, 1) := by decide +kernel
theorem dX11_order_42 : decode cX11_order 42 = .ok (.ifCond .ne 13, 3) := by decide +kernel
theorem dX11_order_45 : decode cX11_order 45 = .ok (.aload_n 0, 1) := by decide +kernel
theorem dX11_order_46 : decode cX11_order 46 = .ok (.getfield 82, 3) := by decide +kernel
theorem dX11_order_49 : decode cX11_order 49 = .ok (.getfield 290, 3) := by decide +kernel
theorem dX11_order_52 : decode cX11_order 52 = .ok (.goto 10, 3) := by decide +kernel
theorem dX11_order_55 : decode cX11_order 55 = .ok (.aload_n 0, 1) := by decide +kernel
theorem dX11_order_56 : decode cX11_order 56 = .ok (.getfield 82, 3) := by decide +kernel
theorem dX11_order_59 : decode cX11_order 59 = .ok (.getfield 293, 3) := by decide +kernel
theorem dX11_order_62 : decode cX11_order 62 = .ok (.ireturn, 1) := by decide +kernel
theorem dX11_run_0 : decode cX11_run 0 = .ok (.aload_n 0, 1) := by decide +kernel
theorem dX11_run_1 : decode cX11_run 1 = .ok (.iload_n 1, 1) := by decide +kernel
theorem dX11_run_2 : decode cX11_run 2 = .ok (.invokevirtual 208, 3) := by decide +kernel
theorem dX11_run_5 : decode cX11_run 5 = .ok (.astore_n 3, 1) := by decide +kernel
theorem dX11_run_6 : decode cX11_run 6 = .ok (.aload_n 3, 1) := by decide +kernel
theorem dX11_run_7 : decode cX11_run 7 = .ok (.ifnull 19, 3) := by decide +kernel
theorem dX11_run_10 : decode cX11_run 10 = .ok (.iload_n 2, 1) := by decide +kernel
theorem dX11_run_11 : decode cX11_run 11 = .ok (.ifCond .lt 15, 3) := by decide +kernel
theorem dX11_run_14 : decode cX11_run 14 = .ok (.iload_n 2, 1) := by decide +kernel
theorem dX11_run_15 : decode cX11_run 15 = .ok (.iconst 2, 1) := by decide +kernel
theorem dX11_run_16 : decode cX11_run 16 = .ok (.if_icmp .gt 10, 3) := by decide +kernel
theorem dX11_run_19 : decode cX11_run 19 = .ok (.aload_n 0, 1) := by decide +kernel
theorem dX11_run_20 : decode cX11_run 20 = .ok (.invokevirtual 223, 3) := by decide +kernel
theorem dX11_run_23 : decode cX11_run 23 = .ok (.ifCond .ne 5, 3) := by decide +kernel
theorem dX11_run_26 : decode cX11_run 26 = .ok (.iconst (-1), 1) := by decide +kernel
theorem dX11_run_27 : decode cX11_run 27 = .ok (.ireturn, 1) := by decide +kernel
theorem dX11_run_28 : decode cX11_run 28 = .ok (.aload_n 0, 1) := by decide +kernel
theorem dX11_run_29 : decode cX11_run 29 = .ok (.aload_n 3, 1) := by decide +kernel
theorem dX11_run_30 : decode cX11_run 30 = .ok (.invokevirtual 296, 3) := by decide +kernel
theorem dX11_run_33 : decode cX11_run 33 = .ok (.istore 4, 2) := by decide +kernel
theorem dX11_run_35 : decode cX11_run 35 = .ok (.iload_n 2, 1) := by decide +kernel
theorem dX11_run_36 : decode cX11_run 36 = .ok (.iconst 2, 1) := by decide +kernel
theorem dX11_run_37 : decode cX11_run 37 = .ok (.if_icmp .ne 19, 3) := by decide +kernel
theorem dX11_run_40 : decode cX11_run 40 = .ok (.aload_n 0, 1) := by decide +kernel
theorem dX11_run_41 : decode cX11_run 41 = .ok (.getfield 62, 3) := by decide +kernel
theorem dX11_run_44 : decode cX11_run 44 = .ok (.invokevirtual 244, 3) := by decide +kernel
theorem dX11_run_47 : decode cX11_run 47 = .ok (.aload_n 0, 1) := by decide +kernel
theorem dX11_run_48 : decode cX11_run 48 = .ok (.getfield 58, 3) := by decide +kernel
theorem dX11_run_51 : decode cX11_run 51 = .ok (.invokevirtual 244, 3) := by decide +kernel
theorem dX11_run_54 : decode cX11_run 54 = .ok (.isub, 1) := by decide +kernel
theorem dX11_run_55 : decode cX11_run 55 = .ok (.ireturn, 1) := by decide +kernel
theorem dX11_run_56 : decode cX11_run 56 = .ok (.aload_n 0, 1) := by decide +kernel
theorem dX11_run_57 : decode cX11_run 57 = .ok (.getfield 62, 3) := by decide +kernel
theorem dX11_run_60 : decode cX11_run 60 = .ok (.iload_n 2, 1) := by decide +kernel
theorem dX11_run_61 : decode cX11_run 61 = .ok (.ifCond .ne 7, 3) := by decide +kernel
theorem dX11_run_64 : decode cX11_run 64 = .ok (.iconst 5, 1) := by decide +kernel
theorem dX11_run_65 : decode cX11_run 65 = .ok (.goto 5, 3) := by decide +kernel
theorem dX11_run_68 : decode cX11_run 68 = .ok (.bipush 6, 2) := by decide +kernel
theorem dX11_run_70 : decode cX11_run 70 = .ok (.invokevirtual 250, 3) := by decide +kernel
theorem dX11_run_73 : decode cX11_run 73 = .ok (.iconst 1, 1) := by decide +kernel
theorem dX11_run_74 : decode cX11_run 74 = .ok (.if_icmp .ne 8, 3) := by decide +kernel
theorem dX11_run_77 : decode cX11_run 77 = .ok (.iload 4, 2) := by decide +kernel
theorem dX11_run_79 : decode cX11_run 79 = .ok (.goto 4, 3) := by decide +kernel
theorem dX11_run_82 : decode cX11_run 82 = .ok (.iconst (-1), 1) := by decide +kernel
theorem dX11_run_83 : decode cX11_run 83 = .ok (.ireturn, 1) := by decide +kernel
theorem dX11_best_0 : decode cX11_best 0 = .ok (.aload_n 0, 1) := by decide +kernel
theorem dX11_best_1 : decode cX11_best 1 = .ok (.invokevirtual 223, 3) := by decide +kernel
theorem dX11_best_4 : decode cX11_best 4 = .ok (.ifCond .ne 5, 3) := by decide +kernel
theorem dX11_best_7 : decode cX11_best 7 = .ok (.iconst (-1), 1) := by decide +kernel
theorem dX11_best_8 : decode cX11_best 8 = .ok (.ireturn, 1) := by decide +kernel
theorem dX11_best_9 : decode cX11_best 9 = .ok (.iconst (-1), 1) := by decide +kernel
theorem dX11_best_10 : decode cX11_best 10 = .ok (.istore_n 2, 1) := by decide +kernel
theorem dX11_best_11 : decode cX11_best 11 = .ok (.iconst 0, 1) := by decide +kernel
theorem dX11_best_12 : decode cX11_best 12 = .ok (.istore_n 3, 1) := by decide +kernel
theorem dX11_best_13 : decode cX11_best 13 = .ok (.iconst 0, 1) := by decide +kernel
theorem dX11_best_14 : decode cX11_best 14 = .ok (.istore 4, 2) := by decide +kernel
theorem dX11_best_16 : decode cX11_best 16 = .ok (.iload 4, 2) := by decide +kernel
theorem dX11_best_18 : decode cX11_best 18 = .ok (.aload_n 0, 1) := by decide +kernel
theorem dX11_best_19 : decode cX11_best 19 = .ok (.getfield 169, 3) := by decide +kernel
theorem dX11_best_22 : decode cX11_best 22 = .ok (.if_icmp .ge 98, 3) := by decide +kernel
theorem dX11_best_25 : decode cX11_best 25 = .ok (.aload_n 0, 1) := by decide +kernel
theorem dX11_best_26 : decode cX11_best 26 = .ok (.iload 4, 2) := by decide +kernel
theorem dX11_best_28 : decode cX11_best 28 = .ok (.invokevirtual 208, 3) := by decide +kernel
theorem dX11_best_31 : decode cX11_best 31 = .ok (.astore 5, 2) := by decide +kernel
theorem dX11_best_33 : decode cX11_best 33 = .ok (.aload 5, 2) := by decide +kernel
theorem dX11_best_35 : decode cX11_best 35 = .ok (.ifnonnull 6, 3) := by decide +kernel
theorem dX11_best_38 : decode cX11_best 38 = .ok (.goto 76, 3) := by decide +kernel
theorem dX11_best_41 : decode cX11_best 41 = .ok (.aload_n 0, 1) := by decide +kernel
theorem dX11_best_42 : decode cX11_best 42 = .ok (.aload 5, 2) := by decide +kernel
theorem dX11_best_44 : decode cX11_best 44 = .ok (.invokevirtual 296, 3) := by decide +kernel
theorem dX11_best_47 : decode cX11_best 47 = .ok (.istore 6, 2) := by decide +kernel
theorem dX11_best_49 : decode cX11_best 49 = .ok (.aload_n 0, 1) := by decide +kernel
theorem dX11_best_50 : decode cX11_best 50 = .ok (.getfield 62, 3) := by decide +kernel
theorem dX11_best_53 : decode cX11_best 53 = .ok (.iconst 5, 1) := by decide +kernel
theorem dX11_best_54 : decode cX11_best 54 = .ok (.invokevirtual 250, 3) := by decide +kernel
theorem dX11_best_57 : decode cX11_best 57 = .ok (.iconst 1, 1) := by decide +kernel
theorem dX11_best_58 : decode cX11_best 58 = .ok (.if_icmp .ne 21, 3) := by decide +kernel
theorem dX11_best_61 : decode cX11_best 61 = .ok (.iload_n 1, 1) := by decide +kernel
theorem dX11_best_62 : decode cX11_best 62 = .ok (.ifCond .ne 13, 3) := by decide +kernel
theorem dX11_best_65 : decode cX11_best 65 = .ok (.aload 5, 2) := by decide +kernel
theorem dX11_best_67 : decode cX11_best 67 = .ok (.iload 6, 2) := by decide +kernel
theorem dX11_best_69 : decode cX11_best 69 = .ok (.invokestatic 300, 3) := by decide +kernel
theorem dX11_best_72 : decode cX11_best 72 = .ok (.ifCond .ne 7, 3) := by decide +kernel
theorem dX11_best_75 : decode cX11_best 75 = .ok (.iconst 1, 1) := by decide +kernel
theorem dX11_best_76 : decode cX11_best 76 = .ok (.goto 4, 3) := by decide +kernel
theorem dX11_best_79 : decode cX11_best 79 = .ok (.iconst 0, 1) := by decide +kernel
theorem dX11_best_80 : decode cX11_best 80 = .ok (.istore 7, 2) := by decide +kernel
theorem dX11_best_82 : decode cX11_best 82 = .ok (.iload 7, 2) := by decide +kernel
theorem dX11_best_84 : decode cX11_best 84 = .ok (.ifCond .eq 30, 3) := by decide +kernel
theorem dX11_best_87 : decode cX11_best 87 = .ok (.iload_n 2, 1) := by decide +kernel
theorem dX11_best_88 : decode cX11_best 88 = .ok (.iconst (-1), 1) := by decide +kernel
theorem dX11_best_89 : decode cX11_best 89 = .ok (.if_icmp .eq 14, 3) := by decide +kernel
theorem dX11_best_92 : decode cX11_best 92 = .ok (.aload_n 0, 1) := by decide +kernel
theorem dX11_best_93 : decode cX11_best 93 = .ok (.getfield 62, 3) := by decide +kernel
theorem dX11_best_96 : decode cX11_best 96 = .ok (.invokevirtual 244, 3) := by decide +kernel
theorem dX11_best_99 : decode cX11_best 99 = .ok (.iload_n 3, 1) := by decide +kernel
theorem dX11_best_100 : decode cX11_best 100 = .ok (.if_icmp .ge 14, 3) := by decide +kernel
theorem dX11_best_103 : decode cX11_best 103 = .ok (.iload 4, 2) := by decide +kernel
theorem dX11_best_105 : decode cX11_best 105 = .ok (.istore_n 2, 1) := by decide +kernel
theorem dX11_best_106 : decode cX11_best 106 = .ok (.aload_n 0, 1) := by decide +kernel
theorem dX11_best_107 : decode cX11_best 107 = .ok (.getfield 62, 3) := by decide +kernel
theorem dX11_best_110 : decode cX11_best 110 = .ok (.invokevirtual 244, 3) := by decide +kernel
theorem dX11_best_113 : decode cX11_best 113 = .ok (.istore_n 3, 1) := by decide +kernel
theorem dX11_best_114 : decode cX11_best 114 = .ok (.iinc 4 1, 3) := by decide +kernel
theorem dX11_best_117 : decode cX11_best 117 = .ok (.goto (-101), 3) := by decide +kernel
theorem dX11_best_120 : decode cX11_best 120 = .ok (.iload_n 2, 1) := by decide +kernel
theorem dX11_best_121 : decode cX11_best 121 = .ok (.ireturn, 1) := by decide +kernel
theorem dX11_opens_0 : decode cX11_opens 0 = .ok (.aload_n 0, 1) := by decide +kernel
theorem dX11_opens_1 : decode cX11_opens 1 = .ok (.invokevirtual 223, 3) := by decide +kernel
theorem dX11_opens_4 : decode cX11_opens 4 = .ok (.ifCond .eq 22, 3) := by decide +kernel
theorem dX11_opens_7 : decode cX11_opens 7 = .ok (.iload_n 1, 1) := by decide +kernel
theorem dX11_opens_8 : decode cX11_opens 8 = .ok (.ifCond .lt 18, 3) := by decide +kernel
theorem dX11_opens_11 : decode cX11_opens 11 = .ok (.iload_n 1, 1) := by decide +kernel
theorem dX11_opens_12 : decode cX11_opens 12 = .ok (.iconst 1, 1) := by decide +kernel
theorem dX11_opens_13 : decode cX11_opens 13 = .ok (.aload_n 0, 1) := by decide +kernel
theorem dX11_opens_14 : decode cX11_opens 14 = .ok (.getfield 42, 3) := by decide +kernel
theorem dX11_opens_17 : decode cX11_opens 17 = .ok (.getfield 153, 3) := by decide +kernel
theorem dX11_opens_20 : decode cX11_opens 20 = .ok (.iconst 1, 1) := by decide +kernel
theorem dX11_opens_21 : decode cX11_opens 21 = .ok (.iaload, 1) := by decide +kernel
theorem dX11_opens_22 : decode cX11_opens 22 = .ok (.ishl, 1) := by decide +kernel
theorem dX11_opens_23 : decode cX11_opens 23 = .ok (.if_icmp .lt 5, 3) := by decide +kernel
theorem dX11_opens_26 : decode cX11_opens 26 = .ok (.iconst (-1), 1) := by decide +kernel
theorem dX11_opens_27 : decode cX11_opens 27 = .ok (.ireturn, 1) := by decide +kernel
theorem dX11_opens_28 : decode cX11_opens 28 = .ok (.aload_n 0, 1) := by decide +kernel
theorem dX11_opens_29 : decode cX11_opens 29 = .ok (.getfield 82, 3) := by decide +kernel
theorem dX11_opens_32 : decode cX11_opens 32 = .ok (.aload_n 0, 1) := by decide +kernel
theorem dX11_opens_33 : decode cX11_opens 33 = .ok (.getfield 58, 3) := by decide +kernel
theorem dX11_opens_36 : decode cX11_opens 36 = .ok (.invokevirtual 284, 3) := by decide +kernel
theorem dX11_opens_39 : decode cX11_opens 39 = .ok (.aload_n 0, 1) := by decide +kernel
theorem dX11_opens_40 : decode cX11_opens 40 = .ok (.getfield 82, 3) := by decide +kernel
theorem dX11_opens_43 : decode cX11_opens 43 = .ok (.iload_n 1, 1) := by decide +kernel
theorem dX11_opens_44 : decode cX11_opens 44 = .ok (.invokevirtual 304, 3) := by decide +kernel
theorem dX11_opens_47 : decode cX11_opens 47 = .ok (.ifCond .eq 7, 3) := by decide +kernel
theorem dX11_opens_50 : decode cX11_opens 50 = .ok (.iconst 1, 1) := by decide +kernel
theorem dX11_opens_51 : decode cX11_opens 51 = .ok (.goto 4, 3) := by decide +kernel
theorem dX11_opens_54 : decode cX11_opens 54 = .ok (.iconst 0, 1) := by decide +kernel
theorem dX11_opens_55 : decode cX11_opens 55 = .ok (.ireturn, 1) := by decide +kernel
theorem dX11_share_0 : decode cX11_share 0 = .ok (.aload_n 0, 1) := by decide +kernel
theorem dX11_share_1 : decode cX11_share 1 = .ok (.iload_n 1, 1) := by decide +kernel
theorem dX11_share_2 : decode cX11_share 2 = .ok (.invokevirtual 196, 3) := by decide +kernel
theorem dX11_share_5 : decode cX11_share 5 = .ok (.ifCond .eq 10, 3) := by decide +kernel
theorem dX11_share_8 : decode cX11_share 8 = .ok (.aload_n 0, 1) := by decide +kernel
theorem dX11_share_9 : decode cX11_share 9 = .ok (.invokevirtual 223, 3) := by decide +kernel
theorem dX11_share_12 : decode cX11_share 12 = .ok (.ifCond .ne 5, 3) := by decide +kernel
theorem dX11_share_15 : decode cX11_share 15 = .ok (.iconst (-1), 1) := by decide +kernel
theorem dX11_share_16 : decode cX11_share 16 = .ok (.ireturn, 1) := by decide +kernel
theorem dX11_share_17 : decode cX11_share 17 = .ok (.aload_n 0, 1) := by decide +kernel
theorem dX11_share_18 : decode cX11_share 18 = .ok (.getfield 82, 3) := by decide +kernel
theorem dX11_share_21 : decode cX11_share 21 = .ok (.aload_n 0, 1) := by decide +kernel
theorem dX11_share_22 : decode cX11_share 22 = .ok (.getfield 58, 3) := by decide +kernel
theorem dX11_share_25 : decode cX11_share 25 = .ok (.invokevirtual 284, 3) := by decide +kernel
theorem dX11_share_28 : decode cX11_share 28 = .ok (.aload_n 0, 1) := by decide +kernel
theorem dX11_share_29 : decode cX11_share 29 = .ok (.getfield 82, 3) := by decide +kernel
theorem dX11_share_32 : decode cX11_share 32 = .ok (.iload_n 1, 1) := by decide +kernel
theorem dX11_share_33 : decode cX11_share 33 = .ok (.invokevirtual 307, 3) := by decide +kernel
theorem dX11_share_36 : decode cX11_share 36 = .ok (.ireturn, 1) := by decide +kernel
theorem dX11_cheapest_0 : decode cX11_cheapest 0 = .ok (.aload_n 0, 1) := by decide +kernel
theorem dX11_cheapest_1 : decode cX11_cheapest 1 = .ok (.iload_n 1, 1) := by decide +kernel
theorem dX11_cheapest_2 : decode cX11_cheapest 2 = .ok (.invokevirtual 196, 3) := by decide +kernel
theorem dX11_cheapest_5 : decode cX11_cheapest 5 = .ok (.ifCond .eq 10, 3) := by decide +kernel
theorem dX11_cheapest_8 : decode cX11_cheapest 8 = .ok (.aload_n 0, 1) := by decide +kernel
theorem dX11_cheapest_9 : decode cX11_cheapest 9 = .ok (.invokevirtual 223, 3) := by decide +kernel
theorem dX11_cheapest_12 : decode cX11_cheapest 12 = .ok (.ifCond .ne 7, 3) := by decide +kernel
theorem dX11_cheapest_15 : decode cX11_cheapest 15 = .ok (.ldc_w 275, 3) := by decide +kernel
theorem dX11_cheapest_18 : decode cX11_cheapest 18 = .ok (.ireturn, 1) := by decide +kernel
theorem dX11_cheapest_19 : decode cX11_cheapest 19 = .ok (.aload_n 0, 1) := by decide +kernel
theorem dX11_cheapest_20 : decode cX11_cheapest 20 = .ok (.getfield 58, 3) := by decide +kernel
theorem dX11_cheapest_23 : decode cX11_cheapest 23 = .ok (.iload_n 1, 1) := by decide +kernel
theorem dX11_cheapest_24 : decode cX11_cheapest 24 = .ok (.iconst (-1), 1) := by decide +kernel
theorem dX11_cheapest_25 : decode cX11_cheapest 25 = .ok (.invokevirtual 310, 3) := by decide +kernel
theorem dX11_cheapest_28 : decode cX11_cheapest 28 = .ok (.ifCond .eq 5, 3) := by decide +kernel
theorem dX11_cheapest_31 : decode cX11_cheapest 31 = .ok (.iconst (-1), 1) := by decide +kernel
theorem dX11_cheapest_32 : decode cX11_cheapest 32 = .ok (.ireturn, 1) := by decide +kernel
theorem dX11_cheapest_33 : decode cX11_cheapest 33 = .ok (.ldc_w 275, 3) := by decide +kernel
theorem dX11_cheapest_36 : decode cX11_cheapest 36 = .ok (.istore_n 2, 1) := by decide +kernel
theorem dX11_cheapest_37 : decode cX11_cheapest 37 = .ok (.bipush 100, 2) := by decide +kernel
theorem dX11_cheapest_39 : decode cX11_cheapest 39 = .ok (.istore_n 3, 1) := by decide +kernel
theorem dX11_cheapest_40 : decode cX11_cheapest 40 = .ok (.iconst 0, 1) := by decide +kernel
theorem dX11_cheapest_41 : decode cX11_cheapest 41 = .ok (.istore 4, 2) := by decide +kernel
theorem dX11_cheapest_43 : decode cX11_cheapest 43 = .ok (.iload 4, 2) := by decide +kernel
theorem dX11_cheapest_45 : decode cX11_cheapest 45 = .ok (.aload_n 0, 1) := by decide +kernel
theorem dX11_cheapest_46 : decode cX11_cheapest 46 = .ok (.getfield 42, 3) := by decide +kernel
theorem dX11_cheapest_49 : decode cX11_cheapest 49 = .ok (.getfield 153, 3) := by decide +kernel
theorem dX11_cheapest_52 : decode cX11_cheapest 52 = .ok (.iconst 2, 1) := by decide +kernel
theorem dX11_cheapest_53 : decode cX11_cheapest 53 = .ok (.iaload, 1) := by decide +kernel
theorem dX11_cheapest_54 : decode cX11_cheapest 54 = .ok (.if_icmp .ge 47, 3) := by decide +kernel
theorem dX11_cheapest_57 : decode cX11_cheapest 57 = .ok (.aload_n 0, 1) := by decide +kernel
theorem dX11_cheapest_58 : decode cX11_cheapest 58 = .ok (.getfield 42, 3) := by decide +kernel
theorem dX11_cheapest_61 : decode cX11_cheapest 61 = .ok (.iconst 2, 1) := by decide +kernel
theorem dX11_cheapest_62 : decode cX11_cheapest 62 = .ok (.iload 4, 2) := by decide +kernel
theorem dX11_cheapest_64 : decode cX11_cheapest 64 = .ok (.iconst 1, 1) := by decide +kernel
theorem dX11_cheapest_65 : decode cX11_cheapest 65 = .ok (.invokevirtual 192, 3) := by decide +kernel
theorem dX11_cheapest_68 : decode cX11_cheapest 68 = .ok (.istore 5, 2) := by decide +kernel
theorem dX11_cheapest_70 : decode cX11_cheapest 70 = .ok (.iload 5, 2) := by decide +kernel
theorem dX11_cheapest_72 : decode cX11_cheapest 72 = .ok (.iload_n 3, 1) := by decide +kernel
theorem dX11_cheapest_73 : decode cX11_cheapest 73 = .ok (.if_icmp .ge 22, 3) := by decide +kernel
theorem dX11_cheapest_76 : decode cX11_cheapest 76 = .ok (.aload_n 0, 1) := by decide +kernel
theorem dX11_cheapest_77 : decode cX11_cheapest 77 = .ok (.getfield 58, 3) := by decide +kernel
theorem dX11_cheapest_80 : decode cX11_cheapest 80 = .ok (.iload_n 1, 1) := by decide +kernel
theorem dX11_cheapest_81 : decode cX11_cheapest 81 = .ok (.iload 4, 2) := by decide +kernel
theorem dX11_cheapest_83 : decode cX11_cheapest 83 = .ok (.invokevirtual 310, 3) := by decide +kernel
theorem dX11_cheapest_86 : decode cX11_cheapest 86 = .ok (.ifCond .eq 9, 3) := by decide +kernel
theorem dX11_cheapest_89 : decode cX11_cheapest 89 = .ok (.iload 4, 2) := by decide +kernel
theorem dX11_cheapest_91 : decode cX11_cheapest 91 = .ok (.istore_n 2, 1) := by decide +kernel
theorem dX11_cheapest_92 : decode cX11_cheapest 92 = .ok (.iload 5, 2) := by decide +kernel
theorem dX11_cheapest_94 : decode cX11_cheapest 94 = .ok (.istore_n 3, 1) := by decide +kernel
theorem dX11_cheapest_95 : decode cX11_cheapest 95 = .ok (.iinc 4 1, 3) := by decide +kernel
theorem dX11_cheapest_98 : decode cX11_cheapest 98 = .ok (.goto (-55), 3) := by decide +kernel
theorem dX11_cheapest_101 : decode cX11_cheapest 101 = .ok (.iload_n 2, 1) := by decide +kernel
theorem dX11_cheapest_102 : decode cX11_cheapest 102 = .ok (.ireturn, 1) := by decide +kernel
theorem dX11_safe_0 : decode cX11_safe 0 = .ok (.aload_n 0, 1) := by decide +kernel
theorem dX11_safe_1 : decode cX11_safe 1 = .ok (.invokevirtual 223, 3) := by decide +kernel
theorem dX11_safe_4 : decode cX11_safe 4 = .ok (.ifCond .ne 5, 3) := by decide +kernel
theorem dX11_safe_7 : decode cX11_safe 7 = .ok (.iconst (-1), 1) := by decide +kernel
theorem dX11_safe_8 : decode cX11_safe 8 = .ok (.ireturn, 1) := by decide +kernel
theorem dX11_safe_9 : decode cX11_safe 9 = .ok (.aload_n 0, 1) := by decide +kernel
theorem dX11_safe_10 : decode cX11_safe 10 = .ok (.getfield 42, 3) := by decide +kernel
theorem dX11_safe_13 : decode cX11_safe 13 = .ok (.iconst 0, 1) := by decide +kernel
theorem dX11_safe_14 : decode cX11_safe 14 = .ok (.aload_n 0, 1) := by decide +kernel
theorem dX11_safe_15 : decode cX11_safe 15 = .ok (.getfield 58, 3) := by decide +kernel
theorem dX11_safe_18 : decode cX11_safe 18 = .ok (.invokevirtual 234, 3) := by decide +kernel
theorem dX11_safe_21 : decode cX11_safe 21 = .ok (.iconst 5, 1) := by decide +kernel
theorem dX11_safe_22 : decode cX11_safe 22 = .ok (.invokevirtual 192, 3) := by decide +kernel
theorem dX11_safe_25 : decode cX11_safe 25 = .ok (.aload_n 0, 1) := by decide +kernel
theorem dX11_safe_26 : decode cX11_safe 26 = .ok (.getfield 58, 3) := by decide +kernel
theorem dX11_safe_29 : decode cX11_safe 29 = .ok (.iconst 3, 1) := by decide +kernel
theorem dX11_safe_30 : decode cX11_safe 30 = .ok (.invokevirtual 250, 3) := by decide +kernel
theorem dX11_safe_33 : decode cX11_safe 33 = .ok (.isub, 1) := by decide +kernel
theorem dX11_safe_34 : decode cX11_safe 34 = .ok (.istore_n 1, 1) := by decide +kernel
theorem dX11_safe_35 : decode cX11_safe 35 = .ok (.iconst 0, 1) := by decide +kernel
theorem dX11_safe_36 : decode cX11_safe 36 = .ok (.bipush 60, 2) := by decide +kernel
theorem dX11_safe_38 : decode cX11_safe 38 = .ok (.iload_n 1, 1) := by decide +kernel
theorem dX11_safe_39 : decode cX11_safe 39 = .ok (.invokestatic 314, 3) := by decide +kernel
theorem dX11_safe_42 : decode cX11_safe 42 = .ok (.invokestatic 218, 3) := by decide +kernel
theorem dX11_safe_45 : decode cX11_safe 45 = .ok (.ireturn, 1) := by decide +kernel
theorem dX11_enough_0 : decode cX11_enough 0 = .ok (.aload_n 0, 1) := by decide +kernel
theorem dX11_enough_1 : decode cX11_enough 1 = .ok (.iload_n 1, 1) := by decide +kernel
theorem dX11_enough_2 : decode cX11_enough 2 = .ok (.invokevirtual 196, 3) := by decide +kernel
theorem dX11_enough_5 : decode cX11_enough 5 = .ok (.ifCond .eq 18, 3) := by decide +kernel
theorem dX11_enough_8 : decode cX11_enough 8 = .ok (.aload_n 0, 1) := by decide +kernel
theorem dX11_enough_9 : decode cX11_enough 9 = .ok (.iload_n 2, 1) := by decide +kernel
theorem dX11_enough_10 : decode cX11_enough 10 = .ok (.invokevirtual 205, 3) := by decide +kernel
theorem dX11_enough_13 : decode cX11_enough 13 = .ok (.ifCond .eq 10, 3) := by decide +kernel
theorem dX11_enough_16 : decode cX11_enough 16 = .ok (.aload_n 0, 1) := by decide +kernel
theorem dX11_enough_17 : decode cX11_enough 17 = .ok (.invokevirtual 223, 3) := by decide +kernel
theorem dX11_enough_20 : decode cX11_enough 20 = .ok (.ifCond .ne 5, 3) := by decide +kernel
theorem dX11_enough_23 : decode cX11_enough 23 = .ok (.iconst (-1), 1) := by decide +kernel
theorem dX11_enough_24 : decode cX11_enough 24 = .ok (.ireturn, 1) := by decide +kernel
theorem dX11_enough_25 : decode cX11_enough 25 = .ok (.iconst 0, 1) := by decide +kernel
theorem dX11_enough_26 : decode cX11_enough 26 = .ok (.istore_n 3, 1) := by decide +kernel
theorem dX11_enough_27 : decode cX11_enough 27 = .ok (.iload_n 3, 1) := by decide +kernel
theorem dX11_enough_28 : decode cX11_enough 28 = .ok (.bipush 60, 2) := by decide +kernel
theorem dX11_enough_30 : decode cX11_enough 30 = .ok (.if_icmp .gt 54, 3) := by decide +kernel
theorem dX11_enough_33 : decode cX11_enough 33 = .ok (.aload_n 0, 1) := by decide +kernel
theorem dX11_enough_34 : decode cX11_enough 34 = .ok (.getfield 62, 3) := by decide +kernel
theorem dX11_enough_37 : decode cX11_enough 37 = .ok (.aload_n 0, 1) := by decide +kernel
theorem dX11_enough_38 : decode cX11_enough 38 = .ok (.getfield 58, 3) := by decide +kernel
theorem dX11_enough_41 : decode cX11_enough 41 = .ok (.invokevirtual 317, 3) := by decide +kernel
theorem dX11_enough_44 : decode cX11_enough 44 = .ok (.aload_n 0, 1) := by decide +kernel
theorem dX11_enough_45 : decode cX11_enough 45 = .ok (.getfield 62, 3) := by decide +kernel
theorem dX11_enough_48 : decode cX11_enough 48 = .ok (.iload_n 3, 1) := by decide +kernel
theorem dX11_enough_49 : decode cX11_enough 49 = .ok (.invokevirtual 253, 3) := by decide +kernel
theorem dX11_enough_52 : decode cX11_enough 52 = .ok (.aload_n 0, 1) := by decide +kernel
theorem dX11_enough_53 : decode cX11_enough 53 = .ok (.getfield 62, 3) := by decide +kernel
theorem dX11_enough_56 : decode cX11_enough 56 = .ok (.bipush 6, 2) := by decide +kernel
theorem dX11_enough_58 : decode cX11_enough 58 = .ok (.invokevirtual 250, 3) := by decide +kernel
theorem dX11_enough_61 : decode cX11_enough 61 = .ok (.ifCond .ne 17, 3) := by decide +kernel
theorem dX11_enough_64 : decode cX11_enough 64 = .ok (.aload_n 0, 1) := by decide +kernel
theorem dX11_enough_65 : decode cX11_enough 65 = .ok (.getfield 62, 3) := by decide +kernel
theorem dX11_enough_68 : decode cX11_enough 68 = .ok (.iload_n 1, 1) := by decide +kernel
theorem dX11_enough_69 : decode cX11_enough 69 = .ok (.iload_n 2, 1) := by decide +kernel
theorem dX11_enough_70 : decode cX11_enough 70 = .ok (.invokevirtual 310, 3) := by decide +kernel
theorem dX11_enough_73 : decode cX11_enough 73 = .ok (.ifCond .eq 5, 3) := by decide +kernel
theorem dX11_enough_76 : decode cX11_enough 76 = .ok (.iload_n 3, 1) := by decide +kernel
theorem dX11_enough_77 : decode cX11_enough 77 = .ok (.ireturn, 1) := by decide +kernel
theorem dX11_enough_78 : decode cX11_enough 78 = .ok (.iinc 3 1, 3) := by decide +kernel
theorem dX11_enough_81 : decode cX11_enough 81 = .ok (.goto (-54), 3) := by decide +kernel
theorem dX11_enough_84 : decode cX11_enough 84 = .ok (.iconst (-1), 1) := by decide +kernel
theorem dX11_enough_85 : decode cX11_enough 85 = .ok (.ireturn, 1) := by decide +kernel
theorem dX11_saves_0 : decode cX11_saves 0 = .ok (.iload_n 1, 1) := by decide +kernel
theorem dX11_saves_1 : decode cX11_saves 1 = .ok (.iconst (-1), 1) := by decide +kernel
theorem dX11_saves_2 : decode cX11_saves 2 = .ok (.if_icmp .eq 20, 3) := by decide +kernel
theorem dX11_saves_5 : decode cX11_saves 5 = .ok (.aload_n 0, 1) := by decide +kernel
theorem dX11_saves_6 : decode cX11_saves 6 = .ok (.iload_n 1, 1) := by decide +kernel
theorem dX11_saves_7 : decode cX11_saves 7 = .ok (.invokevirtual 205, 3) := by decide +kernel
theorem dX11_saves_10 : decode cX11_saves 10 = .ok (.ifCond .eq 12, 3) := by decide +kernel
theorem dX11_saves_13 : decode cX11_saves 13 = .ok (.iload_n 2, 1) := by decide +kernel
theorem dX11_saves_14 : decode cX11_saves 14 = .ok (.ifCond .lt 8, 3) := by decide +kernel
theorem dX11_saves_17 : decode cX11_saves 17 = .ok (.iload_n 2, 1) := by decide +kernel
theorem dX11_saves_18 : decode cX11_saves 18 = .ok (.iconst 2, 1) := by decide +kernel
theorem dX11_saves_19 : decode cX11_saves 19 = .ok (.if_icmp .le 5, 3) := by decide +kernel
theorem dX11_saves_22 : decode cX11_saves 22 = .ok (.iconst (-1), 1) := by decide +kernel
theorem dX11_saves_23 : decode cX11_saves 23 = .ok (.ireturn, 1) := by decide +kernel
theorem dX11_saves_24 : decode cX11_saves 24 = .ok (.aload_n 0, 1) := by decide +kernel
theorem dX11_saves_25 : decode cX11_saves 25 = .ok (.iload_n 1, 1) := by decide +kernel
theorem dX11_saves_26 : decode cX11_saves 26 = .ok (.invokevirtual 319, 3) := by decide +kernel
theorem dX11_saves_29 : decode cX11_saves 29 = .ok (.istore_n 3, 1) := by decide +kernel
theorem dX11_saves_30 : decode cX11_saves 30 = .ok (.iload_n 2, 1) := by decide +kernel
theorem dX11_saves_31 : decode cX11_saves 31 = .ok (.ifCond .ne 5, 3) := by decide +kernel
theorem dX11_saves_34 : decode cX11_saves 34 = .ok (.iload_n 3, 1) := by decide +kernel
theorem dX11_saves_35 : decode cX11_saves 35 = .ok (.ireturn, 1) := by decide +kernel
theorem dX11_saves_36 : decode cX11_saves 36 = .ok (.iload_n 3, 1) := by decide +kernel
theorem dX11_saves_37 : decode cX11_saves 37 = .ok (.ifCond .ne 5, 3) := by decide +kernel
theorem dX11_saves_40 : decode cX11_saves 40 = .ok (.iconst (-1), 1) := by decide +kernel
theorem dX11_saves_41 : decode cX11_saves 41 = .ok (.ireturn, 1) := by decide +kernel
theorem dX11_saves_42 : decode cX11_saves 42 = .ok (.aload_n 0, 1) := by decide +kernel
theorem dX11_saves_43 : decode cX11_saves 43 = .ok (.getfield 42, 3) := by decide +kernel
theorem dX11_saves_46 : decode cX11_saves 46 = .ok (.iconst 2, 1) := by decide +kernel
theorem dX11_saves_47 : decode cX11_saves 47 = .ok (.iload_n 1, 1) := by decide +kernel
theorem dX11_saves_48 : decode cX11_saves 48 = .ok (.iconst 1, 1) := by decide +kernel
theorem dX11_saves_49 : decode cX11_saves 49 = .ok (.invokevirtual 192, 3) := by decide +kernel
theorem dX11_saves_52 : decode cX11_saves 52 = .ok (.istore 4, 2) := by decide +kernel
theorem dX11_saves_54 : decode cX11_saves 54 = .ok (.iload 4, 2) := by decide +kernel
theorem dX11_saves_56 : decode cX11_saves 56 = .ok (.iload_n 3, 1) := by decide +kernel
theorem dX11_saves_57 : decode cX11_saves 57 = .ok (.invokestatic 322, 3) := by decide +kernel
theorem dX11_saves_60 : decode cX11_saves 60 = .ok (.istore 5, 2) := by decide +kernel
theorem dX11_saves_62 : decode cX11_saves 62 = .ok (.iload 5, 2) := by decide +kernel
theorem dX11_saves_64 : decode cX11_saves 64 = .ok (.ifCond .ne 5, 3) := by decide +kernel
theorem dX11_saves_67 : decode cX11_saves 67 = .ok (.iconst (-1), 1) := by decide +kernel
theorem dX11_saves_68 : decode cX11_saves 68 = .ok (.ireturn, 1) := by decide +kernel
theorem dX11_saves_69 : decode cX11_saves 69 = .ok (.iload_n 2, 1) := by decide +kernel
theorem dX11_saves_70 : decode cX11_saves 70 = .ok (.iconst 1, 1) := by decide +kernel
theorem dX11_saves_71 : decode cX11_saves 71 = .ok (.if_icmp .ne 8, 3) := by decide +kernel
theorem dX11_saves_74 : decode cX11_saves 74 = .ok (.iload 4, 2) := by decide +kernel
theorem dX11_saves_76 : decode cX11_saves 76 = .ok (.goto 4, 3) := by decide +kernel
theorem dX11_saves_79 : decode cX11_saves 79 = .ok (.iload_n 3, 1) := by decide +kernel
theorem dX11_saves_80 : decode cX11_saves 80 = .ok (.iload 5, 2) := by decide +kernel
theorem dX11_saves_82 : decode cX11_saves 82 = .ok (.idiv, 1) := by decide +kernel
theorem dX11_saves_83 : decode cX11_saves 83 = .ok (.ireturn, 1) := by decide +kernel
theorem dX11_openers_0 : decode cX11_openers 0 = .ok (.aload_n 0, 1) := by decide +kernel
theorem dX11_openers_1 : decode cX11_openers 1 = .ok (.iload_n 1, 1) := by decide +kernel
theorem dX11_openers_2 : decode cX11_openers 2 = .ok (.invokevirtual 178, 3) := by decide +kernel
theorem dX11_openers_5 : decode cX11_openers 5 = .ok (.ifCond .eq 13, 3) := by decide +kernel
theorem dX11_openers_8 : decode cX11_openers 8 = .ok (.iload_n 2, 1) := by decide +kernel
theorem dX11_openers_9 : decode cX11_openers 9 = .ok (.ifCond .lt 9, 3) := by decide +kernel
theorem dX11_openers_12 : decode cX11_openers 12 = .ok (.iload_n 2, 1) := by decide +kernel
theorem dX11_openers_13 : decode cX11_openers 13 = .ok (.bipush 99, 2) := by decide +kernel
theorem dX11_openers_15 : decode cX11_openers 15 = .ok (.if_icmp .le 5, 3) := by decide +kernel
theorem dX11_openers_18 : decode cX11_openers 18 = .ok (.iconst (-1), 1) := by decide +kernel
theorem dX11_openers_19 : decode cX11_openers 19 = .ok (.ireturn, 1) := by decide +kernel
theorem dX11_openers_20 : decode cX11_openers 20 = .ok (.aload_n 0, 1) := by decide +kernel
theorem dX11_openers_21 : decode cX11_openers 21 = .ok (.getfield 62, 3) := by decide +kernel
theorem dX11_openers_24 : decode cX11_openers 24 = .ok (.invokevirtual 142, 3) := by decide +kernel
theorem dX11_openers_27 : decode cX11_openers 27 = .ok (.aload_n 0, 1) := by decide +kernel
theorem dX11_openers_28 : decode cX11_openers 28 = .ok (.iload_n 1, 1) := by decide +kernel
theorem dX11_openers_29 : decode cX11_openers 29 = .ok (.iload_n 2, 1) := by decide +kernel
theorem dX11_openers_30 : decode cX11_openers 30 = .ok (.invokevirtual 325, 3) := by decide +kernel
theorem dX11_openers_33 : decode cX11_openers 33 = .ok (.ireturn, 1) := by decide +kernel
theorem dX11_factory_0 : decode cX11_factory 0 = .ok (.aload_n 0, 1) := by decide +kernel
theorem dX11_factory_1 : decode cX11_factory 1 = .ok (.iload_n 1, 1) := by decide +kernel
theorem dX11_factory_2 : decode cX11_factory 2 = .ok (.invokevirtual 178, 3) := by decide +kernel
theorem dX11_factory_5 : decode cX11_factory 5 = .ok (.ifCond .eq 23, 3) := by decide +kernel
theorem dX11_factory_8 : decode cX11_factory 8 = .ok (.iload_n 2, 1) := by decide +kernel
theorem dX11_factory_9 : decode cX11_factory 9 = .ok (.ifCond .lt 19, 3) := by decide +kernel
theorem dX11_factory_12 : decode cX11_factory 12 = .ok (.iload_n 2, 1) := by decide +kernel
theorem dX11_factory_13 : decode cX11_factory 13 = .ok (.bipush 99, 2) := by decide +kernel
theorem dX11_factory_15 : decode cX11_factory 15 = .ok (.if_icmp .gt 13, 3) := by decide +kernel
theorem dX11_factory_18 : decode cX11_factory 18 = .ok (.iload_n 3, 1) := by decide +kernel
theorem dX11_factory_19 : decode cX11_factory 19 = .ok (.ifCond .lt 9, 3) := by decide +kernel
theorem dX11_factory_22 : decode cX11_factory 22 = .ok (.iload_n 3, 1) := by decide +kernel
theorem dX11_factory_23 : decode cX11_factory 23 = .ok (.bipush 100, 2) := by decide +kernel
theorem dX11_factory_25 : decode cX11_factory 25 = .ok (.if_icmp .le 5, 3) := by decide +kernel
theorem dX11_factory_28 : decode cX11_factory 28 = .ok (.iconst (-1), 1) := by decide +kernel
theorem dX11_factory_29 : decode cX11_factory 29 = .ok (.ireturn, 1) := by decide +kernel
theorem dX11_factory_30 : decode cX11_factory 30 = .ok (.aload_n 0, 1) := by decide +kernel
theorem dX11_factory_31 : decode cX11_factory 31 = .ok (.getfield 62, 3) := by decide +kernel
theorem dX11_factory_34 : decode cX11_factory 34 = .ok (.invokevirtual 142, 3) := by decide +kernel
theorem dX11_factory_37 : decode cX11_factory 37 = .ok (.bipush 99, 2) := by decide +kernel
theorem dX11_factory_39 : decode cX11_factory 39 = .ok (.istore 4, 2) := by decide +kernel
theorem dX11_factory_41 : decode cX11_factory 41 = .ok (.iload 4, 2) := by decide +kernel
theorem dX11_factory_43 : decode cX11_factory 43 = .ok (.iload_n 2, 1) := by decide +kernel
theorem dX11_factory_44 : decode cX11_factory 44 = .ok (.if_icmp .lt 36, 3) := by decide +kernel
theorem dX11_factory_47 : decode cX11_factory 47 = .ok (.aload_n 0, 1) := by decide +kernel
theorem dX11_factory_48 : decode cX11_factory 48 = .ok (.iload_n 1, 1) := by decide +kernel
theorem dX11_factory_49 : decode cX11_factory 49 = .ok (.iload 4, 2) := by decide +kernel
theorem dX11_factory_51 : decode cX11_factory 51 = .ok (.invokevirtual 325, 3) := by decide +kernel
theorem dX11_factory_54 : decode cX11_factory 54 = .ok (.bipush 100, 2) := by decide +kernel
theorem dX11_factory_56 : decode cX11_factory 56 = .ok (.imul, 1) := by decide +kernel
theorem dX11_factory_57 : decode cX11_factory 57 = .ok (.aload_n 0, 1) := by decide +kernel
theorem dX11_factory_58 : decode cX11_factory 58 = .ok (.getfield 42, 3) := by decide +kernel
theorem dX11_factory_61 : decode cX11_factory 61 = .ok (.getfield 153, 3) := by decide +kernel
theorem dX11_factory_64 : decode cX11_factory 64 = .ok (.iconst 1, 1) := by decide +kernel
theorem dX11_factory_65 : decode cX11_factory 65 = .ok (.iaload, 1) := by decide +kernel
theorem dX11_factory_66 : decode cX11_factory 66 = .ok (.iload_n 3, 1) := by decide +kernel
theorem dX11_factory_67 : decode cX11_factory 67 = .ok (.imul, 1) := by decide +kernel
theorem dX11_factory_68 : decode cX11_factory 68 = .ok (.if_icmp .lt 6, 3) := by decide +kernel
theorem dX11_factory_71 : decode cX11_factory 71 = .ok (.iload 4, 2) := by decide +kernel
theorem dX11_factory_73 : decode cX11_factory 73 = .ok (.ireturn, 1) := by decide +kernel
theorem dX11_factory_74 : decode cX11_factory 74 = .ok (.iinc 4 (-1), 3) := by decide +kernel
theorem dX11_factory_77 : decode cX11_factory 77 = .ok (.goto (-36), 3) := by decide +kernel
theorem dX11_factory_80 : decode cX11_factory 80 = .ok (.iconst (-1), 1) := by decide +kernel
theorem dX11_factory_81 : decode cX11_factory 81 = .ok (.ireturn, 1) := by decide +kernel
theorem dX11_tried_0 : decode cX11_tried 0 = .ok (.iload_n 1, 1) := by decide +kernel
theorem dX11_tried_1 : decode cX11_tried 1 = .ok (.ifCond .lt 22, 3) := by decide +kernel
theorem dX11_tried_4 : decode cX11_tried 4 = .ok (.iload_n 1, 1) := by decide +kernel
theorem dX11_tried_5 : decode cX11_tried 5 = .ok (.sipush 999, 3) := by decide +kernel
theorem dX11_tried_8 : decode cX11_tried 8 = .ok (.if_icmp .gt 15, 3) := by decide +kernel
theorem dX11_tried_11 : decode cX11_tried 11 = .ok (.aload_n 0, 1) := by decide +kernel
theorem dX11_tried_12 : decode cX11_tried 12 = .ok (.getfield 89, 3) := by decide +kernel
theorem dX11_tried_15 : decode cX11_tried 15 = .ok (.iload_n 1, 1) := by decide +kernel
theorem dX11_tried_16 : decode cX11_tried 16 = .ok (.iload_n 2, 1) := by decide +kernel
theorem dX11_tried_17 : decode cX11_tried 17 = .ok (.invokevirtual 328, 3) := by decide +kernel
theorem dX11_tried_20 : decode cX11_tried 20 = .ok (.ifCond .ne 5, 3) := by decide +kernel
theorem dX11_tried_23 : decode cX11_tried 23 = .ok (.iconst (-1), 1) := by decide +kernel
theorem dX11_tried_24 : decode cX11_tried 24 = .ok (.ireturn, 1) := by decide +kernel
theorem dX11_tried_25 : decode cX11_tried 25 = .ok (.aload_n 0, 1) := by decide +kernel
theorem dX11_tried_26 : decode cX11_tried 26 = .ok (.getfield 89, 3) := by decide +kernel
theorem dX11_tried_29 : decode cX11_tried 29 = .ok (.getfield 332, 3) := by decide +kernel
theorem dX11_tried_32 : decode cX11_tried 32 = .ok (.ireturn, 1) := by decide +kernel
theorem dX11_forgive_0 : decode cX11_forgive 0 = .ok (.aload_n 0, 1) := by decide +kernel
theorem dX11_forgive_1 : decode cX11_forgive 1 = .ok (.getfield 89, 3) := by decide +kernel
theorem dX11_forgive_4 : decode cX11_forgive 4 = .ok (.getfield 332, 3) := by decide +kernel
theorem dX11_forgive_7 : decode cX11_forgive 7 = .ok (.ifCond .ne 5, 3) := by decide +kernel
theorem dX11_forgive_10 : decode cX11_forgive 10 = .ok (.iconst 0, 1) := by decide +kernel
theorem dX11_forgive_11 : decode cX11_forgive 11 = .ok (.ireturn, 1) := by decide +kernel
theorem dX11_forgive_12 : decode cX11_forgive 12 = .ok (.aload_n 0, 1) := by decide +kernel
theorem dX11_forgive_13 : decode cX11_forgive 13 = .ok (.getfield 89, 3) := by decide +kernel
theorem dX11_forgive_16 : decode cX11_forgive 16 = .ok (.invokevirtual 148, 3) := by decide +kernel
theorem dX11_forgive_19 : decode cX11_forgive 19 = .ok (.iconst 1, 1) := by decide +kernel
theorem dX11_forgive_20 : decode cX11_forgive 20 = .ok (.ireturn, 1) := by decide +kernel
theorem dX11_tight_0 : decode cX11_tight 0 = .ok (.iload_n 1, 1) := by decide +kernel
theorem dX11_tight_1 : decode cX11_tight 1 = .ok (.tableswitch 54 0 2 #[27, 38, 46], 27) := by decide +kernel
theorem dX11_tight_28 : decode cX11_tight 28 = .ok (.aload_n 0, 1) := by decide +kernel
theorem dX11_tight_29 : decode cX11_tight 29 = .ok (.getfield 89, 3) := by decide +kernel
theorem dX11_tight_32 : decode cX11_tight 32 = .ok (.sipush 999, 3) := by decide +kernel
theorem dX11_tight_35 : decode cX11_tight 35 = .ok (.invokevirtual 333, 3) := by decide +kernel
theorem dX11_tight_38 : decode cX11_tight 38 = .ok (.ireturn, 1) := by decide +kernel
theorem dX11_tight_39 : decode cX11_tight 39 = .ok (.aload_n 0, 1) := by decide +kernel
theorem dX11_tight_40 : decode cX11_tight 40 = .ok (.getfield 89, 3) := by decide +kernel
theorem dX11_tight_43 : decode cX11_tight 43 = .ok (.invokevirtual 336, 3) := by decide +kernel
theorem dX11_tight_46 : decode cX11_tight 46 = .ok (.ireturn, 1) := by decide +kernel
theorem dX11_tight_47 : decode cX11_tight 47 = .ok (.aload_n 0, 1) := by decide +kernel
theorem dX11_tight_48 : decode cX11_tight 48 = .ok (.getfield 89, 3) := by decide +kernel
theorem dX11_tight_51 : decode cX11_tight 51 = .ok (.invokevirtual 339, 3) := by decide +kernel
theorem dX11_tight_54 : decode cX11_tight 54 = .ok (.ireturn, 1) := by decide +kernel
theorem dX11_tight_55 : decode cX11_tight 55 = .ok (.ldc_w 275, 3) := by decide +kernel
theorem dX11_tight_58 : decode cX11_tight 58 = .ok (.ireturn, 1) := by decide +kernel
theorem dX11_next_0 : decode cX11_next 0 = .ok (.iload_n 1, 1) := by decide +kernel
theorem dX11_next_1 : decode cX11_next 1 = .ok (.ifCond .lt 10, 3) := by decide +kernel
theorem dX11_next_4 : decode cX11_next 4 = .ok (.iload_n 1, 1) := by decide +kernel
theorem dX11_next_5 : decode cX11_next 5 = .ok (.sipush 999, 3) := by decide +kernel
theorem dX11_next_8 : decode cX11_next 8 = .ok (.if_icmp .le 5, 3) := by decide +kernel
theorem dX11_next_11 : decode cX11_next 11 = .ok (.iconst (-1), 1) := by decide +kernel
theorem dX11_next_12 : decode cX11_next 12 = .ok (.ireturn, 1) := by decide +kernel
theorem dX11_next_13 : decode cX11_next 13 = .ok (.aload_n 0, 1) := by decide +kernel
theorem dX11_next_14 : decode cX11_next 14 = .ok (.getfield 89, 3) := by decide +kernel
theorem dX11_next_17 : decode cX11_next 17 = .ok (.iload_n 1, 1) := by decide +kernel
theorem dX11_next_18 : decode cX11_next 18 = .ok (.invokevirtual 333, 3) := by decide +kernel
theorem dX11_next_21 : decode cX11_next 21 = .ok (.ireturn, 1) := by decide +kernel
theorem dX11_who_0 : decode cX11_who 0 = .ok (.aload_n 0, 1) := by decide +kernel
theorem dX11_who_1 : decode cX11_who 1 = .ok (.getfield 149, 3) := by decide +kernel
theorem dX11_who_4 : decode cX11_who 4 = .ok (.ifCond .eq 23, 3) := by decide +kernel
theorem dX11_who_7 : decode cX11_who 7 = .ok (.iload_n 1, 1) := by decide +kernel
theorem dX11_who_8 : decode cX11_who 8 = .ok (.ifCond .lt 19, 3) := by decide +kernel
theorem dX11_who_11 : decode cX11_who 11 = .ok (.iload_n 1, 1) := by decide +kernel
theorem dX11_who_12 : decode cX11_who 12 = .ok (.bipush 99, 2) := by decide +kernel
theorem dX11_who_14 : decode cX11_who 14 = .ok (.if_icmp .gt 13, 3) := by decide +kernel
theorem dX11_who_17 : decode cX11_who 17 = .ok (.iload_n 2, 1) := by decide +kernel
theorem dX11_who_18 : decode cX11_who 18 = .ok (.ifCond .lt 9, 3) := by decide +kernel
theorem dX11_who_21 : decode cX11_who 21 = .ok (.iload_n 2, 1) := by decide +kernel
theorem dX11_who_22 : decode cX11_who 22 = .ok (.bipush 99, 2) := by decide +kernel
theorem dX11_who_24 : decode cX11_who 24 = .ok (.if_icmp .le 5, 3) := by decide +kernel
theorem dX11_who_27 : decode cX11_who 27 = .ok (.iconst (-1), 1) := by decide +kernel
theorem dX11_who_28 : decode cX11_who 28 = .ok (.ireturn, 1) := by decide +kernel
theorem dX11_who_29 : decode cX11_who 29 = .ok (.iconst 0, 1) := by decide +kernel
theorem dX11_who_30 : decode cX11_who 30 = .ok (.istore_n 3, 1) := by decide +kernel
theorem dX11_who_31 : decode cX11_who 31 = .ok (.iconst 0, 1) := by decide +kernel
theorem dX11_who_32 : decode cX11_who 32 = .ok (.istore 4, 2) := by decide +kernel
theorem dX11_who_34 : decode cX11_who 34 = .ok (.iload 4, 2) := by decide +kernel
theorem dX11_who_36 : decode cX11_who 36 = .ok (.aload_n 0, 1) := by decide +kernel
theorem dX11_who_37 : decode cX11_who 37 = .ok (.getfield 42, 3) := by decide +kernel
theorem dX11_who_40 : decode cX11_who 40 = .ok (.getfield 153, 3) := by decide +kernel
theorem dX11_who_43 : decode cX11_who 43 = .ok (.iconst 1, 1) := by decide +kernel
theorem dX11_who_44 : decode cX11_who 44 = .ok (.iaload, 1) := by decide +kernel
theorem dX11_who_45 : decode cX11_who 45 = .ok (.if_icmp .ge 42, 3) := by decide +kernel
theorem dX11_who_48 : decode cX11_who 48 = .ok (.aload_n 0, 1) := by decide +kernel
theorem dX11_who_49 : decode cX11_who 49 = .ok (.getfield 42, 3) := by decide +kernel
theorem dX11_who_52 : decode cX11_who 52 = .ok (.iconst 1, 1) := by decide +kernel
theorem dX11_who_53 : decode cX11_who 53 = .ok (.iload 4, 2) := by decide +kernel
theorem dX11_who_55 : decode cX11_who 55 = .ok (.iconst 0, 1) := by decide +kernel
theorem dX11_who_56 : decode cX11_who 56 = .ok (.invokevirtual 192, 3) := by decide +kernel
theorem dX11_who_59 : decode cX11_who 59 = .ok (.iconst 2, 1) := by decide +kernel
theorem dX11_who_60 : decode cX11_who 60 = .ok (.idiv, 1) := by decide +kernel
theorem dX11_who_61 : decode cX11_who 61 = .ok (.istore 5, 2) := by decide +kernel
theorem dX11_who_63 : decode cX11_who 63 = .ok (.iload 5, 2) := by decide +kernel
theorem dX11_who_65 : decode cX11_who 65 = .ok (.iload_n 1, 1) := by decide +kernel
theorem dX11_who_66 : decode cX11_who 66 = .ok (.isub, 1) := by decide +kernel
theorem dX11_who_67 : decode cX11_who 67 = .ok (.invokestatic 342, 3) := by decide +kernel
theorem dX11_who_70 : decode cX11_who 70 = .ok (.iload_n 2, 1) := by decide +kernel
theorem dX11_who_71 : decode cX11_who 71 = .ok (.if_icmp .gt 10, 3) := by decide +kernel
theorem dX11_who_74 : decode cX11_who 74 = .ok (.iload_n 3, 1) := by decide +kernel
theorem dX11_who_75 : decode cX11_who 75 = .ok (.iconst 1, 1) := by decide +kernel
theorem dX11_who_76 : decode cX11_who 76 = .ok (.iload 4, 2) := by decide +kernel
theorem dX11_who_78 : decode cX11_who 78 = .ok (.ishl, 1) := by decide +kernel
theorem dX11_who_79 : decode cX11_who 79 = .ok (.ior, 1) := by decide +kernel
theorem dX11_who_80 : decode cX11_who 80 = .ok (.istore_n 3, 1) := by decide +kernel
theorem dX11_who_81 : decode cX11_who 81 = .ok (.iinc 4 1, 3) := by decide +kernel
theorem dX11_who_84 : decode cX11_who 84 = .ok (.goto (-50), 3) := by decide +kernel
theorem dX11_who_87 : decode cX11_who 87 = .ok (.iload_n 3, 1) := by decide +kernel
theorem dX11_who_88 : decode cX11_who 88 = .ok (.ireturn, 1) := by decide +kernel
theorem dX11_lefties_0 : decode cX11_lefties 0 = .ok (.aload_n 0, 1) := by decide +kernel
theorem dX11_lefties_1 : decode cX11_lefties 1 = .ok (.getfield 149, 3) := by decide +kernel
theorem dX11_lefties_4 : decode cX11_lefties 4 = .ok (.ifCond .ne 5, 3) := by decide +kernel
theorem dX11_lefties_7 : decode cX11_lefties 7 = .ok (.iconst (-1), 1) := by decide +kernel
theorem dX11_lefties_8 : decode cX11_lefties 8 = .ok (.ireturn, 1) := by decide +kernel
theorem dX11_lefties_9 : decode cX11_lefties 9 = .ok (.iconst 0, 1) := by decide +kernel
theorem dX11_lefties_10 : decode cX11_lefties 10 = .ok (.istore_n 1, 1) := by decide +kernel
theorem dX11_lefties_11 : decode cX11_lefties 11 = .ok (.iconst 0, 1) := by decide +kernel
theorem dX11_lefties_12 : decode cX11_lefties 12 = .ok (.istore_n 2, 1) := by decide +kernel
theorem dX11_lefties_13 : decode cX11_lefties 13 = .ok (.iload_n 2, 1) := by decide +kernel
theorem dX11_lefties_14 : decode cX11_lefties 14 = .ok (.aload_n 0, 1) := by decide +kernel
theorem dX11_lefties_15 : decode cX11_lefties 15 = .ok (.getfield 42, 3) := by decide +kernel
theorem dX11_lefties_18 : decode cX11_lefties 18 = .ok (.getfield 153, 3) := by decide +kernel
theorem dX11_lefties_21 : decode cX11_lefties 21 = .ok (.iconst 0, 1) := by decide +kernel
theorem dX11_lefties_22 : decode cX11_lefties 22 = .ok (.iaload, 1) := by decide +kernel
theorem dX11_lefties_23 : decode cX11_lefties 23 = .ok (.if_icmp .ge 24, 3) := by decide +kernel
theorem dX11_lefties_26 : decode cX11_lefties 26 = .ok (.iload_n 1, 1) := by decide +kernel
theorem dX11_lefties_27 : decode cX11_lefties 27 = .ok (.aload_n 0, 1) := by decide +kernel
theorem dX11_lefties_28 : decode cX11_lefties 28 = .ok (.getfield 42, 3) := by decide +kernel
theorem dX11_lefties_31 : decode cX11_lefties 31 = .ok (.iconst 0, 1) := by decide +kernel
theorem dX11_lefties_32 : decode cX11_lefties 32 = .ok (.iload_n 2, 1) := by decide +kernel
theorem dX11_lefties_33 : decode cX11_lefties 33 = .ok (.iconst 3, 1) := by decide +kernel
theorem dX11_lefties_34 : decode cX11_lefties 34 = .ok (.invokevirtual 192, 3) := by decide +kernel
theorem dX11_lefties_37 : decode cX11_lefties 37 = .ok (.iload_n 2, 1) := by decide +kernel
theorem dX11_lefties_38 : decode cX11_lefties 38 = .ok (.ishl, 1) := by decide +kernel
theorem dX11_lefties_39 : decode cX11_lefties 39 = .ok (.ior, 1) := by decide +kernel
theorem dX11_lefties_40 : decode cX11_lefties 40 = .ok (.istore_n 1, 1) := by decide +kernel
theorem dX11_lefties_41 : decode cX11_lefties 41 = .ok (.iinc 2 1, 3) := by decide +kernel
theorem dX11_lefties_44 : decode cX11_lefties 44 = .ok (.goto (-31), 3) := by decide +kernel
theorem dX11_lefties_47 : decode cX11_lefties 47 = .ok (.iload_n 1, 1) := by decide +kernel
theorem dX11_lefties_48 : decode cX11_lefties 48 = .ok (.ireturn, 1) := by decide +kernel
theorem dX11_evening_0 : decode cX11_evening 0 = .ok (.iload_n 1, 1) := by decide +kernel
theorem dX11_evening_1 : decode cX11_evening 1 = .ok (.iconst 1, 1) := by decide +kernel
theorem dX11_evening_2 : decode cX11_evening 2 = .ok (.if_icmp .lt 16, 3) := by decide +kernel
theorem dX11_evening_5 : decode cX11_evening 5 = .ok (.iload_n 1, 1) := by decide +kernel
