theorem dX11_evening_6 : decode cX11_evening 6 = .ok (.bipush 40, 2) := by decide +kernel
theorem dX11_evening_8 : decode cX11_evening 8 = .ok (.if_icmp .gt 10, 3) := by decide +kernel
theorem dX11_evening_11 : decode cX11_evening 11 = .ok (.aload_n 0, 1) := by decide +kernel
theorem dX11_evening_12 : decode cX11_evening 12 = .ok (.invokevirtual 223, 3) := by decide +kernel
theorem dX11_evening_15 : decode cX11_evening 15 = .ok (.ifCond .ne 5, 3) := by decide +kernel
theorem dX11_evening_18 : decode cX11_evening 18 = .ok (.iconst (-1), 1) := by decide +kernel
theorem dX11_evening_19 : decode cX11_evening 19 = .ok (.ireturn, 1) := by decide +kernel
theorem dX11_evening_20 : decode cX11_evening 20 = .ok (.aload_n 0, 1) := by decide +kernel
theorem dX11_evening_21 : decode cX11_evening 21 = .ok (.lload_n 2, 1) := by decide +kernel
theorem dX11_evening_22 : decode cX11_evening 22 = .ok (.putfield 345, 3) := by decide +kernel
theorem dX11_evening_25 : decode cX11_evening 25 = .ok (.iconst 0, 1) := by decide +kernel
theorem dX11_evening_26 : decode cX11_evening 26 = .ok (.istore 4, 2) := by decide +kernel
theorem dX11_evening_28 : decode cX11_evening 28 = .ok (.iconst 0, 1) := by decide +kernel
theorem dX11_evening_29 : decode cX11_evening 29 = .ok (.istore 5, 2) := by decide +kernel
theorem dX11_evening_31 : decode cX11_evening 31 = .ok (.iload 5, 2) := by decide +kernel
theorem dX11_evening_33 : decode cX11_evening 33 = .ok (.iload_n 1, 1) := by decide +kernel
theorem dX11_evening_34 : decode cX11_evening 34 = .ok (.if_icmp .ge 157, 3) := by decide +kernel
theorem dX11_evening_37 : decode cX11_evening 37 = .ok (.aload_n 0, 1) := by decide +kernel
theorem dX11_evening_38 : decode cX11_evening 38 = .ok (.invokevirtual 223, 3) := by decide +kernel
theorem dX11_evening_41 : decode cX11_evening 41 = .ok (.ifCond .eq 150, 3) := by decide +kernel
theorem dX11_evening_44 : decode cX11_evening 44 = .ok (.aload_n 0, 1) := by decide +kernel
theorem dX11_evening_45 : decode cX11_evening 45 = .ok (.aload_n 0, 1) := by decide +kernel
theorem dX11_evening_46 : decode cX11_evening 46 = .ok (.getfield 42, 3) := by decide +kernel
theorem dX11_evening_49 : decode cX11_evening 49 = .ok (.getfield 153, 3) := by decide +kernel
theorem dX11_evening_52 : decode cX11_evening 52 = .ok (.iconst 1, 1) := by decide +kernel
theorem dX11_evening_53 : decode cX11_evening 53 = .ok (.iaload, 1) := by decide +kernel
theorem dX11_evening_54 : decode cX11_evening 54 = .ok (.invokevirtual 349, 3) := by decide +kernel
theorem dX11_evening_57 : decode cX11_evening 57 = .ok (.istore 6, 2) := by decide +kernel
theorem dX11_evening_59 : decode cX11_evening 59 = .ok (.aload_n 0, 1) := by decide +kernel
theorem dX11_evening_60 : decode cX11_evening 60 = .ok (.aload_n 0, 1) := by decide +kernel
theorem dX11_evening_61 : decode cX11_evening 61 = .ok (.getfield 42, 3) := by decide +kernel
theorem dX11_evening_64 : decode cX11_evening 64 = .ok (.getfield 153, 3) := by decide +kernel
theorem dX11_evening_67 : decode cX11_evening 67 = .ok (.iconst 2, 1) := by decide +kernel
theorem dX11_evening_68 : decode cX11_evening 68 = .ok (.iaload, 1) := by decide +kernel
theorem dX11_evening_69 : decode cX11_evening 69 = .ok (.iconst 1, 1) := by decide +kernel
theorem dX11_evening_70 : decode cX11_evening 70 = .ok (.iadd, 1) := by decide +kernel
theorem dX11_evening_71 : decode cX11_evening 71 = .ok (.invokevirtual 349, 3) := by decide +kernel
theorem dX11_evening_74 : decode cX11_evening 74 = .ok (.istore 7, 2) := by decide +kernel
theorem dX11_evening_76 : decode cX11_evening 76 = .ok (.iload 7, 2) := by decide +kernel
theorem dX11_evening_78 : decode cX11_evening 78 = .ok (.aload_n 0, 1) := by decide +kernel
theorem dX11_evening_79 : decode cX11_evening 79 = .ok (.getfield 42, 3) := by decide +kernel
theorem dX11_evening_82 : decode cX11_evening 82 = .ok (.getfield 153, 3) := by decide +kernel
theorem dX11_evening_85 : decode cX11_evening 85 = .ok (.iconst 2, 1) := by decide +kernel
theorem dX11_evening_86 : decode cX11_evening 86 = .ok (.iaload, 1) := by decide +kernel
theorem dX11_evening_87 : decode cX11_evening 87 = .ok (.if_icmp .ne 6, 3) := by decide +kernel
theorem dX11_evening_90 : decode cX11_evening 90 = .ok (.iconst (-1), 1) := by decide +kernel
theorem dX11_evening_91 : decode cX11_evening 91 = .ok (.istore 7, 2) := by decide +kernel
theorem dX11_evening_93 : decode cX11_evening 93 = .ok (.aload_n 0, 1) := by decide +kernel
theorem dX11_evening_94 : decode cX11_evening 94 = .ok (.aload_n 0, 1) := by decide +kernel
theorem dX11_evening_95 : decode cX11_evening 95 = .ok (.getfield 42, 3) := by decide +kernel
theorem dX11_evening_98 : decode cX11_evening 98 = .ok (.iconst 1, 1) := by decide +kernel
theorem dX11_evening_99 : decode cX11_evening 99 = .ok (.iload 6, 2) := by decide +kernel
theorem dX11_evening_101 : decode cX11_evening 101 = .ok (.iconst 4, 1) := by decide +kernel
theorem dX11_evening_102 : decode cX11_evening 102 = .ok (.invokevirtual 192, 3) := by decide +kernel
theorem dX11_evening_105 : decode cX11_evening 105 = .ok (.iconst 1, 1) := by decide +kernel
theorem dX11_evening_106 : decode cX11_evening 106 = .ok (.iadd, 1) := by decide +kernel
theorem dX11_evening_107 : decode cX11_evening 107 = .ok (.invokevirtual 349, 3) := by decide +kernel
theorem dX11_evening_110 : decode cX11_evening 110 = .ok (.istore 8, 2) := by decide +kernel
theorem dX11_evening_112 : decode cX11_evening 112 = .ok (.iconst 0, 1) := by decide +kernel
theorem dX11_evening_113 : decode cX11_evening 113 = .ok (.aload_n 0, 1) := by decide +kernel
theorem dX11_evening_114 : decode cX11_evening 114 = .ok (.getfield 58, 3) := by decide +kernel
theorem dX11_evening_117 : decode cX11_evening 117 = .ok (.iload 6, 2) := by decide +kernel
theorem dX11_evening_119 : decode cX11_evening 119 = .ok (.iload 7, 2) := by decide +kernel
theorem dX11_evening_121 : decode cX11_evening 121 = .ok (.aload_n 0, 1) := by decide +kernel
theorem dX11_evening_122 : decode cX11_evening 122 = .ok (.getfield 58, 3) := by decide +kernel
theorem dX11_evening_125 : decode cX11_evening 125 = .ok (.invokevirtual 234, 3) := by decide +kernel
theorem dX11_evening_128 : decode cX11_evening 128 = .ok (.invokevirtual 212, 3) := by decide +kernel
theorem dX11_evening_131 : decode cX11_evening 131 = .ok (.iload 8, 2) := by decide +kernel
theorem dX11_evening_133 : decode cX11_evening 133 = .ok (.isub, 1) := by decide +kernel
theorem dX11_evening_134 : decode cX11_evening 134 = .ok (.invokestatic 218, 3) := by decide +kernel
theorem dX11_evening_137 : decode cX11_evening 137 = .ok (.istore 9, 2) := by decide +kernel
theorem dX11_evening_139 : decode cX11_evening 139 = .ok (.aload_n 0, 1) := by decide +kernel
theorem dX11_evening_140 : decode cX11_evening 140 = .ok (.getfield 68, 3) := by decide +kernel
theorem dX11_evening_143 : decode cX11_evening 143 = .ok (.aload_n 0, 1) := by decide +kernel
theorem dX11_evening_144 : decode cX11_evening 144 = .ok (.getfield 58, 3) := by decide +kernel
theorem dX11_evening_147 : decode cX11_evening 147 = .ok (.invokevirtual 230, 3) := by decide +kernel
theorem dX11_evening_150 : decode cX11_evening 150 = .ok (.aload_n 0, 1) := by decide +kernel
theorem dX11_evening_151 : decode cX11_evening 151 = .ok (.getfield 58, 3) := by decide +kernel
theorem dX11_evening_154 : decode cX11_evening 154 = .ok (.iload 6, 2) := by decide +kernel
theorem dX11_evening_156 : decode cX11_evening 156 = .ok (.iload 9, 2) := by decide +kernel
theorem dX11_evening_158 : decode cX11_evening 158 = .ok (.invokevirtual 237, 3) := by decide +kernel
theorem dX11_evening_161 : decode cX11_evening 161 = .ok (.aload_n 0, 1) := by decide +kernel
theorem dX11_evening_162 : decode cX11_evening 162 = .ok (.getfield 68, 3) := by decide +kernel
theorem dX11_evening_165 : decode cX11_evening 165 = .ok (.iload 6, 2) := by decide +kernel
theorem dX11_evening_167 : decode cX11_evening 167 = .ok (.iload 7, 2) := by decide +kernel
theorem dX11_evening_169 : decode cX11_evening 169 = .ok (.invokestatic 227, 3) := by decide +kernel
theorem dX11_evening_172 : decode cX11_evening 172 = .ok (.aload_n 0, 1) := by decide +kernel
theorem dX11_evening_173 : decode cX11_evening 173 = .ok (.getfield 58, 3) := by decide +kernel
theorem dX11_evening_176 : decode cX11_evening 176 = .ok (.invokevirtual 244, 3) := by decide +kernel
theorem dX11_evening_179 : decode cX11_evening 179 = .ok (.invokevirtual 247, 3) := by decide +kernel
theorem dX11_evening_182 : decode cX11_evening 182 = .ok (.iinc 4 1, 3) := by decide +kernel
theorem dX11_evening_185 : decode cX11_evening 185 = .ok (.iinc 5 1, 3) := by decide +kernel
theorem dX11_evening_188 : decode cX11_evening 188 = .ok (.goto (-157), 3) := by decide +kernel
theorem dX11_evening_191 : decode cX11_evening 191 = .ok (.iload 4, 2) := by decide +kernel
theorem dX11_evening_193 : decode cX11_evening 193 = .ok (.ireturn, 1) := by decide +kernel
theorem dX11_perform_0 : decode cX11_perform 0 = .ok (.aload_n 0, 1) := by decide +kernel
theorem dX11_perform_1 : decode cX11_perform 1 = .ok (.iload_n 1, 1) := by decide +kernel
theorem dX11_perform_2 : decode cX11_perform 2 = .ok (.invokevirtual 208, 3) := by decide +kernel
theorem dX11_perform_5 : decode cX11_perform 5 = .ok (.astore_n 2, 1) := by decide +kernel
theorem dX11_perform_6 : decode cX11_perform 6 = .ok (.aload_n 2, 1) := by decide +kernel
theorem dX11_perform_7 : decode cX11_perform 7 = .ok (.ifnull 10, 3) := by decide +kernel
theorem dX11_perform_10 : decode cX11_perform 10 = .ok (.aload_n 0, 1) := by decide +kernel
theorem dX11_perform_11 : decode cX11_perform 11 = .ok (.invokevirtual 223, 3) := by decide +kernel
theorem dX11_perform_14 : decode cX11_perform 14 = .ok (.ifCond .ne 5, 3) := by decide +kernel
theorem dX11_perform_17 : decode cX11_perform 17 = .ok (.iconst (-1), 1) := by decide +kernel
theorem dX11_perform_18 : decode cX11_perform 18 = .ok (.ireturn, 1) := by decide +kernel
theorem dX11_perform_19 : decode cX11_perform 19 = .ok (.iconst 0, 1) := by decide +kernel
theorem dX11_perform_20 : decode cX11_perform 20 = .ok (.istore_n 3, 1) := by decide +kernel
theorem dX11_perform_21 : decode cX11_perform 21 = .ok (.iconst 0, 1) := by decide +kernel
theorem dX11_perform_22 : decode cX11_perform 22 = .ok (.istore 4, 2) := by decide +kernel
theorem dX11_perform_24 : decode cX11_perform 24 = .ok (.iload 4, 2) := by decide +kernel
theorem dX11_perform_26 : decode cX11_perform 26 = .ok (.aload_n 2, 1) := by decide +kernel
theorem dX11_perform_27 : decode cX11_perform 27 = .ok (.arraylength, 1) := by decide +kernel
theorem dX11_perform_28 : decode cX11_perform 28 = .ok (.if_icmp .ge 73, 3) := by decide +kernel
theorem dX11_perform_31 : decode cX11_perform 31 = .ok (.aload_n 0, 1) := by decide +kernel
theorem dX11_perform_32 : decode cX11_perform 32 = .ok (.invokevirtual 223, 3) := by decide +kernel
theorem dX11_perform_35 : decode cX11_perform 35 = .ok (.ifCond .eq 66, 3) := by decide +kernel
theorem dX11_perform_38 : decode cX11_perform 38 = .ok (.aload_n 0, 1) := by decide +kernel
theorem dX11_perform_39 : decode cX11_perform 39 = .ok (.getfield 58, 3) := by decide +kernel
theorem dX11_perform_42 : decode cX11_perform 42 = .ok (.aload_n 2, 1) := by decide +kernel
theorem dX11_perform_43 : decode cX11_perform 43 = .ok (.iload 4, 2) := by decide +kernel
theorem dX11_perform_45 : decode cX11_perform 45 = .ok (.iaload, 1) := by decide +kernel
theorem dX11_perform_46 : decode cX11_perform 46 = .ok (.invokevirtual 352, 3) := by decide +kernel
theorem dX11_perform_49 : decode cX11_perform 49 = .ok (.ifCond .eq 46, 3) := by decide +kernel
theorem dX11_perform_52 : decode cX11_perform 52 = .ok (.aload_n 0, 1) := by decide +kernel
theorem dX11_perform_53 : decode cX11_perform 53 = .ok (.getfield 68, 3) := by decide +kernel
theorem dX11_perform_56 : decode cX11_perform 56 = .ok (.aload_n 0, 1) := by decide +kernel
theorem dX11_perform_57 : decode cX11_perform 57 = .ok (.getfield 58, 3) := by decide +kernel
theorem dX11_perform_60 : decode cX11_perform 60 = .ok (.invokevirtual 230, 3) := by decide +kernel
theorem dX11_perform_63 : decode cX11_perform 63 = .ok (.aload_n 0, 1) := by decide +kernel
theorem dX11_perform_64 : decode cX11_perform 64 = .ok (.getfield 58, 3) := by decide +kernel
theorem dX11_perform_67 : decode cX11_perform 67 = .ok (.aload_n 2, 1) := by decide +kernel
theorem dX11_perform_68 : decode cX11_perform 68 = .ok (.iload 4, 2) := by decide +kernel
theorem dX11_perform_70 : decode cX11_perform 70 = .ok (.iaload, 1) := by decide +kernel
theorem dX11_perform_71 : decode cX11_perform 71 = .ok (.invokevirtual 259, 3) := by decide +kernel
theorem dX11_perform_74 : decode cX11_perform 74 = .ok (.aload_n 0, 1) := by decide +kernel
theorem dX11_perform_75 : decode cX11_perform 75 = .ok (.getfield 68, 3) := by decide +kernel
theorem dX11_perform_78 : decode cX11_perform 78 = .ok (.aload_n 2, 1) := by decide +kernel
theorem dX11_perform_79 : decode cX11_perform 79 = .ok (.iload 4, 2) := by decide +kernel
theorem dX11_perform_81 : decode cX11_perform 81 = .ok (.iaload, 1) := by decide +kernel
theorem dX11_perform_82 : decode cX11_perform 82 = .ok (.aload_n 0, 1) := by decide +kernel
theorem dX11_perform_83 : decode cX11_perform 83 = .ok (.getfield 58, 3) := by decide +kernel
theorem dX11_perform_86 : decode cX11_perform 86 = .ok (.invokevirtual 244, 3) := by decide +kernel
theorem dX11_perform_89 : decode cX11_perform 89 = .ok (.invokevirtual 247, 3) := by decide +kernel
theorem dX11_perform_92 : decode cX11_perform 92 = .ok (.iinc 3 1, 3) := by decide +kernel
theorem dX11_perform_95 : decode cX11_perform 95 = .ok (.iinc 4 1, 3) := by decide +kernel
theorem dX11_perform_98 : decode cX11_perform 98 = .ok (.goto (-74), 3) := by decide +kernel
theorem dX11_perform_101 : decode cX11_perform 101 = .ok (.iload_n 3, 1) := by decide +kernel
theorem dX11_perform_102 : decode cX11_perform 102 = .ok (.ireturn, 1) := by decide +kernel
theorem dX11_log_0 : decode cX11_log 0 = .ok (.iload_n 1, 1) := by decide +kernel
theorem dX11_log_1 : decode cX11_log 1 = .ok (.ifCond .lt 23, 3) := by decide +kernel
theorem dX11_log_4 : decode cX11_log 4 = .ok (.iload_n 1, 1) := by decide +kernel
theorem dX11_log_5 : decode cX11_log 5 = .ok (.aload_n 0, 1) := by decide +kernel
theorem dX11_log_6 : decode cX11_log 6 = .ok (.getfield 68, 3) := by decide +kernel
theorem dX11_log_9 : decode cX11_log 9 = .ok (.getfield 355, 3) := by decide +kernel
theorem dX11_log_12 : decode cX11_log 12 = .ok (.if_icmp .ge 12, 3) := by decide +kernel
theorem dX11_log_15 : decode cX11_log 15 = .ok (.iload_n 2, 1) := by decide +kernel
theorem dX11_log_16 : decode cX11_log 16 = .ok (.ifCond .lt 8, 3) := by decide +kernel
theorem dX11_log_19 : decode cX11_log 19 = .ok (.iload_n 2, 1) := by decide +kernel
theorem dX11_log_20 : decode cX11_log 20 = .ok (.iconst 1, 1) := by decide +kernel
theorem dX11_log_21 : decode cX11_log 21 = .ok (.if_icmp .le 5, 3) := by decide +kernel
theorem dX11_log_24 : decode cX11_log 24 = .ok (.iconst (-1), 1) := by decide +kernel
theorem dX11_log_25 : decode cX11_log 25 = .ok (.ireturn, 1) := by decide +kernel
theorem dX11_log_26 : decode cX11_log 26 = .ok (.aload_n 0, 1) := by decide +kernel
theorem dX11_log_27 : decode cX11_log 27 = .ok (.getfield 68, 3) := by decide +kernel
theorem dX11_log_30 : decode cX11_log 30 = .ok (.iload_n 1, 1) := by decide +kernel
theorem dX11_log_31 : decode cX11_log 31 = .ok (.iload_n 2, 1) := by decide +kernel
theorem dX11_log_32 : decode cX11_log 32 = .ok (.invokevirtual 358, 3) := by decide +kernel
theorem dX11_log_35 : decode cX11_log 35 = .ok (.ireturn, 1) := by decide +kernel
theorem dX11_image_0 : decode cX11_image 0 = .ok (.aload_n 0, 1) := by decide +kernel
theorem dX11_image_1 : decode cX11_image 1 = .ok (.getfield 149, 3) := by decide +kernel
theorem dX11_image_4 : decode cX11_image 4 = .ok (.ifCond .ne 5, 3) := by decide +kernel
theorem dX11_image_7 : decode cX11_image 7 = .ok (.iconst (-1), 1) := by decide +kernel
theorem dX11_image_8 : decode cX11_image 8 = .ok (.ireturn, 1) := by decide +kernel
theorem dX11_image_9 : decode cX11_image 9 = .ok (.aload_n 0, 1) := by decide +kernel
theorem dX11_image_10 : decode cX11_image 10 = .ok (.getfield 68, 3) := by decide +kernel
theorem dX11_image_13 : decode cX11_image 13 = .ok (.aload_n 0, 1) := by decide +kernel
theorem dX11_image_14 : decode cX11_image 14 = .ok (.getfield 58, 3) := by decide +kernel
theorem dX11_image_17 : decode cX11_image 17 = .ok (.invokevirtual 361, 3) := by decide +kernel
theorem dX11_image_20 : decode cX11_image 20 = .ok (.aload_n 0, 1) := by decide +kernel
theorem dX11_image_21 : decode cX11_image 21 = .ok (.getfield 58, 3) := by decide +kernel
theorem dX11_image_24 : decode cX11_image 24 = .ok (.invokevirtual 244, 3) := by decide +kernel
theorem dX11_image_27 : decode cX11_image 27 = .ok (.ireturn, 1) := by decide +kernel
theorem dX11_back_0 : decode cX11_back 0 = .ok (.aload_n 0, 1) := by decide +kernel
theorem dX11_back_1 : decode cX11_back 1 = .ok (.getfield 68, 3) := by decide +kernel
theorem dX11_back_4 : decode cX11_back 4 = .ok (.getfield 364, 3) := by decide +kernel
theorem dX11_back_7 : decode cX11_back 7 = .ok (.ifCond .ne 5, 3) := by decide +kernel
theorem dX11_back_10 : decode cX11_back 10 = .ok (.iconst (-1), 1) := by decide +kernel
theorem dX11_back_11 : decode cX11_back 11 = .ok (.ireturn, 1) := by decide +kernel
theorem dX11_back_12 : decode cX11_back 12 = .ok (.aload_n 0, 1) := by decide +kernel
theorem dX11_back_13 : decode cX11_back 13 = .ok (.getfield 68, 3) := by decide +kernel
theorem dX11_back_16 : decode cX11_back 16 = .ok (.aload_n 0, 1) := by decide +kernel
theorem dX11_back_17 : decode cX11_back 17 = .ok (.getfield 58, 3) := by decide +kernel
theorem dX11_back_20 : decode cX11_back 20 = .ok (.invokevirtual 367, 3) := by decide +kernel
theorem dX11_back_23 : decode cX11_back 23 = .ok (.aload_n 0, 1) := by decide +kernel
theorem dX11_back_24 : decode cX11_back 24 = .ok (.getfield 58, 3) := by decide +kernel
theorem dX11_back_27 : decode cX11_back 27 = .ok (.invokevirtual 244, 3) := by decide +kernel
theorem dX11_back_30 : decode cX11_back 30 = .ok (.ireturn, 1) := by decide +kernel
theorem dX11_count_0 : decode cX11_count 0 = .ok (.iload_n 1, 1) := by decide +kernel
theorem dX11_count_1 : decode cX11_count 1 = .ok (.tableswitch 147 0 11 #[63, 63, 63, 73, 78, 83, 91, 110, 118, 123, 131, 139], 63) := by decide +kernel
theorem dX11_count_64 : decode cX11_count 64 = .ok (.aload_n 0, 1) := by decide +kernel
theorem dX11_count_65 : decode cX11_count 65 = .ok (.getfield 42, 3) := by decide +kernel
theorem dX11_count_68 : decode cX11_count 68 = .ok (.getfield 153, 3) := by decide +kernel
theorem dX11_count_71 : decode cX11_count 71 = .ok (.iload_n 1, 1) := by decide +kernel
theorem dX11_count_72 : decode cX11_count 72 = .ok (.iaload, 1) := by decide +kernel
theorem dX11_count_73 : decode cX11_count 73 = .ok (.ireturn, 1) := by decide +kernel
theorem dX11_count_74 : decode cX11_count 74 = .ok (.aload_n 0, 1) := by decide +kernel
theorem dX11_count_75 : decode cX11_count 75 = .ok (.getfield 156, 3) := by decide +kernel
theorem dX11_count_78 : decode cX11_count 78 = .ok (.ireturn, 1) := by decide +kernel
theorem dX11_count_79 : decode cX11_count 79 = .ok (.aload_n 0, 1) := by decide +kernel
theorem dX11_count_80 : decode cX11_count 80 = .ok (.getfield 169, 3) := by decide +kernel
theorem dX11_count_83 : decode cX11_count 83 = .ok (.ireturn, 1) := by decide +kernel
theorem dX11_count_84 : decode cX11_count 84 = .ok (.aload_n 0, 1) := by decide +kernel
theorem dX11_count_85 : decode cX11_count 85 = .ok (.getfield 10, 3) := by decide +kernel
theorem dX11_count_88 : decode cX11_count 88 = .ok (.getfield 110, 3) := by decide +kernel
theorem dX11_count_91 : decode cX11_count 91 = .ok (.ireturn, 1) := by decide +kernel
theorem dX11_count_92 : decode cX11_count 92 = .ok (.aload_n 0, 1) := by decide +kernel
theorem dX11_count_93 : decode cX11_count 93 = .ok (.getfield 149, 3) := by decide +kernel
theorem dX11_count_96 : decode cX11_count 96 = .ok (.ifCond .eq 13, 3) := by decide +kernel
theorem dX11_count_99 : decode cX11_count 99 = .ok (.aload_n 0, 1) := by decide +kernel
theorem dX11_count_100 : decode cX11_count 100 = .ok (.getfield 58, 3) := by decide +kernel
theorem dX11_count_103 : decode cX11_count 103 = .ok (.invokevirtual 234, 3) := by decide +kernel
theorem dX11_count_106 : decode cX11_count 106 = .ok (.goto 4, 3) := by decide +kernel
theorem dX11_count_109 : decode cX11_count 109 = .ok (.iconst (-1), 1) := by decide +kernel
theorem dX11_count_110 : decode cX11_count 110 = .ok (.ireturn, 1) := by decide +kernel
theorem dX11_count_111 : decode cX11_count 111 = .ok (.aload_n 0, 1) := by decide +kernel
theorem dX11_count_112 : decode cX11_count 112 = .ok (.getfield 58, 3) := by decide +kernel
theorem dX11_count_115 : decode cX11_count 115 = .ok (.invokevirtual 244, 3) := by decide +kernel
theorem dX11_count_118 : decode cX11_count 118 = .ok (.ireturn, 1) := by decide +kernel
theorem dX11_count_119 : decode cX11_count 119 = .ok (.aload_n 0, 1) := by decide +kernel
theorem dX11_count_120 : decode cX11_count 120 = .ok (.getfield 102, 3) := by decide +kernel
theorem dX11_count_123 : decode cX11_count 123 = .ok (.ireturn, 1) := by decide +kernel
theorem dX11_count_124 : decode cX11_count 124 = .ok (.aload_n 0, 1) := by decide +kernel
theorem dX11_count_125 : decode cX11_count 125 = .ok (.getfield 89, 3) := by decide +kernel
theorem dX11_count_128 : decode cX11_count 128 = .ok (.getfield 332, 3) := by decide +kernel
theorem dX11_count_131 : decode cX11_count 131 = .ok (.ireturn, 1) := by decide +kernel
theorem dX11_count_132 : decode cX11_count 132 = .ok (.aload_n 0, 1) := by decide +kernel
theorem dX11_count_133 : decode cX11_count 133 = .ok (.getfield 68, 3) := by decide +kernel
theorem dX11_count_136 : decode cX11_count 136 = .ok (.getfield 370, 3) := by decide +kernel
theorem dX11_count_139 : decode cX11_count 139 = .ok (.ireturn, 1) := by decide +kernel
theorem dX11_count_140 : decode cX11_count 140 = .ok (.aload_n 0, 1) := by decide +kernel
theorem dX11_count_141 : decode cX11_count 141 = .ok (.getfield 68, 3) := by decide +kernel
theorem dX11_count_144 : decode cX11_count 144 = .ok (.getfield 355, 3) := by decide +kernel
theorem dX11_count_147 : decode cX11_count 147 = .ok (.ireturn, 1) := by decide +kernel
theorem dX11_count_148 : decode cX11_count 148 = .ok (.ldc_w 275, 3) := by decide +kernel
theorem dX11_count_151 : decode cX11_count 151 = .ok (.ireturn, 1) := by decide +kernel
theorem dX11_isJar_0 : decode cX11_isJar 0 = .ok (.iload_n 1, 1) := by decide +kernel
theorem dX11_isJar_1 : decode cX11_isJar 1 = .ok (.ifCond .lt 20, 3) := by decide +kernel
theorem dX11_isJar_4 : decode cX11_isJar 4 = .ok (.iload_n 1, 1) := by decide +kernel
theorem dX11_isJar_5 : decode cX11_isJar 5 = .ok (.aload_n 0, 1) := by decide +kernel
theorem dX11_isJar_6 : decode cX11_isJar 6 = .ok (.getfield 42, 3) := by decide +kernel
theorem dX11_isJar_9 : decode cX11_isJar 9 = .ok (.getfield 153, 3) := by decide +kernel
theorem dX11_isJar_12 : decode cX11_isJar 12 = .ok (.iconst 0, 1) := by decide +kernel
theorem dX11_isJar_13 : decode cX11_isJar 13 = .ok (.iaload, 1) := by decide +kernel
theorem dX11_isJar_14 : decode cX11_isJar 14 = .ok (.if_icmp .ge 7, 3) := by decide +kernel
theorem dX11_isJar_17 : decode cX11_isJar 17 = .ok (.iconst 1, 1) := by decide +kernel
theorem dX11_isJar_18 : decode cX11_isJar 18 = .ok (.goto 4, 3) := by decide +kernel
theorem dX11_isJar_21 : decode cX11_isJar 21 = .ok (.iconst 0, 1) := by decide +kernel
theorem dX11_isJar_22 : decode cX11_isJar 22 = .ok (.ireturn, 1) := by decide +kernel
theorem dX11_isHand_0 : decode cX11_isHand 0 = .ok (.iload_n 1, 1) := by decide +kernel
theorem dX11_isHand_1 : decode cX11_isHand 1 = .ok (.ifCond .lt 20, 3) := by decide +kernel
theorem dX11_isHand_4 : decode cX11_isHand 4 = .ok (.iload_n 1, 1) := by decide +kernel
theorem dX11_isHand_5 : decode cX11_isHand 5 = .ok (.aload_n 0, 1) := by decide +kernel
theorem dX11_isHand_6 : decode cX11_isHand 6 = .ok (.getfield 42, 3) := by decide +kernel
theorem dX11_isHand_9 : decode cX11_isHand 9 = .ok (.getfield 153, 3) := by decide +kernel
theorem dX11_isHand_12 : decode cX11_isHand 12 = .ok (.iconst 1, 1) := by decide +kernel
theorem dX11_isHand_13 : decode cX11_isHand 13 = .ok (.iaload, 1) := by decide +kernel
theorem dX11_isHand_14 : decode cX11_isHand 14 = .ok (.if_icmp .ge 7, 3) := by decide +kernel
theorem dX11_isHand_17 : decode cX11_isHand 17 = .ok (.iconst 1, 1) := by decide +kernel
theorem dX11_isHand_18 : decode cX11_isHand 18 = .ok (.goto 4, 3) := by decide +kernel
theorem dX11_isHand_21 : decode cX11_isHand 21 = .ok (.iconst 0, 1) := by decide +kernel
theorem dX11_isHand_22 : decode cX11_isHand 22 = .ok (.ireturn, 1) := by decide +kernel
theorem dX11_isTool_0 : decode cX11_isTool 0 = .ok (.iload_n 1, 1) := by decide +kernel
theorem dX11_isTool_1 : decode cX11_isTool 1 = .ok (.iconst (-1), 1) := by decide +kernel
theorem dX11_isTool_2 : decode cX11_isTool 2 = .ok (.if_icmp .lt 20, 3) := by decide +kernel
theorem dX11_isTool_5 : decode cX11_isTool 5 = .ok (.iload_n 1, 1) := by decide +kernel
theorem dX11_isTool_6 : decode cX11_isTool 6 = .ok (.aload_n 0, 1) := by decide +kernel
theorem dX11_isTool_7 : decode cX11_isTool 7 = .ok (.getfield 42, 3) := by decide +kernel
theorem dX11_isTool_10 : decode cX11_isTool 10 = .ok (.getfield 153, 3) := by decide +kernel
theorem dX11_isTool_13 : decode cX11_isTool 13 = .ok (.iconst 2, 1) := by decide +kernel
theorem dX11_isTool_14 : decode cX11_isTool 14 = .ok (.iaload, 1) := by decide +kernel
theorem dX11_isTool_15 : decode cX11_isTool 15 = .ok (.if_icmp .ge 7, 3) := by decide +kernel
theorem dX11_isTool_18 : decode cX11_isTool 18 = .ok (.iconst 1, 1) := by decide +kernel
theorem dX11_isTool_19 : decode cX11_isTool 19 = .ok (.goto 4, 3) := by decide +kernel
theorem dX11_isTool_22 : decode cX11_isTool 22 = .ok (.iconst 0, 1) := by decide +kernel
theorem dX11_isTool_23 : decode cX11_isTool 23 = .ok (.ireturn, 1) := by decide +kernel
theorem dX11_lidIsShut_0 : decode cX11_lidIsShut 0 = .ok (.aload_n 0, 1) := by decide +kernel
theorem dX11_lidIsShut_1 : decode cX11_lidIsShut 1 = .ok (.getfield 149, 3) := by decide +kernel
theorem dX11_lidIsShut_4 : decode cX11_lidIsShut 4 = .ok (.ifCond .eq 24, 3) := by decide +kernel
theorem dX11_lidIsShut_7 : decode cX11_lidIsShut 7 = .ok (.aload_n 0, 1) := by decide +kernel
theorem dX11_lidIsShut_8 : decode cX11_lidIsShut 8 = .ok (.getfield 58, 3) := by decide +kernel
theorem dX11_lidIsShut_11 : decode cX11_lidIsShut 11 = .ok (.aload_n 0, 1) := by decide +kernel
theorem dX11_lidIsShut_12 : decode cX11_lidIsShut 12 = .ok (.getfield 58, 3) := by decide +kernel
theorem dX11_lidIsShut_15 : decode cX11_lidIsShut 15 = .ok (.invokevirtual 234, 3) := by decide +kernel
theorem dX11_lidIsShut_18 : decode cX11_lidIsShut 18 = .ok (.invokevirtual 215, 3) := by decide +kernel
theorem dX11_lidIsShut_21 : decode cX11_lidIsShut 21 = .ok (.ifCond .eq 7, 3) := by decide +kernel
theorem dX11_lidIsShut_24 : decode cX11_lidIsShut 24 = .ok (.iconst 1, 1) := by decide +kernel
theorem dX11_lidIsShut_25 : decode cX11_lidIsShut 25 = .ok (.goto 4, 3) := by decide +kernel
theorem dX11_lidIsShut_28 : decode cX11_lidIsShut 28 = .ok (.iconst 0, 1) := by decide +kernel
theorem dX11_lidIsShut_29 : decode cX11_lidIsShut 29 = .ok (.ireturn, 1) := by decide +kernel
theorem dX11_stepsOf_0 : decode cX11_stepsOf 0 = .ok (.iload_n 1, 1) := by decide +kernel
theorem dX11_stepsOf_1 : decode cX11_stepsOf 1 = .ok (.ifCond .lt 20, 3) := by decide +kernel
theorem dX11_stepsOf_4 : decode cX11_stepsOf 4 = .ok (.iload_n 1, 1) := by decide +kernel
theorem dX11_stepsOf_5 : decode cX11_stepsOf 5 = .ok (.aload_n 0, 1) := by decide +kernel
theorem dX11_stepsOf_6 : decode cX11_stepsOf 6 = .ok (.getfield 169, 3) := by decide +kernel
theorem dX11_stepsOf_9 : decode cX11_stepsOf 9 = .ok (.if_icmp .ge 12, 3) := by decide +kernel
theorem dX11_stepsOf_12 : decode cX11_stepsOf 12 = .ok (.aload_n 0, 1) := by decide +kernel
theorem dX11_stepsOf_13 : decode cX11_stepsOf 13 = .ok (.getfield 99, 3) := by decide +kernel
theorem dX11_stepsOf_16 : decode cX11_stepsOf 16 = .ok (.iload_n 1, 1) := by decide +kernel
theorem dX11_stepsOf_17 : decode cX11_stepsOf 17 = .ok (.aaload, 1) := by decide +kernel
theorem dX11_stepsOf_18 : decode cX11_stepsOf 18 = .ok (.goto 4, 3) := by decide +kernel
theorem dX11_stepsOf_21 : decode cX11_stepsOf 21 = .ok (.aconst_null, 1) := by decide +kernel
theorem dX11_stepsOf_22 : decode cX11_stepsOf 22 = .ok (.areturn, 1) := by decide +kernel
theorem dX11_tryCode_0 : decode cX11_tryCode 0 = .ok (.bipush 100, 2) := by decide +kernel
theorem dX11_tryCode_2 : decode cX11_tryCode 2 = .ok (.bipush 10, 2) := by decide +kernel
theorem dX11_tryCode_4 : decode cX11_tryCode 4 = .ok (.iload_n 0, 1) := by decide +kernel
theorem dX11_tryCode_5 : decode cX11_tryCode 5 = .ok (.imul, 1) := by decide +kernel
theorem dX11_tryCode_6 : decode cX11_tryCode 6 = .ok (.iadd, 1) := by decide +kernel
theorem dX11_tryCode_7 : decode cX11_tryCode 7 = .ok (.iload_n 1, 1) := by decide +kernel
theorem dX11_tryCode_8 : decode cX11_tryCode 8 = .ok (.iconst (-1), 1) := by decide +kernel
theorem dX11_tryCode_9 : decode cX11_tryCode 9 = .ok (.if_icmp .ne 8, 3) := by decide +kernel
theorem dX11_tryCode_12 : decode cX11_tryCode 12 = .ok (.bipush 9, 2) := by decide +kernel
theorem dX11_tryCode_14 : decode cX11_tryCode 14 = .ok (.goto 4, 3) := by decide +kernel
theorem dX11_tryCode_17 : decode cX11_tryCode 17 = .ok (.iload_n 1, 1) := by decide +kernel
theorem dX11_tryCode_18 : decode cX11_tryCode 18 = .ok (.iadd, 1) := by decide +kernel
theorem dX11_tryCode_19 : decode cX11_tryCode 19 = .ok (.ireturn, 1) := by decide +kernel
theorem dX11_draw_0 : decode cX11_draw 0 = .ok (.aload_n 0, 1) := by decide +kernel
theorem dX11_draw_1 : decode cX11_draw 1 = .ok (.aload_n 0, 1) := by decide +kernel
theorem dX11_draw_2 : decode cX11_draw 2 = .ok (.getfield 345, 3) := by decide +kernel
theorem dX11_draw_5 : decode cX11_draw 5 = .ok (.ldc2_w 373, 3) := by decide +kernel
theorem dX11_draw_8 : decode cX11_draw 8 = .ok (.lmul, 1) := by decide +kernel
theorem dX11_draw_9 : decode cX11_draw 9 = .ok (.ldc2_w 375, 3) := by decide +kernel
theorem dX11_draw_12 : decode cX11_draw 12 = .ok (.ladd, 1) := by decide +kernel
theorem dX11_draw_13 : decode cX11_draw 13 = .ok (.putfield 345, 3) := by decide +kernel
theorem dX11_draw_16 : decode cX11_draw 16 = .ok (.iload_n 1, 1) := by decide +kernel
theorem dX11_draw_17 : decode cX11_draw 17 = .ok (.iconst 1, 1) := by decide +kernel
theorem dX11_draw_18 : decode cX11_draw 18 = .ok (.if_icmp .ge 7, 3) := by decide +kernel
theorem dX11_draw_21 : decode cX11_draw 21 = .ok (.iconst 0, 1) := by decide +kernel
theorem dX11_draw_22 : decode cX11_draw 22 = .ok (.goto 14, 3) := by decide +kernel
theorem dX11_draw_25 : decode cX11_draw 25 = .ok (.aload_n 0, 1) := by decide +kernel
theorem dX11_draw_26 : decode cX11_draw 26 = .ok (.getfield 345, 3) := by decide +kernel
theorem dX11_draw_29 : decode cX11_draw 29 = .ok (.bipush 33, 2) := by decide +kernel
theorem dX11_draw_31 : decode cX11_draw 31 = .ok (.lushr, 1) := by decide +kernel
theorem dX11_draw_32 : decode cX11_draw 32 = .ok (.iload_n 1, 1) := by decide +kernel
theorem dX11_draw_33 : decode cX11_draw 33 = .ok (.i2l, 1) := by decide +kernel
theorem dX11_draw_34 : decode cX11_draw 34 = .ok (.lrem, 1) := by decide +kernel
theorem dX11_draw_35 : decode cX11_draw 35 = .ok (.l2i, 1) := by decide +kernel
theorem dX11_draw_36 : decode cX11_draw 36 = .ok (.ireturn, 1) := by decide +kernel
theorem dX11_rehearse_0 : decode cX11_rehearse 0 = .ok (.aload_n 0, 1) := by decide +kernel
theorem dX11_rehearse_1 : decode cX11_rehearse 1 = .ok (.getfield 62, 3) := by decide +kernel
theorem dX11_rehearse_4 : decode cX11_rehearse 4 = .ok (.aload_n 0, 1) := by decide +kernel
theorem dX11_rehearse_5 : decode cX11_rehearse 5 = .ok (.getfield 58, 3) := by decide +kernel
theorem dX11_rehearse_8 : decode cX11_rehearse 8 = .ok (.invokevirtual 317, 3) := by decide +kernel
theorem dX11_rehearse_11 : decode cX11_rehearse 11 = .ok (.iconst 0, 1) := by decide +kernel
theorem dX11_rehearse_12 : decode cX11_rehearse 12 = .ok (.istore_n 2, 1) := by decide +kernel
theorem dX11_rehearse_13 : decode cX11_rehearse 13 = .ok (.iconst 0, 1) := by decide +kernel
theorem dX11_rehearse_14 : decode cX11_rehearse 14 = .ok (.istore_n 3, 1) := by decide +kernel
theorem dX11_rehearse_15 : decode cX11_rehearse 15 = .ok (.iload_n 3, 1) := by decide +kernel
theorem dX11_rehearse_16 : decode cX11_rehearse 16 = .ok (.aload_n 1, 1) := by decide +kernel
theorem dX11_rehearse_17 : decode cX11_rehearse 17 = .ok (.arraylength, 1) := by decide +kernel
theorem dX11_rehearse_18 : decode cX11_rehearse 18 = .ok (.if_icmp .ge 52, 3) := by decide +kernel
theorem dX11_rehearse_21 : decode cX11_rehearse 21 = .ok (.aload_n 0, 1) := by decide +kernel
theorem dX11_rehearse_22 : decode cX11_rehearse 22 = .ok (.getfield 62, 3) := by decide +kernel
theorem dX11_rehearse_25 : decode cX11_rehearse 25 = .ok (.aload_n 0, 1) := by decide +kernel
theorem dX11_rehearse_26 : decode cX11_rehearse 26 = .ok (.getfield 62, 3) := by decide +kernel
theorem dX11_rehearse_29 : decode cX11_rehearse 29 = .ok (.invokevirtual 234, 3) := by decide +kernel
theorem dX11_rehearse_32 : decode cX11_rehearse 32 = .ok (.invokevirtual 215, 3) := by decide +kernel
theorem dX11_rehearse_35 : decode cX11_rehearse 35 = .ok (.ifCond .eq 35, 3) := by decide +kernel
theorem dX11_rehearse_38 : decode cX11_rehearse 38 = .ok (.aload_n 0, 1) := by decide +kernel
theorem dX11_rehearse_39 : decode cX11_rehearse 39 = .ok (.getfield 62, 3) := by decide +kernel
theorem dX11_rehearse_42 : decode cX11_rehearse 42 = .ok (.aload_n 1, 1) := by decide +kernel
theorem dX11_rehearse_43 : decode cX11_rehearse 43 = .ok (.iload_n 3, 1) := by decide +kernel
theorem dX11_rehearse_44 : decode cX11_rehearse 44 = .ok (.iaload, 1) := by decide +kernel
theorem dX11_rehearse_45 : decode cX11_rehearse 45 = .ok (.invokevirtual 352, 3) := by decide +kernel
theorem dX11_rehearse_48 : decode cX11_rehearse 48 = .ok (.ifCond .eq 13, 3) := by decide +kernel
theorem dX11_rehearse_51 : decode cX11_rehearse 51 = .ok (.aload_n 0, 1) := by decide +kernel
theorem dX11_rehearse_52 : decode cX11_rehearse 52 = .ok (.getfield 62, 3) := by decide +kernel
theorem dX11_rehearse_55 : decode cX11_rehearse 55 = .ok (.aload_n 1, 1) := by decide +kernel
theorem dX11_rehearse_56 : decode cX11_rehearse 56 = .ok (.iload_n 3, 1) := by decide +kernel
theorem dX11_rehearse_57 : decode cX11_rehearse 57 = .ok (.iaload, 1) := by decide +kernel
theorem dX11_rehearse_58 : decode cX11_rehearse 58 = .ok (.invokevirtual 259, 3) := by decide +kernel
theorem dX11_rehearse_61 : decode cX11_rehearse 61 = .ok (.iinc 2 1, 3) := by decide +kernel
theorem dX11_rehearse_64 : decode cX11_rehearse 64 = .ok (.iinc 3 1, 3) := by decide +kernel
theorem dX11_rehearse_67 : decode cX11_rehearse 67 = .ok (.goto (-52), 3) := by decide +kernel
theorem dX11_rehearse_70 : decode cX11_rehearse 70 = .ok (.iload_n 2, 1) := by decide +kernel
theorem dX11_rehearse_71 : decode cX11_rehearse 71 = .ok (.ireturn, 1) := by decide +kernel
theorem dX11_hasHole_0 : decode cX11_hasHole 0 = .ok (.iconst 0, 1) := by decide +kernel
theorem dX11_hasHole_1 : decode cX11_hasHole 1 = .ok (.istore_n 2, 1) := by decide +kernel
theorem dX11_hasHole_2 : decode cX11_hasHole 2 = .ok (.iload_n 2, 1) := by decide +kernel
theorem dX11_hasHole_3 : decode cX11_hasHole 3 = .ok (.iload_n 1, 1) := by decide +kernel
theorem dX11_hasHole_4 : decode cX11_hasHole 4 = .ok (.if_icmp .ge 24, 3) := by decide +kernel
theorem dX11_hasHole_7 : decode cX11_hasHole 7 = .ok (.iload_n 2, 1) := by decide +kernel
theorem dX11_hasHole_8 : decode cX11_hasHole 8 = .ok (.aload_n 0, 1) := by decide +kernel
theorem dX11_hasHole_9 : decode cX11_hasHole 9 = .ok (.arraylength, 1) := by decide +kernel
theorem dX11_hasHole_10 : decode cX11_hasHole 10 = .ok (.if_icmp .ge 18, 3) := by decide +kernel
theorem dX11_hasHole_13 : decode cX11_hasHole 13 = .ok (.aload_n 0, 1) := by decide +kernel
theorem dX11_hasHole_14 : decode cX11_hasHole 14 = .ok (.iload_n 2, 1) := by decide +kernel
theorem dX11_hasHole_15 : decode cX11_hasHole 15 = .ok (.iaload, 1) := by decide +kernel
theorem dX11_hasHole_16 : decode cX11_hasHole 16 = .ok (.iconst 2, 1) := by decide +kernel
theorem dX11_hasHole_17 : decode cX11_hasHole 17 = .ok (.if_icmp .ne 5, 3) := by decide +kernel
theorem dX11_hasHole_20 : decode cX11_hasHole 20 = .ok (.iconst 1, 1) := by decide +kernel
theorem dX11_hasHole_21 : decode cX11_hasHole 21 = .ok (.ireturn, 1) := by decide +kernel
theorem dX11_hasHole_22 : decode cX11_hasHole 22 = .ok (.iinc 2 1, 3) := by decide +kernel
theorem dX11_hasHole_25 : decode cX11_hasHole 25 = .ok (.goto (-23), 3) := by decide +kernel
theorem dX11_hasHole_28 : decode cX11_hasHole 28 = .ok (.iconst 0, 1) := by decide +kernel
theorem dX11_hasHole_29 : decode cX11_hasHole 29 = .ok (.ireturn, 1) := by decide +kernel
theorem dX11_pairsSaved_0 : decode cX11_pairsSaved 0 = .ok (.aload_n 0, 1) := by decide +kernel
theorem dX11_pairsSaved_1 : decode cX11_pairsSaved 1 = .ok (.getfield 62, 3) := by decide +kernel
theorem dX11_pairsSaved_4 : decode cX11_pairsSaved 4 = .ok (.invokevirtual 142, 3) := by decide +kernel
theorem dX11_pairsSaved_7 : decode cX11_pairsSaved 7 = .ok (.iconst 0, 1) := by decide +kernel
theorem dX11_pairsSaved_8 : decode cX11_pairsSaved 8 = .ok (.istore_n 2, 1) := by decide +kernel
theorem dX11_pairsSaved_9 : decode cX11_pairsSaved 9 = .ok (.iconst 0, 1) := by decide +kernel
theorem dX11_pairsSaved_10 : decode cX11_pairsSaved 10 = .ok (.istore_n 3, 1) := by decide +kernel
theorem dX11_pairsSaved_11 : decode cX11_pairsSaved 11 = .ok (.iload_n 3, 1) := by decide +kernel
theorem dX11_pairsSaved_12 : decode cX11_pairsSaved 12 = .ok (.aload_n 0, 1) := by decide +kernel
theorem dX11_pairsSaved_13 : decode cX11_pairsSaved 13 = .ok (.getfield 42, 3) := by decide +kernel
theorem dX11_pairsSaved_16 : decode cX11_pairsSaved 16 = .ok (.getfield 153, 3) := by decide +kernel
theorem dX11_pairsSaved_19 : decode cX11_pairsSaved 19 = .ok (.iconst 0, 1) := by decide +kernel
theorem dX11_pairsSaved_20 : decode cX11_pairsSaved 20 = .ok (.iaload, 1) := by decide +kernel
theorem dX11_pairsSaved_21 : decode cX11_pairsSaved 21 = .ok (.if_icmp .ge 77, 3) := by decide +kernel
theorem dX11_pairsSaved_24 : decode cX11_pairsSaved 24 = .ok (.aload_n 0, 1) := by decide +kernel
theorem dX11_pairsSaved_25 : decode cX11_pairsSaved 25 = .ok (.getfield 62, 3) := by decide +kernel
theorem dX11_pairsSaved_28 : decode cX11_pairsSaved 28 = .ok (.iload_n 3, 1) := by decide +kernel
theorem dX11_pairsSaved_29 : decode cX11_pairsSaved 29 = .ok (.invokevirtual 185, 3) := by decide +kernel
theorem dX11_pairsSaved_32 : decode cX11_pairsSaved 32 = .ok (.istore 4, 2) := by decide +kernel
theorem dX11_pairsSaved_34 : decode cX11_pairsSaved 34 = .ok (.iconst 0, 1) := by decide +kernel
theorem dX11_pairsSaved_35 : decode cX11_pairsSaved 35 = .ok (.istore 5, 2) := by decide +kernel
theorem dX11_pairsSaved_37 : decode cX11_pairsSaved 37 = .ok (.iload 5, 2) := by decide +kernel
theorem dX11_pairsSaved_39 : decode cX11_pairsSaved 39 = .ok (.aload_n 0, 1) := by decide +kernel
theorem dX11_pairsSaved_40 : decode cX11_pairsSaved 40 = .ok (.getfield 42, 3) := by decide +kernel
theorem dX11_pairsSaved_43 : decode cX11_pairsSaved 43 = .ok (.getfield 153, 3) := by decide +kernel
theorem dX11_pairsSaved_46 : decode cX11_pairsSaved 46 = .ok (.iconst 1, 1) := by decide +kernel
theorem dX11_pairsSaved_47 : decode cX11_pairsSaved 47 = .ok (.iaload, 1) := by decide +kernel
theorem dX11_pairsSaved_48 : decode cX11_pairsSaved 48 = .ok (.if_icmp .ge 44, 3) := by decide +kernel
theorem dX11_pairsSaved_51 : decode cX11_pairsSaved 51 = .ok (.aload_n 0, 1) := by decide +kernel
theorem dX11_pairsSaved_52 : decode cX11_pairsSaved 52 = .ok (.getfield 62, 3) := by decide +kernel
theorem dX11_pairsSaved_55 : decode cX11_pairsSaved 55 = .ok (.iload 5, 2) := by decide +kernel
theorem dX11_pairsSaved_57 : decode cX11_pairsSaved 57 = .ok (.iload_n 1, 1) := by decide +kernel
theorem dX11_pairsSaved_58 : decode cX11_pairsSaved 58 = .ok (.iload_n 3, 1) := by decide +kernel
theorem dX11_pairsSaved_59 : decode cX11_pairsSaved 59 = .ok (.invokevirtual 212, 3) := by decide +kernel
theorem dX11_pairsSaved_62 : decode cX11_pairsSaved 62 = .ok (.iload 4, 2) := by decide +kernel
theorem dX11_pairsSaved_64 : decode cX11_pairsSaved 64 = .ok (.if_icmp .lt 22, 3) := by decide +kernel
theorem dX11_pairsSaved_67 : decode cX11_pairsSaved 67 = .ok (.aload_n 0, 1) := by decide +kernel
theorem dX11_pairsSaved_68 : decode cX11_pairsSaved 68 = .ok (.getfield 62, 3) := by decide +kernel
theorem dX11_pairsSaved_71 : decode cX11_pairsSaved 71 = .ok (.iload 5, 2) := by decide +kernel
theorem dX11_pairsSaved_73 : decode cX11_pairsSaved 73 = .ok (.iconst (-1), 1) := by decide +kernel
theorem dX11_pairsSaved_74 : decode cX11_pairsSaved 74 = .ok (.iload_n 3, 1) := by decide +kernel
theorem dX11_pairsSaved_75 : decode cX11_pairsSaved 75 = .ok (.invokevirtual 212, 3) := by decide +kernel
theorem dX11_pairsSaved_78 : decode cX11_pairsSaved 78 = .ok (.iload 4, 2) := by decide +kernel
theorem dX11_pairsSaved_80 : decode cX11_pairsSaved 80 = .ok (.if_icmp .ge 6, 3) := by decide +kernel
theorem dX11_pairsSaved_83 : decode cX11_pairsSaved 83 = .ok (.iinc 2 1, 3) := by decide +kernel
theorem dX11_pairsSaved_86 : decode cX11_pairsSaved 86 = .ok (.iinc 5 1, 3) := by decide +kernel
theorem dX11_pairsSaved_89 : decode cX11_pairsSaved 89 = .ok (.goto (-52), 3) := by decide +kernel
theorem dX11_pairsSaved_92 : decode cX11_pairsSaved 92 = .ok (.iinc 3 1, 3) := by decide +kernel
theorem dX11_pairsSaved_95 : decode cX11_pairsSaved 95 = .ok (.goto (-84), 3) := by decide +kernel
theorem dX11_pairsSaved_98 : decode cX11_pairsSaved 98 = .ok (.iload_n 2, 1) := by decide +kernel
theorem dX11_pairsSaved_99 : decode cX11_pairsSaved 99 = .ok (.ireturn, 1) := by decide +kernel
theorem dX11_openersOf_0 : decode cX11_openersOf 0 = .ok (.aload_n 0, 1) := by decide +kernel
theorem dX11_openersOf_1 : decode cX11_openersOf 1 = .ok (.getfield 62, 3) := by decide +kernel
theorem dX11_openersOf_4 : decode cX11_openersOf 4 = .ok (.getfield 268, 3) := by decide +kernel
theorem dX11_openersOf_7 : decode cX11_openersOf 7 = .ok (.iload_n 1, 1) := by decide +kernel
theorem dX11_openersOf_8 : decode cX11_openersOf 8 = .ok (.bipush 7, 2) := by decide +kernel
theorem dX11_openersOf_10 : decode cX11_openersOf 10 = .ok (.imul, 1) := by decide +kernel
theorem dX11_openersOf_11 : decode cX11_openersOf 11 = .ok (.iconst 0, 1) := by decide +kernel
theorem dX11_openersOf_12 : decode cX11_openersOf 12 = .ok (.iadd, 1) := by decide +kernel
theorem dX11_openersOf_13 : decode cX11_openersOf 13 = .ok (.iload_n 2, 1) := by decide +kernel
theorem dX11_openersOf_14 : decode cX11_openersOf 14 = .ok (.iastore, 1) := by decide +kernel
theorem dX11_openersOf_15 : decode cX11_openersOf 15 = .ok (.iconst 0, 1) := by decide +kernel
theorem dX11_openersOf_16 : decode cX11_openersOf 16 = .ok (.istore_n 3, 1) := by decide +kernel
theorem dX11_openersOf_17 : decode cX11_openersOf 17 = .ok (.iconst 0, 1) := by decide +kernel
theorem dX11_openersOf_18 : decode cX11_openersOf 18 = .ok (.istore 4, 2) := by decide +kernel
theorem dX11_openersOf_20 : decode cX11_openersOf 20 = .ok (.iload 4, 2) := by decide +kernel
theorem dX11_openersOf_22 : decode cX11_openersOf 22 = .ok (.aload_n 0, 1) := by decide +kernel
theorem dX11_openersOf_23 : decode cX11_openersOf 23 = .ok (.getfield 42, 3) := by decide +kernel
theorem dX11_openersOf_26 : decode cX11_openersOf 26 = .ok (.getfield 153, 3) := by decide +kernel
theorem dX11_openersOf_29 : decode cX11_openersOf 29 = .ok (.iconst 1, 1) := by decide +kernel
theorem dX11_openersOf_30 : decode cX11_openersOf 30 = .ok (.iaload, 1) := by decide +kernel
theorem dX11_openersOf_31 : decode cX11_openersOf 31 = .ok (.if_icmp .ge 34, 3) := by decide +kernel
theorem dX11_openersOf_34 : decode cX11_openersOf 34 = .ok (.aload_n 0, 1) := by decide +kernel
theorem dX11_openersOf_35 : decode cX11_openersOf 35 = .ok (.getfield 62, 3) := by decide +kernel
theorem dX11_openersOf_38 : decode cX11_openersOf 38 = .ok (.iload 4, 2) := by decide +kernel
theorem dX11_openersOf_40 : decode cX11_openersOf 40 = .ok (.iconst (-1), 1) := by decide +kernel
theorem dX11_openersOf_41 : decode cX11_openersOf 41 = .ok (.iload_n 1, 1) := by decide +kernel
theorem dX11_openersOf_42 : decode cX11_openersOf 42 = .ok (.invokevirtual 212, 3) := by decide +kernel
theorem dX11_openersOf_45 : decode cX11_openersOf 45 = .ok (.aload_n 0, 1) := by decide +kernel
theorem dX11_openersOf_46 : decode cX11_openersOf 46 = .ok (.getfield 62, 3) := by decide +kernel
theorem dX11_openersOf_49 : decode cX11_openersOf 49 = .ok (.iload_n 1, 1) := by decide +kernel
theorem dX11_openersOf_50 : decode cX11_openersOf 50 = .ok (.invokevirtual 185, 3) := by decide +kernel
theorem dX11_openersOf_53 : decode cX11_openersOf 53 = .ok (.if_icmp .lt 6, 3) := by decide +kernel
theorem dX11_openersOf_56 : decode cX11_openersOf 56 = .ok (.iinc 3 1, 3) := by decide +kernel
theorem dX11_openersOf_59 : decode cX11_openersOf 59 = .ok (.iinc 4 1, 3) := by decide +kernel
theorem dX11_openersOf_62 : decode cX11_openersOf 62 = .ok (.goto (-42), 3) := by decide +kernel
theorem dX11_openersOf_65 : decode cX11_openersOf 65 = .ok (.iload_n 3, 1) := by decide +kernel
theorem dX11_openersOf_66 : decode cX11_openersOf 66 = .ok (.ireturn, 1) := by decide +kernel
theorem dX11_commonDivisor_0 : decode cX11_commonDivisor 0 = .ok (.iload_n 0, 1) := by decide +kernel
theorem dX11_commonDivisor_1 : decode cX11_commonDivisor 1 = .ok (.istore_n 2, 1) := by decide +kernel
theorem dX11_commonDivisor_2 : decode cX11_commonDivisor 2 = .ok (.iload_n 1, 1) := by decide +kernel
theorem dX11_commonDivisor_3 : decode cX11_commonDivisor 3 = .ok (.istore_n 3, 1) := by decide +kernel
theorem dX11_commonDivisor_4 : decode cX11_commonDivisor 4 = .ok (.iconst 0, 1) := by decide +kernel
theorem dX11_commonDivisor_5 : decode cX11_commonDivisor 5 = .ok (.istore 4, 2) := by decide +kernel
theorem dX11_commonDivisor_7 : decode cX11_commonDivisor 7 = .ok (.iload 4, 2) := by decide +kernel
theorem dX11_commonDivisor_9 : decode cX11_commonDivisor 9 = .ok (.bipush 100, 2) := by decide +kernel
theorem dX11_commonDivisor_11 : decode cX11_commonDivisor 11 = .ok (.if_icmp .ge 23, 3) := by decide +kernel
theorem dX11_commonDivisor_14 : decode cX11_commonDivisor 14 = .ok (.iload_n 3, 1) := by decide +kernel
theorem dX11_commonDivisor_15 : decode cX11_commonDivisor 15 = .ok (.ifCond .eq 19, 3) := by decide +kernel
theorem dX11_commonDivisor_18 : decode cX11_commonDivisor 18 = .ok (.iload_n 2, 1) := by decide +kernel
theorem dX11_commonDivisor_19 : decode cX11_commonDivisor 19 = .ok (.iload_n 3, 1) := by decide +kernel
theorem dX11_commonDivisor_20 : decode cX11_commonDivisor 20 = .ok (.irem, 1) := by decide +kernel
theorem dX11_commonDivisor_21 : decode cX11_commonDivisor 21 = .ok (.istore 5, 2) := by decide +kernel
theorem dX11_commonDivisor_23 : decode cX11_commonDivisor 23 = .ok (.iload_n 3, 1) := by decide +kernel
theorem dX11_commonDivisor_24 : decode cX11_commonDivisor 24 = .ok (.istore_n 2, 1) := by decide +kernel
theorem dX11_commonDivisor_25 : decode cX11_commonDivisor 25 = .ok (.iload 5, 2) := by decide +kernel
theorem dX11_commonDivisor_27 : decode cX11_commonDivisor 27 = .ok (.istore_n 3, 1) := by decide +kernel
theorem dX11_commonDivisor_28 : decode cX11_commonDivisor 28 = .ok (.iinc 4 1, 3) := by decide +kernel
theorem dX11_commonDivisor_31 : decode cX11_commonDivisor 31 = .ok (.goto (-24), 3) := by decide +kernel
theorem dX11_commonDivisor_34 : decode cX11_commonDivisor 34 = .ok (.iload_n 2, 1) := by decide +kernel
theorem dX11_commonDivisor_35 : decode cX11_commonDivisor 35 = .ok (.ireturn, 1) := by decide +kernel
theorem dX12_init_0 : decode cX12_init 0 = .ok (.aload_n 0, 1) := by decide +kernel
theorem dX12_init_1 : decode cX12_init 1 = .ok (.invokespecial 3, 3) := by decide +kernel
theorem dX12_init_4 : decode cX12_init 4 = .ok (.aload_n 0, 1) := by decide +kernel
theorem dX12_init_5 : decode cX12_init 5 = .ok (.sipush 200, 3) := by decide +kernel
theorem dX12_init_8 : decode cX12_init 8 = .ok (.newarray .byte, 2) := by decide +kernel
theorem dX12_init_10 : decode cX12_init 10 = .ok (.putfield 9, 3) := by decide +kernel
theorem dX12_init_13 : decode cX12_init 13 = .ok (.aload_n 0, 1) := by decide +kernel
theorem dX12_init_14 : decode cX12_init 14 = .ok (.sipush 800, 3) := by decide +kernel
theorem dX12_init_17 : decode cX12_init 17 = .ok (.newarray .byte, 2) := by decide +kernel
theorem dX12_init_19 : decode cX12_init 19 = .ok (.putfield 13, 3) := by decide +kernel
theorem dX12_init_22 : decode cX12_init 22 = .ok (.aload_n 0, 1) := by decide +kernel
theorem dX12_init_23 : decode cX12_init 23 = .ok (.iconst 4, 1) := by decide +kernel
theorem dX12_init_24 : decode cX12_init 24 = .ok (.newarray .int, 2) := by decide +kernel
theorem dX12_init_26 : decode cX12_init 26 = .ok (.putfield 16, 3) := by decide +kernel
theorem dX12_init_29 : decode cX12_init 29 = .ok (.aload_n 0, 1) := by decide +kernel
theorem dX12_init_30 : decode cX12_init 30 = .ok (.sipush 128, 3) := by decide +kernel
theorem dX12_init_33 : decode cX12_init 33 = .ok (.newarray .int, 2) := by decide +kernel
theorem dX12_init_35 : decode cX12_init 35 = .ok (.putfield 20, 3) := by decide +kernel
theorem dX12_init_38 : decode cX12_init 38 = .ok (.aload_n 0, 1) := by decide +kernel
theorem dX12_init_39 : decode cX12_init 39 = .ok (.aload_n 0, 1) := by decide +kernel
theorem dX12_init_40 : decode cX12_init 40 = .ok (.getfield 9, 3) := by decide +kernel
theorem dX12_init_43 : decode cX12_init 43 = .ok (.putfield 23, 3) := by decide +kernel
theorem dX12_init_46 : decode cX12_init 46 = .ok (.aload_n 0, 1) := by decide +kernel
theorem dX12_init_47 : decode cX12_init 47 = .ok (.ldc 26, 2) := by decide +kernel
theorem dX12_init_49 : decode cX12_init 49 = .ok (.putfield 28, 3) := by decide +kernel
theorem dX12_init_52 : decode cX12_init 52 = .ok (.aload_n 0, 1) := by decide +kernel
theorem dX12_init_53 : decode cX12_init 53 = .ok (.ldc 32, 2) := by decide +kernel
theorem dX12_init_55 : decode cX12_init 55 = .ok (.putfield 34, 3) := by decide +kernel
theorem dX12_init_58 : decode cX12_init 58 = .ok (.aload_n 0, 1) := by decide +kernel
theorem dX12_init_59 : decode cX12_init 59 = .ok (.bipush 24, 2) := by decide +kernel
theorem dX12_init_61 : decode cX12_init 61 = .ok (.newarray .int, 2) := by decide +kernel
theorem dX12_init_63 : decode cX12_init 63 = .ok (.putfield 37, 3) := by decide +kernel
theorem dX12_init_66 : decode cX12_init 66 = .ok (.aload_n 0, 1) := by decide +kernel
theorem dX12_init_67 : decode cX12_init 67 = .ok (.bipush 24, 2) := by decide +kernel
theorem dX12_init_69 : decode cX12_init 69 = .ok (.newarray .int, 2) := by decide +kernel
theorem dX12_init_71 : decode cX12_init 71 = .ok (.putfield 40, 3) := by decide +kernel
theorem dX12_init_74 : decode cX12_init 74 = .ok (.aload_n 0, 1) := by decide +kernel
theorem dX12_init_75 : decode cX12_init 75 = .ok (.bipush 30, 2) := by decide +kernel
theorem dX12_init_77 : decode cX12_init 77 = .ok (.newarray .int, 2) := by decide +kernel
theorem dX12_init_79 : decode cX12_init 79 = .ok (.putfield 43, 3) := by decide +kernel
theorem dX12_init_82 : decode cX12_init 82 = .ok (.aload_n 0, 1) := by decide +kernel
theorem dX12_init_83 : decode cX12_init 83 = .ok (.bipush 30, 2) := by decide +kernel
theorem dX12_init_85 : decode cX12_init 85 = .ok (.newarray .int, 2) := by decide +kernel
theorem dX12_init_87 : decode cX12_init 87 = .ok (.putfield 46, 3) := by decide +kernel
theorem dX12_init_90 : decode cX12_init 90 = .ok (.aload_n 0, 1) := by decide +kernel
theorem dX12_init_91 : decode cX12_init 91 = .ok (.bipush 8, 2) := by decide +kernel
theorem dX12_init_93 : decode cX12_init 93 = .ok (.newarray .int, 2) := by decide +kernel
theorem dX12_init_95 : decode cX12_init 95 = .ok (.putfield 49, 3) := by decide +kernel
theorem dX12_init_98 : decode cX12_init 98 = .ok (.aload_n 0, 1) := by decide +kernel
theorem dX12_init_99 : decode cX12_init 99 = .ok (.bipush 8, 2) := by decide +kernel
theorem dX12_init_101 : decode cX12_init 101 = .ok (.newarray .int, 2) := by decide +kernel
theorem dX12_init_103 : decode cX12_init 103 = .ok (.putfield 52, 3) := by decide +kernel
theorem dX12_init_106 : decode cX12_init 106 = .ok (.aload_n 0, 1) := by decide +kernel
theorem dX12_init_107 : decode cX12_init 107 = .ok (.bipush 80, 2) := by decide +kernel
theorem dX12_init_109 : decode cX12_init 109 = .ok (.newarray .int, 2) := by decide +kernel
theorem dX12_init_111 : decode cX12_init 111 = .ok (.putfield 55, 3) := by decide +kernel
theorem dX12_init_114 : decode cX12_init 114 = .ok (.aload_n 0, 1) := by decide +kernel
theorem dX12_init_115 : decode cX12_init 115 = .ok (.iconst 5, 1) := by decide +kernel
theorem dX12_init_116 : decode cX12_init 116 = .ok (.newarray .int, 2) := by decide +kernel
theorem dX12_init_118 : decode cX12_init 118 = .ok (.putfield 58, 3) := by decide +kernel
theorem dX12_init_121 : decode cX12_init 121 = .ok (.aload_n 0, 1) := by decide +kernel
theorem dX12_init_122 : decode cX12_init 122 = .ok (.bipush 66, 2) := by decide +kernel
theorem dX12_init_124 : decode cX12_init 124 = .ok (.newarray .int, 2) := by decide +kernel
theorem dX12_init_126 : decode cX12_init 126 = .ok (.putfield 61, 3) := by decide +kernel
theorem dX12_init_129 : decode cX12_init 129 = .ok (.aload_n 0, 1) := by decide +kernel
theorem dX12_init_130 : decode cX12_init 130 = .ok (.bipush 66, 2) := by decide +kernel
theorem dX12_init_132 : decode cX12_init 132 = .ok (.newarray .int, 2) := by decide +kernel
theorem dX12_init_134 : decode cX12_init 134 = .ok (.putfield 64, 3) := by decide +kernel
theorem dX12_init_137 : decode cX12_init 137 = .ok (.aload_n 0, 1) := by decide +kernel
theorem dX12_init_138 : decode cX12_init 138 = .ok (.iconst (-1), 1) := by decide +kernel
theorem dX12_init_139 : decode cX12_init 139 = .ok (.putfield 67, 3) := by decide +kernel
theorem dX12_init_142 : decode cX12_init 142 = .ok (.aload_n 0, 1) := by decide +kernel
theorem dX12_init_143 : decode cX12_init 143 = .ok (.sipush 2640, 3) := by decide +kernel
theorem dX12_init_146 : decode cX12_init 146 = .ok (.newarray .int, 2) := by decide +kernel
theorem dX12_init_148 : decode cX12_init 148 = .ok (.putfield 71, 3) := by decide +kernel
theorem dX12_init_151 : decode cX12_init 151 = .ok (.aload_n 0, 1) := by decide +kernel
theorem dX12_init_152 : decode cX12_init 152 = .ok (.bipush 60, 2) := by decide +kernel
theorem dX12_init_154 : decode cX12_init 154 = .ok (.newarray .int, 2) := by decide +kernel
theorem dX12_init_156 : decode cX12_init 156 = .ok (.putfield 74, 3) := by decide +kernel
theorem dX12_init_159 : decode cX12_init 159 = .ok (.aload_n 0, 1) := by decide +kernel
theorem dX12_init_160 : decode cX12_init 160 = .ok (.bipush 60, 2) := by decide +kernel
theorem dX12_init_162 : decode cX12_init 162 = .ok (.newarray .int, 2) := by decide +kernel
theorem dX12_init_164 : decode cX12_init 164 = .ok (.putfield 77, 3) := by decide +kernel
theorem dX12_init_167 : decode cX12_init 167 = .ok (.aload_n 0, 1) := by decide +kernel
theorem dX12_init_168 : decode cX12_init 168 = .ok (.sipush 264, 3) := by decide +kernel
theorem dX12_init_171 : decode cX12_init 171 = .ok (.newarray .int, 2) := by decide +kernel
theorem dX12_init_173 : decode cX12_init 173 = .ok (.putfield 80, 3) := by decide +kernel
theorem dX12_init_176 : decode cX12_init 176 = .ok (.aload_n 0, 1) := by decide +kernel
theorem dX12_init_177 : decode cX12_init 177 = .ok (.bipush 20, 2) := by decide +kernel
theorem dX12_init_179 : decode cX12_init 179 = .ok (.newarray .int, 2) := by decide +kernel
theorem dX12_init_181 : decode cX12_init 181 = .ok (.putfield 83, 3) := by decide +kernel
theorem dX12_init_184 : decode cX12_init 184 = .ok (.aload_n 0, 1) := by decide +kernel
theorem dX12_init_185 : decode cX12_init 185 = .ok (.bipush 20, 2) := by decide +kernel
theorem dX12_init_187 : decode cX12_init 187 = .ok (.newarray .boolean, 2) := by decide +kernel
theorem dX12_init_189 : decode cX12_init 189 = .ok (.putfield 86, 3) := by decide +kernel
theorem dX12_init_192 : decode cX12_init 192 = .ok (.aload_n 0, 1) := by decide +kernel
theorem dX12_init_193 : decode cX12_init 193 = .ok (.bipush 66, 2) := by decide +kernel
theorem dX12_init_195 : decode cX12_init 195 = .ok (.newarray .int, 2) := by decide +kernel
theorem dX12_init_197 : decode cX12_init 197 = .ok (.putfield 90, 3) := by decide +kernel
theorem dX12_init_200 : decode cX12_init 200 = .ok (.return_, 1) := by decide +kernel
theorem dX12_thrown_0 : decode cX12_thrown 0 = .ok (.aload_n 0, 1) := by decide +kernel
theorem dX12_thrown_1 : decode cX12_thrown 1 = .ok (.getfield 93, 3) := by decide +kernel
theorem dX12_thrown_4 : decode cX12_thrown 4 = .ok (.ireturn, 1) := by decide +kernel
theorem dX12_isIn_0 : decode cX12_isIn 0 = .ok (.lload_n 0, 1) := by decide +kernel
theorem dX12_isIn_1 : decode cX12_isIn 1 = .ok (.lload_n 2, 1) := by decide +kernel
theorem dX12_isIn_2 : decode cX12_isIn 2 = .ok (.lcmp, 1) := by decide +kernel
theorem dX12_isIn_3 : decode cX12_isIn 3 = .ok (.ifCond .lt 14, 3) := by decide +kernel
theorem dX12_isIn_6 : decode cX12_isIn 6 = .ok (.lload_n 0, 1) := by decide +kernel
theorem dX12_isIn_7 : decode cX12_isIn 7 = .ok (.lload 4, 2) := by decide +kernel
theorem dX12_isIn_9 : decode cX12_isIn 9 = .ok (.lcmp, 1) := by decide +kernel
theorem dX12_isIn_10 : decode cX12_isIn 10 = .ok (.ifCond .gt 7, 3) := by decide +kernel
theorem dX12_isIn_13 : decode cX12_isIn 13 = .ok (.iconst 1, 1) := by decide +kernel
theorem dX12_isIn_14 : decode cX12_isIn 14 = .ok (.goto 4, 3) := by decide +kernel
theorem dX12_isIn_17 : decode cX12_isIn 17 = .ok (.iconst 0, 1) := by decide +kernel
theorem dX12_isIn_18 : decode cX12_isIn 18 = .ok (.ireturn, 1) := by decide +kernel
theorem dX12_has_0 : decode cX12_has 0 = .ok (.iload_n 0, 1) := by decide +kernel
theorem dX12_has_1 : decode cX12_has 1 = .ok (.iload_n 1, 1) := by decide +kernel
theorem dX12_has_2 : decode cX12_has 2 = .ok (.ishr, 1) := by decide +kernel
theorem dX12_has_3 : decode cX12_has 3 = .ok (.iconst 1, 1) := by decide +kernel
theorem dX12_has_4 : decode cX12_has 4 = .ok (.iand, 1) := by decide +kernel
theorem dX12_has_5 : decode cX12_has 5 = .ok (.iconst 1, 1) := by decide +kernel
theorem dX12_has_6 : decode cX12_has 6 = .ok (.if_icmp .ne 7, 3) := by decide +kernel
theorem dX12_has_9 : decode cX12_has 9 = .ok (.iconst 1, 1) := by decide +kernel
theorem dX12_has_10 : decode cX12_has 10 = .ok (.goto 4, 3) := by decide +kernel
theorem dX12_has_13 : decode cX12_has 13 = .ok (.iconst 0, 1) := by decide +kernel
theorem dX12_has_14 : decode cX12_has 14 = .ok (.ireturn, 1) := by decide +kernel
theorem dX12_isAmong_0 : decode cX12_isAmong 0 = .ok (.iconst 0, 1) := by decide +kernel
theorem dX12_isAmong_1 : decode cX12_isAmong 1 = .ok (.istore_n 2, 1) := by decide +kernel
theorem dX12_isAmong_2 : decode cX12_isAmong 2 = .ok (.iload_n 2, 1) := by decide +kernel
theorem dX12_isAmong_3 : decode cX12_isAmong 3 = .ok (.aload_n 0, 1) := by decide +kernel
theorem dX12_isAmong_4 : decode cX12_isAmong 4 = .ok (.invokevirtual 96, 3) := by decide +kernel
theorem dX12_isAmong_7 : decode cX12_isAmong 7 = .ok (.if_icmp .ge 20, 3) := by decide +kernel
theorem dX12_isAmong_10 : decode cX12_isAmong 10 = .ok (.aload_n 0, 1) := by decide +kernel
theorem dX12_isAmong_11 : decode cX12_isAmong 11 = .ok (.iload_n 2, 1) := by decide +kernel
theorem dX12_isAmong_12 : decode cX12_isAmong 12 = .ok (.invokevirtual 102, 3) := by decide +kernel
theorem dX12_isAmong_15 : decode cX12_isAmong 15 = .ok (.iload_n 1, 1) := by decide +kernel
theorem dX12_isAmong_16 : decode cX12_isAmong 16 = .ok (.if_icmp .ne 5, 3) := by decide +kernel
theorem dX12_isAmong_19 : decode cX12_isAmong 19 = .ok (.iconst 1, 1) := by decide +kernel
theorem dX12_isAmong_20 : decode cX12_isAmong 20 = .ok (.ireturn, 1) := by decide +kernel
theorem dX12_isAmong_21 : decode cX12_isAmong 21 = .ok (.iinc 2 1, 3) := by decide +kernel
theorem dX12_isAmong_24 : decode cX12_isAmong 24 = .ok (.goto (-22), 3) := by decide +kernel
theorem dX12_isAmong_27 : decode cX12_isAmong 27 = .ok (.iconst 0, 1) := by decide +kernel
theorem dX12_isAmong_28 : decode cX12_isAmong 28 = .ok (.ireturn, 1) := by decide +kernel
theorem dX12_bytesIn_0 : decode cX12_bytesIn 0 = .ok (.iconst 0, 1) := by decide +kernel
theorem dX12_bytesIn_1 : decode cX12_bytesIn 1 = .ok (.istore_n 1, 1) := by decide +kernel
theorem dX12_bytesIn_2 : decode cX12_bytesIn 2 = .ok (.bipush 24, 2) := by decide +kernel
theorem dX12_bytesIn_4 : decode cX12_bytesIn 4 = .ok (.istore_n 2, 1) := by decide +kernel
theorem dX12_bytesIn_5 : decode cX12_bytesIn 5 = .ok (.iload_n 2, 1) := by decide +kernel
theorem dX12_bytesIn_6 : decode cX12_bytesIn 6 = .ok (.ifCond .lt 27, 3) := by decide +kernel
theorem dX12_bytesIn_9 : decode cX12_bytesIn 9 = .ok (.iload_n 1, 1) := by decide +kernel
theorem dX12_bytesIn_10 : decode cX12_bytesIn 10 = .ok (.iload_n 0, 1) := by decide +kernel
theorem dX12_bytesIn_11 : decode cX12_bytesIn 11 = .ok (.iload_n 2, 1) := by decide +kernel
theorem dX12_bytesIn_12 : decode cX12_bytesIn 12 = .ok (.ishr, 1) := by decide +kernel
theorem dX12_bytesIn_13 : decode cX12_bytesIn 13 = .ok (.sipush 255, 3) := by decide +kernel
theorem dX12_bytesIn_16 : decode cX12_bytesIn 16 = .ok (.iand, 1) := by decide +kernel
theorem dX12_bytesIn_17 : decode cX12_bytesIn 17 = .ok (.ifCond .eq 7, 3) := by decide +kernel
theorem dX12_bytesIn_20 : decode cX12_bytesIn 20 = .ok (.iconst 1, 1) := by decide +kernel
theorem dX12_bytesIn_21 : decode cX12_bytesIn 21 = .ok (.goto 4, 3) := by decide +kernel
theorem dX12_bytesIn_24 : decode cX12_bytesIn 24 = .ok (.iconst 0, 1) := by decide +kernel
theorem dX12_bytesIn_25 : decode cX12_bytesIn 25 = .ok (.iadd, 1) := by decide +kernel
theorem dX12_bytesIn_26 : decode cX12_bytesIn 26 = .ok (.istore_n 1, 1) := by decide +kernel
theorem dX12_bytesIn_27 : decode cX12_bytesIn 27 = .ok (.iinc 2 (-8), 3) := by decide +kernel
theorem dX12_bytesIn_30 : decode cX12_bytesIn 30 = .ok (.goto (-25), 3) := by decide +kernel
theorem dX12_bytesIn_33 : decode cX12_bytesIn 33 = .ok (.iload_n 1, 1) := by decide +kernel
theorem dX12_bytesIn_34 : decode cX12_bytesIn 34 = .ok (.ireturn, 1) := by decide +kernel
theorem dX12_put_0 : decode cX12_put 0 = .ok (.bipush 24, 2) := by decide +kernel
theorem dX12_put_2 : decode cX12_put 2 = .ok (.istore_n 2, 1) := by decide +kernel
theorem dX12_put_3 : decode cX12_put 3 = .ok (.iload_n 2, 1) := by decide +kernel
theorem dX12_put_4 : decode cX12_put 4 = .ok (.ifCond .lt 45, 3) := by decide +kernel
theorem dX12_put_7 : decode cX12_put 7 = .ok (.iload_n 1, 1) := by decide +kernel
theorem dX12_put_8 : decode cX12_put 8 = .ok (.iload_n 2, 1) := by decide +kernel
theorem dX12_put_9 : decode cX12_put 9 = .ok (.ishr, 1) := by decide +kernel
theorem dX12_put_10 : decode cX12_put 10 = .ok (.sipush 255, 3) := by decide +kernel
theorem dX12_put_13 : decode cX12_put 13 = .ok (.iand, 1) := by decide +kernel
theorem dX12_put_14 : decode cX12_put 14 = .ok (.ifCond .ne 6, 3) := by decide +kernel
theorem dX12_put_17 : decode cX12_put 17 = .ok (.goto 26, 3) := by decide +kernel
theorem dX12_put_20 : decode cX12_put 20 = .ok (.aload_n 0, 1) := by decide +kernel
theorem dX12_put_21 : decode cX12_put 21 = .ok (.getfield 9, 3) := by decide +kernel
theorem dX12_put_24 : decode cX12_put 24 = .ok (.aload_n 0, 1) := by decide +kernel
theorem dX12_put_25 : decode cX12_put 25 = .ok (.getfield 106, 3) := by decide +kernel
theorem dX12_put_28 : decode cX12_put 28 = .ok (.iload_n 1, 1) := by decide +kernel
theorem dX12_put_29 : decode cX12_put 29 = .ok (.iload_n 2, 1) := by decide +kernel
theorem dX12_put_30 : decode cX12_put 30 = .ok (.ishr, 1) := by decide +kernel
theorem dX12_put_31 : decode cX12_put 31 = .ok (.i2b, 1) := by decide +kernel
theorem dX12_put_32 : decode cX12_put 32 = .ok (.bastore, 1) := by decide +kernel
theorem dX12_put_33 : decode cX12_put 33 = .ok (.aload_n 0, 1) := by decide +kernel
theorem dX12_put_34 : decode cX12_put 34 = .ok (.dup, 1) := by decide +kernel
theorem dX12_put_35 : decode cX12_put 35 = .ok (.getfield 106, 3) := by decide +kernel
theorem dX12_put_38 : decode cX12_put 38 = .ok (.iconst 1, 1) := by decide +kernel
theorem dX12_put_39 : decode cX12_put 39 = .ok (.iadd, 1) := by decide +kernel
theorem dX12_put_40 : decode cX12_put 40 = .ok (.putfield 106, 3) := by decide +kernel
theorem dX12_put_43 : decode cX12_put 43 = .ok (.iinc 2 (-8), 3) := by decide +kernel
theorem dX12_put_46 : decode cX12_put 46 = .ok (.goto (-43), 3) := by decide +kernel
theorem dX12_put_49 : decode cX12_put 49 = .ok (.return_, 1) := by decide +kernel
theorem dX12_feed_0 : decode cX12_feed 0 = .ok (.aload_n 0, 1) := by decide +kernel
theorem dX12_feed_1 : decode cX12_feed 1 = .ok (.iconst 0, 1) := by decide +kernel
theorem dX12_feed_2 : decode cX12_feed 2 = .ok (.putfield 93, 3) := by decide +kernel
theorem dX12_feed_5 : decode cX12_feed 5 = .ok (.aload_n 0, 1) := by decide +kernel
theorem dX12_feed_6 : decode cX12_feed 6 = .ok (.getfield 106, 3) := by decide +kernel
theorem dX12_feed_9 : decode cX12_feed 9 = .ok (.iload_n 1, 1) := by decide +kernel
theorem dX12_feed_10 : decode cX12_feed 10 = .ok (.invokestatic 108, 3) := by decide +kernel
theorem dX12_feed_13 : decode cX12_feed 13 = .ok (.iadd, 1) := by decide +kernel
theorem dX12_feed_14 : decode cX12_feed 14 = .ok (.iload_n 2, 1) := by decide +kernel
theorem dX12_feed_15 : decode cX12_feed 15 = .ok (.invokestatic 108, 3) := by decide +kernel
theorem dX12_feed_18 : decode cX12_feed 18 = .ok (.iadd, 1) := by decide +kernel
theorem dX12_feed_19 : decode cX12_feed 19 = .ok (.iload_n 3, 1) := by decide +kernel
theorem dX12_feed_20 : decode cX12_feed 20 = .ok (.invokestatic 108, 3) := by decide +kernel
theorem dX12_feed_23 : decode cX12_feed 23 = .ok (.iadd, 1) := by decide +kernel
theorem dX12_feed_24 : decode cX12_feed 24 = .ok (.iload 4, 2) := by decide +kernel
theorem dX12_feed_26 : decode cX12_feed 26 = .ok (.invokestatic 108, 3) := by decide +kernel
theorem dX12_feed_29 : decode cX12_feed 29 = .ok (.iadd, 1) := by decide +kernel
theorem dX12_feed_30 : decode cX12_feed 30 = .ok (.iload 5, 2) := by decide +kernel
theorem dX12_feed_32 : decode cX12_feed 32 = .ok (.invokestatic 108, 3) := by decide +kernel
theorem dX12_feed_35 : decode cX12_feed 35 = .ok (.iadd, 1) := by decide +kernel
theorem dX12_feed_36 : decode cX12_feed 36 = .ok (.sipush 200, 3) := by decide +kernel
theorem dX12_feed_39 : decode cX12_feed 39 = .ok (.if_icmp .le 5, 3) := by decide +kernel
theorem dX12_feed_42 : decode cX12_feed 42 = .ok (.iconst (-1), 1) := by decide +kernel
theorem dX12_feed_43 : decode cX12_feed 43 = .ok (.ireturn, 1) := by decide +kernel
theorem dX12_feed_44 : decode cX12_feed 44 = .ok (.aload_n 0, 1) := by decide +kernel
theorem dX12_feed_45 : decode cX12_feed 45 = .ok (.iload_n 1, 1) := by decide +kernel
theorem dX12_feed_46 : decode cX12_feed 46 = .ok (.invokevirtual 112, 3) := by decide +kernel
theorem dX12_feed_49 : decode cX12_feed 49 = .ok (.aload_n 0, 1) := by decide +kernel
theorem dX12_feed_50 : decode cX12_feed 50 = .ok (.iload_n 2, 1) := by decide +kernel
theorem dX12_feed_51 : decode cX12_feed 51 = .ok (.invokevirtual 112, 3) := by decide +kernel
theorem dX12_feed_54 : decode cX12_feed 54 = .ok (.aload_n 0, 1) := by decide +kernel
theorem dX12_feed_55 : decode cX12_feed 55 = .ok (.iload_n 3, 1) := by decide +kernel
theorem dX12_feed_56 : decode cX12_feed 56 = .ok (.invokevirtual 112, 3) := by decide +kernel
theorem dX12_feed_59 : decode cX12_feed 59 = .ok (.aload_n 0, 1) := by decide +kernel
theorem dX12_feed_60 : decode cX12_feed 60 = .ok (.iload 4, 2) := by decide +kernel
theorem dX12_feed_62 : decode cX12_feed 62 = .ok (.invokevirtual 112, 3) := by decide +kernel
theorem dX12_feed_65 : decode cX12_feed 65 = .ok (.aload_n 0, 1) := by decide +kernel
theorem dX12_feed_66 : decode cX12_feed 66 = .ok (.iload 5, 2) := by decide +kernel
theorem dX12_feed_68 : decode cX12_feed 68 = .ok (.invokevirtual 112, 3) := by decide +kernel
theorem dX12_feed_71 : decode cX12_feed 71 = .ok (.aload_n 0, 1) := by decide +kernel
theorem dX12_feed_72 : decode cX12_feed 72 = .ok (.getfield 106, 3) := by decide +kernel
theorem dX12_feed_75 : decode cX12_feed 75 = .ok (.ireturn, 1) := by decide +kernel
theorem dX12_end_0 : decode cX12_end 0 = .ok (.aload_n 0, 1) := by decide +kernel
theorem dX12_end_1 : decode cX12_end 1 = .ok (.iconst 0, 1) := by decide +kernel
theorem dX12_end_2 : decode cX12_end 2 = .ok (.putfield 93, 3) := by decide +kernel
theorem dX12_end_5 : decode cX12_end 5 = .ok (.iload_n 1, 1) := by decide +kernel
theorem dX12_end_6 : decode cX12_end 6 = .ok (.ifCond .lt 11, 3) := by decide +kernel
theorem dX12_end_9 : decode cX12_end 9 = .ok (.iload_n 1, 1) := by decide +kernel
theorem dX12_end_10 : decode cX12_end 10 = .ok (.aload_n 0, 1) := by decide +kernel
theorem dX12_end_11 : decode cX12_end 11 = .ok (.getfield 106, 3) := by decide +kernel
theorem dX12_end_14 : decode cX12_end 14 = .ok (.if_icmp .le 5, 3) := by decide +kernel
theorem dX12_end_17 : decode cX12_end 17 = .ok (.iconst 0, 1) := by decide +kernel
theorem dX12_end_18 : decode cX12_end 18 = .ok (.ireturn, 1) := by decide +kernel
theorem dX12_end_19 : decode cX12_end 19 = .ok (.aload_n 0, 1) := by decide +kernel
theorem dX12_end_20 : decode cX12_end 20 = .ok (.iload_n 1, 1) := by decide +kernel
theorem dX12_end_21 : decode cX12_end 21 = .ok (.putfield 106, 3) := by decide +kernel
theorem dX12_end_24 : decode cX12_end 24 = .ok (.iconst 1, 1) := by decide +kernel
theorem dX12_end_25 : decode cX12_end 25 = .ok (.ireturn, 1) := by decide +kernel
theorem dX12_look_0 : decode cX12_look 0 = .ok (.aload_n 0, 1) := by decide +kernel
theorem dX12_look_1 : decode cX12_look 1 = .ok (.getfield 116, 3) := by decide +kernel
theorem dX12_look_4 : decode cX12_look 4 = .ok (.aload_n 0, 1) := by decide +kernel
theorem dX12_look_5 : decode cX12_look 5 = .ok (.getfield 119, 3) := by decide +kernel
theorem dX12_look_8 : decode cX12_look 8 = .ok (.if_icmp .ge 35, 3) := by decide +kernel
theorem dX12_look_11 : decode cX12_look 11 = .ok (.aload_n 0, 1) := by decide +kernel
theorem dX12_look_12 : decode cX12_look 12 = .ok (.getfield 23, 3) := by decide +kernel
theorem dX12_look_15 : decode cX12_look 15 = .ok (.aload_n 0, 1) := by decide +kernel
theorem dX12_look_16 : decode cX12_look 16 = .ok (.getfield 122, 3) := by decide +kernel
theorem dX12_look_19 : decode cX12_look 19 = .ok (.aload_n 0, 1) := by decide +kernel
theorem dX12_look_20 : decode cX12_look 20 = .ok (.getfield 116, 3) := by decide +kernel
theorem dX12_look_23 : decode cX12_look 23 = .ok (.iadd, 1) := by decide +kernel
theorem dX12_look_24 : decode cX12_look 24 = .ok (.baload, 1) := by decide +kernel
theorem dX12_look_25 : decode cX12_look 25 = .ok (.bipush 32, 2) := by decide +kernel
theorem dX12_look_27 : decode cX12_look 27 = .ok (.if_icmp .ne 16, 3) := by decide +kernel
theorem dX12_look_30 : decode cX12_look 30 = .ok (.aload_n 0, 1) := by decide +kernel
theorem dX12_look_31 : decode cX12_look 31 = .ok (.dup, 1) := by decide +kernel
theorem dX12_look_32 : decode cX12_look 32 = .ok (.getfield 116, 3) := by decide +kernel
theorem dX12_look_35 : decode cX12_look 35 = .ok (.iconst 1, 1) := by decide +kernel
theorem dX12_look_36 : decode cX12_look 36 = .ok (.iadd, 1) := by decide +kernel
theorem dX12_look_37 : decode cX12_look 37 = .ok (.putfield 116, 3) := by decide +kernel
theorem dX12_look_40 : decode cX12_look 40 = .ok (.goto (-40), 3) := by decide +kernel
theorem dX12_look_43 : decode cX12_look 43 = .ok (.aload_n 0, 1) := by decide +kernel
theorem dX12_look_44 : decode cX12_look 44 = .ok (.getfield 116, 3) := by decide +kernel
theorem dX12_look_47 : decode cX12_look 47 = .ok (.aload_n 0, 1) := by decide +kernel
theorem dX12_look_48 : decode cX12_look 48 = .ok (.getfield 119, 3) := by decide +kernel
theorem dX12_look_51 : decode cX12_look 51 = .ok (.if_icmp .ge 24, 3) := by decide +kernel
theorem dX12_look_54 : decode cX12_look 54 = .ok (.aload_n 0, 1) := by decide +kernel
theorem dX12_look_55 : decode cX12_look 55 = .ok (.getfield 23, 3) := by decide +kernel
theorem dX12_look_58 : decode cX12_look 58 = .ok (.aload_n 0, 1) := by decide +kernel
theorem dX12_look_59 : decode cX12_look 59 = .ok (.getfield 122, 3) := by decide +kernel
theorem dX12_look_62 : decode cX12_look 62 = .ok (.aload_n 0, 1) := by decide +kernel
theorem dX12_look_63 : decode cX12_look 63 = .ok (.getfield 116, 3) := by decide +kernel
theorem dX12_look_66 : decode cX12_look 66 = .ok (.iadd, 1) := by decide +kernel
theorem dX12_look_67 : decode cX12_look 67 = .ok (.baload, 1) := by decide +kernel
theorem dX12_look_68 : decode cX12_look 68 = .ok (.sipush 255, 3) := by decide +kernel
theorem dX12_look_71 : decode cX12_look 71 = .ok (.iand, 1) := by decide +kernel
theorem dX12_look_72 : decode cX12_look 72 = .ok (.goto 4, 3) := by decide +kernel
theorem dX12_look_75 : decode cX12_look 75 = .ok (.iconst (-1), 1) := by decide +kernel
theorem dX12_look_76 : decode cX12_look 76 = .ok (.ireturn, 1) := by decide +kernel
theorem dX12_fails_0 : decode cX12_fails 0 = .ok (.aload_n 0, 1) := by decide +kernel
theorem dX12_fails_1 : decode cX12_fails 1 = .ok (.getfield 125, 3) := by decide +kernel
theorem dX12_fails_4 : decode cX12_fails 4 = .ok (.iconst (-1), 1) := by decide +kernel
theorem dX12_fails_5 : decode cX12_fails 5 = .ok (.if_icmp .ne 11, 3) := by decide +kernel
theorem dX12_fails_8 : decode cX12_fails 8 = .ok (.aload_n 0, 1) := by decide +kernel
theorem dX12_fails_9 : decode cX12_fails 9 = .ok (.aload_n 0, 1) := by decide +kernel
theorem dX12_fails_10 : decode cX12_fails 10 = .ok (.getfield 116, 3) := by decide +kernel
theorem dX12_fails_13 : decode cX12_fails 13 = .ok (.putfield 125, 3) := by decide +kernel
theorem dX12_fails_16 : decode cX12_fails 16 = .ok (.iconst 0, 1) := by decide +kernel
theorem dX12_fails_17 : decode cX12_fails 17 = .ok (.ireturn, 1) := by decide +kernel
theorem dX12_goesIn_0 : decode cX12_goesIn 0 = .ok (.aload_n 0, 1) := by decide +kernel
theorem dX12_goesIn_1 : decode cX12_goesIn 1 = .ok (.getfield 128, 3) := by decide +kernel
theorem dX12_goesIn_4 : decode cX12_goesIn 4 = .ok (.bipush 6, 2) := by decide +kernel
theorem dX12_goesIn_6 : decode cX12_goesIn 6 = .ok (.if_icmp .ne 8, 3) := by decide +kernel
theorem dX12_goesIn_9 : decode cX12_goesIn 9 = .ok (.aload_n 0, 1) := by decide +kernel
theorem dX12_goesIn_10 : decode cX12_goesIn 10 = .ok (.invokevirtual 131, 3) := by decide +kernel
theorem dX12_goesIn_13 : decode cX12_goesIn 13 = .ok (.ireturn, 1) := by decide +kernel
theorem dX12_goesIn_14 : decode cX12_goesIn 14 = .ok (.aload_n 0, 1) := by decide +kernel
theorem dX12_goesIn_15 : decode cX12_goesIn 15 = .ok (.dup, 1) := by decide +kernel
theorem dX12_goesIn_16 : decode cX12_goesIn 16 = .ok (.getfield 128, 3) := by decide +kernel
theorem dX12_goesIn_19 : decode cX12_goesIn 19 = .ok (.iconst 1, 1) := by decide +kernel
theorem dX12_goesIn_20 : decode cX12_goesIn 20 = .ok (.iadd, 1) := by decide +kernel
theorem dX12_goesIn_21 : decode cX12_goesIn 21 = .ok (.putfield 128, 3) := by decide +kernel
theorem dX12_goesIn_24 : decode cX12_goesIn 24 = .ok (.aload_n 0, 1) := by decide +kernel
theorem dX12_goesIn_25 : decode cX12_goesIn 25 = .ok (.dup, 1) := by decide +kernel
theorem dX12_goesIn_26 : decode cX12_goesIn 26 = .ok (.getfield 116, 3) := by decide +kernel
theorem dX12_goesIn_29 : decode cX12_goesIn 29 = .ok (.iconst 1, 1) := by decide +kernel
theorem dX12_goesIn_30 : decode cX12_goesIn 30 = .ok (.iadd, 1) := by decide +kernel
theorem dX12_goesIn_31 : decode cX12_goesIn 31 = .ok (.putfield 116, 3) := by decide +kernel
theorem dX12_goesIn_34 : decode cX12_goesIn 34 = .ok (.iconst 1, 1) := by decide +kernel
theorem dX12_goesIn_35 : decode cX12_goesIn 35 = .ok (.ireturn, 1) := by decide +kernel
theorem dX12_takes_0 : decode cX12_takes 0 = .ok (.aload_n 0, 1) := by decide +kernel
theorem dX12_takes_1 : decode cX12_takes 1 = .ok (.getfield 125, 3) := by decide +kernel
theorem dX12_takes_4 : decode cX12_takes 4 = .ok (.iconst (-1), 1) := by decide +kernel
theorem dX12_takes_5 : decode cX12_takes 5 = .ok (.if_icmp .ne 11, 3) := by decide +kernel
theorem dX12_takes_8 : decode cX12_takes 8 = .ok (.aload_n 0, 1) := by decide +kernel
theorem dX12_takes_9 : decode cX12_takes 9 = .ok (.invokevirtual 135, 3) := by decide +kernel
theorem dX12_takes_12 : decode cX12_takes 12 = .ok (.iload_n 1, 1) := by decide +kernel
theorem dX12_takes_13 : decode cX12_takes 13 = .ok (.if_icmp .eq 8, 3) := by decide +kernel
theorem dX12_takes_16 : decode cX12_takes 16 = .ok (.aload_n 0, 1) := by decide +kernel
theorem dX12_takes_17 : decode cX12_takes 17 = .ok (.invokevirtual 131, 3) := by decide +kernel
theorem dX12_takes_20 : decode cX12_takes 20 = .ok (.ireturn, 1) := by decide +kernel
theorem dX12_takes_21 : decode cX12_takes 21 = .ok (.aload_n 0, 1) := by decide +kernel
theorem dX12_takes_22 : decode cX12_takes 22 = .ok (.dup, 1) := by decide +kernel
theorem dX12_takes_23 : decode cX12_takes 23 = .ok (.getfield 116, 3) := by decide +kernel
theorem dX12_takes_26 : decode cX12_takes 26 = .ok (.iconst 1, 1) := by decide +kernel
theorem dX12_takes_27 : decode cX12_takes 27 = .ok (.iadd, 1) := by decide +kernel
theorem dX12_takes_28 : decode cX12_takes 28 = .ok (.putfield 116, 3) := by decide +kernel
theorem dX12_takes_31 : decode cX12_takes 31 = .ok (.iconst 1, 1) := by decide +kernel
theorem dX12_takes_32 : decode cX12_takes 32 = .ok (.ireturn, 1) := by decide +kernel
theorem dX12_isDigit_0 : decode cX12_isDigit 0 = .ok (.aload_n 0, 1) := by decide +kernel
theorem dX12_isDigit_1 : decode cX12_isDigit 1 = .ok (.getfield 116, 3) := by decide +kernel
theorem dX12_isDigit_4 : decode cX12_isDigit 4 = .ok (.aload_n 0, 1) := by decide +kernel
theorem dX12_isDigit_5 : decode cX12_isDigit 5 = .ok (.getfield 119, 3) := by decide +kernel
theorem dX12_isDigit_8 : decode cX12_isDigit 8 = .ok (.if_icmp .ge 45, 3) := by decide +kernel
theorem dX12_isDigit_11 : decode cX12_isDigit 11 = .ok (.aload_n 0, 1) := by decide +kernel
theorem dX12_isDigit_12 : decode cX12_isDigit 12 = .ok (.getfield 23, 3) := by decide +kernel
theorem dX12_isDigit_15 : decode cX12_isDigit 15 = .ok (.aload_n 0, 1) := by decide +kernel
theorem dX12_isDigit_16 : decode cX12_isDigit 16 = .ok (.getfield 122, 3) := by decide +kernel
theorem dX12_isDigit_19 : decode cX12_isDigit 19 = .ok (.aload_n 0, 1) := by decide +kernel
theorem dX12_isDigit_20 : decode cX12_isDigit 20 = .ok (.getfield 116, 3) := by decide +kernel
theorem dX12_isDigit_23 : decode cX12_isDigit 23 = .ok (.iadd, 1) := by decide +kernel
theorem dX12_isDigit_24 : decode cX12_isDigit 24 = .ok (.baload, 1) := by decide +kernel
theorem dX12_isDigit_25 : decode cX12_isDigit 25 = .ok (.bipush 48, 2) := by decide +kernel
theorem dX12_isDigit_27 : decode cX12_isDigit 27 = .ok (.if_icmp .lt 26, 3) := by decide +kernel
theorem dX12_isDigit_30 : decode cX12_isDigit 30 = .ok (.aload_n 0, 1) := by decide +kernel
theorem dX12_isDigit_31 : decode cX12_isDigit 31 = .ok (.getfield 23, 3) := by decide +kernel
theorem dX12_isDigit_34 : decode cX12_isDigit 34 = .ok (.aload_n 0, 1) := by decide +kernel
theorem dX12_isDigit_35 : decode cX12_isDigit 35 = .ok (.getfield 122, 3) := by decide +kernel
theorem dX12_isDigit_38 : decode cX12_isDigit 38 = .ok (.aload_n 0, 1) := by decide +kernel
theorem dX12_isDigit_39 : decode cX12_isDigit 39 = .ok (.getfield 116, 3) := by decide +kernel
theorem dX12_isDigit_42 : decode cX12_isDigit 42 = .ok (.iadd, 1) := by decide +kernel
theorem dX12_isDigit_43 : decode cX12_isDigit 43 = .ok (.baload, 1) := by decide +kernel
theorem dX12_isDigit_44 : decode cX12_isDigit 44 = .ok (.bipush 57, 2) := by decide +kernel
theorem dX12_isDigit_46 : decode cX12_isDigit 46 = .ok (.if_icmp .gt 7, 3) := by decide +kernel
theorem dX12_isDigit_49 : decode cX12_isDigit 49 = .ok (.iconst 1, 1) := by decide +kernel
theorem dX12_isDigit_50 : decode cX12_isDigit 50 = .ok (.goto 4, 3) := by decide +kernel
theorem dX12_isDigit_53 : decode cX12_isDigit 53 = .ok (.iconst 0, 1) := by decide +kernel
theorem dX12_isDigit_54 : decode cX12_isDigit 54 = .ok (.ireturn, 1) := by decide +kernel
theorem dX12_within_0 : decode cX12_within 0 = .ok (.ldc2_w 138, 3) := by decide +kernel
theorem dX12_within_3 : decode cX12_within 3 = .ok (.ldc2_w 140, 3) := by decide +kernel
theorem dX12_within_6 : decode cX12_within 6 = .ok (.lload_n 0, 1) := by decide +kernel
theorem dX12_within_7 : decode cX12_within 7 = .ok (.invokestatic 142, 3) := by decide +kernel
theorem dX12_within_10 : decode cX12_within 10 = .ok (.invokestatic 148, 3) := by decide +kernel
theorem dX12_within_13 : decode cX12_within 13 = .ok (.l2i, 1) := by decide +kernel
theorem dX12_within_14 : decode cX12_within 14 = .ok (.ireturn, 1) := by decide +kernel
theorem dX12_atom_0 : decode cX12_atom 0 = .ok (.aload_n 0, 1) := by decide +kernel
theorem dX12_atom_1 : decode cX12_atom 1 = .ok (.invokevirtual 135, 3) := by decide +kernel
theorem dX12_atom_4 : decode cX12_atom 4 = .ok (.istore_n 1, 1) := by decide +kernel
theorem dX12_atom_5 : decode cX12_atom 5 = .ok (.ldc 32, 2) := by decide +kernel
theorem dX12_atom_7 : decode cX12_atom 7 = .ok (.iload_n 1, 1) := by decide +kernel
theorem dX12_atom_8 : decode cX12_atom 8 = .ok (.invokestatic 151, 3) := by decide +kernel
theorem dX12_atom_11 : decode cX12_atom 11 = .ok (.ifCond .eq 20, 3) := by decide +kernel
theorem dX12_atom_14 : decode cX12_atom 14 = .ok (.aload_n 0, 1) := by decide +kernel
theorem dX12_atom_15 : decode cX12_atom 15 = .ok (.dup, 1) := by decide +kernel
theorem dX12_atom_16 : decode cX12_atom 16 = .ok (.getfield 116, 3) := by decide +kernel
theorem dX12_atom_19 : decode cX12_atom 19 = .ok (.iconst 1, 1) := by decide +kernel
theorem dX12_atom_20 : decode cX12_atom 20 = .ok (.iadd, 1) := by decide +kernel
theorem dX12_atom_21 : decode cX12_atom 21 = .ok (.putfield 116, 3) := by decide +kernel
theorem dX12_atom_24 : decode cX12_atom 24 = .ok (.aload_n 0, 1) := by decide +kernel
theorem dX12_atom_25 : decode cX12_atom 25 = .ok (.getfield 20, 3) := by decide +kernel
theorem dX12_atom_28 : decode cX12_atom 28 = .ok (.iload_n 1, 1) := by decide +kernel
theorem dX12_atom_29 : decode cX12_atom 29 = .ok (.iaload, 1) := by decide +kernel
theorem dX12_atom_30 : decode cX12_atom 30 = .ok (.ireturn, 1) := by decide +kernel
theorem dX12_atom_31 : decode cX12_atom 31 = .ok (.iload_n 1, 1) := by decide +kernel
theorem dX12_atom_32 : decode cX12_atom 32 = .ok (.bipush 91, 2) := by decide +kernel
theorem dX12_atom_34 : decode cX12_atom 34 = .ok (.if_icmp .ne 40, 3) := by decide +kernel
theorem dX12_atom_37 : decode cX12_atom 37 = .ok (.aload_n 0, 1) := by decide +kernel
theorem dX12_atom_38 : decode cX12_atom 38 = .ok (.invokevirtual 155, 3) := by decide +kernel
theorem dX12_atom_41 : decode cX12_atom 41 = .ok (.ifCond .ne 5, 3) := by decide +kernel
theorem dX12_atom_44 : decode cX12_atom 44 = .ok (.iconst 0, 1) := by decide +kernel
theorem dX12_atom_45 : decode cX12_atom 45 = .ok (.ireturn, 1) := by decide +kernel
theorem dX12_atom_46 : decode cX12_atom 46 = .ok (.aload_n 0, 1) := by decide +kernel
theorem dX12_atom_47 : decode cX12_atom 47 = .ok (.invokevirtual 158, 3) := by decide +kernel
theorem dX12_atom_50 : decode cX12_atom 50 = .ok (.istore_n 2, 1) := by decide +kernel
theorem dX12_atom_51 : decode cX12_atom 51 = .ok (.aload_n 0, 1) := by decide +kernel
theorem dX12_atom_52 : decode cX12_atom 52 = .ok (.bipush 93, 2) := by decide +kernel
theorem dX12_atom_54 : decode cX12_atom 54 = .ok (.invokevirtual 161, 3) := by decide +kernel
theorem dX12_atom_57 : decode cX12_atom 57 = .ok (.ifCond .ne 5, 3) := by decide +kernel
theorem dX12_atom_60 : decode cX12_atom 60 = .ok (.iconst 0, 1) := by decide +kernel
theorem dX12_atom_61 : decode cX12_atom 61 = .ok (.ireturn, 1) := by decide +kernel
theorem dX12_atom_62 : decode cX12_atom 62 = .ok (.aload_n 0, 1) := by decide +kernel
theorem dX12_atom_63 : decode cX12_atom 63 = .ok (.dup, 1) := by decide +kernel
theorem dX12_atom_64 : decode cX12_atom 64 = .ok (.getfield 128, 3) := by decide +kernel
theorem dX12_atom_67 : decode cX12_atom 67 = .ok (.iconst 1, 1) := by decide +kernel
theorem dX12_atom_68 : decode cX12_atom 68 = .ok (.isub, 1) := by decide +kernel
theorem dX12_atom_69 : decode cX12_atom 69 = .ok (.putfield 128, 3) := by decide +kernel
theorem dX12_atom_72 : decode cX12_atom 72 = .ok (.iload_n 2, 1) := by decide +kernel
theorem dX12_atom_73 : decode cX12_atom 73 = .ok (.ireturn, 1) := by decide +kernel
theorem dX12_atom_74 : decode cX12_atom 74 = .ok (.aload_n 0, 1) := by decide +kernel
theorem dX12_atom_75 : decode cX12_atom 75 = .ok (.invokevirtual 165, 3) := by decide +kernel
theorem dX12_atom_78 : decode cX12_atom 78 = .ok (.ifCond .ne 8, 3) := by decide +kernel
theorem dX12_atom_81 : decode cX12_atom 81 = .ok (.aload_n 0, 1) := by decide +kernel
theorem dX12_atom_82 : decode cX12_atom 82 = .ok (.invokevirtual 131, 3) := by decide +kernel
theorem dX12_atom_85 : decode cX12_atom 85 = .ok (.pop, 1) := by decide +kernel
theorem dX12_atom_86 : decode cX12_atom 86 = .ok (.iconst 0, 1) := by decide +kernel
theorem dX12_atom_87 : decode cX12_atom 87 = .ok (.istore_n 2, 1) := by decide +kernel
theorem dX12_atom_88 : decode cX12_atom 88 = .ok (.iconst 0, 1) := by decide +kernel
theorem dX12_atom_89 : decode cX12_atom 89 = .ok (.istore_n 3, 1) := by decide +kernel
theorem dX12_atom_90 : decode cX12_atom 90 = .ok (.aload_n 0, 1) := by decide +kernel
theorem dX12_atom_91 : decode cX12_atom 91 = .ok (.invokevirtual 165, 3) := by decide +kernel
theorem dX12_atom_94 : decode cX12_atom 94 = .ok (.ifCond .eq 62, 3) := by decide +kernel
theorem dX12_atom_97 : decode cX12_atom 97 = .ok (.aload_n 0, 1) := by decide +kernel
theorem dX12_atom_98 : decode cX12_atom 98 = .ok (.getfield 125, 3) := by decide +kernel
theorem dX12_atom_101 : decode cX12_atom 101 = .ok (.iconst (-1), 1) := by decide +kernel
theorem dX12_atom_102 : decode cX12_atom 102 = .ok (.if_icmp .ne 54, 3) := by decide +kernel
theorem dX12_atom_105 : decode cX12_atom 105 = .ok (.iload_n 3, 1) := by decide +kernel
theorem dX12_atom_106 : decode cX12_atom 106 = .ok (.iconst 4, 1) := by decide +kernel
theorem dX12_atom_107 : decode cX12_atom 107 = .ok (.if_icmp .ne 10, 3) := by decide +kernel
theorem dX12_atom_110 : decode cX12_atom 110 = .ok (.aload_n 0, 1) := by decide +kernel
theorem dX12_atom_111 : decode cX12_atom 111 = .ok (.invokevirtual 131, 3) := by decide +kernel
theorem dX12_atom_114 : decode cX12_atom 114 = .ok (.pop, 1) := by decide +kernel
theorem dX12_atom_115 : decode cX12_atom 115 = .ok (.iconst 0, 1) := by decide +kernel
theorem dX12_atom_116 : decode cX12_atom 116 = .ok (.ireturn, 1) := by decide +kernel
theorem dX12_atom_117 : decode cX12_atom 117 = .ok (.bipush 10, 2) := by decide +kernel
theorem dX12_atom_119 : decode cX12_atom 119 = .ok (.iload_n 2, 1) := by decide +kernel
theorem dX12_atom_120 : decode cX12_atom 120 = .ok (.imul, 1) := by decide +kernel
theorem dX12_atom_121 : decode cX12_atom 121 = .ok (.aload_n 0, 1) := by decide +kernel
theorem dX12_atom_122 : decode cX12_atom 122 = .ok (.getfield 23, 3) := by decide +kernel
theorem dX12_atom_125 : decode cX12_atom 125 = .ok (.aload_n 0, 1) := by decide +kernel
theorem dX12_atom_126 : decode cX12_atom 126 = .ok (.getfield 122, 3) := by decide +kernel
theorem dX12_atom_129 : decode cX12_atom 129 = .ok (.aload_n 0, 1) := by decide +kernel
theorem dX12_atom_130 : decode cX12_atom 130 = .ok (.getfield 116, 3) := by decide +kernel
theorem dX12_atom_133 : decode cX12_atom 133 = .ok (.iadd, 1) := by decide +kernel
theorem dX12_atom_134 : decode cX12_atom 134 = .ok (.baload, 1) := by decide +kernel
theorem dX12_atom_135 : decode cX12_atom 135 = .ok (.iadd, 1) := by decide +kernel
theorem dX12_atom_136 : decode cX12_atom 136 = .ok (.bipush 48, 2) := by decide +kernel
theorem dX12_atom_138 : decode cX12_atom 138 = .ok (.isub, 1) := by decide +kernel
theorem dX12_atom_139 : decode cX12_atom 139 = .ok (.istore_n 2, 1) := by decide +kernel
theorem dX12_atom_140 : decode cX12_atom 140 = .ok (.aload_n 0, 1) := by decide +kernel
theorem dX12_atom_141 : decode cX12_atom 141 = .ok (.dup, 1) := by decide +kernel
theorem dX12_atom_142 : decode cX12_atom 142 = .ok (.getfield 116, 3) := by decide +kernel
theorem dX12_atom_145 : decode cX12_atom 145 = .ok (.iconst 1, 1) := by decide +kernel
theorem dX12_atom_146 : decode cX12_atom 146 = .ok (.iadd, 1) := by decide +kernel
theorem dX12_atom_147 : decode cX12_atom 147 = .ok (.putfield 116, 3) := by decide +kernel
theorem dX12_atom_150 : decode cX12_atom 150 = .ok (.iinc 3 1, 3) := by decide +kernel
theorem dX12_atom_153 : decode cX12_atom 153 = .ok (.goto (-63), 3) := by decide +kernel
theorem dX12_atom_156 : decode cX12_atom 156 = .ok (.iload_n 2, 1) := by decide +kernel
theorem dX12_atom_157 : decode cX12_atom 157 = .ok (.ireturn, 1) := by decide +kernel
theorem dX12_term_0 : decode cX12_term 0 = .ok (.aload_n 0, 1) := by decide +kernel
theorem dX12_term_1 : decode cX12_term 1 = .ok (.invokevirtual 168, 3) := by decide +kernel
theorem dX12_term_4 : decode cX12_term 4 = .ok (.istore_n 1, 1) := by decide +kernel
theorem dX12_term_5 : decode cX12_term 5 = .ok (.aload_n 0, 1) := by decide +kernel
theorem dX12_term_6 : decode cX12_term 6 = .ok (.getfield 125, 3) := by decide +kernel
theorem dX12_term_9 : decode cX12_term 9 = .ok (.iconst (-1), 1) := by decide +kernel
theorem dX12_term_10 : decode cX12_term 10 = .ok (.if_icmp .ne 84, 3) := by decide +kernel
theorem dX12_term_13 : decode cX12_term 13 = .ok (.aload_n 0, 1) := by decide +kernel
theorem dX12_term_14 : decode cX12_term 14 = .ok (.invokevirtual 135, 3) := by decide +kernel
theorem dX12_term_17 : decode cX12_term 17 = .ok (.bipush 42, 2) := by decide +kernel
theorem dX12_term_19 : decode cX12_term 19 = .ok (.if_icmp .eq 12, 3) := by decide +kernel
theorem dX12_term_22 : decode cX12_term 22 = .ok (.aload_n 0, 1) := by decide +kernel
theorem dX12_term_23 : decode cX12_term 23 = .ok (.invokevirtual 135, 3) := by decide +kernel
theorem dX12_term_26 : decode cX12_term 26 = .ok (.bipush 47, 2) := by decide +kernel
theorem dX12_term_28 : decode cX12_term 28 = .ok (.if_icmp .ne 66, 3) := by decide +kernel
theorem dX12_term_31 : decode cX12_term 31 = .ok (.aload_n 0, 1) := by decide +kernel
theorem dX12_term_32 : decode cX12_term 32 = .ok (.invokevirtual 135, 3) := by decide +kernel
theorem dX12_term_35 : decode cX12_term 35 = .ok (.bipush 42, 2) := by decide +kernel
theorem dX12_term_37 : decode cX12_term 37 = .ok (.if_icmp .ne 7, 3) := by decide +kernel
theorem dX12_term_40 : decode cX12_term 40 = .ok (.iconst 1, 1) := by decide +kernel
theorem dX12_term_41 : decode cX12_term 41 = .ok (.goto 4, 3) := by decide +kernel
theorem dX12_term_44 : decode cX12_term 44 = .ok (.iconst 0, 1) := by decide +kernel
theorem dX12_term_45 : decode cX12_term 45 = .ok (.istore_n 2, 1) := by decide +kernel
theorem dX12_term_46 : decode cX12_term 46 = .ok (.aload_n 0, 1) := by decide +kernel
theorem dX12_term_47 : decode cX12_term 47 = .ok (.dup, 1) := by decide +kernel
theorem dX12_term_48 : decode cX12_term 48 = .ok (.getfield 116, 3) := by decide +kernel
theorem dX12_term_51 : decode cX12_term 51 = .ok (.iconst 1, 1) := by decide +kernel
theorem dX12_term_52 : decode cX12_term 52 = .ok (.iadd, 1) := by decide +kernel
theorem dX12_term_53 : decode cX12_term 53 = .ok (.putfield 116, 3) := by decide +kernel
theorem dX12_term_56 : decode cX12_term 56 = .ok (.aload_n 0, 1) := by decide +kernel
theorem dX12_term_57 : decode cX12_term 57 = .ok (.invokevirtual 168, 3) := by decide +kernel
theorem dX12_term_60 : decode cX12_term 60 = .ok (.i2l, 1) := by decide +kernel
theorem dX12_term_61 : decode cX12_term 61 = .ok (.lstore_n 3, 1) := by decide +kernel
theorem dX12_term_62 : decode cX12_term 62 = .ok (.iload_n 2, 1) := by decide +kernel
theorem dX12_term_63 : decode cX12_term 63 = .ok (.ifCond .eq 10, 3) := by decide +kernel
theorem dX12_term_66 : decode cX12_term 66 = .ok (.iload_n 1, 1) := by decide +kernel
theorem dX12_term_67 : decode cX12_term 67 = .ok (.i2l, 1) := by decide +kernel
theorem dX12_term_68 : decode cX12_term 68 = .ok (.lload_n 3, 1) := by decide +kernel
theorem dX12_term_69 : decode cX12_term 69 = .ok (.lmul, 1) := by decide +kernel
theorem dX12_term_70 : decode cX12_term 70 = .ok (.goto 17, 3) := by decide +kernel
theorem dX12_term_73 : decode cX12_term 73 = .ok (.lload_n 3, 1) := by decide +kernel
theorem dX12_term_74 : decode cX12_term 74 = .ok (.lconst 0, 1) := by decide +kernel
theorem dX12_term_75 : decode cX12_term 75 = .ok (.lcmp, 1) := by decide +kernel
theorem dX12_term_76 : decode cX12_term 76 = .ok (.ifCond .ne 7, 3) := by decide +kernel
theorem dX12_term_79 : decode cX12_term 79 = .ok (.lconst 0, 1) := by decide +kernel
theorem dX12_term_80 : decode cX12_term 80 = .ok (.goto 7, 3) := by decide +kernel
theorem dX12_term_83 : decode cX12_term 83 = .ok (.iload_n 1, 1) := by decide +kernel
theorem dX12_term_84 : decode cX12_term 84 = .ok (.i2l, 1) := by decide +kernel
theorem dX12_term_85 : decode cX12_term 85 = .ok (.lload_n 3, 1) := by decide +kernel
theorem dX12_term_86 : decode cX12_term 86 = .ok (.ldiv, 1) := by decide +kernel
theorem dX12_term_87 : decode cX12_term 87 = .ok (.invokestatic 171, 3) := by decide +kernel
theorem dX12_term_90 : decode cX12_term 90 = .ok (.istore_n 1, 1) := by decide +kernel
theorem dX12_term_91 : decode cX12_term 91 = .ok (.goto (-86), 3) := by decide +kernel
theorem dX12_term_94 : decode cX12_term 94 = .ok (.iload_n 1, 1) := by decide +kernel
theorem dX12_term_95 : decode cX12_term 95 = .ok (.ireturn, 1) := by decide +kernel
theorem dX12_sum_0 : decode cX12_sum 0 = .ok (.aload_n 0, 1) := by decide +kernel
theorem dX12_sum_1 : decode cX12_sum 1 = .ok (.invokevirtual 175, 3) := by decide +kernel
theorem dX12_sum_4 : decode cX12_sum 4 = .ok (.istore_n 1, 1) := by decide +kernel
theorem dX12_sum_5 : decode cX12_sum 5 = .ok (.aload_n 0, 1) := by decide +kernel
theorem dX12_sum_6 : decode cX12_sum 6 = .ok (.getfield 125, 3) := by decide +kernel
theorem dX12_sum_9 : decode cX12_sum 9 = .ok (.iconst (-1), 1) := by decide +kernel
theorem dX12_sum_10 : decode cX12_sum 10 = .ok (.if_icmp .ne 74, 3) := by decide +kernel
theorem dX12_sum_13 : decode cX12_sum 13 = .ok (.aload_n 0, 1) := by decide +kernel
theorem dX12_sum_14 : decode cX12_sum 14 = .ok (.invokevirtual 135, 3) := by decide +kernel
theorem dX12_sum_17 : decode cX12_sum 17 = .ok (.bipush 43, 2) := by decide +kernel
theorem dX12_sum_19 : decode cX12_sum 19 = .ok (.if_icmp .eq 12, 3) := by decide +kernel
theorem dX12_sum_22 : decode cX12_sum 22 = .ok (.aload_n 0, 1) := by decide +kernel
theorem dX12_sum_23 : decode cX12_sum 23 = .ok (.invokevirtual 135, 3) := by decide +kernel
theorem dX12_sum_26 : decode cX12_sum 26 = .ok (.bipush 45, 2) := by decide +kernel
theorem dX12_sum_28 : decode cX12_sum 28 = .ok (.if_icmp .ne 56, 3) := by decide +kernel
theorem dX12_sum_31 : decode cX12_sum 31 = .ok (.aload_n 0, 1) := by decide +kernel
theorem dX12_sum_32 : decode cX12_sum 32 = .ok (.invokevirtual 135, 3) := by decide +kernel
theorem dX12_sum_35 : decode cX12_sum 35 = .ok (.bipush 43, 2) := by decide +kernel
theorem dX12_sum_37 : decode cX12_sum 37 = .ok (.if_icmp .ne 7, 3) := by decide +kernel
theorem dX12_sum_40 : decode cX12_sum 40 = .ok (.iconst 1, 1) := by decide +kernel
theorem dX12_sum_41 : decode cX12_sum 41 = .ok (.goto 4, 3) := by decide +kernel
theorem dX12_sum_44 : decode cX12_sum 44 = .ok (.iconst 0, 1) := by decide +kernel
theorem dX12_sum_45 : decode cX12_sum 45 = .ok (.istore_n 2, 1) := by decide +kernel
theorem dX12_sum_46 : decode cX12_sum 46 = .ok (.aload_n 0, 1) := by decide +kernel
theorem dX12_sum_47 : decode cX12_sum 47 = .ok (.dup, 1) := by decide +kernel
theorem dX12_sum_48 : decode cX12_sum 48 = .ok (.getfield 116, 3) := by decide +kernel
theorem dX12_sum_51 : decode cX12_sum 51 = .ok (.iconst 1, 1) := by decide +kernel
theorem dX12_sum_52 : decode cX12_sum 52 = .ok (.iadd, 1) := by decide +kernel
theorem dX12_sum_53 : decode cX12_sum 53 = .ok (.putfield 116, 3) := by decide +kernel
theorem dX12_sum_56 : decode cX12_sum 56 = .ok (.aload_n 0, 1) := by decide +kernel
theorem dX12_sum_57 : decode cX12_sum 57 = .ok (.invokevirtual 175, 3) := by decide +kernel
theorem dX12_sum_60 : decode cX12_sum 60 = .ok (.i2l, 1) := by decide +kernel
theorem dX12_sum_61 : decode cX12_sum 61 = .ok (.lstore_n 3, 1) := by decide +kernel
theorem dX12_sum_62 : decode cX12_sum 62 = .ok (.iload_n 2, 1) := by decide +kernel
theorem dX12_sum_63 : decode cX12_sum 63 = .ok (.ifCond .eq 10, 3) := by decide +kernel
theorem dX12_sum_66 : decode cX12_sum 66 = .ok (.iload_n 1, 1) := by decide +kernel
theorem dX12_sum_67 : decode cX12_sum 67 = .ok (.i2l, 1) := by decide +kernel
theorem dX12_sum_68 : decode cX12_sum 68 = .ok (.lload_n 3, 1) := by decide +kernel
theorem dX12_sum_69 : decode cX12_sum 69 = .ok (.ladd, 1) := by decide +kernel
theorem dX12_sum_70 : decode cX12_sum 70 = .ok (.goto 7, 3) := by decide +kernel
theorem dX12_sum_73 : decode cX12_sum 73 = .ok (.iload_n 1, 1) := by decide +kernel
theorem dX12_sum_74 : decode cX12_sum 74 = .ok (.i2l, 1) := by decide +kernel
theorem dX12_sum_75 : decode cX12_sum 75 = .ok (.lload_n 3, 1) := by decide +kernel
theorem dX12_sum_76 : decode cX12_sum 76 = .ok (.lsub, 1) := by decide +kernel
theorem dX12_sum_77 : decode cX12_sum 77 = .ok (.invokestatic 171, 3) := by decide +kernel
theorem dX12_sum_80 : decode cX12_sum 80 = .ok (.istore_n 1, 1) := by decide +kernel
theorem dX12_sum_81 : decode cX12_sum 81 = .ok (.goto (-76), 3) := by decide +kernel
theorem dX12_sum_84 : decode cX12_sum 84 = .ok (.iload_n 1, 1) := by decide +kernel
theorem dX12_sum_85 : decode cX12_sum 85 = .ok (.ireturn, 1) := by decide +kernel
theorem dX12_isSign_0 : decode cX12_isSign 0 = .ok (.iload_n 0, 1) := by decide +kernel
theorem dX12_isSign_1 : decode cX12_isSign 1 = .ok (.bipush 61, 2) := by decide +kernel
theorem dX12_isSign_3 : decode cX12_isSign 3 = .ok (.if_icmp .eq 15, 3) := by decide +kernel
theorem dX12_isSign_6 : decode cX12_isSign 6 = .ok (.iload_n 0, 1) := by decide +kernel
theorem dX12_isSign_7 : decode cX12_isSign 7 = .ok (.bipush 60, 2) := by decide +kernel
theorem dX12_isSign_9 : decode cX12_isSign 9 = .ok (.if_icmp .eq 9, 3) := by decide +kernel
theorem dX12_isSign_12 : decode cX12_isSign 12 = .ok (.iload_n 0, 1) := by decide +kernel
theorem dX12_isSign_13 : decode cX12_isSign 13 = .ok (.bipush 62, 2) := by decide +kernel
theorem dX12_isSign_15 : decode cX12_isSign 15 = .ok (.if_icmp .ne 7, 3) := by decide +kernel
theorem dX12_isSign_18 : decode cX12_isSign 18 = .ok (.iconst 1, 1) := by decide +kernel
theorem dX12_isSign_19 : decode cX12_isSign 19 = .ok (.goto 4, 3) := by decide +kernel
theorem dX12_isSign_22 : decode cX12_isSign 22 = .ok (.iconst 0, 1) := by decide +kernel
theorem dX12_isSign_23 : decode cX12_isSign 23 = .ok (.ireturn, 1) := by decide +kernel
theorem dX12_compares_0 : decode cX12_compares 0 = .ok (.iload_n 1, 1) := by decide +kernel
theorem dX12_compares_1 : decode cX12_compares 1 = .ok (.ifCond .eq 7, 3) := by decide +kernel
theorem dX12_compares_4 : decode cX12_compares 4 = .ok (.iload_n 2, 1) := by decide +kernel
theorem dX12_compares_5 : decode cX12_compares 5 = .ok (.goto 7, 3) := by decide +kernel
theorem dX12_compares_8 : decode cX12_compares 8 = .ok (.aload_n 0, 1) := by decide +kernel
theorem dX12_compares_9 : decode cX12_compares 9 = .ok (.invokevirtual 158, 3) := by decide +kernel
theorem dX12_compares_12 : decode cX12_compares 12 = .ok (.istore_n 3, 1) := by decide +kernel
theorem dX12_compares_13 : decode cX12_compares 13 = .ok (.aload_n 0, 1) := by decide +kernel
theorem dX12_compares_14 : decode cX12_compares 14 = .ok (.getfield 125, 3) := by decide +kernel
theorem dX12_compares_17 : decode cX12_compares 17 = .ok (.iconst (-1), 1) := by decide +kernel
theorem dX12_compares_18 : decode cX12_compares 18 = .ok (.if_icmp .eq 5, 3) := by decide +kernel
theorem dX12_compares_21 : decode cX12_compares 21 = .ok (.iconst 0, 1) := by decide +kernel
theorem dX12_compares_22 : decode cX12_compares 22 = .ok (.ireturn, 1) := by decide +kernel
theorem dX12_compares_23 : decode cX12_compares 23 = .ok (.aload_n 0, 1) := by decide +kernel
theorem dX12_compares_24 : decode cX12_compares 24 = .ok (.invokevirtual 135, 3) := by decide +kernel
theorem dX12_compares_27 : decode cX12_compares 27 = .ok (.istore 4, 2) := by decide +kernel
theorem dX12_compares_29 : decode cX12_compares 29 = .ok (.iload 4, 2) := by decide +kernel
theorem dX12_compares_31 : decode cX12_compares 31 = .ok (.invokestatic 178, 3) := by decide +kernel
theorem dX12_compares_34 : decode cX12_compares 34 = .ok (.ifCond .ne 8, 3) := by decide +kernel
theorem dX12_compares_37 : decode cX12_compares 37 = .ok (.aload_n 0, 1) := by decide +kernel
theorem dX12_compares_38 : decode cX12_compares 38 = .ok (.invokevirtual 131, 3) := by decide +kernel
theorem dX12_compares_41 : decode cX12_compares 41 = .ok (.ireturn, 1) := by decide +kernel
theorem dX12_compares_42 : decode cX12_compares 42 = .ok (.aload_n 0, 1) := by decide +kernel
theorem dX12_compares_43 : decode cX12_compares 43 = .ok (.dup, 1) := by decide +kernel
theorem dX12_compares_44 : decode cX12_compares 44 = .ok (.getfield 116, 3) := by decide +kernel
theorem dX12_compares_47 : decode cX12_compares 47 = .ok (.iconst 1, 1) := by decide +kernel
theorem dX12_compares_48 : decode cX12_compares 48 = .ok (.iadd, 1) := by decide +kernel
theorem dX12_compares_49 : decode cX12_compares 49 = .ok (.putfield 116, 3) := by decide +kernel
theorem dX12_compares_52 : decode cX12_compares 52 = .ok (.aload_n 0, 1) := by decide +kernel
theorem dX12_compares_53 : decode cX12_compares 53 = .ok (.invokevirtual 158, 3) := by decide +kernel
theorem dX12_compares_56 : decode cX12_compares 56 = .ok (.istore 5, 2) := by decide +kernel
theorem dX12_compares_58 : decode cX12_compares 58 = .ok (.iload 4, 2) := by decide +kernel
theorem dX12_compares_60 : decode cX12_compares 60 = .ok (.bipush 61, 2) := by decide +kernel
theorem dX12_compares_62 : decode cX12_compares 62 = .ok (.if_icmp .ne 17, 3) := by decide +kernel
theorem dX12_compares_65 : decode cX12_compares 65 = .ok (.iload_n 3, 1) := by decide +kernel
theorem dX12_compares_66 : decode cX12_compares 66 = .ok (.iload 5, 2) := by decide +kernel
theorem dX12_compares_68 : decode cX12_compares 68 = .ok (.if_icmp .ne 7, 3) := by decide +kernel
theorem dX12_compares_71 : decode cX12_compares 71 = .ok (.iconst 1, 1) := by decide +kernel
theorem dX12_compares_72 : decode cX12_compares 72 = .ok (.goto 39, 3) := by decide +kernel
theorem dX12_compares_75 : decode cX12_compares 75 = .ok (.iconst 0, 1) := by decide +kernel
theorem dX12_compares_76 : decode cX12_compares 76 = .ok (.goto 35, 3) := by decide +kernel
theorem dX12_compares_79 : decode cX12_compares 79 = .ok (.iload 4, 2) := by decide +kernel
theorem dX12_compares_81 : decode cX12_compares 81 = .ok (.bipush 60, 2) := by decide +kernel
theorem dX12_compares_83 : decode cX12_compares 83 = .ok (.if_icmp .ne 17, 3) := by decide +kernel
theorem dX12_compares_86 : decode cX12_compares 86 = .ok (.iload_n 3, 1) := by decide +kernel
theorem dX12_compares_87 : decode cX12_compares 87 = .ok (.iload 5, 2) := by decide +kernel
theorem dX12_compares_89 : decode cX12_compares 89 = .ok (.if_icmp .ge 7, 3) := by decide +kernel
theorem dX12_compares_92 : decode cX12_compares 92 = .ok (.iconst 1, 1) := by decide +kernel
theorem dX12_compares_93 : decode cX12_compares 93 = .ok (.goto 18, 3) := by decide +kernel
theorem dX12_compares_96 : decode cX12_compares 96 = .ok (.iconst 0, 1) := by decide +kernel
theorem dX12_compares_97 : decode cX12_compares 97 = .ok (.goto 14, 3) := by decide +kernel
theorem dX12_compares_100 : decode cX12_compares 100 = .ok (.iload_n 3, 1) := by decide +kernel
theorem dX12_compares_101 : decode cX12_compares 101 = .ok (.iload 5, 2) := by decide +kernel
theorem dX12_compares_103 : decode cX12_compares 103 = .ok (.if_icmp .le 7, 3) := by decide +kernel
theorem dX12_compares_106 : decode cX12_compares 106 = .ok (.iconst 1, 1) := by decide +kernel
theorem dX12_compares_107 : decode cX12_compares 107 = .ok (.goto 4, 3) := by decide +kernel
theorem dX12_compares_110 : decode cX12_compares 110 = .ok (.iconst 0, 1) := by decide +kernel
theorem dX12_compares_111 : decode cX12_compares 111 = .ok (.ireturn, 1) := by decide +kernel
theorem dX12_unit_0 : decode cX12_unit 0 = .ok (.aload_n 0, 1) := by decide +kernel
theorem dX12_unit_1 : decode cX12_unit 1 = .ok (.invokevirtual 135, 3) := by decide +kernel
theorem dX12_unit_4 : decode cX12_unit 4 = .ok (.istore_n 1, 1) := by decide +kernel
theorem dX12_unit_5 : decode cX12_unit 5 = .ok (.iload_n 1, 1) := by decide +kernel
theorem dX12_unit_6 : decode cX12_unit 6 = .ok (.bipush 33, 2) := by decide +kernel
theorem dX12_unit_8 : decode cX12_unit 8 = .ok (.if_icmp .ne 37, 3) := by decide +kernel
theorem dX12_unit_11 : decode cX12_unit 11 = .ok (.aload_n 0, 1) := by decide +kernel
theorem dX12_unit_12 : decode cX12_unit 12 = .ok (.invokevirtual 155, 3) := by decide +kernel
theorem dX12_unit_15 : decode cX12_unit 15 = .ok (.ifCond .ne 5, 3) := by decide +kernel
theorem dX12_unit_18 : decode cX12_unit 18 = .ok (.iconst 0, 1) := by decide +kernel
theorem dX12_unit_19 : decode cX12_unit 19 = .ok (.ireturn, 1) := by decide +kernel
theorem dX12_unit_20 : decode cX12_unit 20 = .ok (.aload_n 0, 1) := by decide +kernel
theorem dX12_unit_21 : decode cX12_unit 21 = .ok (.invokevirtual 181, 3) := by decide +kernel
theorem dX12_unit_24 : decode cX12_unit 24 = .ok (.istore_n 2, 1) := by decide +kernel
theorem dX12_unit_25 : decode cX12_unit 25 = .ok (.aload_n 0, 1) := by decide +kernel
theorem dX12_unit_26 : decode cX12_unit 26 = .ok (.dup, 1) := by decide +kernel
theorem dX12_unit_27 : decode cX12_unit 27 = .ok (.getfield 128, 3) := by decide +kernel
theorem dX12_unit_30 : decode cX12_unit 30 = .ok (.iconst 1, 1) := by decide +kernel
theorem dX12_unit_31 : decode cX12_unit 31 = .ok (.isub, 1) := by decide +kernel
theorem dX12_unit_32 : decode cX12_unit 32 = .ok (.putfield 128, 3) := by decide +kernel
theorem dX12_unit_35 : decode cX12_unit 35 = .ok (.iload_n 2, 1) := by decide +kernel
theorem dX12_unit_36 : decode cX12_unit 36 = .ok (.ifCond .ne 7, 3) := by decide +kernel
theorem dX12_unit_39 : decode cX12_unit 39 = .ok (.iconst 1, 1) := by decide +kernel
theorem dX12_unit_40 : decode cX12_unit 40 = .ok (.goto 4, 3) := by decide +kernel
theorem dX12_unit_43 : decode cX12_unit 43 = .ok (.iconst 0, 1) := by decide +kernel
theorem dX12_unit_44 : decode cX12_unit 44 = .ok (.ireturn, 1) := by decide +kernel
theorem dX12_unit_45 : decode cX12_unit 45 = .ok (.iload_n 1, 1) := by decide +kernel
theorem dX12_unit_46 : decode cX12_unit 46 = .ok (.bipush 40, 2) := by decide +kernel
theorem dX12_unit_48 : decode cX12_unit 48 = .ok (.if_icmp .ne 42, 3) := by decide +kernel
theorem dX12_unit_51 : decode cX12_unit 51 = .ok (.aload_n 0, 1) := by decide +kernel
theorem dX12_unit_52 : decode cX12_unit 52 = .ok (.invokevirtual 155, 3) := by decide +kernel
theorem dX12_unit_55 : decode cX12_unit 55 = .ok (.ifCond .ne 5, 3) := by decide +kernel
theorem dX12_unit_58 : decode cX12_unit 58 = .ok (.iconst 0, 1) := by decide +kernel
theorem dX12_unit_59 : decode cX12_unit 59 = .ok (.ireturn, 1) := by decide +kernel
theorem dX12_unit_60 : decode cX12_unit 60 = .ok (.aload_n 0, 1) := by decide +kernel
theorem dX12_unit_61 : decode cX12_unit 61 = .ok (.iconst 0, 1) := by decide +kernel
theorem dX12_unit_62 : decode cX12_unit 62 = .ok (.iconst 0, 1) := by decide +kernel
theorem dX12_unit_63 : decode cX12_unit 63 = .ok (.invokevirtual 184, 3) := by decide +kernel
theorem dX12_unit_66 : decode cX12_unit 66 = .ok (.istore_n 2, 1) := by decide +kernel
theorem dX12_unit_67 : decode cX12_unit 67 = .ok (.aload_n 0, 1) := by decide +kernel
theorem dX12_unit_68 : decode cX12_unit 68 = .ok (.bipush 41, 2) := by decide +kernel
theorem dX12_unit_70 : decode cX12_unit 70 = .ok (.invokevirtual 161, 3) := by decide +kernel
theorem dX12_unit_73 : decode cX12_unit 73 = .ok (.ifCond .ne 5, 3) := by decide +kernel
theorem dX12_unit_76 : decode cX12_unit 76 = .ok (.iconst 0, 1) := by decide +kernel
theorem dX12_unit_77 : decode cX12_unit 77 = .ok (.ireturn, 1) := by decide +kernel
theorem dX12_unit_78 : decode cX12_unit 78 = .ok (.aload_n 0, 1) := by decide +kernel
theorem dX12_unit_79 : decode cX12_unit 79 = .ok (.dup, 1) := by decide +kernel
theorem dX12_unit_80 : decode cX12_unit 80 = .ok (.getfield 128, 3) := by decide +kernel
theorem dX12_unit_83 : decode cX12_unit 83 = .ok (.iconst 1, 1) := by decide +kernel
theorem dX12_unit_84 : decode cX12_unit 84 = .ok (.isub, 1) := by decide +kernel
theorem dX12_unit_85 : decode cX12_unit 85 = .ok (.putfield 128, 3) := by decide +kernel
theorem dX12_unit_88 : decode cX12_unit 88 = .ok (.iload_n 2, 1) := by decide +kernel
theorem dX12_unit_89 : decode cX12_unit 89 = .ok (.ireturn, 1) := by decide +kernel
theorem dX12_unit_90 : decode cX12_unit 90 = .ok (.aload_n 0, 1) := by decide +kernel
theorem dX12_unit_91 : decode cX12_unit 91 = .ok (.iconst 0, 1) := by decide +kernel
theorem dX12_unit_92 : decode cX12_unit 92 = .ok (.iconst 0, 1) := by decide +kernel
theorem dX12_unit_93 : decode cX12_unit 93 = .ok (.invokevirtual 188, 3) := by decide +kernel
theorem dX12_unit_96 : decode cX12_unit 96 = .ok (.ireturn, 1) := by decide +kernel
theorem dX12_part_0 : decode cX12_part 0 = .ok (.iload_n 1, 1) := by decide +kernel
theorem dX12_part_1 : decode cX12_part 1 = .ok (.ifCond .eq 12, 3) := by decide +kernel
theorem dX12_part_4 : decode cX12_part 4 = .ok (.aload_n 0, 1) := by decide +kernel
theorem dX12_part_5 : decode cX12_part 5 = .ok (.iconst 1, 1) := by decide +kernel
theorem dX12_part_6 : decode cX12_part 6 = .ok (.iload_n 2, 1) := by decide +kernel
theorem dX12_part_7 : decode cX12_part 7 = .ok (.invokevirtual 188, 3) := by decide +kernel
theorem dX12_part_10 : decode cX12_part 10 = .ok (.goto 7, 3) := by decide +kernel
theorem dX12_part_13 : decode cX12_part 13 = .ok (.aload_n 0, 1) := by decide +kernel
theorem dX12_part_14 : decode cX12_part 14 = .ok (.invokevirtual 181, 3) := by decide +kernel
theorem dX12_part_17 : decode cX12_part 17 = .ok (.istore_n 3, 1) := by decide +kernel
theorem dX12_part_18 : decode cX12_part 18 = .ok (.aload_n 0, 1) := by decide +kernel
theorem dX12_part_19 : decode cX12_part 19 = .ok (.getfield 125, 3) := by decide +kernel
theorem dX12_part_22 : decode cX12_part 22 = .ok (.iconst (-1), 1) := by decide +kernel
theorem dX12_part_23 : decode cX12_part 23 = .ok (.if_icmp .ne 46, 3) := by decide +kernel
theorem dX12_part_26 : decode cX12_part 26 = .ok (.aload_n 0, 1) := by decide +kernel
theorem dX12_part_27 : decode cX12_part 27 = .ok (.invokevirtual 135, 3) := by decide +kernel
theorem dX12_part_30 : decode cX12_part 30 = .ok (.bipush 38, 2) := by decide +kernel
theorem dX12_part_32 : decode cX12_part 32 = .ok (.if_icmp .ne 37, 3) := by decide +kernel
theorem dX12_part_35 : decode cX12_part 35 = .ok (.aload_n 0, 1) := by decide +kernel
theorem dX12_part_36 : decode cX12_part 36 = .ok (.dup, 1) := by decide +kernel
theorem dX12_part_37 : decode cX12_part 37 = .ok (.getfield 116, 3) := by decide +kernel
theorem dX12_part_40 : decode cX12_part 40 = .ok (.iconst 1, 1) := by decide +kernel
theorem dX12_part_41 : decode cX12_part 41 = .ok (.iadd, 1) := by decide +kernel
theorem dX12_part_42 : decode cX12_part 42 = .ok (.putfield 116, 3) := by decide +kernel
theorem dX12_part_45 : decode cX12_part 45 = .ok (.aload_n 0, 1) := by decide +kernel
theorem dX12_part_46 : decode cX12_part 46 = .ok (.invokevirtual 181, 3) := by decide +kernel
theorem dX12_part_49 : decode cX12_part 49 = .ok (.istore 4, 2) := by decide +kernel
theorem dX12_part_51 : decode cX12_part 51 = .ok (.iload_n 3, 1) := by decide +kernel
theorem dX12_part_52 : decode cX12_part 52 = .ok (.ifCond .eq 12, 3) := by decide +kernel
theorem dX12_part_55 : decode cX12_part 55 = .ok (.iload 4, 2) := by decide +kernel
theorem dX12_part_57 : decode cX12_part 57 = .ok (.ifCond .eq 7, 3) := by decide +kernel
theorem dX12_part_60 : decode cX12_part 60 = .ok (.iconst 1, 1) := by decide +kernel
theorem dX12_part_61 : decode cX12_part 61 = .ok (.goto 4, 3) := by decide +kernel
theorem dX12_part_64 : decode cX12_part 64 = .ok (.iconst 0, 1) := by decide +kernel
theorem dX12_part_65 : decode cX12_part 65 = .ok (.istore_n 3, 1) := by decide +kernel
theorem dX12_part_66 : decode cX12_part 66 = .ok (.goto (-48), 3) := by decide +kernel
theorem dX12_part_69 : decode cX12_part 69 = .ok (.iload_n 3, 1) := by decide +kernel
theorem dX12_part_70 : decode cX12_part 70 = .ok (.ireturn, 1) := by decide +kernel
theorem dX12_condition_0 : decode cX12_condition 0 = .ok (.aload_n 0, 1) := by decide +kernel
theorem dX12_condition_1 : decode cX12_condition 1 = .ok (.iload_n 1, 1) := by decide +kernel
theorem dX12_condition_2 : decode cX12_condition 2 = .ok (.iload_n 2, 1) := by decide +kernel
theorem dX12_condition_3 : decode cX12_condition 3 = .ok (.invokevirtual 191, 3) := by decide +kernel
theorem dX12_condition_6 : decode cX12_condition 6 = .ok (.istore_n 3, 1) := by decide +kernel
theorem dX12_condition_7 : decode cX12_condition 7 = .ok (.aload_n 0, 1) := by decide +kernel
theorem dX12_condition_8 : decode cX12_condition 8 = .ok (.getfield 125, 3) := by decide +kernel
theorem dX12_condition_11 : decode cX12_condition 11 = .ok (.iconst (-1), 1) := by decide +kernel
theorem dX12_condition_12 : decode cX12_condition 12 = .ok (.if_icmp .ne 48, 3) := by decide +kernel
theorem dX12_condition_15 : decode cX12_condition 15 = .ok (.aload_n 0, 1) := by decide +kernel
theorem dX12_condition_16 : decode cX12_condition 16 = .ok (.invokevirtual 135, 3) := by decide +kernel
theorem dX12_condition_19 : decode cX12_condition 19 = .ok (.bipush 124, 2) := by decide +kernel
theorem dX12_condition_21 : decode cX12_condition 21 = .ok (.if_icmp .ne 39, 3) := by decide +kernel
theorem dX12_condition_24 : decode cX12_condition 24 = .ok (.aload_n 0, 1) := by decide +kernel
theorem dX12_condition_25 : decode cX12_condition 25 = .ok (.dup, 1) := by decide +kernel
theorem dX12_condition_26 : decode cX12_condition 26 = .ok (.getfield 116, 3) := by decide +kernel
theorem dX12_condition_29 : decode cX12_condition 29 = .ok (.iconst 1, 1) := by decide +kernel
theorem dX12_condition_30 : decode cX12_condition 30 = .ok (.iadd, 1) := by decide +kernel
theorem dX12_condition_31 : decode cX12_condition 31 = .ok (.putfield 116, 3) := by decide +kernel
theorem dX12_condition_34 : decode cX12_condition 34 = .ok (.aload_n 0, 1) := by decide +kernel
theorem dX12_condition_35 : decode cX12_condition 35 = .ok (.iconst 0, 1) := by decide +kernel
theorem dX12_condition_36 : decode cX12_condition 36 = .ok (.iconst 0, 1) := by decide +kernel
theorem dX12_condition_37 : decode cX12_condition 37 = .ok (.invokevirtual 191, 3) := by decide +kernel
theorem dX12_condition_40 : decode cX12_condition 40 = .ok (.istore 4, 2) := by decide +kernel
theorem dX12_condition_42 : decode cX12_condition 42 = .ok (.iload_n 3, 1) := by decide +kernel
theorem dX12_condition_43 : decode cX12_condition 43 = .ok (.ifCond .ne 8, 3) := by decide +kernel
theorem dX12_condition_46 : decode cX12_condition 46 = .ok (.iload 4, 2) := by decide +kernel
theorem dX12_condition_48 : decode cX12_condition 48 = .ok (.ifCond .eq 7, 3) := by decide +kernel
theorem dX12_condition_51 : decode cX12_condition 51 = .ok (.iconst 1, 1) := by decide +kernel
theorem dX12_condition_52 : decode cX12_condition 52 = .ok (.goto 4, 3) := by decide +kernel
theorem dX12_condition_55 : decode cX12_condition 55 = .ok (.iconst 0, 1) := by decide +kernel
theorem dX12_condition_56 : decode cX12_condition 56 = .ok (.istore_n 3, 1) := by decide +kernel
theorem dX12_condition_57 : decode cX12_condition 57 = .ok (.goto (-50), 3) := by decide +kernel
theorem dX12_condition_60 : decode cX12_condition 60 = .ok (.iload_n 3, 1) := by decide +kernel
theorem dX12_condition_61 : decode cX12_condition 61 = .ok (.ireturn, 1) := by decide +kernel
theorem dX12_clause_0 : decode cX12_clause 0 = .ok (.aload_n 0, 1) := by decide +kernel
theorem dX12_clause_1 : decode cX12_clause 1 = .ok (.invokevirtual 135, 3) := by decide +kernel
theorem dX12_clause_4 : decode cX12_clause 4 = .ok (.istore_n 1, 1) := by decide +kernel
theorem dX12_clause_5 : decode cX12_clause 5 = .ok (.ldc 26, 2) := by decide +kernel
theorem dX12_clause_7 : decode cX12_clause 7 = .ok (.iload_n 1, 1) := by decide +kernel
theorem dX12_clause_8 : decode cX12_clause 8 = .ok (.invokestatic 151, 3) := by decide +kernel
theorem dX12_clause_11 : decode cX12_clause 11 = .ok (.ifCond .ne 9, 3) := by decide +kernel
theorem dX12_clause_14 : decode cX12_clause 14 = .ok (.aload_n 0, 1) := by decide +kernel
theorem dX12_clause_15 : decode cX12_clause 15 = .ok (.invokevirtual 131, 3) := by decide +kernel
theorem dX12_clause_18 : decode cX12_clause 18 = .ok (.pop, 1) := by decide +kernel
theorem dX12_clause_19 : decode cX12_clause 19 = .ok (.return_, 1) := by decide +kernel
theorem dX12_clause_20 : decode cX12_clause 20 = .ok (.aload_n 0, 1) := by decide +kernel
theorem dX12_clause_21 : decode cX12_clause 21 = .ok (.dup, 1) := by decide +kernel
theorem dX12_clause_22 : decode cX12_clause 22 = .ok (.getfield 116, 3) := by decide +kernel
theorem dX12_clause_25 : decode cX12_clause 25 = .ok (.iconst 1, 1) := by decide +kernel
theorem dX12_clause_26 : decode cX12_clause 26 = .ok (.iadd, 1) := by decide +kernel
theorem dX12_clause_27 : decode cX12_clause 27 = .ok (.putfield 116, 3) := by decide +kernel
theorem dX12_clause_30 : decode cX12_clause 30 = .ok (.aload_n 0, 1) := by decide +kernel
theorem dX12_clause_31 : decode cX12_clause 31 = .ok (.bipush 58, 2) := by decide +kernel
theorem dX12_clause_33 : decode cX12_clause 33 = .ok (.invokevirtual 161, 3) := by decide +kernel
theorem dX12_clause_36 : decode cX12_clause 36 = .ok (.ifCond .ne 4, 3) := by decide +kernel
theorem dX12_clause_39 : decode cX12_clause 39 = .ok (.return_, 1) := by decide +kernel
theorem dX12_clause_40 : decode cX12_clause 40 = .ok (.iconst 1, 1) := by decide +kernel
theorem dX12_clause_41 : decode cX12_clause 41 = .ok (.istore_n 2, 1) := by decide +kernel
theorem dX12_clause_42 : decode cX12_clause 42 = .ok (.iconst 0, 1) := by decide +kernel
theorem dX12_clause_43 : decode cX12_clause 43 = .ok (.istore_n 3, 1) := by decide +kernel
theorem dX12_clause_44 : decode cX12_clause 44 = .ok (.aload_n 0, 1) := by decide +kernel
theorem dX12_clause_45 : decode cX12_clause 45 = .ok (.invokevirtual 135, 3) := by decide +kernel
theorem dX12_clause_48 : decode cX12_clause 48 = .ok (.istore 4, 2) := by decide +kernel
theorem dX12_clause_50 : decode cX12_clause 50 = .ok (.iload 4, 2) := by decide +kernel
theorem dX12_clause_52 : decode cX12_clause 52 = .ok (.bipush 33, 2) := by decide +kernel
theorem dX12_clause_54 : decode cX12_clause 54 = .ok (.if_icmp .eq 10, 3) := by decide +kernel
theorem dX12_clause_57 : decode cX12_clause 57 = .ok (.iload 4, 2) := by decide +kernel
theorem dX12_clause_59 : decode cX12_clause 59 = .ok (.bipush 40, 2) := by decide +kernel
theorem dX12_clause_61 : decode cX12_clause 61 = .ok (.if_icmp .ne 28, 3) := by decide +kernel
theorem dX12_clause_64 : decode cX12_clause 64 = .ok (.aload_n 0, 1) := by decide +kernel
theorem dX12_clause_65 : decode cX12_clause 65 = .ok (.iconst 0, 1) := by decide +kernel
theorem dX12_clause_66 : decode cX12_clause 66 = .ok (.iconst 0, 1) := by decide +kernel
theorem dX12_clause_67 : decode cX12_clause 67 = .ok (.invokevirtual 184, 3) := by decide +kernel
theorem dX12_clause_70 : decode cX12_clause 70 = .ok (.istore_n 2, 1) := by decide +kernel
theorem dX12_clause_71 : decode cX12_clause 71 = .ok (.aload_n 0, 1) := by decide +kernel
theorem dX12_clause_72 : decode cX12_clause 72 = .ok (.bipush 63, 2) := by decide +kernel
theorem dX12_clause_74 : decode cX12_clause 74 = .ok (.invokevirtual 161, 3) := by decide +kernel
theorem dX12_clause_77 : decode cX12_clause 77 = .ok (.ifCond .ne 4, 3) := by decide +kernel
theorem dX12_clause_80 : decode cX12_clause 80 = .ok (.return_, 1) := by decide +kernel
theorem dX12_clause_81 : decode cX12_clause 81 = .ok (.aload_n 0, 1) := by decide +kernel
theorem dX12_clause_82 : decode cX12_clause 82 = .ok (.invokevirtual 158, 3) := by decide +kernel
theorem dX12_clause_85 : decode cX12_clause 85 = .ok (.istore_n 3, 1) := by decide +kernel
theorem dX12_clause_86 : decode cX12_clause 86 = .ok (.goto 48, 3) := by decide +kernel
theorem dX12_clause_89 : decode cX12_clause 89 = .ok (.aload_n 0, 1) := by decide +kernel
theorem dX12_clause_90 : decode cX12_clause 90 = .ok (.invokevirtual 158, 3) := by decide +kernel
theorem dX12_clause_93 : decode cX12_clause 93 = .ok (.istore_n 3, 1) := by decide +kernel
theorem dX12_clause_94 : decode cX12_clause 94 = .ok (.aload_n 0, 1) := by decide +kernel
theorem dX12_clause_95 : decode cX12_clause 95 = .ok (.getfield 125, 3) := by decide +kernel
theorem dX12_clause_98 : decode cX12_clause 98 = .ok (.iconst (-1), 1) := by decide +kernel
theorem dX12_clause_99 : decode cX12_clause 99 = .ok (.if_icmp .ne 35, 3) := by decide +kernel
theorem dX12_clause_102 : decode cX12_clause 102 = .ok (.aload_n 0, 1) := by decide +kernel
theorem dX12_clause_103 : decode cX12_clause 103 = .ok (.invokevirtual 135, 3) := by decide +kernel
theorem dX12_clause_106 : decode cX12_clause 106 = .ok (.invokestatic 178, 3) := by decide +kernel
theorem dX12_clause_109 : decode cX12_clause 109 = .ok (.ifCond .eq 25, 3) := by decide +kernel
theorem dX12_clause_112 : decode cX12_clause 112 = .ok (.aload_n 0, 1) := by decide +kernel
theorem dX12_clause_113 : decode cX12_clause 113 = .ok (.iconst 1, 1) := by decide +kernel
theorem dX12_clause_114 : decode cX12_clause 114 = .ok (.iload_n 3, 1) := by decide +kernel
theorem dX12_clause_115 : decode cX12_clause 115 = .ok (.invokevirtual 184, 3) := by decide +kernel
theorem dX12_clause_118 : decode cX12_clause 118 = .ok (.istore_n 2, 1) := by decide +kernel
theorem dX12_clause_119 : decode cX12_clause 119 = .ok (.aload_n 0, 1) := by decide +kernel
theorem dX12_clause_120 : decode cX12_clause 120 = .ok (.bipush 63, 2) := by decide +kernel
theorem dX12_clause_122 : decode cX12_clause 122 = .ok (.invokevirtual 161, 3) := by decide +kernel
theorem dX12_clause_125 : decode cX12_clause 125 = .ok (.ifCond .ne 4, 3) := by decide +kernel
theorem dX12_clause_128 : decode cX12_clause 128 = .ok (.return_, 1) := by decide +kernel
theorem dX12_clause_129 : decode cX12_clause 129 = .ok (.aload_n 0, 1) := by decide +kernel
theorem dX12_clause_130 : decode cX12_clause 130 = .ok (.invokevirtual 158, 3) := by decide +kernel
theorem dX12_clause_133 : decode cX12_clause 133 = .ok (.istore_n 3, 1) := by decide +kernel
theorem dX12_clause_134 : decode cX12_clause 134 = .ok (.aload_n 0, 1) := by decide +kernel
theorem dX12_clause_135 : decode cX12_clause 135 = .ok (.getfield 125, 3) := by decide +kernel
theorem dX12_clause_138 : decode cX12_clause 138 = .ok (.iconst (-1), 1) := by decide +kernel
theorem dX12_clause_139 : decode cX12_clause 139 = .ok (.if_icmp .ne 22, 3) := by decide +kernel
theorem dX12_clause_142 : decode cX12_clause 142 = .ok (.aload_n 0, 1) := by decide +kernel
theorem dX12_clause_143 : decode cX12_clause 143 = .ok (.getfield 194, 3) := by decide +kernel
theorem dX12_clause_146 : decode cX12_clause 146 = .ok (.ifCond .ne 15, 3) := by decide +kernel
theorem dX12_clause_149 : decode cX12_clause 149 = .ok (.iload_n 1, 1) := by decide +kernel
theorem dX12_clause_150 : decode cX12_clause 150 = .ok (.aload_n 0, 1) := by decide +kernel
theorem dX12_clause_151 : decode cX12_clause 151 = .ok (.getfield 198, 3) := by decide +kernel
theorem dX12_clause_154 : decode cX12_clause 154 = .ok (.if_icmp .ne 7, 3) := by decide +kernel
theorem dX12_clause_157 : decode cX12_clause 157 = .ok (.iload_n 2, 1) := by decide +kernel
theorem dX12_clause_158 : decode cX12_clause 158 = .ok (.ifCond .ne 4, 3) := by decide +kernel
theorem dX12_clause_161 : decode cX12_clause 161 = .ok (.return_, 1) := by decide +kernel
theorem dX12_clause_162 : decode cX12_clause 162 = .ok (.aload_n 0, 1) := by decide +kernel
theorem dX12_clause_163 : decode cX12_clause 163 = .ok (.iconst 1, 1) := by decide +kernel
theorem dX12_clause_164 : decode cX12_clause 164 = .ok (.putfield 194, 3) := by decide +kernel
theorem dX12_clause_167 : decode cX12_clause 167 = .ok (.aload_n 0, 1) := by decide +kernel
theorem dX12_clause_168 : decode cX12_clause 168 = .ok (.iload_n 3, 1) := by decide +kernel
theorem dX12_clause_169 : decode cX12_clause 169 = .ok (.putfield 201, 3) := by decide +kernel
theorem dX12_clause_172 : decode cX12_clause 172 = .ok (.return_, 1) := by decide +kernel
theorem dX12_starts_0 : decode cX12_starts 0 = .ok (.aload_n 0, 1) := by decide +kernel
theorem dX12_starts_1 : decode cX12_starts 1 = .ok (.aload_n 1, 1) := by decide +kernel
theorem dX12_starts_2 : decode cX12_starts 2 = .ok (.putfield 23, 3) := by decide +kernel
theorem dX12_starts_5 : decode cX12_starts 5 = .ok (.aload_n 0, 1) := by decide +kernel
theorem dX12_starts_6 : decode cX12_starts 6 = .ok (.iload_n 2, 1) := by decide +kernel
theorem dX12_starts_7 : decode cX12_starts 7 = .ok (.putfield 122, 3) := by decide +kernel
theorem dX12_starts_10 : decode cX12_starts 10 = .ok (.aload_n 0, 1) := by decide +kernel
theorem dX12_starts_11 : decode cX12_starts 11 = .ok (.iload_n 3, 1) := by decide +kernel
theorem dX12_starts_12 : decode cX12_starts 12 = .ok (.putfield 119, 3) := by decide +kernel
theorem dX12_starts_15 : decode cX12_starts 15 = .ok (.aload_n 0, 1) := by decide +kernel
theorem dX12_starts_16 : decode cX12_starts 16 = .ok (.iconst 0, 1) := by decide +kernel
theorem dX12_starts_17 : decode cX12_starts 17 = .ok (.putfield 116, 3) := by decide +kernel
theorem dX12_starts_20 : decode cX12_starts 20 = .ok (.aload_n 0, 1) := by decide +kernel
theorem dX12_starts_21 : decode cX12_starts 21 = .ok (.iconst (-1), 1) := by decide +kernel
theorem dX12_starts_22 : decode cX12_starts 22 = .ok (.putfield 125, 3) := by decide +kernel
theorem dX12_starts_25 : decode cX12_starts 25 = .ok (.return_, 1) := by decide +kernel
theorem dX12_goThrough_0 : decode cX12_goThrough 0 = .ok (.aload_n 0, 1) := by decide +kernel
theorem dX12_goThrough_1 : decode cX12_goThrough 1 = .ok (.aload_n 1, 1) := by decide +kernel
theorem dX12_goThrough_2 : decode cX12_goThrough 2 = .ok (.iload_n 2, 1) := by decide +kernel
theorem dX12_goThrough_3 : decode cX12_goThrough 3 = .ok (.iload_n 3, 1) := by decide +kernel
theorem dX12_goThrough_4 : decode cX12_goThrough 4 = .ok (.invokevirtual 204, 3) := by decide +kernel
theorem dX12_goThrough_7 : decode cX12_goThrough 7 = .ok (.aload_n 0, 1) := by decide +kernel
theorem dX12_goThrough_8 : decode cX12_goThrough 8 = .ok (.bipush 121, 2) := by decide +kernel
theorem dX12_goThrough_10 : decode cX12_goThrough 10 = .ok (.putfield 198, 3) := by decide +kernel
theorem dX12_goThrough_13 : decode cX12_goThrough 13 = .ok (.aload_n 0, 1) := by decide +kernel
theorem dX12_goThrough_14 : decode cX12_goThrough 14 = .ok (.iconst 0, 1) := by decide +kernel
theorem dX12_goThrough_15 : decode cX12_goThrough 15 = .ok (.putfield 128, 3) := by decide +kernel
theorem dX12_goThrough_18 : decode cX12_goThrough 18 = .ok (.aload_n 0, 1) := by decide +kernel
theorem dX12_goThrough_19 : decode cX12_goThrough 19 = .ok (.iconst 0, 1) := by decide +kernel
theorem dX12_goThrough_20 : decode cX12_goThrough 20 = .ok (.putfield 194, 3) := by decide +kernel
theorem dX12_goThrough_23 : decode cX12_goThrough 23 = .ok (.aload_n 0, 1) := by decide +kernel
theorem dX12_goThrough_24 : decode cX12_goThrough 24 = .ok (.iconst 0, 1) := by decide +kernel
theorem dX12_goThrough_25 : decode cX12_goThrough 25 = .ok (.putfield 201, 3) := by decide +kernel
theorem dX12_goThrough_28 : decode cX12_goThrough 28 = .ok (.aload_n 0, 1) := by decide +kernel
theorem dX12_goThrough_29 : decode cX12_goThrough 29 = .ok (.invokevirtual 208, 3) := by decide +kernel
theorem dX12_goThrough_32 : decode cX12_goThrough 32 = .ok (.aload_n 0, 1) := by decide +kernel
theorem dX12_goThrough_33 : decode cX12_goThrough 33 = .ok (.getfield 125, 3) := by decide +kernel
theorem dX12_goThrough_36 : decode cX12_goThrough 36 = .ok (.iconst (-1), 1) := by decide +kernel
theorem dX12_goThrough_37 : decode cX12_goThrough 37 = .ok (.if_icmp .ne 29, 3) := by decide +kernel
theorem dX12_goThrough_40 : decode cX12_goThrough 40 = .ok (.aload_n 0, 1) := by decide +kernel
theorem dX12_goThrough_41 : decode cX12_goThrough 41 = .ok (.invokevirtual 135, 3) := by decide +kernel
theorem dX12_goThrough_44 : decode cX12_goThrough 44 = .ok (.bipush 59, 2) := by decide +kernel
theorem dX12_goThrough_46 : decode cX12_goThrough 46 = .ok (.if_icmp .ne 20, 3) := by decide +kernel
theorem dX12_goThrough_49 : decode cX12_goThrough 49 = .ok (.aload_n 0, 1) := by decide +kernel
theorem dX12_goThrough_50 : decode cX12_goThrough 50 = .ok (.dup, 1) := by decide +kernel
theorem dX12_goThrough_51 : decode cX12_goThrough 51 = .ok (.getfield 116, 3) := by decide +kernel
theorem dX12_goThrough_54 : decode cX12_goThrough 54 = .ok (.iconst 1, 1) := by decide +kernel
theorem dX12_goThrough_55 : decode cX12_goThrough 55 = .ok (.iadd, 1) := by decide +kernel
theorem dX12_goThrough_56 : decode cX12_goThrough 56 = .ok (.putfield 116, 3) := by decide +kernel
theorem dX12_goThrough_59 : decode cX12_goThrough 59 = .ok (.aload_n 0, 1) := by decide +kernel
theorem dX12_goThrough_60 : decode cX12_goThrough 60 = .ok (.invokevirtual 208, 3) := by decide +kernel
theorem dX12_goThrough_63 : decode cX12_goThrough 63 = .ok (.goto (-31), 3) := by decide +kernel
theorem dX12_goThrough_66 : decode cX12_goThrough 66 = .ok (.aload_n 0, 1) := by decide +kernel
theorem dX12_goThrough_67 : decode cX12_goThrough 67 = .ok (.getfield 125, 3) := by decide +kernel
theorem dX12_goThrough_70 : decode cX12_goThrough 70 = .ok (.iconst (-1), 1) := by decide +kernel
theorem dX12_goThrough_71 : decode cX12_goThrough 71 = .ok (.if_icmp .ne 16, 3) := by decide +kernel
theorem dX12_goThrough_74 : decode cX12_goThrough 74 = .ok (.aload_n 0, 1) := by decide +kernel
theorem dX12_goThrough_75 : decode cX12_goThrough 75 = .ok (.invokevirtual 135, 3) := by decide +kernel
theorem dX12_goThrough_78 : decode cX12_goThrough 78 = .ok (.iconst (-1), 1) := by decide +kernel
theorem dX12_goThrough_79 : decode cX12_goThrough 79 = .ok (.if_icmp .eq 8, 3) := by decide +kernel
theorem dX12_goThrough_82 : decode cX12_goThrough 82 = .ok (.aload_n 0, 1) := by decide +kernel
theorem dX12_goThrough_83 : decode cX12_goThrough 83 = .ok (.invokevirtual 131, 3) := by decide +kernel
theorem dX12_goThrough_86 : decode cX12_goThrough 86 = .ok (.pop, 1) := by decide +kernel
theorem dX12_goThrough_87 : decode cX12_goThrough 87 = .ok (.return_, 1) := by decide +kernel
theorem dX12_here_0 : decode cX12_here 0 = .ok (.aload_n 0, 1) := by decide +kernel
theorem dX12_here_1 : decode cX12_here 1 = .ok (.getfield 116, 3) := by decide +kernel
theorem dX12_here_4 : decode cX12_here 4 = .ok (.aload_n 0, 1) := by decide +kernel
theorem dX12_here_5 : decode cX12_here 5 = .ok (.getfield 119, 3) := by decide +kernel
theorem dX12_here_8 : decode cX12_here 8 = .ok (.if_icmp .ge 24, 3) := by decide +kernel
theorem dX12_here_11 : decode cX12_here 11 = .ok (.aload_n 0, 1) := by decide +kernel
theorem dX12_here_12 : decode cX12_here 12 = .ok (.getfield 23, 3) := by decide +kernel
theorem dX12_here_15 : decode cX12_here 15 = .ok (.aload_n 0, 1) := by decide +kernel
theorem dX12_here_16 : decode cX12_here 16 = .ok (.getfield 122, 3) := by decide +kernel
theorem dX12_here_19 : decode cX12_here 19 = .ok (.aload_n 0, 1) := by decide +kernel
theorem dX12_here_20 : decode cX12_here 20 = .ok (.getfield 116, 3) := by decide +kernel
theorem dX12_here_23 : decode cX12_here 23 = .ok (.iadd, 1) := by decide +kernel
theorem dX12_here_24 : decode cX12_here 24 = .ok (.baload, 1) := by decide +kernel
theorem dX12_here_25 : decode cX12_here 25 = .ok (.sipush 255, 3) := by decide +kernel
theorem dX12_here_28 : decode cX12_here 28 = .ok (.iand, 1) := by decide +kernel
theorem dX12_here_29 : decode cX12_here 29 = .ok (.goto 4, 3) := by decide +kernel
theorem dX12_here_32 : decode cX12_here 32 = .ok (.iconst (-1), 1) := by decide +kernel
theorem dX12_here_33 : decode cX12_here 33 = .ok (.ireturn, 1) := by decide +kernel
theorem dX12_placeOf_0 : decode cX12_placeOf 0 = .ok (.iconst 0, 1) := by decide +kernel
theorem dX12_placeOf_1 : decode cX12_placeOf 1 = .ok (.istore_n 2, 1) := by decide +kernel
theorem dX12_placeOf_2 : decode cX12_placeOf 2 = .ok (.iload_n 2, 1) := by decide +kernel
theorem dX12_placeOf_3 : decode cX12_placeOf 3 = .ok (.aload_n 0, 1) := by decide +kernel
theorem dX12_placeOf_4 : decode cX12_placeOf 4 = .ok (.invokevirtual 96, 3) := by decide +kernel
theorem dX12_placeOf_7 : decode cX12_placeOf 7 = .ok (.if_icmp .ge 20, 3) := by decide +kernel
theorem dX12_placeOf_10 : decode cX12_placeOf 10 = .ok (.aload_n 0, 1) := by decide +kernel
theorem dX12_placeOf_11 : decode cX12_placeOf 11 = .ok (.iload_n 2, 1) := by decide +kernel
theorem dX12_placeOf_12 : decode cX12_placeOf 12 = .ok (.invokevirtual 102, 3) := by decide +kernel
theorem dX12_placeOf_15 : decode cX12_placeOf 15 = .ok (.iload_n 1, 1) := by decide +kernel
theorem dX12_placeOf_16 : decode cX12_placeOf 16 = .ok (.if_icmp .ne 5, 3) := by decide +kernel
theorem dX12_placeOf_19 : decode cX12_placeOf 19 = .ok (.iload_n 2, 1) := by decide +kernel
theorem dX12_placeOf_20 : decode cX12_placeOf 20 = .ok (.ireturn, 1) := by decide +kernel
theorem dX12_placeOf_21 : decode cX12_placeOf 21 = .ok (.iinc 2 1, 3) := by decide +kernel
theorem dX12_placeOf_24 : decode cX12_placeOf 24 = .ok (.goto (-22), 3) := by decide +kernel
theorem dX12_placeOf_27 : decode cX12_placeOf 27 = .ok (.iconst (-1), 1) := by decide +kernel
theorem dX12_placeOf_28 : decode cX12_placeOf 28 = .ok (.ireturn, 1) := by decide +kernel
theorem dX12_readItem_0 : decode cX12_readItem 0 = .ok (.aload_n 0, 1) := by decide +kernel
theorem dX12_readItem_1 : decode cX12_readItem 1 = .ok (.dup, 1) := by decide +kernel
theorem dX12_readItem_2 : decode cX12_readItem 2 = .ok (.getfield 116, 3) := by decide +kernel
theorem dX12_readItem_5 : decode cX12_readItem 5 = .ok (.iconst 1, 1) := by decide +kernel
theorem dX12_readItem_6 : decode cX12_readItem 6 = .ok (.iadd, 1) := by decide +kernel
theorem dX12_readItem_7 : decode cX12_readItem 7 = .ok (.putfield 116, 3) := by decide +kernel
theorem dX12_readItem_10 : decode cX12_readItem 10 = .ok (.aload_n 0, 1) := by decide +kernel
theorem dX12_readItem_11 : decode cX12_readItem 11 = .ok (.invokevirtual 135, 3) := by decide +kernel
theorem dX12_readItem_14 : decode cX12_readItem 14 = .ok (.istore 5, 2) := by decide +kernel
theorem dX12_readItem_16 : decode cX12_readItem 16 = .ok (.aload_n 0, 1) := by decide +kernel
theorem dX12_readItem_17 : decode cX12_readItem 17 = .ok (.invokevirtual 165, 3) := by decide +kernel
theorem dX12_readItem_20 : decode cX12_readItem 20 = .ok (.ifCond .ne 9, 3) := by decide +kernel
theorem dX12_readItem_23 : decode cX12_readItem 23 = .ok (.aload_n 0, 1) := by decide +kernel
